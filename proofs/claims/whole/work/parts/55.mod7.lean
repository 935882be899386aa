set_option maxHeartbeats 4000000 in
set_option maxRecDepth 100000 in
theorem c_X9_wouldPut (l : Launch) (D : va_G) (t : Nat → ClassId) (h0 : Nat) (a0 : Nat → Nat) (d0 : MDT) (sz : Nat) (p1 : Int32) (r : Int32 × MDT) (hF : F_X9_wouldPut d0 p1 = some r) : Met l yX9_wouldPut wX9_wouldPut ({ frames := 5, cells := 0, slots := 0, locals := 112 } : Room) (kPc D (TY t) ((wmd t h0 a0 d0)) [.ref h0, .int p1] sz) (kQi D (TY t) ((wmd t h0 a0 r.2)) r.1 (va_A ((wmd t h0 a0 d0)) sz)) 0 0 (va_A ((wmd t h0 a0 d0)) sz) := by
  refine kE (cc := cX9_wouldPut) (maxL := 2) (ret := (some .int)) (Qx := fun A => kQi D (TY t) ((wmd t h0 a0 r.2)) r.1 A) (lv0 := [(0, .ref h0), (1, .int p1)]) RX9 rfl (by decide) rfl (Nat.le_of_ble_eq_true rfl) rfl ?_
  intro p e s m args below meth c A ls hx hb hml hr hlocks hown hts hA hK hP hD hS hl
  have L139 := hts (.fieldLink RX9 139 "ChunkCarriersModel" "putMany" "I") (List.mem_cons_of_mem _ w_742)
  have L65 := hts (.fieldLink RX9 65 "ChunkCarriersModel" "thrown" "I") (List.mem_cons_of_mem _ w_119)
  have L7 := hts (.fieldLink RX9 7 "ChunkCarriersModel" "s" "[I") (List.mem_cons_of_mem _ w_101)
  have inX9_ : ∀ w ∈ wsX90, w ∈ wX9_wouldPut := fun w h => List.mem_cons_of_mem _ (inlX9 w h)
  have hP : va_P D vwCl ((wmdF t h0 a0 (md_thrown d0) (md_s d0) (md_aside d0) (md_base d0) (md_saved d0) (md_savedMany d0) (md_slots d0) (md_hasSlot d0) (md_text d0) (md_length d0) (md_begins d0) (md_lengths d0) (md_streams d0) (md_letters d0) (md_letterMany d0) (md_chunks d0) (md_chunkMany d0) (md_homes d0) (md_dropped d0) (md_madeIn d0) (md_madeAt d0) (md_putMany d0) (md_path d0) (md_store d0) (md_thinOnes d0))) s.heap := hP
  have hD : va_D A ((wmdF t h0 a0 (md_thrown d0) (md_s d0) (md_aside d0) (md_base d0) (md_saved d0) (md_savedMany d0) (md_slots d0) (md_hasSlot d0) (md_text d0) (md_length d0) (md_begins d0) (md_lengths d0) (md_streams d0) (md_letters d0) (md_letterMany d0) (md_chunks d0) (md_chunkMany d0) (md_homes d0) (md_dropped d0) (md_madeIn d0) (md_madeAt d0) (md_putMany d0) (md_path d0) (md_store d0) (md_thinOnes d0))) := hD
  refine lv_aload_n hx hb (kd tdlX9_wouldPut_0 0 rfl) rfl (lv_at hl 0 rfl) ?_
  refine lv_iconst (v := 0) hx hb (kd tdlX9_wouldPut_0 1 rfl) (by decide) ?_
  refine md_p_thrown hx hb hts inX9_ hown hK hP hD hS L65 (kd tdlX9_wouldPut_0 2 rfl) (fun H locs hP hD hS => ?_)
  refine lv_aload_n hx hb (kd tdlX9_wouldPut_0 3 rfl) rfl (lv_at hl 0 rfl) ?_
  refine lv_iload_n hx hb (kd tdlX9_wouldPut_0 4 rfl) rfl (lv_at hl 1 rfl) ?_
  obtain ⟨v7, e7, hF⟩ := kc hF
  refine kc_i0 (w1 := ((wmdF t h0 a0 0 (md_s d0) (md_aside d0) (md_base d0) (md_saved d0) (md_savedMany d0) (md_slots d0) (md_hasSlot d0) (md_text d0) (md_length d0) v7.2.1 v7.2.2.1 v7.2.2.2 (md_letters d0) (md_letterMany d0) (md_chunks d0) (md_chunkMany d0) (md_homes d0) (md_dropped d0) (md_madeIn d0) (md_madeAt d0) (md_putMany d0) (md_path d0) (md_store d0) (md_thinOnes d0)))) hP hD hS hA (kr_V0 (Qx := (fun A => kQi D (TY t) ((wmdF t h0 a0 0 (md_s d0) (md_aside d0) (md_base d0) (md_saved d0) (md_savedMany d0) (md_slots d0) (md_hasSlot d0) (md_text d0) (md_length d0) v7.2.1 v7.2.2.1 v7.2.2.2 (md_letters d0) (md_letterMany d0) (md_chunks d0) (md_chunkMany d0) (md_homes d0) (md_dropped d0) (md_madeIn d0) (md_madeAt d0) (md_putMany d0) (md_path d0) (md_store d0) (md_thinOnes d0))) v7.1 A)) (As := [.int p1]) (rest := []) ⟨hx, hb, hml, hown, hts⟩ hK hP hD (c_X9_isStream l D t h0 a0 (0, (md_s d0), (md_aside d0), (md_base d0), (md_saved d0), (md_savedMany d0), (md_slots d0), (md_hasSlot d0), (md_text d0), (md_length d0), (md_begins d0), (md_lengths d0), (md_streams d0), (md_letters d0), (md_letterMany d0), (md_chunks d0), (md_chunkMany d0), (md_homes d0), (md_dropped d0), (md_madeIn d0), (md_madeAt d0), (md_putMany d0), (md_path d0), (md_store d0), (md_thinOnes d0)) _ p1 v7 e7) (cwV 1 hts (gcX9_isStream w_276) rfl rfl rfl hdX9_isStreamV ⟨Nat.le_of_ble_eq_true rfl, Nat.le_of_ble_eq_true rfl⟩) (ci := 8) (q0 := 0) rfl rfl rfl hl.1 rfl (Nat.le_of_ble_eq_true rfl) (kd tdlX9_wouldPut_0 5 rfl) ⟨Nat.zero_le _, Nat.zero_le _⟩) (fun H locs hP hD hS => ?_)
  refine lv_if_ne (tgt := 19) hx hb (kd tdlX9_wouldPut_0 6 rfl) (by decide) (fun hc10 => ?_) (fun hc10 => ?_)
  · have hF := kf hc10 hF
    refine lv_aload_n hx hb (kd tdlX9_wouldPut_0 11 rfl) rfl (lv_at hl 0 rfl) ?_
    refine lv_iload_n hx hb (kd tdlX9_wouldPut_0 12 rfl) rfl (lv_at hl 1 rfl) ?_
    obtain ⟨v21, e21, hF⟩ := kc hF
    refine kc_v0 (w1 := ((wmdF t h0 a0 0 (md_s d0) (md_aside d0) (md_base d0) (md_saved d0) (md_savedMany d0) (md_slots d0) (md_hasSlot d0) (md_text d0) (md_length d0) v7.2.1 v7.2.2.1 v7.2.2.2 v21.1 v21.2.1 v21.2.2.1 v21.2.2.2 (md_homes d0) (md_dropped d0) (md_madeIn d0) (md_madeAt d0) (md_putMany d0) (md_path d0) (md_store d0) (md_thinOnes d0)))) hP hD hS hA (kr_V0 (Qx := (fun A => kQv D (TY t) ((wmdF t h0 a0 0 (md_s d0) (md_aside d0) (md_base d0) (md_saved d0) (md_savedMany d0) (md_slots d0) (md_hasSlot d0) (md_text d0) (md_length d0) v7.2.1 v7.2.2.1 v7.2.2.2 v21.1 v21.2.1 v21.2.2.1 v21.2.2.2 (md_homes d0) (md_dropped d0) (md_madeIn d0) (md_madeAt d0) (md_putMany d0) (md_path d0) (md_store d0) (md_thinOnes d0))) A)) (As := [.int p1]) (rest := []) ⟨hx, hb, hml, hown, hts⟩ hK hP hD (c_X9_laysStream l D t h0 a0 (0, (md_s d0), (md_aside d0), (md_base d0), (md_saved d0), (md_savedMany d0), (md_slots d0), (md_hasSlot d0), (md_text d0), (md_length d0), v7.2.1, v7.2.2.1, v7.2.2.2, (md_letters d0), (md_letterMany d0), (md_chunks d0), (md_chunkMany d0), (md_homes d0), (md_dropped d0), (md_madeIn d0), (md_madeAt d0), (md_putMany d0), (md_path d0), (md_store d0), (md_thinOnes d0)) _ p1 v21 e21) (cwV 1 hts (gcX9_laysStream w_280) rfl rfl rfl hdX9_laysStreamV ⟨Nat.le_of_ble_eq_true rfl, Nat.le_of_ble_eq_true rfl⟩) (ci := 8) (q0 := 0) rfl rfl rfl hl.1 rfl (Nat.le_of_ble_eq_true rfl) (kd tdlX9_wouldPut_0 13 rfl) ⟨Nat.zero_le _, Nat.zero_le _⟩) (fun H locs hP hD hS => ?_)
    refine lv_aload_n hx hb (kd tdlX9_wouldPut_0 14 rfl) rfl (lv_at hl 0 rfl) ?_
    obtain ⟨v25, e25, hF⟩ := kc hF
    refine kc_v0 (w1 := ((wmdF t h0 a0 0 (md_s d0) v25 (md_base d0) (md_saved d0) (md_savedMany d0) (md_slots d0) (md_hasSlot d0) (md_text d0) (md_length d0) v7.2.1 v7.2.2.1 v7.2.2.2 v21.1 v21.2.1 v21.2.2.1 v21.2.2.2 (md_homes d0) (md_dropped d0) (md_madeIn d0) (md_madeAt d0) (md_putMany d0) (md_path d0) (md_store d0) (md_thinOnes d0)))) hP hD hS hA (kr_V0 (Qx := (fun A => kQv D (TY t) ((wmdF t h0 a0 0 (md_s d0) v25 (md_base d0) (md_saved d0) (md_savedMany d0) (md_slots d0) (md_hasSlot d0) (md_text d0) (md_length d0) v7.2.1 v7.2.2.1 v7.2.2.2 v21.1 v21.2.1 v21.2.2.1 v21.2.2.2 (md_homes d0) (md_dropped d0) (md_madeIn d0) (md_madeAt d0) (md_putMany d0) (md_path d0) (md_store d0) (md_thinOnes d0))) A)) (As := []) (rest := []) ⟨hx, hb, hml, hown, hts⟩ hK hP hD (c_X9_putAside l D t h0 a0 (0, (md_s d0), (md_aside d0), (md_base d0), (md_saved d0), (md_savedMany d0), (md_slots d0), (md_hasSlot d0), (md_text d0), (md_length d0), v7.2.1, v7.2.2.1, v7.2.2.2, v21.1, v21.2.1, v21.2.2.1, v21.2.2.2, (md_homes d0), (md_dropped d0), (md_madeIn d0), (md_madeAt d0), (md_putMany d0), (md_path d0), (md_store d0), (md_thinOnes d0)) _  v25 e25) (cwV 0 hts (gcX9_putAside w_734) rfl rfl rfl hdX9_putAsideV ⟨Nat.le_of_ble_eq_true rfl, Nat.le_of_ble_eq_true rfl⟩) (ci := 8) (q0 := 0) rfl rfl rfl hl.1 rfl (Nat.le_of_ble_eq_true rfl) (kd tdlX9_wouldPut_0 15 rfl) ⟨Nat.zero_le _, Nat.zero_le _⟩) (fun H locs hP hD hS => ?_)
    refine lv_aload_n hx hb (kd tdlX9_wouldPut_0 16 rfl) rfl (lv_at hl 0 rfl) ?_
    refine lv_aload_n hx hb (kd tdlX9_wouldPut_0 17 rfl) rfl (lv_at hl 0 rfl) ?_
    refine md_g_s hx hb hts inX9_ hown hK hP L7 (kd tdlX9_wouldPut_0 18 rfl) ?_
    refine lv_iconst (v := 2) hx hb (kd tdlX9_wouldPut_0 19 rfl) (by decide) ?_
    obtain ⟨hi34, hF⟩ := kg hF
    refine md_l_s hx hb hK hP hi34 (kd tdlX9_wouldPut_0 20 rfl) ?_
    obtain ⟨v35, e35, hF⟩ := kc hF
    refine kc_v0 (w1 := ((wmdF t h0 a0 0 v35.1 v25 (md_base d0) (md_saved d0) (md_savedMany d0) (md_slots d0) (md_hasSlot d0) (md_text d0) (md_length d0) v7.2.1 v7.2.2.1 v7.2.2.2 v21.1 v21.2.1 v21.2.2.1 v21.2.2.2 v35.2.1 v35.2.2.1 v35.2.2.2.1 v35.2.2.2.2.1 v35.2.2.2.2.2 (md_path d0) (md_store d0) (md_thinOnes d0)))) hP hD hS hA (kr_V0 (Qx := (fun A => kQv D (TY t) ((wmdF t h0 a0 0 v35.1 v25 (md_base d0) (md_saved d0) (md_savedMany d0) (md_slots d0) (md_hasSlot d0) (md_text d0) (md_length d0) v7.2.1 v7.2.2.1 v7.2.2.2 v21.1 v21.2.1 v21.2.2.1 v21.2.2.2 v35.2.1 v35.2.2.1 v35.2.2.2.1 v35.2.2.2.2.1 v35.2.2.2.2.2 (md_path d0) (md_store d0) (md_thinOnes d0))) A)) (As := [.int ((md_s d0) (Int32.toNatClampNeg 2))]) (rest := []) ⟨hx, hb, hml, hown, hts⟩ hK hP hD (c_X9_makes l D t h0 a0 (0, (md_s d0), v25, (md_base d0), (md_saved d0), (md_savedMany d0), (md_slots d0), (md_hasSlot d0), (md_text d0), (md_length d0), v7.2.1, v7.2.2.1, v7.2.2.2, v21.1, v21.2.1, v21.2.2.1, v21.2.2.2, (md_homes d0), (md_dropped d0), (md_madeIn d0), (md_madeAt d0), (md_putMany d0), (md_path d0), (md_store d0), (md_thinOnes d0)) _ ((md_s d0) (Int32.toNatClampNeg 2)) v35 e35) (cwV 1 hts (gcX9_makes w_738) rfl rfl rfl hdX9_makesV ⟨Nat.le_of_ble_eq_true rfl, Nat.le_of_ble_eq_true rfl⟩) (ci := 8) (q0 := 0) rfl rfl rfl hl.1 rfl (Nat.le_of_ble_eq_true rfl) (kd tdlX9_wouldPut_0 21 rfl) ⟨Nat.zero_le _, Nat.zero_le _⟩) (fun H locs hP hD hS => ?_)
    refine lv_aload_n hx hb (kd tdlX9_wouldPut_0 22 rfl) rfl (lv_at hl 0 rfl) ?_
    obtain ⟨v39, e39, hF⟩ := kc hF
    refine kc_v0 (w1 := ((wmdF t h0 a0 0 v39 v25 (md_base d0) (md_saved d0) (md_savedMany d0) (md_slots d0) (md_hasSlot d0) (md_text d0) (md_length d0) v7.2.1 v7.2.2.1 v7.2.2.2 v21.1 v21.2.1 v21.2.2.1 v21.2.2.2 v35.2.1 v35.2.2.1 v35.2.2.2.1 v35.2.2.2.2.1 v35.2.2.2.2.2 (md_path d0) (md_store d0) (md_thinOnes d0)))) hP hD hS hA (kr_V0 (Qx := (fun A => kQv D (TY t) ((wmdF t h0 a0 0 v39 v25 (md_base d0) (md_saved d0) (md_savedMany d0) (md_slots d0) (md_hasSlot d0) (md_text d0) (md_length d0) v7.2.1 v7.2.2.1 v7.2.2.2 v21.1 v21.2.1 v21.2.2.1 v21.2.2.2 v35.2.1 v35.2.2.1 v35.2.2.2.1 v35.2.2.2.2.1 v35.2.2.2.2.2 (md_path d0) (md_store d0) (md_thinOnes d0))) A)) (As := []) (rest := []) ⟨hx, hb, hml, hown, hts⟩ hK hP hD (c_X9_takeBack l D t h0 a0 (0, v35.1, v25, (md_base d0), (md_saved d0), (md_savedMany d0), (md_slots d0), (md_hasSlot d0), (md_text d0), (md_length d0), v7.2.1, v7.2.2.1, v7.2.2.2, v21.1, v21.2.1, v21.2.2.1, v21.2.2.2, v35.2.1, v35.2.2.1, v35.2.2.2.1, v35.2.2.2.2.1, v35.2.2.2.2.2, (md_path d0), (md_store d0), (md_thinOnes d0)) _  v39 e39) (cwV 0 hts (gcX9_takeBack w_759) rfl rfl rfl hdX9_takeBackV ⟨Nat.le_of_ble_eq_true rfl, Nat.le_of_ble_eq_true rfl⟩) (ci := 8) (q0 := 0) rfl rfl rfl hl.1 rfl (Nat.le_of_ble_eq_true rfl) (kd tdlX9_wouldPut_0 23 rfl) ⟨Nat.zero_le _, Nat.zero_le _⟩) (fun H locs hP hD hS => ?_)
    refine lv_aload_n hx hb (kd tdlX9_wouldPut_0 24 rfl) rfl (lv_at hl 0 rfl) ?_
    refine md_g_putMany hx hb hts inX9_ hown hK hP L139 (kd tdlX9_wouldPut_0 25 rfl) ?_
    cases ko hF
    exact ke_i hx hb hr hlocks hK hP hD hS rfl (kd tdlX9_wouldPut_0 26 rfl)
  · have hF := kt hc10 hF
    refine lv_aload_n hx hb (kd tdlX9_wouldPut_0 7 rfl) rfl (lv_at hl 0 rfl) ?_
    refine lv_iconst (v := 1) hx hb (kd tdlX9_wouldPut_0 8 rfl) (by decide) ?_
    obtain ⟨v15, e15, hF⟩ := kc hF
    refine kc_i0 (w1 := ((wmdF t h0 a0 v15.2 (md_s d0) (md_aside d0) (md_base d0) (md_saved d0) (md_savedMany d0) (md_slots d0) (md_hasSlot d0) (md_text d0) (md_length d0) v7.2.1 v7.2.2.1 v7.2.2.2 (md_letters d0) (md_letterMany d0) (md_chunks d0) (md_chunkMany d0) (md_homes d0) (md_dropped d0) (md_madeIn d0) (md_madeAt d0) (md_putMany d0) (md_path d0) (md_store d0) (md_thinOnes d0)))) hP hD hS hA (kr_V0 (Qx := (fun A => kQi D (TY t) ((wmdF t h0 a0 v15.2 (md_s d0) (md_aside d0) (md_base d0) (md_saved d0) (md_savedMany d0) (md_slots d0) (md_hasSlot d0) (md_text d0) (md_length d0) v7.2.1 v7.2.2.1 v7.2.2.2 (md_letters d0) (md_letterMany d0) (md_chunks d0) (md_chunkMany d0) (md_homes d0) (md_dropped d0) (md_madeIn d0) (md_madeAt d0) (md_putMany d0) (md_path d0) (md_store d0) (md_thinOnes d0))) v15.1 A)) (As := [.int 1]) (rest := []) ⟨hx, hb, hml, hown, hts⟩ hK hP hD (c_X9_fails l D t h0 a0 (0, (md_s d0), (md_aside d0), (md_base d0), (md_saved d0), (md_savedMany d0), (md_slots d0), (md_hasSlot d0), (md_text d0), (md_length d0), v7.2.1, v7.2.2.1, v7.2.2.2, (md_letters d0), (md_letterMany d0), (md_chunks d0), (md_chunkMany d0), (md_homes d0), (md_dropped d0), (md_madeIn d0), (md_madeAt d0), (md_putMany d0), (md_path d0), (md_store d0), (md_thinOnes d0)) _ 1 v15 e15) (cwV 1 hts (gcX9_fails w_153) rfl rfl rfl hdX9_failsV ⟨Nat.le_of_ble_eq_true rfl, Nat.le_of_ble_eq_true rfl⟩) (ci := 8) (q0 := 0) rfl rfl rfl hl.1 rfl (Nat.le_of_ble_eq_true rfl) (kd tdlX9_wouldPut_0 9 rfl) ⟨Nat.zero_le _, Nat.zero_le _⟩) (fun H locs hP hD hS => ?_)
    cases ko hF
    exact ke_i hx hb hr hlocks hK hP hD hS rfl (kd tdlX9_wouldPut_0 10 rfl)
set_option maxHeartbeats 4000000 in
set_option maxRecDepth 100000 in
theorem c_X9_bestLimit (l : Launch) (D : va_G) (t : Nat → ClassId) (h0 : Nat) (a0 : Nat → Nat) (d0 : MDT) (sz : Nat) (p1 : Int32) (r : Int32 × MDT) (hF : F_X9_bestLimit d0 p1 = some r) : Met l yX9_bestLimit wX9_bestLimit ({ frames := 5, cells := 0, slots := 0, locals := 112 } : Room) (kPc D (TY t) ((wmd t h0 a0 d0)) [.ref h0, .int p1] sz) (kQi D (TY t) ((wmd t h0 a0 r.2)) r.1 (va_A ((wmd t h0 a0 d0)) sz)) 0 0 (va_A ((wmd t h0 a0 d0)) sz) := by
  refine kE (cc := cX9_bestLimit) (maxL := 6) (ret := (some .int)) (Qx := fun A => kQi D (TY t) ((wmd t h0 a0 r.2)) r.1 A) (lv0 := [(0, .ref h0), (1, .int p1)]) RX9 rfl (by decide) rfl (Nat.le_of_ble_eq_true rfl) rfl ?_
  intro p e s m args below meth c A ls hx hb hml hr hlocks hown hts hA hK hP hD hS hl
  have L139 := hts (.fieldLink RX9 139 "ChunkCarriersModel" "putMany" "I") (List.mem_cons_of_mem _ w_742)
  have L50 := hts (.fieldLink RX9 50 "ChunkCarriersModel" "madeIn" "[I") (List.mem_cons_of_mem _ w_114)
  have L56 := hts (.fieldLink RX9 56 "ChunkCarriersModel" "path" "[I") (List.mem_cons_of_mem _ w_116)
  have L65 := hts (.fieldLink RX9 65 "ChunkCarriersModel" "thrown" "I") (List.mem_cons_of_mem _ w_119)
  have L96 := hts (.fieldLink RX9 96 "ChunkCarriersModel" "chunkMany" "I") (List.mem_cons_of_mem _ w_275)
  have inX9_ : ∀ w ∈ wsX90, w ∈ wX9_bestLimit := fun w h => List.mem_cons_of_mem _ (inlX9 w h)
  have hP : va_P D vwCl ((wmdF t h0 a0 (md_thrown d0) (md_s d0) (md_aside d0) (md_base d0) (md_saved d0) (md_savedMany d0) (md_slots d0) (md_hasSlot d0) (md_text d0) (md_length d0) (md_begins d0) (md_lengths d0) (md_streams d0) (md_letters d0) (md_letterMany d0) (md_chunks d0) (md_chunkMany d0) (md_homes d0) (md_dropped d0) (md_madeIn d0) (md_madeAt d0) (md_putMany d0) (md_path d0) (md_store d0) (md_thinOnes d0))) s.heap := hP
  have hD : va_D A ((wmdF t h0 a0 (md_thrown d0) (md_s d0) (md_aside d0) (md_base d0) (md_saved d0) (md_savedMany d0) (md_slots d0) (md_hasSlot d0) (md_text d0) (md_length d0) (md_begins d0) (md_lengths d0) (md_streams d0) (md_letters d0) (md_letterMany d0) (md_chunks d0) (md_chunkMany d0) (md_homes d0) (md_dropped d0) (md_madeIn d0) (md_madeAt d0) (md_putMany d0) (md_path d0) (md_store d0) (md_thinOnes d0))) := hD
  refine lv_aload_n hx hb (kd tdlX9_bestLimit_0 0 rfl) rfl (lv_at hl 0 rfl) ?_
  refine lv_iconst (v := 0) hx hb (kd tdlX9_bestLimit_0 1 rfl) (by decide) ?_
  refine md_p_thrown hx hb hts inX9_ hown hK hP hD hS L65 (kd tdlX9_bestLimit_0 2 rfl) (fun H locs hP hD hS => ?_)
  refine lv_aload_n hx hb (kd tdlX9_bestLimit_0 3 rfl) rfl (lv_at hl 0 rfl) ?_
  refine lv_iload_n hx hb (kd tdlX9_bestLimit_0 4 rfl) rfl (lv_at hl 1 rfl) ?_
  obtain ⟨v7, e7, hF⟩ := kc hF
  refine kc_i0 (w1 := ((wmdF t h0 a0 0 (md_s d0) (md_aside d0) (md_base d0) (md_saved d0) (md_savedMany d0) (md_slots d0) (md_hasSlot d0) (md_text d0) (md_length d0) v7.2.1 v7.2.2.1 v7.2.2.2 (md_letters d0) (md_letterMany d0) (md_chunks d0) (md_chunkMany d0) (md_homes d0) (md_dropped d0) (md_madeIn d0) (md_madeAt d0) (md_putMany d0) (md_path d0) (md_store d0) (md_thinOnes d0)))) hP hD hS hA (kr_V0 (Qx := (fun A => kQi D (TY t) ((wmdF t h0 a0 0 (md_s d0) (md_aside d0) (md_base d0) (md_saved d0) (md_savedMany d0) (md_slots d0) (md_hasSlot d0) (md_text d0) (md_length d0) v7.2.1 v7.2.2.1 v7.2.2.2 (md_letters d0) (md_letterMany d0) (md_chunks d0) (md_chunkMany d0) (md_homes d0) (md_dropped d0) (md_madeIn d0) (md_madeAt d0) (md_putMany d0) (md_path d0) (md_store d0) (md_thinOnes d0))) v7.1 A)) (As := [.int p1]) (rest := []) ⟨hx, hb, hml, hown, hts⟩ hK hP hD (c_X9_isStream l D t h0 a0 (0, (md_s d0), (md_aside d0), (md_base d0), (md_saved d0), (md_savedMany d0), (md_slots d0), (md_hasSlot d0), (md_text d0), (md_length d0), (md_begins d0), (md_lengths d0), (md_streams d0), (md_letters d0), (md_letterMany d0), (md_chunks d0), (md_chunkMany d0), (md_homes d0), (md_dropped d0), (md_madeIn d0), (md_madeAt d0), (md_putMany d0), (md_path d0), (md_store d0), (md_thinOnes d0)) _ p1 v7 e7) (cwV 1 hts (gcX9_isStream w_276) rfl rfl rfl hdX9_isStreamV ⟨Nat.le_of_ble_eq_true rfl, Nat.le_of_ble_eq_true rfl⟩) (ci := 8) (q0 := 0) rfl rfl rfl hl.1 rfl (Nat.le_of_ble_eq_true rfl) (kd tdlX9_bestLimit_0 5 rfl) ⟨Nat.zero_le _, Nat.zero_le _⟩) (fun H locs hP hD hS => ?_)
  refine lv_if_ne (tgt := 19) hx hb (kd tdlX9_bestLimit_0 6 rfl) (by decide) (fun hc10 => ?_) (fun hc10 => ?_)
  · have hF := kf hc10 hF
    refine lv_aload_n hx hb (kd tdlX9_bestLimit_0 11 rfl) rfl (lv_at hl 0 rfl) ?_
    refine lv_iload_n hx hb (kd tdlX9_bestLimit_0 12 rfl) rfl (lv_at hl 1 rfl) ?_
    obtain ⟨v21, e21, hF⟩ := kc hF
    refine kc_v0 (w1 := ((wmdF t h0 a0 0 (md_s d0) (md_aside d0) (md_base d0) (md_saved d0) (md_savedMany d0) (md_slots d0) (md_hasSlot d0) (md_text d0) (md_length d0) v7.2.1 v7.2.2.1 v7.2.2.2 v21.1 v21.2.1 v21.2.2.1 v21.2.2.2 (md_homes d0) (md_dropped d0) (md_madeIn d0) (md_madeAt d0) (md_putMany d0) (md_path d0) (md_store d0) (md_thinOnes d0)))) hP hD hS hA (kr_V0 (Qx := (fun A => kQv D (TY t) ((wmdF t h0 a0 0 (md_s d0) (md_aside d0) (md_base d0) (md_saved d0) (md_savedMany d0) (md_slots d0) (md_hasSlot d0) (md_text d0) (md_length d0) v7.2.1 v7.2.2.1 v7.2.2.2 v21.1 v21.2.1 v21.2.2.1 v21.2.2.2 (md_homes d0) (md_dropped d0) (md_madeIn d0) (md_madeAt d0) (md_putMany d0) (md_path d0) (md_store d0) (md_thinOnes d0))) A)) (As := [.int p1]) (rest := []) ⟨hx, hb, hml, hown, hts⟩ hK hP hD (c_X9_laysStream l D t h0 a0 (0, (md_s d0), (md_aside d0), (md_base d0), (md_saved d0), (md_savedMany d0), (md_slots d0), (md_hasSlot d0), (md_text d0), (md_length d0), v7.2.1, v7.2.2.1, v7.2.2.2, (md_letters d0), (md_letterMany d0), (md_chunks d0), (md_chunkMany d0), (md_homes d0), (md_dropped d0), (md_madeIn d0), (md_madeAt d0), (md_putMany d0), (md_path d0), (md_store d0), (md_thinOnes d0)) _ p1 v21 e21) (cwV 1 hts (gcX9_laysStream w_280) rfl rfl rfl hdX9_laysStreamV ⟨Nat.le_of_ble_eq_true rfl, Nat.le_of_ble_eq_true rfl⟩) (ci := 8) (q0 := 0) rfl rfl rfl hl.1 rfl (Nat.le_of_ble_eq_true rfl) (kd tdlX9_bestLimit_0 13 rfl) ⟨Nat.zero_le _, Nat.zero_le _⟩) (fun H locs hP hD hS => ?_)
    refine lv_aload_n hx hb (kd tdlX9_bestLimit_0 14 rfl) rfl (lv_at hl 0 rfl) ?_
    obtain ⟨v25, e25, hF⟩ := kc hF
    refine kc_v0 (w1 := ((wmdF t h0 a0 0 (md_s d0) v25 (md_base d0) (md_saved d0) (md_savedMany d0) (md_slots d0) (md_hasSlot d0) (md_text d0) (md_length d0) v7.2.1 v7.2.2.1 v7.2.2.2 v21.1 v21.2.1 v21.2.2.1 v21.2.2.2 (md_homes d0) (md_dropped d0) (md_madeIn d0) (md_madeAt d0) (md_putMany d0) (md_path d0) (md_store d0) (md_thinOnes d0)))) hP hD hS hA (kr_V0 (Qx := (fun A => kQv D (TY t) ((wmdF t h0 a0 0 (md_s d0) v25 (md_base d0) (md_saved d0) (md_savedMany d0) (md_slots d0) (md_hasSlot d0) (md_text d0) (md_length d0) v7.2.1 v7.2.2.1 v7.2.2.2 v21.1 v21.2.1 v21.2.2.1 v21.2.2.2 (md_homes d0) (md_dropped d0) (md_madeIn d0) (md_madeAt d0) (md_putMany d0) (md_path d0) (md_store d0) (md_thinOnes d0))) A)) (As := []) (rest := []) ⟨hx, hb, hml, hown, hts⟩ hK hP hD (c_X9_putAside l D t h0 a0 (0, (md_s d0), (md_aside d0), (md_base d0), (md_saved d0), (md_savedMany d0), (md_slots d0), (md_hasSlot d0), (md_text d0), (md_length d0), v7.2.1, v7.2.2.1, v7.2.2.2, v21.1, v21.2.1, v21.2.2.1, v21.2.2.2, (md_homes d0), (md_dropped d0), (md_madeIn d0), (md_madeAt d0), (md_putMany d0), (md_path d0), (md_store d0), (md_thinOnes d0)) _  v25 e25) (cwV 0 hts (gcX9_putAside w_734) rfl rfl rfl hdX9_putAsideV ⟨Nat.le_of_ble_eq_true rfl, Nat.le_of_ble_eq_true rfl⟩) (ci := 8) (q0 := 0) rfl rfl rfl hl.1 rfl (Nat.le_of_ble_eq_true rfl) (kd tdlX9_bestLimit_0 15 rfl) ⟨Nat.zero_le _, Nat.zero_le _⟩) (fun H locs hP hD hS => ?_)
    refine lv_iconst (v := (-1)) hx hb (kd tdlX9_bestLimit_0 16 rfl) (by decide) ?_
    refine lv_istore_n (lv' := [(2, .int (-1)), (0, .ref h0), (1, .int p1)]) hx hb (kd tdlX9_bestLimit_0 17 rfl) rfl hl (by decide) rfl (fun ls hl => ?_)
    refine lv_iconst (v := 0) hx hb (kd tdlX9_bestLimit_0 18 rfl) (by decide) ?_
    refine lv_istore_n (lv' := [(3, .int 0), (2, .int (-1)), (0, .ref h0), (1, .int p1)]) hx hb (kd tdlX9_bestLimit_0 19 rfl) rfl hl (by decide) rfl (fun ls hl => ?_)
    refine lv_iconst (v := 1) hx hb (kd tdlX9_bestLimit_0 20 rfl) (by decide) ?_
    refine lv_istore (lv' := [(4, .int 1), (3, .int 0), (2, .int (-1)), (0, .ref h0), (1, .int p1)]) hx hb (kd tdlX9_bestLimit_0 21 rfl) hl (by decide) rfl (fun ls hl => ?_)
    refine lp_ind (f := B_X9_bestLimit_35 v25 d0 v7 v21) (r := r) (P := fun s35_ => ∀ (H : Heap) (locs : List Loc) (ls : Array Slot), va_P D vwCl ((wmdF t h0 a0 0 s35_.2.2.2.1 v25 (md_base d0) (md_saved d0) (md_savedMany d0) (md_slots d0) (md_hasSlot d0) (md_text d0) (md_length d0) v7.2.1 v7.2.2.1 v7.2.2.2 v21.1 v21.2.1 v21.2.2.1 v21.2.2.2 s35_.2.2.2.2.1 s35_.2.2.2.2.2.1 s35_.2.2.2.2.2.2.1 s35_.2.2.2.2.2.2.2.1 s35_.2.2.2.2.2.2.2.2.1 s35_.2.2.2.2.2.2.2.2.2.1 s35_.2.2.2.2.2.2.2.2.2.2 (md_thinOnes d0))) H → va_D A ((wmdF t h0 a0 0 s35_.2.2.2.1 v25 (md_base d0) (md_saved d0) (md_savedMany d0) (md_slots d0) (md_hasSlot d0) (md_text d0) (md_length d0) v7.2.1 v7.2.2.1 v7.2.2.2 v21.1 v21.2.1 v21.2.2.1 v21.2.2.2 s35_.2.2.2.2.1 s35_.2.2.2.2.2.1 s35_.2.2.2.2.2.2.1 s35_.2.2.2.2.2.2.2.1 s35_.2.2.2.2.2.2.2.2.1 s35_.2.2.2.2.2.2.2.2.2.1 s35_.2.2.2.2.2.2.2.2.2.2 (md_thinOnes d0))) → va_S A s.heap H locs → lv_has ls 6 [(0, .ref h0), (2, .int s35_.1), (3, .int s35_.2.1), (4, .int s35_.2.2.1)] → W p l e ({ frames := 5, cells := 0, slots := 0, locals := 112 } : Room) s m args below meth c H locs 0 0 (MQ below (kQi D (TY t) ((wmd t h0 a0 r.2)) r.1 A) args s 0 0 A) (F0 m 35 ls [])) ?_ FU ((-1), 0, 1, (md_s d0), (md_homes d0), (md_dropped d0), (md_madeIn d0), (md_madeAt d0), (md_putMany d0), (md_path d0), (md_store d0)) hF _ _ _ hP hD hS (lv_sub hl [3, 2, 1, 0] rfl)
    intro self35 ih35 s35_ hF H locs ls hP hD hS hl
    refine lv_iload hx hb (kd tdlX9_bestLimit_0 22 rfl) (lv_at hl 3 rfl) ?_
    refine lv_bipush (v := 10) hx hb (kd tdlX9_bestLimit_0 23 rfl) (by decide) ?_
    refine lv_icmp_ge (tgt := 122) hx hb (kd tdlX9_bestLimit_0 24 rfl) (by decide) (fun hc39 => ?_) (fun hc39 => ?_)
    · have hF := kt hc39 hF
      refine lv_iload_n hx hb (kd tdlX9_bestLimit_1 21 rfl) rfl (lv_at hl 1 rfl) ?_
      cases ko hF
      exact ke_i hx hb hr hlocks hK hP hD hS rfl (kd tdlX9_bestLimit_1 22 rfl)
    · have hF := kf hc39 hF
      refine lv_aload_n hx hb (kd tdlX9_bestLimit_0 25 rfl) rfl (lv_at hl 0 rfl) ?_
      refine lv_iload hx hb (kd tdlX9_bestLimit_0 26 rfl) (lv_at hl 3 rfl) ?_
      obtain ⟨v45, e45, hF⟩ := kc hF
      refine kc_v0 (w1 := ((wmdF t h0 a0 0 v45.1 v25 (md_base d0) (md_saved d0) (md_savedMany d0) (md_slots d0) (md_hasSlot d0) (md_text d0) (md_length d0) v7.2.1 v7.2.2.1 v7.2.2.2 v21.1 v21.2.1 v21.2.2.1 v21.2.2.2 v45.2.1 v45.2.2.1 v45.2.2.2.1 v45.2.2.2.2.1 v45.2.2.2.2.2 s35_.2.2.2.2.2.2.2.2.2.1 s35_.2.2.2.2.2.2.2.2.2.2 (md_thinOnes d0)))) hP hD hS hA (kr_V0 (Qx := (fun A => kQv D (TY t) ((wmdF t h0 a0 0 v45.1 v25 (md_base d0) (md_saved d0) (md_savedMany d0) (md_slots d0) (md_hasSlot d0) (md_text d0) (md_length d0) v7.2.1 v7.2.2.1 v7.2.2.2 v21.1 v21.2.1 v21.2.2.1 v21.2.2.2 v45.2.1 v45.2.2.1 v45.2.2.2.1 v45.2.2.2.2.1 v45.2.2.2.2.2 s35_.2.2.2.2.2.2.2.2.2.1 s35_.2.2.2.2.2.2.2.2.2.2 (md_thinOnes d0))) A)) (As := [.int s35_.2.2.1]) (rest := []) ⟨hx, hb, hml, hown, hts⟩ hK hP hD (c_X9_makes l D t h0 a0 (0, s35_.2.2.2.1, v25, (md_base d0), (md_saved d0), (md_savedMany d0), (md_slots d0), (md_hasSlot d0), (md_text d0), (md_length d0), v7.2.1, v7.2.2.1, v7.2.2.2, v21.1, v21.2.1, v21.2.2.1, v21.2.2.2, s35_.2.2.2.2.1, s35_.2.2.2.2.2.1, s35_.2.2.2.2.2.2.1, s35_.2.2.2.2.2.2.2.1, s35_.2.2.2.2.2.2.2.2.1, s35_.2.2.2.2.2.2.2.2.2.1, s35_.2.2.2.2.2.2.2.2.2.2, (md_thinOnes d0)) _ s35_.2.2.1 v45 e45) (cwV 1 hts (gcX9_makes w_738) rfl rfl rfl hdX9_makesV ⟨Nat.le_of_ble_eq_true rfl, Nat.le_of_ble_eq_true rfl⟩) (ci := 8) (q0 := 0) rfl rfl rfl hl.1 rfl (Nat.le_of_ble_eq_true rfl) (kd tdlX9_bestLimit_0 27 rfl) ⟨Nat.zero_le _, Nat.zero_le _⟩) (fun H locs hP hD hS => ?_)
      refine lv_iconst (v := 0) hx hb (kd tdlX9_bestLimit_0 28 rfl) (by decide) ?_
      refine lv_istore (lv' := [(5, .int 0), (0, .ref h0), (2, .int s35_.1), (3, .int s35_.2.1), (4, .int s35_.2.2.1)]) hx hb (kd tdlX9_bestLimit_0 29 rfl) hl (by decide) rfl (fun ls hl => ?_)
      have hK80 : ∀ k80 : (Nat → Int32), K_X9_bestLimit_80 v45 s35_ v21 v25 self35 k80 = some r → ∀ (H : Heap) (locs : List Loc) (ls : Array Slot), va_P D vwCl ((wmdF t h0 a0 0 v45.1 v25 (md_base d0) (md_saved d0) (md_savedMany d0) (md_slots d0) (md_hasSlot d0) (md_text d0) (md_length d0) v7.2.1 v7.2.2.1 v7.2.2.2 v21.1 v21.2.1 v21.2.2.1 v21.2.2.2 v45.2.1 v45.2.2.1 v45.2.2.2.1 v45.2.2.2.2.1 v45.2.2.2.2.2 k80 s35_.2.2.2.2.2.2.2.2.2.2 (md_thinOnes d0))) H → va_D A ((wmdF t h0 a0 0 v45.1 v25 (md_base d0) (md_saved d0) (md_savedMany d0) (md_slots d0) (md_hasSlot d0) (md_text d0) (md_length d0) v7.2.1 v7.2.2.1 v7.2.2.2 v21.1 v21.2.1 v21.2.2.1 v21.2.2.2 v45.2.1 v45.2.2.1 v45.2.2.2.1 v45.2.2.2.2.1 v45.2.2.2.2.2 k80 s35_.2.2.2.2.2.2.2.2.2.2 (md_thinOnes d0))) → va_S A s.heap H locs → lv_has ls 6 [(0, .ref h0), (2, .int s35_.1), (3, .int s35_.2.1), (4, .int s35_.2.2.1)] → W p l e ({ frames := 5, cells := 0, slots := 0, locals := 112 } : Room) s m args below meth c H locs 0 0 (MQ below (kQi D (TY t) ((wmd t h0 a0 r.2)) r.1 A) args s 0 0 A) (F0 m 80 ls []) := by
        intro k80 hF H locs ls hP hD hS hl
        refine lv_aload_n hx hb (kd tdlX9_bestLimit_0 44 rfl) rfl (lv_at hl 0 rfl) ?_
        refine md_g_putMany hx hb hts inX9_ hown hK hP L139 (kd tdlX9_bestLimit_1 0 rfl) ?_
        refine lv_aload_n hx hb (kd tdlX9_bestLimit_1 1 rfl) rfl (lv_at hl 0 rfl) ?_
        refine lv_aload_n hx hb (kd tdlX9_bestLimit_1 2 rfl) rfl (lv_at hl 0 rfl) ?_
        refine md_g_chunkMany hx hb hts inX9_ hown hK hP L96 (kd tdlX9_bestLimit_1 3 rfl) ?_
        obtain ⟨v89, e89, hF⟩ := kc hF
        refine kc_i0 (w1 := ((wmdF t h0 a0 0 v45.1 v25 (md_base d0) (md_saved d0) (md_savedMany d0) (md_slots d0) (md_hasSlot d0) (md_text d0) (md_length d0) v7.2.1 v7.2.2.1 v7.2.2.2 v21.1 v21.2.1 v21.2.2.1 v21.2.2.2 v45.2.1 v45.2.2.1 v45.2.2.2.1 v45.2.2.2.2.1 v45.2.2.2.2.2 k80 v89.2 (md_thinOnes d0)))) hP hD hS hA (kr_V0 (Qx := (fun A => kQi D (TY t) ((wmdF t h0 a0 0 v45.1 v25 (md_base d0) (md_saved d0) (md_savedMany d0) (md_slots d0) (md_hasSlot d0) (md_text d0) (md_length d0) v7.2.1 v7.2.2.1 v7.2.2.2 v21.1 v21.2.1 v21.2.2.1 v21.2.2.2 v45.2.1 v45.2.2.1 v45.2.2.2.1 v45.2.2.2.2.1 v45.2.2.2.2.2 k80 v89.2 (md_thinOnes d0))) v89.1 A)) (As := [.int v21.2.2.2]) (rest := [.int v45.2.2.2.2.2]) ⟨hx, hb, hml, hown, hts⟩ hK hP hD (c_X9_loadsBy l D t h0 a0 (0, v45.1, v25, (md_base d0), (md_saved d0), (md_savedMany d0), (md_slots d0), (md_hasSlot d0), (md_text d0), (md_length d0), v7.2.1, v7.2.2.1, v7.2.2.2, v21.1, v21.2.1, v21.2.2.1, v21.2.2.2, v45.2.1, v45.2.2.1, v45.2.2.2.1, v45.2.2.2.2.1, v45.2.2.2.2.2, k80, s35_.2.2.2.2.2.2.2.2.2.2, (md_thinOnes d0)) _ v21.2.2.2 v89 e89) (cwV 1 hts (gcX9_loadsBy w_580) rfl rfl rfl hdX9_loadsByV ⟨Nat.le_of_ble_eq_true rfl, Nat.le_of_ble_eq_true rfl⟩) (ci := 8) (q0 := 0) rfl rfl rfl hl.1 rfl (Nat.le_of_ble_eq_true rfl) (kd tdlX9_bestLimit_1 4 rfl) ⟨Nat.zero_le _, Nat.zero_le _⟩) (fun H locs hP hD hS => ?_)
        refine lv_iadd hx hb (kd tdlX9_bestLimit_1 5 rfl) ?_
        refine lv_istore (lv' := [(5, .int (v45.2.2.2.2.2 + v89.1)), (0, .ref h0), (2, .int s35_.1), (3, .int s35_.2.1), (4, .int s35_.2.2.1)]) hx hb (kd tdlX9_bestLimit_1 6 rfl) hl (by decide) rfl (fun ls hl => ?_)
        refine lv_aload_n hx hb (kd tdlX9_bestLimit_1 7 rfl) rfl (lv_at hl 1 rfl) ?_
        obtain ⟨v96, e96, hF⟩ := kc hF
        refine kc_v0 (w1 := ((wmdF t h0 a0 0 v96 v25 (md_base d0) (md_saved d0) (md_savedMany d0) (md_slots d0) (md_hasSlot d0) (md_text d0) (md_length d0) v7.2.1 v7.2.2.1 v7.2.2.2 v21.1 v21.2.1 v21.2.2.1 v21.2.2.2 v45.2.1 v45.2.2.1 v45.2.2.2.1 v45.2.2.2.2.1 v45.2.2.2.2.2 k80 v89.2 (md_thinOnes d0)))) hP hD hS hA (kr_V0 (Qx := (fun A => kQv D (TY t) ((wmdF t h0 a0 0 v96 v25 (md_base d0) (md_saved d0) (md_savedMany d0) (md_slots d0) (md_hasSlot d0) (md_text d0) (md_length d0) v7.2.1 v7.2.2.1 v7.2.2.2 v21.1 v21.2.1 v21.2.2.1 v21.2.2.2 v45.2.1 v45.2.2.1 v45.2.2.2.1 v45.2.2.2.2.1 v45.2.2.2.2.2 k80 v89.2 (md_thinOnes d0))) A)) (As := []) (rest := []) ⟨hx, hb, hml, hown, hts⟩ hK hP hD (c_X9_takeBack l D t h0 a0 (0, v45.1, v25, (md_base d0), (md_saved d0), (md_savedMany d0), (md_slots d0), (md_hasSlot d0), (md_text d0), (md_length d0), v7.2.1, v7.2.2.1, v7.2.2.2, v21.1, v21.2.1, v21.2.2.1, v21.2.2.2, v45.2.1, v45.2.2.1, v45.2.2.2.1, v45.2.2.2.2.1, v45.2.2.2.2.2, k80, v89.2, (md_thinOnes d0)) _  v96 e96) (cwV 0 hts (gcX9_takeBack w_759) rfl rfl rfl hdX9_takeBackV ⟨Nat.le_of_ble_eq_true rfl, Nat.le_of_ble_eq_true rfl⟩) (ci := 8) (q0 := 0) rfl rfl rfl hl.1 rfl (Nat.le_of_ble_eq_true rfl) (kd tdlX9_bestLimit_1 8 rfl) ⟨Nat.zero_le _, Nat.zero_le _⟩) (fun H locs hP hD hS => ?_)
        refine lv_iload_n hx hb (kd tdlX9_bestLimit_1 9 rfl) rfl (lv_at hl 2 rfl) ?_
        refine lv_iconst (v := (-1)) hx hb (kd tdlX9_bestLimit_1 10 rfl) (by decide) ?_
        refine lv_icmp_eq (tgt := 110) hx hb (kd tdlX9_bestLimit_1 11 rfl) (by decide) (fun hc101 => ?_) (fun hc101 => ?_)
        · have hF := kt hc101 hF
          refine lv_iload hx hb (kd tdlX9_bestLimit_1 15 rfl) (lv_at hl 4 rfl) ?_
          refine lv_istore_n (lv' := [(2, .int s35_.2.2.1), (5, .int (v45.2.2.2.2.2 + v89.1)), (0, .ref h0), (3, .int s35_.2.1), (4, .int s35_.2.2.1)]) hx hb (kd tdlX9_bestLimit_1 16 rfl) rfl hl (by decide) rfl (fun ls hl => ?_)
          refine lv_iload hx hb (kd tdlX9_bestLimit_1 17 rfl) (lv_at hl 1 rfl) ?_
          refine lv_istore_n (lv' := [(3, .int (v45.2.2.2.2.2 + v89.1)), (2, .int s35_.2.2.1), (5, .int (v45.2.2.2.2.2 + v89.1)), (0, .ref h0), (4, .int s35_.2.2.1)]) hx hb (kd tdlX9_bestLimit_1 18 rfl) rfl hl (by decide) rfl (fun ls hl => ?_)
          refine lv_iinc (v := (s35_.2.2.1 + 1)) (lv' := [(4, .int (s35_.2.2.1 + 1)), (3, .int (v45.2.2.2.2.2 + v89.1)), (2, .int s35_.2.2.1), (5, .int (v45.2.2.2.2.2 + v89.1)), (0, .ref h0)]) hx hb (kd tdlX9_bestLimit_1 19 rfl) hl (k := 4) rfl rfl (by decide) rfl (fun ls hl => ?_)
          refine lv_goto (tgt := 35) hx hb (kd tdlX9_bestLimit_1 20 rfl) (by decide) ?_
          exact ih35 (s35_.2.2.1, (v45.2.2.2.2.2 + v89.1), (s35_.2.2.1 + 1), v96, v45.2.1, v45.2.2.1, v45.2.2.2.1, v45.2.2.2.2.1, v45.2.2.2.2.2, k80, v89.2) hF _ _ _ hP hD hS (lv_sub hl [4, 2, 1, 0] rfl)
        · have hF := kf hc101 hF
          refine lv_iload hx hb (kd tdlX9_bestLimit_1 12 rfl) (lv_at hl 0 rfl) ?_
          refine lv_iload_n hx hb (kd tdlX9_bestLimit_1 13 rfl) rfl (lv_at hl 3 rfl) ?_
          refine lv_icmp_ge (tgt := 116) hx hb (kd tdlX9_bestLimit_1 14 rfl) (by decide) (fun hc107 => ?_) (fun hc107 => ?_)
          · have hF := kt hc107 hF
            refine lv_iinc (v := (s35_.2.2.1 + 1)) (lv' := [(4, .int (s35_.2.2.1 + 1)), (5, .int (v45.2.2.2.2.2 + v89.1)), (0, .ref h0), (2, .int s35_.1), (3, .int s35_.2.1)]) hx hb (kd tdlX9_bestLimit_1 19 rfl) hl (k := 4) rfl rfl (by decide) rfl (fun ls hl => ?_)
            refine lv_goto (tgt := 35) hx hb (kd tdlX9_bestLimit_1 20 rfl) (by decide) ?_
            exact ih35 (s35_.1, s35_.2.1, (s35_.2.2.1 + 1), v96, v45.2.1, v45.2.2.1, v45.2.2.2.1, v45.2.2.2.2.1, v45.2.2.2.2.2, k80, v89.2) hF _ _ _ hP hD hS (lv_sub hl [2, 3, 4, 0] rfl)
          · have hF := kf hc107 hF
            refine lv_iload hx hb (kd tdlX9_bestLimit_1 15 rfl) (lv_at hl 4 rfl) ?_
            refine lv_istore_n (lv' := [(2, .int s35_.2.2.1), (5, .int (v45.2.2.2.2.2 + v89.1)), (0, .ref h0), (3, .int s35_.2.1), (4, .int s35_.2.2.1)]) hx hb (kd tdlX9_bestLimit_1 16 rfl) rfl hl (by decide) rfl (fun ls hl => ?_)
            refine lv_iload hx hb (kd tdlX9_bestLimit_1 17 rfl) (lv_at hl 1 rfl) ?_
            refine lv_istore_n (lv' := [(3, .int (v45.2.2.2.2.2 + v89.1)), (2, .int s35_.2.2.1), (5, .int (v45.2.2.2.2.2 + v89.1)), (0, .ref h0), (4, .int s35_.2.2.1)]) hx hb (kd tdlX9_bestLimit_1 18 rfl) rfl hl (by decide) rfl (fun ls hl => ?_)
            refine lv_iinc (v := (s35_.2.2.1 + 1)) (lv' := [(4, .int (s35_.2.2.1 + 1)), (3, .int (v45.2.2.2.2.2 + v89.1)), (2, .int s35_.2.2.1), (5, .int (v45.2.2.2.2.2 + v89.1)), (0, .ref h0)]) hx hb (kd tdlX9_bestLimit_1 19 rfl) hl (k := 4) rfl rfl (by decide) rfl (fun ls hl => ?_)
            refine lv_goto (tgt := 35) hx hb (kd tdlX9_bestLimit_1 20 rfl) (by decide) ?_
            exact ih35 (s35_.2.2.1, (v45.2.2.2.2.2 + v89.1), (s35_.2.2.1 + 1), v96, v45.2.1, v45.2.2.1, v45.2.2.2.1, v45.2.2.2.2.1, v45.2.2.2.2.2, k80, v89.2) hF _ _ _ hP hD hS (lv_sub hl [4, 2, 1, 0] rfl)
      refine lp_ind (f := B_X9_bestLimit_51 v21 v45 (K_X9_bestLimit_80 v45 s35_ v21 v25 self35)) (r := r) (P := fun s51_ => ∀ (H : Heap) (locs : List Loc) (ls : Array Slot), va_P D vwCl ((wmdF t h0 a0 0 v45.1 v25 (md_base d0) (md_saved d0) (md_savedMany d0) (md_slots d0) (md_hasSlot d0) (md_text d0) (md_length d0) v7.2.1 v7.2.2.1 v7.2.2.2 v21.1 v21.2.1 v21.2.2.1 v21.2.2.2 v45.2.1 v45.2.2.1 v45.2.2.2.1 v45.2.2.2.2.1 v45.2.2.2.2.2 s51_.2 s35_.2.2.2.2.2.2.2.2.2.2 (md_thinOnes d0))) H → va_D A ((wmdF t h0 a0 0 v45.1 v25 (md_base d0) (md_saved d0) (md_savedMany d0) (md_slots d0) (md_hasSlot d0) (md_text d0) (md_length d0) v7.2.1 v7.2.2.1 v7.2.2.2 v21.1 v21.2.1 v21.2.2.1 v21.2.2.2 v45.2.1 v45.2.2.1 v45.2.2.2.1 v45.2.2.2.2.1 v45.2.2.2.2.2 s51_.2 s35_.2.2.2.2.2.2.2.2.2.2 (md_thinOnes d0))) → va_S A s.heap H locs → lv_has ls 6 [(0, .ref h0), (2, .int s35_.1), (3, .int s35_.2.1), (4, .int s35_.2.2.1), (5, .int s51_.1)] → W p l e ({ frames := 5, cells := 0, slots := 0, locals := 112 } : Room) s m args below meth c H locs 0 0 (MQ below (kQi D (TY t) ((wmd t h0 a0 r.2)) r.1 A) args s 0 0 A) (F0 m 51 ls [])) ?_ FU (0, s35_.2.2.2.2.2.2.2.2.2.1) hF _ _ _ hP hD hS (lv_sub hl [1, 2, 3, 4, 0] rfl)
      intro self51 ih51 s51_ hF H locs ls hP hD hS hl
      refine lv_iload hx hb (kd tdlX9_bestLimit_0 30 rfl) (lv_at hl 4 rfl) ?_
      refine lv_aload_n hx hb (kd tdlX9_bestLimit_0 31 rfl) rfl (lv_at hl 0 rfl) ?_
      refine md_g_chunkMany hx hb hts inX9_ hown hK hP L96 (kd tdlX9_bestLimit_0 32 rfl) ?_
      refine lv_icmp_ge (tgt := 80) hx hb (kd tdlX9_bestLimit_0 33 rfl) (by decide) (fun hc57 => ?_) (fun hc57 => ?_)
      · have hF := kt hc57 hF
        exact hK80 (s51_.2) hF _ _ _ hP hD hS (lv_sub hl [0, 1, 2, 3] rfl)
      · have hF := kf hc57 hF
        refine lv_aload_n hx hb (kd tdlX9_bestLimit_0 34 rfl) rfl (lv_at hl 0 rfl) ?_
        refine md_g_path hx hb hts inX9_ hown hK hP L56 (kd tdlX9_bestLimit_0 35 rfl) ?_
        refine lv_iload hx hb (kd tdlX9_bestLimit_0 36 rfl) (lv_at hl 4 rfl) ?_
        refine lv_aload_n hx hb (kd tdlX9_bestLimit_0 37 rfl) rfl (lv_at hl 0 rfl) ?_
        refine md_g_madeIn hx hb hts inX9_ hown hK hP L50 (kd tdlX9_bestLimit_0 38 rfl) ?_
        refine lv_iload hx hb (kd tdlX9_bestLimit_0 39 rfl) (lv_at hl 4 rfl) ?_
        obtain ⟨hi72, hF⟩ := kg hF
        refine md_l_madeIn hx hb hK hP hi72 (kd tdlX9_bestLimit_0 40 rfl) ?_
        obtain ⟨hi73, hF⟩ := kg hF
        refine md_s_path hx hb hK hP hD hS hi73 (kd tdlX9_bestLimit_0 41 rfl) (fun H locs hP hD hS => ?_)
        refine lv_iinc (v := (s51_.1 + 1)) (lv' := [(5, .int (s51_.1 + 1)), (0, .ref h0), (2, .int s35_.1), (3, .int s35_.2.1), (4, .int s35_.2.2.1)]) hx hb (kd tdlX9_bestLimit_0 42 rfl) hl (k := 4) rfl rfl (by decide) rfl (fun ls hl => ?_)
        refine lv_goto (tgt := 51) hx hb (kd tdlX9_bestLimit_0 43 rfl) (by decide) ?_
        exact ih51 ((s51_.1 + 1), (upd s51_.2 (Int32.toNatClampNeg s51_.1) (v45.2.2.2.1 (Int32.toNatClampNeg s51_.1)))) hF _ _ _ hP hD hS (lv_sub hl [1, 2, 3, 4, 0] rfl)
  · have hF := kt hc10 hF
    refine lv_aload_n hx hb (kd tdlX9_bestLimit_0 7 rfl) rfl (lv_at hl 0 rfl) ?_
    refine lv_iconst (v := 1) hx hb (kd tdlX9_bestLimit_0 8 rfl) (by decide) ?_
    obtain ⟨v15, e15, hF⟩ := kc hF
    refine kc_i0 (w1 := ((wmdF t h0 a0 v15.2 (md_s d0) (md_aside d0) (md_base d0) (md_saved d0) (md_savedMany d0) (md_slots d0) (md_hasSlot d0) (md_text d0) (md_length d0) v7.2.1 v7.2.2.1 v7.2.2.2 (md_letters d0) (md_letterMany d0) (md_chunks d0) (md_chunkMany d0) (md_homes d0) (md_dropped d0) (md_madeIn d0) (md_madeAt d0) (md_putMany d0) (md_path d0) (md_store d0) (md_thinOnes d0)))) hP hD hS hA (kr_V0 (Qx := (fun A => kQi D (TY t) ((wmdF t h0 a0 v15.2 (md_s d0) (md_aside d0) (md_base d0) (md_saved d0) (md_savedMany d0) (md_slots d0) (md_hasSlot d0) (md_text d0) (md_length d0) v7.2.1 v7.2.2.1 v7.2.2.2 (md_letters d0) (md_letterMany d0) (md_chunks d0) (md_chunkMany d0) (md_homes d0) (md_dropped d0) (md_madeIn d0) (md_madeAt d0) (md_putMany d0) (md_path d0) (md_store d0) (md_thinOnes d0))) v15.1 A)) (As := [.int 1]) (rest := []) ⟨hx, hb, hml, hown, hts⟩ hK hP hD (c_X9_fails l D t h0 a0 (0, (md_s d0), (md_aside d0), (md_base d0), (md_saved d0), (md_savedMany d0), (md_slots d0), (md_hasSlot d0), (md_text d0), (md_length d0), v7.2.1, v7.2.2.1, v7.2.2.2, (md_letters d0), (md_letterMany d0), (md_chunks d0), (md_chunkMany d0), (md_homes d0), (md_dropped d0), (md_madeIn d0), (md_madeAt d0), (md_putMany d0), (md_path d0), (md_store d0), (md_thinOnes d0)) _ 1 v15 e15) (cwV 1 hts (gcX9_fails w_153) rfl rfl rfl hdX9_failsV ⟨Nat.le_of_ble_eq_true rfl, Nat.le_of_ble_eq_true rfl⟩) (ci := 8) (q0 := 0) rfl rfl rfl hl.1 rfl (Nat.le_of_ble_eq_true rfl) (kd tdlX9_bestLimit_0 9 rfl) ⟨Nat.zero_le _, Nat.zero_le _⟩) (fun H locs hP hD hS => ?_)
    cases ko hF
    exact ke_i hx hb hr hlocks hK hP hD hS rfl (kd tdlX9_bestLimit_0 10 rfl)
set_option maxHeartbeats 4000000 in
set_option maxRecDepth 100000 in
theorem c_X9_worst (l : Launch) (D : va_G) (t : Nat → ClassId) (h0 : Nat) (a0 : Nat → Nat) (d0 : MDT) (sz : Nat)  (r : Int32 × Int32 × (Nat → Int32) × (Nat → Int32)) (hF : F_X9_worst (md_thrown d0) (md_s d0) (md_path d0) (md_store d0) = some r) : Met l yX9_worst wX9_worst ({ frames := 2, cells := 0, slots := 0, locals := 49 } : Room) (kPc D (TY t) ((wmd t h0 a0 d0)) [.ref h0] sz) (kQi D (TY t) ((wmd t h0 a0 (r.2.1, (md_s d0), (md_aside d0), (md_base d0), (md_saved d0), (md_savedMany d0), (md_slots d0), (md_hasSlot d0), (md_text d0), (md_length d0), (md_begins d0), (md_lengths d0), (md_streams d0), (md_letters d0), (md_letterMany d0), (md_chunks d0), (md_chunkMany d0), (md_homes d0), (md_dropped d0), (md_madeIn d0), (md_madeAt d0), (md_putMany d0), r.2.2.1, r.2.2.2, (md_thinOnes d0)))) r.1 (va_A ((wmd t h0 a0 d0)) sz)) 0 0 (va_A ((wmd t h0 a0 d0)) sz) := by
  refine kE (cc := cX9_worst) (maxL := 5) (ret := (some .int)) (Qx := fun A => kQi D (TY t) ((wmd t h0 a0 (r.2.1, (md_s d0), (md_aside d0), (md_base d0), (md_saved d0), (md_savedMany d0), (md_slots d0), (md_hasSlot d0), (md_text d0), (md_length d0), (md_begins d0), (md_lengths d0), (md_streams d0), (md_letters d0), (md_letterMany d0), (md_chunks d0), (md_chunkMany d0), (md_homes d0), (md_dropped d0), (md_madeIn d0), (md_madeAt d0), (md_putMany d0), r.2.2.1, r.2.2.2, (md_thinOnes d0)))) r.1 A) (lv0 := [(0, .ref h0)]) RX9 rfl (by decide) rfl (Nat.le_of_ble_eq_true rfl) rfl ?_
  intro p e s m args below meth c A ls hx hb hml hr hlocks hown hts hA hK hP hD hS hl
  have L65 := hts (.fieldLink RX9 65 "ChunkCarriersModel" "thrown" "I") (List.mem_cons_of_mem _ w_119)
  have L7 := hts (.fieldLink RX9 7 "ChunkCarriersModel" "s" "[I") (List.mem_cons_of_mem _ w_101)
  have inX9_ : ∀ w ∈ wsX90, w ∈ wX9_worst := fun w h => List.mem_cons_of_mem _ (inlX9 w h)
  have hP : va_P D vwCl ((wmdF t h0 a0 (md_thrown d0) (md_s d0) (md_aside d0) (md_base d0) (md_saved d0) (md_savedMany d0) (md_slots d0) (md_hasSlot d0) (md_text d0) (md_length d0) (md_begins d0) (md_lengths d0) (md_streams d0) (md_letters d0) (md_letterMany d0) (md_chunks d0) (md_chunkMany d0) (md_homes d0) (md_dropped d0) (md_madeIn d0) (md_madeAt d0) (md_putMany d0) (md_path d0) (md_store d0) (md_thinOnes d0))) s.heap := hP
  have hD : va_D A ((wmdF t h0 a0 (md_thrown d0) (md_s d0) (md_aside d0) (md_base d0) (md_saved d0) (md_savedMany d0) (md_slots d0) (md_hasSlot d0) (md_text d0) (md_length d0) (md_begins d0) (md_lengths d0) (md_streams d0) (md_letters d0) (md_letterMany d0) (md_chunks d0) (md_chunkMany d0) (md_homes d0) (md_dropped d0) (md_madeIn d0) (md_madeAt d0) (md_putMany d0) (md_path d0) (md_store d0) (md_thinOnes d0))) := hD
  refine lv_aload_n hx hb (kd tdlX9_worst_0 0 rfl) rfl (lv_at hl 0 rfl) ?_
  refine lv_iconst (v := 0) hx hb (kd tdlX9_worst_0 1 rfl) (by decide) ?_
  refine md_p_thrown hx hb hts inX9_ hown hK hP hD hS L65 (kd tdlX9_worst_0 2 rfl) (fun H locs hP hD hS => ?_)
  refine lv_iconst (v := (-1)) hx hb (kd tdlX9_worst_0 3 rfl) (by decide) ?_
  refine lv_istore_n (lv' := [(1, .int (-1)), (0, .ref h0)]) hx hb (kd tdlX9_worst_0 4 rfl) rfl hl (by decide) rfl (fun ls hl => ?_)
  refine lv_iconst (v := 0) hx hb (kd tdlX9_worst_0 5 rfl) (by decide) ?_
  refine lv_istore_n (lv' := [(2, .int 0), (1, .int (-1)), (0, .ref h0)]) hx hb (kd tdlX9_worst_0 6 rfl) rfl hl (by decide) rfl (fun ls hl => ?_)
  refine lv_iconst (v := 0) hx hb (kd tdlX9_worst_0 7 rfl) (by decide) ?_
  refine lv_istore_n (lv' := [(3, .int 0), (2, .int 0), (1, .int (-1)), (0, .ref h0)]) hx hb (kd tdlX9_worst_0 8 rfl) rfl hl (by decide) rfl (fun ls hl => ?_)
  refine lp_ind (f := B_X9_worst_11 (md_s d0)) (r := r) (P := fun s11_ => ∀ (H : Heap) (locs : List Loc) (ls : Array Slot), va_P D vwCl ((wmdF t h0 a0 0 (md_s d0) (md_aside d0) (md_base d0) (md_saved d0) (md_savedMany d0) (md_slots d0) (md_hasSlot d0) (md_text d0) (md_length d0) (md_begins d0) (md_lengths d0) (md_streams d0) (md_letters d0) (md_letterMany d0) (md_chunks d0) (md_chunkMany d0) (md_homes d0) (md_dropped d0) (md_madeIn d0) (md_madeAt d0) (md_putMany d0) s11_.2.2.2.1 s11_.2.2.2.2 (md_thinOnes d0))) H → va_D A ((wmdF t h0 a0 0 (md_s d0) (md_aside d0) (md_base d0) (md_saved d0) (md_savedMany d0) (md_slots d0) (md_hasSlot d0) (md_text d0) (md_length d0) (md_begins d0) (md_lengths d0) (md_streams d0) (md_letters d0) (md_letterMany d0) (md_chunks d0) (md_chunkMany d0) (md_homes d0) (md_dropped d0) (md_madeIn d0) (md_madeAt d0) (md_putMany d0) s11_.2.2.2.1 s11_.2.2.2.2 (md_thinOnes d0))) → va_S A s.heap H locs → lv_has ls 5 [(0, .ref h0), (1, .int s11_.1), (2, .int s11_.2.1), (3, .int s11_.2.2.1)] → W p l e ({ frames := 2, cells := 0, slots := 0, locals := 49 } : Room) s m args below meth c H locs 0 0 (MQ below (kQi D (TY t) ((wmd t h0 a0 (r.2.1, (md_s d0), (md_aside d0), (md_base d0), (md_saved d0), (md_savedMany d0), (md_slots d0), (md_hasSlot d0), (md_text d0), (md_length d0), (md_begins d0), (md_lengths d0), (md_streams d0), (md_letters d0), (md_letterMany d0), (md_chunks d0), (md_chunkMany d0), (md_homes d0), (md_dropped d0), (md_madeIn d0), (md_madeAt d0), (md_putMany d0), r.2.2.1, r.2.2.2, (md_thinOnes d0)))) r.1 A) args s 0 0 A) (F0 m 11 ls [])) ?_ FU ((-1), 0, 0, (md_path d0), (md_store d0)) hF _ _ _ hP hD hS (lv_sub hl [3, 2, 1, 0] rfl)
  intro self11 ih11 s11_ hF H locs ls hP hD hS hl
  refine lv_iload_n hx hb (kd tdlX9_worst_0 9 rfl) rfl (lv_at hl 3 rfl) ?_
  refine lv_bipush (v := 8) hx hb (kd tdlX9_worst_0 10 rfl) (by decide) ?_
  refine lv_icmp_ge (tgt := 61) hx hb (kd tdlX9_worst_0 11 rfl) (by decide) (fun hc14 => ?_) (fun hc14 => ?_)
  · have hF := kt hc14 hF
    refine lv_iload_n hx hb (kd tdlX9_worst_0 37 rfl) rfl (lv_at hl 1 rfl) ?_
    cases ko hF
    exact ke_i hx hb hr hlocks hK hP hD hS rfl (kd tdlX9_worst_0 38 rfl)
  · have hF := kf hc14 hF
    refine lv_aload_n hx hb (kd tdlX9_worst_0 12 rfl) rfl (lv_at hl 0 rfl) ?_
    refine md_g_s hx hb hts inX9_ hown hK hP L7 (kd tdlX9_worst_0 13 rfl) ?_
    refine lv_aload_n hx hb (kd tdlX9_worst_0 14 rfl) rfl (lv_at hl 0 rfl) ?_
    refine lv_iload_n hx hb (kd tdlX9_worst_0 15 rfl) rfl (lv_at hl 3 rfl) ?_
    obtain ⟨v23, e23, hF⟩ := kc hF
    refine kc_i0 (w1 := ((wmdF t h0 a0 0 (md_s d0) (md_aside d0) (md_base d0) (md_saved d0) (md_savedMany d0) (md_slots d0) (md_hasSlot d0) (md_text d0) (md_length d0) (md_begins d0) (md_lengths d0) (md_streams d0) (md_letters d0) (md_letterMany d0) (md_chunks d0) (md_chunkMany d0) (md_homes d0) (md_dropped d0) (md_madeIn d0) (md_madeAt d0) (md_putMany d0) s11_.2.2.2.1 s11_.2.2.2.2 (md_thinOnes d0)))) hP hD hS hA (kr_V0 (Qx := (fun A => kQi D (TY t) ((wmdF t h0 a0 0 (md_s d0) (md_aside d0) (md_base d0) (md_saved d0) (md_savedMany d0) (md_slots d0) (md_hasSlot d0) (md_text d0) (md_length d0) (md_begins d0) (md_lengths d0) (md_streams d0) (md_letters d0) (md_letterMany d0) (md_chunks d0) (md_chunkMany d0) (md_homes d0) (md_dropped d0) (md_madeIn d0) (md_madeAt d0) (md_putMany d0) s11_.2.2.2.1 s11_.2.2.2.2 (md_thinOnes d0))) v23 A)) (As := [.int s11_.2.2.1]) (rest := [.ref (a0 0)]) ⟨hx, hb, hml, hown, hts⟩ hK hP hD (c_X9_backupAt l D t h0 a0 (0, (md_s d0), (md_aside d0), (md_base d0), (md_saved d0), (md_savedMany d0), (md_slots d0), (md_hasSlot d0), (md_text d0), (md_length d0), (md_begins d0), (md_lengths d0), (md_streams d0), (md_letters d0), (md_letterMany d0), (md_chunks d0), (md_chunkMany d0), (md_homes d0), (md_dropped d0), (md_madeIn d0), (md_madeAt d0), (md_putMany d0), s11_.2.2.2.1, s11_.2.2.2.2, (md_thinOnes d0)) _ s11_.2.2.1 v23 e23) (cwV 1 hts (gcX9_backupAt w_382) rfl rfl rfl hdX9_backupAtV ⟨Nat.le_of_ble_eq_true rfl, Nat.le_of_ble_eq_true rfl⟩) (ci := 8) (q0 := 0) rfl rfl rfl hl.1 rfl (Nat.le_of_ble_eq_true rfl) (kd tdlX9_worst_0 16 rfl) ⟨Nat.zero_le _, Nat.zero_le _⟩) (fun H locs hP hD hS => ?_)
    refine lv_iconst (v := 0) hx hb (kd tdlX9_worst_0 17 rfl) (by decide) ?_
    refine lv_iadd hx hb (kd tdlX9_worst_0 18 rfl) ?_
    obtain ⟨hi28, hF⟩ := kg hF
    refine md_l_s hx hb hK hP hi28 (kd tdlX9_worst_0 19 rfl) ?_
    refine lv_iconst (v := 1) hx hb (kd tdlX9_worst_0 20 rfl) (by decide) ?_
    have hJ42 : ∀ j42 : Int32 × (Nat → Int32) × (Nat → Int32), J_X9_worst_42 s11_ self11 j42 = some r → ∀ (H : Heap) (locs : List Loc) (ls : Array Slot), va_P D vwCl ((wmdF t h0 a0 0 (md_s d0) (md_aside d0) (md_base d0) (md_saved d0) (md_savedMany d0) (md_slots d0) (md_hasSlot d0) (md_text d0) (md_length d0) (md_begins d0) (md_lengths d0) (md_streams d0) (md_letters d0) (md_letterMany d0) (md_chunks d0) (md_chunkMany d0) (md_homes d0) (md_dropped d0) (md_madeIn d0) (md_madeAt d0) (md_putMany d0) j42.2.1 j42.2.2 (md_thinOnes d0))) H → va_D A ((wmdF t h0 a0 0 (md_s d0) (md_aside d0) (md_base d0) (md_saved d0) (md_savedMany d0) (md_slots d0) (md_hasSlot d0) (md_text d0) (md_length d0) (md_begins d0) (md_lengths d0) (md_streams d0) (md_letters d0) (md_letterMany d0) (md_chunks d0) (md_chunkMany d0) (md_homes d0) (md_dropped d0) (md_madeIn d0) (md_madeAt d0) (md_putMany d0) j42.2.1 j42.2.2 (md_thinOnes d0))) → va_S A s.heap H locs → lv_has ls 5 [(0, .ref h0), (1, .int s11_.1), (2, .int s11_.2.1), (3, .int s11_.2.2.1)] → W p l e ({ frames := 2, cells := 0, slots := 0, locals := 49 } : Room) s m args below meth c H locs 0 0 (MQ below (kQi D (TY t) ((wmd t h0 a0 (r.2.1, (md_s d0), (md_aside d0), (md_base d0), (md_saved d0), (md_savedMany d0), (md_slots d0), (md_hasSlot d0), (md_text d0), (md_length d0), (md_begins d0), (md_lengths d0), (md_streams d0), (md_letters d0), (md_letterMany d0), (md_chunks d0), (md_chunkMany d0), (md_homes d0), (md_dropped d0), (md_madeIn d0), (md_madeAt d0), (md_putMany d0), r.2.2.1, r.2.2.2, (md_thinOnes d0)))) r.1 A) args s 0 0 A) (F0 m 42 ls [.int j42.1]) := by
      intro j42 hF H locs ls hP hD hS hl
      refine lv_istore (lv' := [(4, .int j42.1), (0, .ref h0), (1, .int s11_.1), (2, .int s11_.2.1), (3, .int s11_.2.2.1)]) hx hb (kd tdlX9_worst_0 27 rfl) hl (by decide) rfl (fun ls hl => ?_)
      refine lv_iload hx hb (kd tdlX9_worst_0 28 rfl) (lv_at hl 0 rfl) ?_
      refine lv_iload_n hx hb (kd tdlX9_worst_0 29 rfl) rfl (lv_at hl 3 rfl) ?_
      refine lv_icmp_le (tgt := 55) hx hb (kd tdlX9_worst_0 30 rfl) (by decide) (fun hc47 => ?_) (fun hc47 => ?_)
      · have hF := kt hc47 hF
        refine lv_iinc (v := (s11_.2.2.1 + 1)) (lv' := [(3, .int (s11_.2.2.1 + 1)), (4, .int j42.1), (0, .ref h0), (1, .int s11_.1), (2, .int s11_.2.1)]) hx hb (kd tdlX9_worst_0 35 rfl) hl (k := 4) rfl rfl (by decide) rfl (fun ls hl => ?_)
        refine lv_goto (tgt := 11) hx hb (kd tdlX9_worst_0 36 rfl) (by decide) ?_
        exact ih11 (s11_.1, s11_.2.1, (s11_.2.2.1 + 1), j42.2.1, j42.2.2) hF _ _ _ hP hD hS (lv_sub hl [2, 3, 4, 0] rfl)
      · have hF := kf hc47 hF
        refine lv_iload_n hx hb (kd tdlX9_worst_0 31 rfl) rfl (lv_at hl 4 rfl) ?_
        refine lv_istore_n (lv' := [(1, .int s11_.2.2.1), (4, .int j42.1), (0, .ref h0), (2, .int s11_.2.1), (3, .int s11_.2.2.1)]) hx hb (kd tdlX9_worst_0 32 rfl) rfl hl (by decide) rfl (fun ls hl => ?_)
        refine lv_iload hx hb (kd tdlX9_worst_0 33 rfl) (lv_at hl 1 rfl) ?_
        refine lv_istore_n (lv' := [(2, .int j42.1), (1, .int s11_.2.2.1), (4, .int j42.1), (0, .ref h0), (3, .int s11_.2.2.1)]) hx hb (kd tdlX9_worst_0 34 rfl) rfl hl (by decide) rfl (fun ls hl => ?_)
        refine lv_iinc (v := (s11_.2.2.1 + 1)) (lv' := [(3, .int (s11_.2.2.1 + 1)), (2, .int j42.1), (1, .int s11_.2.2.1), (4, .int j42.1), (0, .ref h0)]) hx hb (kd tdlX9_worst_0 35 rfl) hl (k := 4) rfl rfl (by decide) rfl (fun ls hl => ?_)
        refine lv_goto (tgt := 11) hx hb (kd tdlX9_worst_0 36 rfl) (by decide) ?_
        exact ih11 (s11_.2.2.1, j42.1, (s11_.2.2.1 + 1), j42.2.1, j42.2.2) hF _ _ _ hP hD hS (lv_sub hl [4, 2, 1, 0] rfl)
    refine lv_icmp_ne (tgt := 41) hx hb (kd tdlX9_worst_0 21 rfl) (by decide) (fun hc30 => ?_) (fun hc30 => ?_)
    · have hF := kf hc30 hF
      refine lv_iconst (v := 0) hx hb (kd tdlX9_worst_0 26 rfl) (by decide) ?_
      exact hJ42 (0, s11_.2.2.2.1, s11_.2.2.2.2) hF _ _ _ hP hD hS (lv_sub hl [0, 1, 2, 3] rfl)
    · have hF := kt hc30 hF
      refine lv_aload_n hx hb (kd tdlX9_worst_0 22 rfl) rfl (lv_at hl 0 rfl) ?_
      refine lv_iload_n hx hb (kd tdlX9_worst_0 23 rfl) rfl (lv_at hl 3 rfl) ?_
      obtain ⟨v35, e35, hF⟩ := kc hF
      refine kc_i0 (w1 := ((wmdF t h0 a0 0 (md_s d0) (md_aside d0) (md_base d0) (md_saved d0) (md_savedMany d0) (md_slots d0) (md_hasSlot d0) (md_text d0) (md_length d0) (md_begins d0) (md_lengths d0) (md_streams d0) (md_letters d0) (md_letterMany d0) (md_chunks d0) (md_chunkMany d0) (md_homes d0) (md_dropped d0) (md_madeIn d0) (md_madeAt d0) (md_putMany d0) v35.2.1 v35.2.2 (md_thinOnes d0)))) hP hD hS hA (kr_V0 (Qx := (fun A => kQi D (TY t) ((wmdF t h0 a0 0 (md_s d0) (md_aside d0) (md_base d0) (md_saved d0) (md_savedMany d0) (md_slots d0) (md_hasSlot d0) (md_text d0) (md_length d0) (md_begins d0) (md_lengths d0) (md_streams d0) (md_letters d0) (md_letterMany d0) (md_chunks d0) (md_chunkMany d0) (md_homes d0) (md_dropped d0) (md_madeIn d0) (md_madeAt d0) (md_putMany d0) v35.2.1 v35.2.2 (md_thinOnes d0))) v35.1 A)) (As := [.int s11_.2.2.1]) (rest := []) ⟨hx, hb, hml, hown, hts⟩ hK hP hD (c_X9_loadsOf l D t h0 a0 (0, (md_s d0), (md_aside d0), (md_base d0), (md_saved d0), (md_savedMany d0), (md_slots d0), (md_hasSlot d0), (md_text d0), (md_length d0), (md_begins d0), (md_lengths d0), (md_streams d0), (md_letters d0), (md_letterMany d0), (md_chunks d0), (md_chunkMany d0), (md_homes d0), (md_dropped d0), (md_madeIn d0), (md_madeAt d0), (md_putMany d0), s11_.2.2.2.1, s11_.2.2.2.2, (md_thinOnes d0)) _ s11_.2.2.1 v35 e35) (cwV 1 hts (gcX9_loadsOf w_576) rfl rfl rfl hdX9_loadsOfV ⟨Nat.le_of_ble_eq_true rfl, Nat.le_of_ble_eq_true rfl⟩) (ci := 8) (q0 := 0) rfl rfl rfl hl.1 rfl (Nat.le_of_ble_eq_true rfl) (kd tdlX9_worst_0 24 rfl) ⟨Nat.zero_le _, Nat.zero_le _⟩) (fun H locs hP hD hS => ?_)
      refine lv_goto (tgt := 42) hx hb (kd tdlX9_worst_0 25 rfl) (by decide) ?_
      exact hJ42 (v35.1, v35.2.1, v35.2.2) hF _ _ _ hP hD hS (lv_sub hl [0, 1, 2, 3] rfl)
set_option maxHeartbeats 4000000 in
set_option maxRecDepth 100000 in
theorem c_X9_does (l : Launch) (D : va_G) (t : Nat → ClassId) (h0 : Nat) (a0 : Nat → Nat) (d0 : MDT) (sz : Nat) (p1 : Int32) (p2 : Int32) (p3 : Int32) (p4 : Int32) (r : Int32 × MDT) (hF : F_X9_does d0 p1 p2 p3 p4 = some r) : Met l yX9_does wX9_does ({ frames := 6, cells := 0, slots := 0, locals := 135 } : Room) (kPc D (TY t) ((wmd t h0 a0 d0)) [.ref h0, .int p1, .int p2, .int p3, .int p4] sz) (kQi D (TY t) ((wmd t h0 a0 r.2)) r.1 (va_A ((wmd t h0 a0 d0)) sz)) 0 0 (va_A ((wmd t h0 a0 d0)) sz) := by
  refine kE (cc := cX9_does) (maxL := 6) (ret := (some .boolean)) (Qx := fun A => kQi D (TY t) ((wmd t h0 a0 r.2)) r.1 A) (lv0 := [(0, .ref h0), (1, .int p1), (2, .int p2), (3, .int p3), (4, .int p4)]) RX9 rfl (by decide) rfl (Nat.le_of_ble_eq_true rfl) rfl ?_
  intro p e s m args below meth c A ls hx hb hml hr hlocks hown hts hA hK hP hD hS hl
  have L7 := hts (.fieldLink RX9 7 "ChunkCarriersModel" "s" "[I") (List.mem_cons_of_mem _ w_101)
  have inX9_ : ∀ w ∈ wsX90, w ∈ wX9_does := fun w h => List.mem_cons_of_mem _ (inlX9 w h)
  have hP : va_P D vwCl ((wmdF t h0 a0 (md_thrown d0) (md_s d0) (md_aside d0) (md_base d0) (md_saved d0) (md_savedMany d0) (md_slots d0) (md_hasSlot d0) (md_text d0) (md_length d0) (md_begins d0) (md_lengths d0) (md_streams d0) (md_letters d0) (md_letterMany d0) (md_chunks d0) (md_chunkMany d0) (md_homes d0) (md_dropped d0) (md_madeIn d0) (md_madeAt d0) (md_putMany d0) (md_path d0) (md_store d0) (md_thinOnes d0))) s.heap := hP
  have hD : va_D A ((wmdF t h0 a0 (md_thrown d0) (md_s d0) (md_aside d0) (md_base d0) (md_saved d0) (md_savedMany d0) (md_slots d0) (md_hasSlot d0) (md_text d0) (md_length d0) (md_begins d0) (md_lengths d0) (md_streams d0) (md_letters d0) (md_letterMany d0) (md_chunks d0) (md_chunkMany d0) (md_homes d0) (md_dropped d0) (md_madeIn d0) (md_madeAt d0) (md_putMany d0) (md_path d0) (md_store d0) (md_thinOnes d0))) := hD
  refine lv_bipush (v := 10) hx hb (kd tdlX9_does_0 0 rfl) (by decide) ?_
  refine lv_iload_n hx hb (kd tdlX9_does_0 1 rfl) rfl (lv_at hl 3 rfl) ?_
  refine lv_imul hx hb (kd tdlX9_does_0 2 rfl) ?_
  refine lv_iload hx hb (kd tdlX9_does_0 3 rfl) (lv_at hl 4 rfl) ?_
  refine lv_iadd hx hb (kd tdlX9_does_0 4 rfl) ?_
  refine lv_istore (lv' := [(5, .int ((10 * p3) + p4)), (0, .ref h0), (1, .int p1), (2, .int p2), (3, .int p3), (4, .int p4)]) hx hb (kd tdlX9_does_0 5 rfl) hl (by decide) rfl (fun ls hl => ?_)
  refine lv_iload_n hx hb (kd tdlX9_does_0 6 rfl) rfl (lv_at hl 2 rfl) ?_
  by_cases hw10 : (Int32.toInt p1 < 1 ∨ 8 < Int32.toInt p1)
  · have hF := kt hw10 hF
    refine lv_tableOut (tgt := 236) hx hb (kd tdlX9_does_0 7 rfl) hw10 (by decide) ?_
    refine lv_iconst (v := 0) hx hb (kd tdlX9_does_2 20 rfl) (by decide) ?_
    cases ko hF
    exact ke_z hx hb hr hlocks rfl hK hP hD hS rfl (kd tdlX9_does_2 21 rfl)
  · have hF := kf hw10 hF
    by_cases hv10_0 : p1 = 1
    · have hF := kt hv10_0 hF
      refine ksw (n := 1) (off := (46)) (tgt := 56) hx hb (kd tdlX9_does_0 7 rfl) hv10_0 (by decide) (by decide) (by decide) (by decide) ?_
      refine lv_iload hx hb (kd tdlX9_does_0 8 rfl) (lv_at hl 0 rfl) ?_
      refine lv_if_ne (tgt := 69) hx hb (kd tdlX9_does_0 9 rfl) (by decide) (fun hc58 => ?_) (fun hc58 => ?_)
      · have hF := kf hc58 hF
        refine lv_iconst (v := 0) hx hb (kd tdlX9_does_0 14 rfl) (by decide) ?_
        cases ko hF
        exact ke_z hx hb hr hlocks rfl hK hP hD hS rfl (kd tdlX9_does_0 15 rfl)
      · have hF := kt hc58 hF
        refine lv_aload_n hx hb (kd tdlX9_does_0 10 rfl) rfl (lv_at hl 1 rfl) ?_
        refine lv_iload_n hx hb (kd tdlX9_does_0 11 rfl) rfl (lv_at hl 3 rfl) ?_
        obtain ⟨v63, e63, hF⟩ := kc hF
        refine kc_i0 (w1 := ((wmdF t h0 a0 (md_thrown d0) (md_s d0) (md_aside d0) (md_base d0) (md_saved d0) (md_savedMany d0) (md_slots d0) (md_hasSlot d0) (md_text d0) (md_length d0) v63.2.1 v63.2.2.1 v63.2.2.2 (md_letters d0) (md_letterMany d0) (md_chunks d0) (md_chunkMany d0) (md_homes d0) (md_dropped d0) (md_madeIn d0) (md_madeAt d0) (md_putMany d0) (md_path d0) (md_store d0) (md_thinOnes d0)))) hP hD hS hA (kr_V0 (Qx := (fun A => kQi D (TY t) ((wmdF t h0 a0 (md_thrown d0) (md_s d0) (md_aside d0) (md_base d0) (md_saved d0) (md_savedMany d0) (md_slots d0) (md_hasSlot d0) (md_text d0) (md_length d0) v63.2.1 v63.2.2.1 v63.2.2.2 (md_letters d0) (md_letterMany d0) (md_chunks d0) (md_chunkMany d0) (md_homes d0) (md_dropped d0) (md_madeIn d0) (md_madeAt d0) (md_putMany d0) (md_path d0) (md_store d0) (md_thinOnes d0))) v63.1 A)) (As := [.int p2]) (rest := []) ⟨hx, hb, hml, hown, hts⟩ hK hP hD (c_X9_isStream l D t h0 a0 d0 _ p2 v63 e63) (cwV 1 hts (gcX9_isStream w_276) rfl rfl rfl hdX9_isStreamV ⟨Nat.le_of_ble_eq_true rfl, Nat.le_of_ble_eq_true rfl⟩) (ci := 8) (q0 := 0) rfl rfl rfl hl.1 rfl (Nat.le_of_ble_eq_true rfl) (kd tdlX9_does_0 12 rfl) ⟨Nat.zero_le _, Nat.zero_le _⟩) (fun H locs hP hD hS => ?_)
        refine lv_if_ne (tgt := 71) hx hb (kd tdlX9_does_0 13 rfl) (by decide) (fun hc66 => ?_) (fun hc66 => ?_)
        · have hF := kf hc66 hF
          refine lv_aload_n hx hb (kd tdlX9_does_0 16 rfl) rfl (lv_at hl 1 rfl) ?_
          refine lv_iload_n hx hb (kd tdlX9_does_0 17 rfl) rfl (lv_at hl 3 rfl) ?_
          obtain ⟨v73, e73, hF⟩ := kc hF
          refine kc_v0 (w1 := ((wmdF t h0 a0 (md_thrown d0) (md_s d0) (md_aside d0) (md_base d0) (md_saved d0) (md_savedMany d0) (md_slots d0) (md_hasSlot d0) (md_text d0) (md_length d0) v63.2.1 v63.2.2.1 v63.2.2.2 v73.1 v73.2.1 v73.2.2.1 v73.2.2.2 (md_homes d0) (md_dropped d0) (md_madeIn d0) (md_madeAt d0) (md_putMany d0) (md_path d0) (md_store d0) (md_thinOnes d0)))) hP hD hS hA (kr_V0 (Qx := (fun A => kQv D (TY t) ((wmdF t h0 a0 (md_thrown d0) (md_s d0) (md_aside d0) (md_base d0) (md_saved d0) (md_savedMany d0) (md_slots d0) (md_hasSlot d0) (md_text d0) (md_length d0) v63.2.1 v63.2.2.1 v63.2.2.2 v73.1 v73.2.1 v73.2.2.1 v73.2.2.2 (md_homes d0) (md_dropped d0) (md_madeIn d0) (md_madeAt d0) (md_putMany d0) (md_path d0) (md_store d0) (md_thinOnes d0))) A)) (As := [.int p2]) (rest := []) ⟨hx, hb, hml, hown, hts⟩ hK hP hD (c_X9_laysStream l D t h0 a0 ((md_thrown d0), (md_s d0), (md_aside d0), (md_base d0), (md_saved d0), (md_savedMany d0), (md_slots d0), (md_hasSlot d0), (md_text d0), (md_length d0), v63.2.1, v63.2.2.1, v63.2.2.2, (md_letters d0), (md_letterMany d0), (md_chunks d0), (md_chunkMany d0), (md_homes d0), (md_dropped d0), (md_madeIn d0), (md_madeAt d0), (md_putMany d0), (md_path d0), (md_store d0), (md_thinOnes d0)) _ p2 v73 e73) (cwV 1 hts (gcX9_laysStream w_280) rfl rfl rfl hdX9_laysStreamV ⟨Nat.le_of_ble_eq_true rfl, Nat.le_of_ble_eq_true rfl⟩) (ci := 8) (q0 := 0) rfl rfl rfl hl.1 rfl (Nat.le_of_ble_eq_true rfl) (kd tdlX9_does_0 18 rfl) ⟨Nat.zero_le _, Nat.zero_le _⟩) (fun H locs hP hD hS => ?_)
          refine lv_aload_n hx hb (kd tdlX9_does_0 19 rfl) rfl (lv_at hl 1 rfl) ?_
          obtain ⟨v77, e77, hF⟩ := kc hF
          refine kc_i0 (w1 := ((wmdF t h0 a0 (md_thrown v77.2) (md_s v77.2) (md_aside v77.2) (md_base v77.2) (md_saved v77.2) (md_savedMany v77.2) (md_slots v77.2) (md_hasSlot v77.2) (md_text v77.2) (md_length v77.2) (md_begins v77.2) (md_lengths v77.2) (md_streams v77.2) (md_letters v77.2) (md_letterMany v77.2) (md_chunks v77.2) (md_chunkMany v77.2) (md_homes v77.2) (md_dropped v77.2) (md_madeIn v77.2) (md_madeAt v77.2) (md_putMany v77.2) (md_path v77.2) (md_store v77.2) (md_thinOnes v77.2)))) hP hD hS hA (kr_V0 (Qx := (fun A => kQi D (TY t) ((wmdF t h0 a0 (md_thrown v77.2) (md_s v77.2) (md_aside v77.2) (md_base v77.2) (md_saved v77.2) (md_savedMany v77.2) (md_slots v77.2) (md_hasSlot v77.2) (md_text v77.2) (md_length v77.2) (md_begins v77.2) (md_lengths v77.2) (md_streams v77.2) (md_letters v77.2) (md_letterMany v77.2) (md_chunks v77.2) (md_chunkMany v77.2) (md_homes v77.2) (md_dropped v77.2) (md_madeIn v77.2) (md_madeAt v77.2) (md_putMany v77.2) (md_path v77.2) (md_store v77.2) (md_thinOnes v77.2))) v77.1 A)) (As := []) (rest := []) ⟨hx, hb, hml, hown, hts⟩ hK hP hD (c_X9_backs l D t h0 a0 ((md_thrown d0), (md_s d0), (md_aside d0), (md_base d0), (md_saved d0), (md_savedMany d0), (md_slots d0), (md_hasSlot d0), (md_text d0), (md_length d0), v63.2.1, v63.2.2.1, v63.2.2.2, v73.1, v73.2.1, v73.2.2.1, v73.2.2.2, (md_homes d0), (md_dropped d0), (md_madeIn d0), (md_madeAt d0), (md_putMany d0), (md_path d0), (md_store d0), (md_thinOnes d0)) _  v77 e77) (cwV 0 hts (gcX9_backs w_726) rfl rfl rfl hdX9_backsV ⟨Nat.le_of_ble_eq_true rfl, Nat.le_of_ble_eq_true rfl⟩) (ci := 8) (q0 := 0) rfl rfl rfl hl.1 rfl (Nat.le_of_ble_eq_true rfl) (kd tdlX9_does_0 20 rfl) ⟨Nat.zero_le _, Nat.zero_le _⟩) (fun H locs hP hD hS => ?_)
          refine lv_iconst (v := (-1)) hx hb (kd tdlX9_does_0 21 rfl) (by decide) ?_
          refine lv_icmp_eq (tgt := 88) hx hb (kd tdlX9_does_0 22 rfl) (by decide) (fun hc81 => ?_) (fun hc81 => ?_)
          · have hF := kt hc81 hF
            refine lv_iconst (v := 0) hx hb (kd tdlX9_does_0 25 rfl) (by decide) ?_
            cases ko hF
            exact ke_z hx hb hr hlocks rfl hK hP hD hS rfl (kd tdlX9_does_0 26 rfl)
          · have hF := kf hc81 hF
            refine lv_iconst (v := 1) hx hb (kd tdlX9_does_0 23 rfl) (by decide) ?_
            refine lv_goto (tgt := 89) hx hb (kd tdlX9_does_0 24 rfl) (by decide) ?_
            cases ko hF
            exact ke_z hx hb hr hlocks rfl hK hP hD hS rfl (kd tdlX9_does_0 26 rfl)
        · have hF := kt hc66 hF
          refine lv_iconst (v := 0) hx hb (kd tdlX9_does_0 14 rfl) (by decide) ?_
          cases ko hF
          exact ke_z hx hb hr hlocks rfl hK hP hD hS rfl (kd tdlX9_does_0 15 rfl)
    · have hF := kf hv10_0 hF
      by_cases hv10_1 : p1 = 2
      · have hF := kt hv10_1 hF
        refine ksw (n := 2) (off := (80)) (tgt := 90) hx hb (kd tdlX9_does_0 7 rfl) hv10_1 (by decide) (by decide) (by decide) (by decide) ?_
        refine lv_iload hx hb (kd tdlX9_does_0 27 rfl) (lv_at hl 0 rfl) ?_
        refine lv_if_ne (tgt := 103) hx hb (kd tdlX9_does_0 28 rfl) (by decide) (fun hc92 => ?_) (fun hc92 => ?_)
        · have hF := kf hc92 hF
          refine lv_iconst (v := 0) hx hb (kd tdlX9_does_0 33 rfl) (by decide) ?_
          cases ko hF
          exact ke_z hx hb hr hlocks rfl hK hP hD hS rfl (kd tdlX9_does_0 34 rfl)
        · have hF := kt hc92 hF
          refine lv_aload_n hx hb (kd tdlX9_does_0 29 rfl) rfl (lv_at hl 1 rfl) ?_
          refine lv_iload_n hx hb (kd tdlX9_does_0 30 rfl) rfl (lv_at hl 3 rfl) ?_
          obtain ⟨v97, e97, hF⟩ := kc hF
          refine kc_i0 (w1 := ((wmdF t h0 a0 (md_thrown d0) (md_s d0) (md_aside d0) (md_base d0) (md_saved d0) (md_savedMany d0) (md_slots d0) (md_hasSlot d0) (md_text d0) (md_length d0) (md_begins d0) (md_lengths d0) (md_streams d0) (md_letters d0) (md_letterMany d0) (md_chunks d0) (md_chunkMany d0) (md_homes d0) (md_dropped d0) (md_madeIn d0) (md_madeAt d0) (md_putMany d0) (md_path d0) (md_store d0) (md_thinOnes d0)))) hP hD hS hA (kr_V0 (Qx := (fun A => kQi D (TY t) ((wmdF t h0 a0 (md_thrown d0) (md_s d0) (md_aside d0) (md_base d0) (md_saved d0) (md_savedMany d0) (md_slots d0) (md_hasSlot d0) (md_text d0) (md_length d0) (md_begins d0) (md_lengths d0) (md_streams d0) (md_letters d0) (md_letterMany d0) (md_chunks d0) (md_chunkMany d0) (md_homes d0) (md_dropped d0) (md_madeIn d0) (md_madeAt d0) (md_putMany d0) (md_path d0) (md_store d0) (md_thinOnes d0))) v97 A)) (As := [.int p2]) (rest := []) ⟨hx, hb, hml, hown, hts⟩ hK hP hD (c_X9_isBackup l D t h0 a0 d0 _ p2 v97 e97) (cwV 1 hts (gcX9_isBackup w_564) rfl rfl rfl hdX9_isBackupV ⟨Nat.le_of_ble_eq_true rfl, Nat.le_of_ble_eq_true rfl⟩) (ci := 8) (q0 := 0) rfl rfl rfl hl.1 rfl (Nat.le_of_ble_eq_true rfl) (kd tdlX9_does_0 31 rfl) ⟨Nat.zero_le _, Nat.zero_le _⟩) (fun H locs hP hD hS => ?_)
          refine lv_if_ne (tgt := 105) hx hb (kd tdlX9_does_0 32 rfl) (by decide) (fun hc100 => ?_) (fun hc100 => ?_)
          · have hF := kf hc100 hF
            refine lv_aload_n hx hb (kd tdlX9_does_0 35 rfl) rfl (lv_at hl 1 rfl) ?_
            refine lv_iload_n hx hb (kd tdlX9_does_0 36 rfl) rfl (lv_at hl 3 rfl) ?_
            obtain ⟨v107, e107, hF⟩ := kc hF
            refine kc_v0 (w1 := ((wmdF t h0 a0 (md_thrown d0) v107 (md_aside d0) (md_base d0) (md_saved d0) (md_savedMany d0) (md_slots d0) (md_hasSlot d0) (md_text d0) (md_length d0) (md_begins d0) (md_lengths d0) (md_streams d0) (md_letters d0) (md_letterMany d0) (md_chunks d0) (md_chunkMany d0) (md_homes d0) (md_dropped d0) (md_madeIn d0) (md_madeAt d0) (md_putMany d0) (md_path d0) (md_store d0) (md_thinOnes d0)))) hP hD hS hA (kr_V0 (Qx := (fun A => kQv D (TY t) ((wmdF t h0 a0 (md_thrown d0) v107 (md_aside d0) (md_base d0) (md_saved d0) (md_savedMany d0) (md_slots d0) (md_hasSlot d0) (md_text d0) (md_length d0) (md_begins d0) (md_lengths d0) (md_streams d0) (md_letters d0) (md_letterMany d0) (md_chunks d0) (md_chunkMany d0) (md_homes d0) (md_dropped d0) (md_madeIn d0) (md_madeAt d0) (md_putMany d0) (md_path d0) (md_store d0) (md_thinOnes d0))) A)) (As := [.int p2]) (rest := []) ⟨hx, hb, hml, hown, hts⟩ hK hP hD (c_X9_removes l D t h0 a0 d0 _ p2 v107 e107) (cwV 1 hts (gcX9_removes w_783) rfl rfl rfl hdX9_removesV ⟨Nat.le_of_ble_eq_true rfl, Nat.le_of_ble_eq_true rfl⟩) (ci := 8) (q0 := 0) rfl rfl rfl hl.1 rfl (Nat.le_of_ble_eq_true rfl) (kd tdlX9_does_0 37 rfl) ⟨Nat.zero_le _, Nat.zero_le _⟩) (fun H locs hP hD hS => ?_)
            refine lv_iconst (v := 1) hx hb (kd tdlX9_does_0 38 rfl) (by decide) ?_
            cases ko hF
            exact ke_z hx hb hr hlocks rfl hK hP hD hS rfl (kd tdlX9_does_0 39 rfl)
          · have hF := kt hc100 hF
            refine lv_iconst (v := 0) hx hb (kd tdlX9_does_0 33 rfl) (by decide) ?_
            cases ko hF
            exact ke_z hx hb hr hlocks rfl hK hP hD hS rfl (kd tdlX9_does_0 34 rfl)
      · have hF := kf hv10_1 hF
        by_cases hv10_2 : p1 = 3
        · have hF := kt hv10_2 hF
          refine ksw (n := 3) (off := (102)) (tgt := 112) hx hb (kd tdlX9_does_0 7 rfl) hv10_2 (by decide) (by decide) (by decide) (by decide) ?_
          refine lv_iload hx hb (kd tdlX9_does_0 40 rfl) (lv_at hl 0 rfl) ?_
          refine lv_if_ne (tgt := 121) hx hb (kd tdlX9_does_0 41 rfl) (by decide) (fun hc114 => ?_) (fun hc114 => ?_)
          · have hF := kf hc114 hF
            refine lv_iconst (v := 0) hx hb (kd tdlX9_does_0 44 rfl) (by decide) ?_
            cases ko hF
            exact ke_z hx hb hr hlocks rfl hK hP hD hS rfl (kd tdlX9_does_1 0 rfl)
          · have hF := kt hc114 hF
            refine lv_iload_n hx hb (kd tdlX9_does_0 42 rfl) rfl (lv_at hl 3 rfl) ?_
            refine lv_if_eq (tgt := 123) hx hb (kd tdlX9_does_0 43 rfl) (by decide) (fun hc118 => ?_) (fun hc118 => ?_)
            · have hF := kt hc118 hF
              refine lv_aload_n hx hb (kd tdlX9_does_1 1 rfl) rfl (lv_at hl 1 rfl) ?_
              obtain ⟨v124, e124, hF⟩ := kc hF
              refine kc_i0 (w1 := ((wmdF t h0 a0 (md_thrown d0) v124.2.1 (md_aside d0) (md_base d0) (md_saved d0) (md_savedMany d0) (md_slots d0) (md_hasSlot d0) (md_text d0) (md_length d0) (md_begins d0) (md_lengths d0) (md_streams d0) (md_letters d0) (md_letterMany d0) (md_chunks d0) (md_chunkMany d0) (md_homes d0) (md_dropped d0) (md_madeIn d0) (md_madeAt d0) (md_putMany d0) (md_path d0) (md_store d0) v124.2.2))) hP hD hS hA (kr_V0 (Qx := (fun A => kQi D (TY t) ((wmdF t h0 a0 (md_thrown d0) v124.2.1 (md_aside d0) (md_base d0) (md_saved d0) (md_savedMany d0) (md_slots d0) (md_hasSlot d0) (md_text d0) (md_length d0) (md_begins d0) (md_lengths d0) (md_streams d0) (md_letters d0) (md_letterMany d0) (md_chunks d0) (md_chunkMany d0) (md_homes d0) (md_dropped d0) (md_madeIn d0) (md_madeAt d0) (md_putMany d0) (md_path d0) (md_store d0) v124.2.2)) v124.1 A)) (As := []) (rest := []) ⟨hx, hb, hml, hown, hts⟩ hK hP hD (c_X9_carries l D t h0 a0 d0 _  v124 e124) (cwV 0 hts (gcX9_carries w_837) rfl rfl rfl hdX9_carriesV ⟨Nat.le_of_ble_eq_true rfl, Nat.le_of_ble_eq_true rfl⟩) (ci := 8) (q0 := 0) rfl rfl rfl hl.1 rfl (Nat.le_of_ble_eq_true rfl) (kd tdlX9_does_1 2 rfl) ⟨Nat.zero_le _, Nat.zero_le _⟩) (fun H locs hP hD hS => ?_)
              refine lv_pop hx hb (kd tdlX9_does_1 3 rfl) rfl ?_
              refine lv_iconst (v := 1) hx hb (kd tdlX9_does_1 4 rfl) (by decide) ?_
              cases ko hF
              exact ke_z hx hb hr hlocks rfl hK hP hD hS rfl (kd tdlX9_does_1 5 rfl)
            · have hF := kf hc118 hF
              refine lv_iconst (v := 0) hx hb (kd tdlX9_does_0 44 rfl) (by decide) ?_
              cases ko hF
              exact ke_z hx hb hr hlocks rfl hK hP hD hS rfl (kd tdlX9_does_1 0 rfl)
        · have hF := kf hv10_2 hF
          by_cases hv10_3 : p1 = 4
          · have hF := kt hv10_3 hF
            refine ksw (n := 4) (off := (120)) (tgt := 130) hx hb (kd tdlX9_does_0 7 rfl) hv10_3 (by decide) (by decide) (by decide) (by decide) ?_
            refine lv_iload_n hx hb (kd tdlX9_does_1 6 rfl) rfl (lv_at hl 3 rfl) ?_
            refine lv_iload hx hb (kd tdlX9_does_1 7 rfl) (lv_at hl 0 rfl) ?_
            obtain ⟨v133, e133, hF⟩ := kc hF
            refine kc_iR hK hP hD hS hA [] rfl (kr_S (Qx := (fun A => kQi D (TY t) ([] : va_W) v133 A)) (wc := ([] : va_W)) (As := [.int p2, .int ((10 * p3) + p4)]) (rest := []) ⟨hx, hb, hml, hown, hts⟩ hK hP hD [] nd_ rfl (c_X9_isSetting l D t  _ p2 ((10 * p3) + p4) v133 e133) (va_cwS 2 hts (gcX9_isSetting w_870) rfl rfl rfl hdX9_isSettingS ⟨Nat.le_of_ble_eq_true rfl, Nat.le_of_ble_eq_true rfl⟩) rfl hl.1 rfl (Nat.le_of_ble_eq_true rfl) (kd tdlX9_does_1 8 rfl) ⟨Nat.zero_le _, Nat.zero_le _⟩) (fun H locs hP hS => ?_)
            refine lv_if_ne (tgt := 141) hx hb (kd tdlX9_does_1 9 rfl) (by decide) (fun hc136 => ?_) (fun hc136 => ?_)
            · have hF := kf hc136 hF
              refine lv_aload_n hx hb (kd tdlX9_does_1 12 rfl) rfl (lv_at hl 1 rfl) ?_
              refine md_g_s hx hb hts inX9_ hown hK hP L7 (kd tdlX9_does_1 13 rfl) ?_
              refine lv_iload_n hx hb (kd tdlX9_does_1 14 rfl) rfl (lv_at hl 3 rfl) ?_
              refine lv_iload hx hb (kd tdlX9_does_1 15 rfl) (lv_at hl 0 rfl) ?_
              obtain ⟨hi148, hF⟩ := kg hF
              refine md_s_s hx hb hK hP hD hS hi148 (kd tdlX9_does_1 16 rfl) (fun H locs hP hD hS => ?_)
              refine lv_iconst (v := 1) hx hb (kd tdlX9_does_1 17 rfl) (by decide) ?_
              cases ko hF
              exact ke_z hx hb hr hlocks rfl hK hP hD hS rfl (kd tdlX9_does_1 18 rfl)
            · have hF := kt hc136 hF
              refine lv_iconst (v := 0) hx hb (kd tdlX9_does_1 10 rfl) (by decide) ?_
              cases ko hF
              exact ke_z hx hb hr hlocks rfl hK hP hD hS rfl (kd tdlX9_does_1 11 rfl)
          · have hF := kf hv10_3 hF
            by_cases hv10_4 : p1 = 5
            · have hF := kt hv10_4 hF
              refine ksw (n := 5) (off := (141)) (tgt := 151) hx hb (kd tdlX9_does_0 7 rfl) hv10_4 (by decide) (by decide) (by decide) (by decide) ?_
              refine lv_iload_n hx hb (kd tdlX9_does_1 19 rfl) rfl (lv_at hl 3 rfl) ?_
              refine lv_if_ne (tgt := 171) hx hb (kd tdlX9_does_1 20 rfl) (by decide) (fun hc152 => ?_) (fun hc152 => ?_)
              · have hF := kf hc152 hF
                refine lv_iconst (v := 0) hx hb (kd tdlX9_does_1 29 rfl) (by decide) ?_
                cases ko hF
                exact ke_z hx hb hr hlocks rfl hK hP hD hS rfl (kd tdlX9_does_1 30 rfl)
              · have hF := kt hc152 hF
                refine lv_aload_n hx hb (kd tdlX9_does_1 21 rfl) rfl (lv_at hl 1 rfl) ?_
                refine md_g_s hx hb hts inX9_ hown hK hP L7 (kd tdlX9_does_1 22 rfl) ?_
                refine lv_bipush (v := 7) hx hb (kd tdlX9_does_1 23 rfl) (by decide) ?_
                obtain ⟨hi161, hF⟩ := kg hF
                refine md_l_s hx hb hK hP hi161 (kd tdlX9_does_1 24 rfl) ?_
                refine lv_iload hx hb (kd tdlX9_does_1 25 rfl) (lv_at hl 0 rfl) ?_
                refine lv_icmp_gt (tgt := 171) hx hb (kd tdlX9_does_1 26 rfl) (by decide) (fun hc164 => ?_) (fun hc164 => ?_)
                · have hF := kt hc164 hF
                  refine lv_iconst (v := 0) hx hb (kd tdlX9_does_1 29 rfl) (by decide) ?_
                  cases ko hF
                  exact ke_z hx hb hr hlocks rfl hK hP hD hS rfl (kd tdlX9_does_1 30 rfl)
                · have hF := kf hc164 hF
                  refine lv_iconst (v := 1) hx hb (kd tdlX9_does_1 27 rfl) (by decide) ?_
                  refine lv_goto (tgt := 172) hx hb (kd tdlX9_does_1 28 rfl) (by decide) ?_
                  cases ko hF
                  exact ke_z hx hb hr hlocks rfl hK hP hD hS rfl (kd tdlX9_does_1 30 rfl)
            · have hF := kf hv10_4 hF
              by_cases hv10_5 : p1 = 6
              · have hF := kt hv10_5 hF
                refine ksw (n := 6) (off := (163)) (tgt := 173) hx hb (kd tdlX9_does_0 7 rfl) hv10_5 (by decide) (by decide) (by decide) (by decide) ?_
                refine lv_aload_n hx hb (kd tdlX9_does_1 31 rfl) rfl (lv_at hl 1 rfl) ?_
                refine lv_iload_n hx hb (kd tdlX9_does_1 32 rfl) rfl (lv_at hl 3 rfl) ?_
                obtain ⟨v175, e175, hF⟩ := kc hF
                refine kc_i0 (w1 := ((wmdF t h0 a0 (md_thrown d0) (md_s d0) (md_aside d0) (md_base d0) (md_saved d0) (md_savedMany d0) (md_slots d0) (md_hasSlot d0) (md_text d0) (md_length d0) (md_begins d0) (md_lengths d0) (md_streams d0) (md_letters d0) (md_letterMany d0) (md_chunks d0) (md_chunkMany d0) (md_homes d0) (md_dropped d0) (md_madeIn d0) (md_madeAt d0) (md_putMany d0) (md_path d0) (md_store d0) (md_thinOnes d0)))) hP hD hS hA (kr_V0 (Qx := (fun A => kQi D (TY t) ((wmdF t h0 a0 (md_thrown d0) (md_s d0) (md_aside d0) (md_base d0) (md_saved d0) (md_savedMany d0) (md_slots d0) (md_hasSlot d0) (md_text d0) (md_length d0) (md_begins d0) (md_lengths d0) (md_streams d0) (md_letters d0) (md_letterMany d0) (md_chunks d0) (md_chunkMany d0) (md_homes d0) (md_dropped d0) (md_madeIn d0) (md_madeAt d0) (md_putMany d0) (md_path d0) (md_store d0) (md_thinOnes d0))) v175 A)) (As := [.int p2]) (rest := []) ⟨hx, hb, hml, hown, hts⟩ hK hP hD (c_X9_isBackup l D t h0 a0 d0 _ p2 v175 e175) (cwV 1 hts (gcX9_isBackup w_564) rfl rfl rfl hdX9_isBackupV ⟨Nat.le_of_ble_eq_true rfl, Nat.le_of_ble_eq_true rfl⟩) (ci := 8) (q0 := 0) rfl rfl rfl hl.1 rfl (Nat.le_of_ble_eq_true rfl) (kd tdlX9_does_1 33 rfl) ⟨Nat.zero_le _, Nat.zero_le _⟩) (fun H locs hP hD hS => ?_)
                refine lv_if_eq (tgt := 195) hx hb (kd tdlX9_does_1 34 rfl) (by decide) (fun hc178 => ?_) (fun hc178 => ?_)
                · have hF := kt hc178 hF
                  refine lv_iconst (v := 0) hx hb (kd tdlX9_does_1 42 rfl) (by decide) ?_
                  cases ko hF
                  exact ke_z hx hb hr hlocks rfl hK hP hD hS rfl (kd tdlX9_does_1 43 rfl)
                · have hF := kf hc178 hF
                  refine lv_aload_n hx hb (kd tdlX9_does_1 35 rfl) rfl (lv_at hl 1 rfl) ?_
                  refine lv_iload_n hx hb (kd tdlX9_does_1 36 rfl) rfl (lv_at hl 3 rfl) ?_
                  obtain ⟨v183, e183, hF⟩ := kc hF
                  refine kc_i0 (w1 := ((wmdF t h0 a0 (md_thrown d0) (md_s d0) (md_aside d0) (md_base d0) (md_saved d0) (md_savedMany d0) (md_slots d0) (md_hasSlot d0) (md_text d0) (md_length d0) (md_begins d0) (md_lengths d0) (md_streams d0) (md_letters d0) (md_letterMany d0) (md_chunks d0) (md_chunkMany d0) (md_homes d0) (md_dropped d0) (md_madeIn d0) (md_madeAt d0) (md_putMany d0) v183.2.1 v183.2.2 (md_thinOnes d0)))) hP hD hS hA (kr_V0 (Qx := (fun A => kQi D (TY t) ((wmdF t h0 a0 (md_thrown d0) (md_s d0) (md_aside d0) (md_base d0) (md_saved d0) (md_savedMany d0) (md_slots d0) (md_hasSlot d0) (md_text d0) (md_length d0) (md_begins d0) (md_lengths d0) (md_streams d0) (md_letters d0) (md_letterMany d0) (md_chunks d0) (md_chunkMany d0) (md_homes d0) (md_dropped d0) (md_madeIn d0) (md_madeAt d0) (md_putMany d0) v183.2.1 v183.2.2 (md_thinOnes d0))) v183.1 A)) (As := [.int p2]) (rest := []) ⟨hx, hb, hml, hown, hts⟩ hK hP hD (c_X9_loadsOf l D t h0 a0 d0 _ p2 v183 e183) (cwV 1 hts (gcX9_loadsOf w_576) rfl rfl rfl hdX9_loadsOfV ⟨Nat.le_of_ble_eq_true rfl, Nat.le_of_ble_eq_true rfl⟩) (ci := 8) (q0 := 0) rfl rfl rfl hl.1 rfl (Nat.le_of_ble_eq_true rfl) (kd tdlX9_does_1 37 rfl) ⟨Nat.zero_le _, Nat.zero_le _⟩) (fun H locs hP hD hS => ?_)
                  refine lv_iload hx hb (kd tdlX9_does_1 38 rfl) (lv_at hl 0 rfl) ?_
                  refine lv_icmp_gt (tgt := 195) hx hb (kd tdlX9_does_1 39 rfl) (by decide) (fun hc188 => ?_) (fun hc188 => ?_)
                  · have hF := kt hc188 hF
                    refine lv_iconst (v := 0) hx hb (kd tdlX9_does_1 42 rfl) (by decide) ?_
                    cases ko hF
                    exact ke_z hx hb hr hlocks rfl hK hP hD hS rfl (kd tdlX9_does_1 43 rfl)
                  · have hF := kf hc188 hF
                    refine lv_iconst (v := 1) hx hb (kd tdlX9_does_1 40 rfl) (by decide) ?_
                    refine lv_goto (tgt := 196) hx hb (kd tdlX9_does_1 41 rfl) (by decide) ?_
                    cases ko hF
                    exact ke_z hx hb hr hlocks rfl hK hP hD hS rfl (kd tdlX9_does_1 43 rfl)
              · have hF := kf hv10_5 hF
                by_cases hv10_6 : p1 = 7
                · have hF := kt hv10_6 hF
                  refine ksw (n := 7) (off := (187)) (tgt := 197) hx hb (kd tdlX9_does_0 7 rfl) hv10_6 (by decide) (by decide) (by decide) (by decide) ?_
                  refine lv_iload_n hx hb (kd tdlX9_does_1 44 rfl) rfl (lv_at hl 3 rfl) ?_
                  refine lv_if_ne (tgt := 215) hx hb (kd tdlX9_does_2 0 rfl) (by decide) (fun hc198 => ?_) (fun hc198 => ?_)
                  · have hF := kf hc198 hF
                    refine lv_iconst (v := 0) hx hb (kd tdlX9_does_2 8 rfl) (by decide) ?_
                    cases ko hF
                    exact ke_z hx hb hr hlocks rfl hK hP hD hS rfl (kd tdlX9_does_2 9 rfl)
                  · have hF := kt hc198 hF
                    refine lv_aload_n hx hb (kd tdlX9_does_2 1 rfl) rfl (lv_at hl 1 rfl) ?_
                    refine lv_iconst (v := (-1)) hx hb (kd tdlX9_does_2 2 rfl) (by decide) ?_
                    obtain ⟨v203, e203, hF⟩ := kc hF
                    refine kc_i0 (w1 := ((wmdF t h0 a0 (md_thrown d0) (md_s d0) (md_aside d0) (md_base d0) (md_saved d0) (md_savedMany d0) (md_slots d0) (md_hasSlot d0) (md_text d0) (md_length d0) (md_begins d0) (md_lengths d0) (md_streams d0) (md_letters d0) (md_letterMany d0) (md_chunks d0) (md_chunkMany d0) (md_homes d0) (md_dropped d0) (md_madeIn d0) (md_madeAt d0) (md_putMany d0) (md_path d0) (md_store d0) (md_thinOnes d0)))) hP hD hS hA (kr_V0 (Qx := (fun A => kQi D (TY t) ((wmdF t h0 a0 (md_thrown d0) (md_s d0) (md_aside d0) (md_base d0) (md_saved d0) (md_savedMany d0) (md_slots d0) (md_hasSlot d0) (md_text d0) (md_length d0) (md_begins d0) (md_lengths d0) (md_streams d0) (md_letters d0) (md_letterMany d0) (md_chunks d0) (md_chunkMany d0) (md_homes d0) (md_dropped d0) (md_madeIn d0) (md_madeAt d0) (md_putMany d0) (md_path d0) (md_store d0) (md_thinOnes d0))) v203 A)) (As := [.int (-1)]) (rest := []) ⟨hx, hb, hml, hown, hts⟩ hK hP hD (c_X9_livingBut l D t h0 a0 d0 _ (-1) v203 e203) (cwV 1 hts (gcX9_livingBut w_394) rfl rfl rfl hdX9_livingButV ⟨Nat.le_of_ble_eq_true rfl, Nat.le_of_ble_eq_true rfl⟩) (ci := 8) (q0 := 0) rfl rfl rfl hl.1 rfl (Nat.le_of_ble_eq_true rfl) (kd tdlX9_does_2 3 rfl) ⟨Nat.zero_le _, Nat.zero_le _⟩) (fun H locs hP hD hS => ?_)
                    refine lv_iload hx hb (kd tdlX9_does_2 4 rfl) (lv_at hl 0 rfl) ?_
                    refine lv_icmp_lt (tgt := 215) hx hb (kd tdlX9_does_2 5 rfl) (by decide) (fun hc208 => ?_) (fun hc208 => ?_)
                    · have hF := kt hc208 hF
                      refine lv_iconst (v := 0) hx hb (kd tdlX9_does_2 8 rfl) (by decide) ?_
                      cases ko hF
                      exact ke_z hx hb hr hlocks rfl hK hP hD hS rfl (kd tdlX9_does_2 9 rfl)
                    · have hF := kf hc208 hF
                      refine lv_iconst (v := 1) hx hb (kd tdlX9_does_2 6 rfl) (by decide) ?_
                      refine lv_goto (tgt := 216) hx hb (kd tdlX9_does_2 7 rfl) (by decide) ?_
                      cases ko hF
                      exact ke_z hx hb hr hlocks rfl hK hP hD hS rfl (kd tdlX9_does_2 9 rfl)
                · have hF := kf hv10_6 hF
                  have hv10_7 : p1 = 8 := keq (k := 8) (by have a0 := kne hv10_0 (k := 1) (by decide); have a1 := kne hv10_1 (k := 2) (by decide); have a2 := kne hv10_2 (k := 3) (by decide); have a3 := kne hv10_3 (k := 4) (by decide); have a4 := kne hv10_4 (k := 5) (by decide); have a5 := kne hv10_5 (k := 6) (by decide); have a6 := kne hv10_6 (k := 7) (by decide); omega) (by decide)
                  refine ksw (n := 8) (off := (207)) (tgt := 217) hx hb (kd tdlX9_does_0 7 rfl) hv10_7 (by decide) (by decide) (by decide) (by decide) ?_
                  refine lv_iload_n hx hb (kd tdlX9_does_2 10 rfl) rfl (lv_at hl 3 rfl) ?_
                  refine lv_if_ne (tgt := 234) hx hb (kd tdlX9_does_2 11 rfl) (by decide) (fun hc218 => ?_) (fun hc218 => ?_)
                  · have hF := kf hc218 hF
                    refine lv_iconst (v := 0) hx hb (kd tdlX9_does_2 18 rfl) (by decide) ?_
                    cases ko hF
                    exact ke_z hx hb hr hlocks rfl hK hP hD hS rfl (kd tdlX9_does_2 19 rfl)
                  · have hF := kt hc218 hF
                    refine lv_aload_n hx hb (kd tdlX9_does_2 12 rfl) rfl (lv_at hl 1 rfl) ?_
                    obtain ⟨v222, e222, hF⟩ := kc hF
                    refine kc_i0 (w1 := ((wmdF t h0 a0 (md_thrown d0) (md_s d0) (md_aside d0) (md_base d0) (md_saved d0) (md_savedMany d0) (md_slots d0) (md_hasSlot d0) (md_text d0) (md_length d0) (md_begins d0) (md_lengths d0) (md_streams d0) (md_letters d0) (md_letterMany d0) (md_chunks d0) (md_chunkMany d0) (md_homes d0) (md_dropped d0) (md_madeIn d0) (md_madeAt d0) (md_putMany d0) (md_path d0) (md_store d0) (md_thinOnes d0)))) hP hD hS hA (kr_V0 (Qx := (fun A => kQi D (TY t) ((wmdF t h0 a0 (md_thrown d0) (md_s d0) (md_aside d0) (md_base d0) (md_saved d0) (md_savedMany d0) (md_slots d0) (md_hasSlot d0) (md_text d0) (md_length d0) (md_begins d0) (md_lengths d0) (md_streams d0) (md_letters d0) (md_letterMany d0) (md_chunks d0) (md_chunkMany d0) (md_homes d0) (md_dropped d0) (md_madeIn d0) (md_madeAt d0) (md_putMany d0) (md_path d0) (md_store d0) (md_thinOnes d0))) v222 A)) (As := []) (rest := []) ⟨hx, hb, hml, hown, hts⟩ hK hP hD (c_X9_thin l D t h0 a0 d0 _  v222 e222) (cwV 0 hts (gcX9_thin w_410) rfl rfl rfl hdX9_thinV ⟨Nat.le_of_ble_eq_true rfl, Nat.le_of_ble_eq_true rfl⟩) (ci := 8) (q0 := 0) rfl rfl rfl hl.1 rfl (Nat.le_of_ble_eq_true rfl) (kd tdlX9_does_2 13 rfl) ⟨Nat.zero_le _, Nat.zero_le _⟩) (fun H locs hP hD hS => ?_)
                    refine lv_iload hx hb (kd tdlX9_does_2 14 rfl) (lv_at hl 0 rfl) ?_
                    refine lv_icmp_gt (tgt := 234) hx hb (kd tdlX9_does_2 15 rfl) (by decide) (fun hc227 => ?_) (fun hc227 => ?_)
                    · have hF := kt hc227 hF
                      refine lv_iconst (v := 0) hx hb (kd tdlX9_does_2 18 rfl) (by decide) ?_
                      cases ko hF
                      exact ke_z hx hb hr hlocks rfl hK hP hD hS rfl (kd tdlX9_does_2 19 rfl)
                    · have hF := kf hc227 hF
                      refine lv_iconst (v := 1) hx hb (kd tdlX9_does_2 16 rfl) (by decide) ?_
                      refine lv_goto (tgt := 235) hx hb (kd tdlX9_does_2 17 rfl) (by decide) ?_
                      cases ko hF
                      exact ke_z hx hb hr hlocks rfl hK hP hD hS rfl (kd tdlX9_does_2 19 rfl)
set_option maxHeartbeats 4000000 in
set_option maxRecDepth 100000 in
theorem c_X9_keepsBase (l : Launch) (D : va_G) (t : Nat → ClassId) (h0 : Nat) (a0 : Nat → Nat) (d0 : MDT) (sz : Nat)  (r : (Nat → Int32)) (hF : F_X9_keepsBase (md_s d0) (md_base d0) = some r) : Met l yX9_keepsBase wX9_keepsBase ({ frames := 0, cells := 0, slots := 0, locals := 0 } : Room) (kPc D (TY t) ((wmd t h0 a0 d0)) [.ref h0] sz) (kQv D (TY t) ((wmd t h0 a0 ((md_thrown d0), (md_s d0), (md_aside d0), r, (md_saved d0), (md_savedMany d0), (md_slots d0), (md_hasSlot d0), (md_text d0), (md_length d0), (md_begins d0), (md_lengths d0), (md_streams d0), (md_letters d0), (md_letterMany d0), (md_chunks d0), (md_chunkMany d0), (md_homes d0), (md_dropped d0), (md_madeIn d0), (md_madeAt d0), (md_putMany d0), (md_path d0), (md_store d0), (md_thinOnes d0)))) (va_A ((wmd t h0 a0 d0)) sz)) 0 0 (va_A ((wmd t h0 a0 d0)) sz) := by
  refine kE (cc := cX9_keepsBase) (maxL := 2) (ret := none) (Qx := fun A => kQv D (TY t) ((wmd t h0 a0 ((md_thrown d0), (md_s d0), (md_aside d0), r, (md_saved d0), (md_savedMany d0), (md_slots d0), (md_hasSlot d0), (md_text d0), (md_length d0), (md_begins d0), (md_lengths d0), (md_streams d0), (md_letters d0), (md_letterMany d0), (md_chunks d0), (md_chunkMany d0), (md_homes d0), (md_dropped d0), (md_madeIn d0), (md_madeAt d0), (md_putMany d0), (md_path d0), (md_store d0), (md_thinOnes d0)))) A) (lv0 := [(0, .ref h0)]) RX9 rfl (by decide) rfl (Nat.le_of_ble_eq_true rfl) rfl ?_
  intro p e s m args below meth c A ls hx hb hml hr hlocks hown hts hA hK hP hD hS hl
  have L16 := hts (.fieldLink RX9 16 "ChunkCarriersModel" "base" "[I") (List.mem_cons_of_mem _ w_103)
  have L7 := hts (.fieldLink RX9 7 "ChunkCarriersModel" "s" "[I") (List.mem_cons_of_mem _ w_101)
  have inX9_ : ∀ w ∈ wsX90, w ∈ wX9_keepsBase := fun w h => List.mem_cons_of_mem _ (inlX9 w h)
  have hP : va_P D vwCl ((wmdF t h0 a0 (md_thrown d0) (md_s d0) (md_aside d0) (md_base d0) (md_saved d0) (md_savedMany d0) (md_slots d0) (md_hasSlot d0) (md_text d0) (md_length d0) (md_begins d0) (md_lengths d0) (md_streams d0) (md_letters d0) (md_letterMany d0) (md_chunks d0) (md_chunkMany d0) (md_homes d0) (md_dropped d0) (md_madeIn d0) (md_madeAt d0) (md_putMany d0) (md_path d0) (md_store d0) (md_thinOnes d0))) s.heap := hP
  have hD : va_D A ((wmdF t h0 a0 (md_thrown d0) (md_s d0) (md_aside d0) (md_base d0) (md_saved d0) (md_savedMany d0) (md_slots d0) (md_hasSlot d0) (md_text d0) (md_length d0) (md_begins d0) (md_lengths d0) (md_streams d0) (md_letters d0) (md_letterMany d0) (md_chunks d0) (md_chunkMany d0) (md_homes d0) (md_dropped d0) (md_madeIn d0) (md_madeAt d0) (md_putMany d0) (md_path d0) (md_store d0) (md_thinOnes d0))) := hD
  refine lv_iconst (v := 0) hx hb (kd tdlX9_keepsBase_0 0 rfl) (by decide) ?_
  refine lv_istore_n (lv' := [(1, .int 0), (0, .ref h0)]) hx hb (kd tdlX9_keepsBase_0 1 rfl) rfl hl (by decide) rfl (fun ls hl => ?_)
  refine lp_ind (f := B_X9_keepsBase_2 (md_s d0)) (r := r) (P := fun s2_ => ∀ (H : Heap) (locs : List Loc) (ls : Array Slot), va_P D vwCl ((wmdF t h0 a0 (md_thrown d0) (md_s d0) (md_aside d0) s2_.2 (md_saved d0) (md_savedMany d0) (md_slots d0) (md_hasSlot d0) (md_text d0) (md_length d0) (md_begins d0) (md_lengths d0) (md_streams d0) (md_letters d0) (md_letterMany d0) (md_chunks d0) (md_chunkMany d0) (md_homes d0) (md_dropped d0) (md_madeIn d0) (md_madeAt d0) (md_putMany d0) (md_path d0) (md_store d0) (md_thinOnes d0))) H → va_D A ((wmdF t h0 a0 (md_thrown d0) (md_s d0) (md_aside d0) s2_.2 (md_saved d0) (md_savedMany d0) (md_slots d0) (md_hasSlot d0) (md_text d0) (md_length d0) (md_begins d0) (md_lengths d0) (md_streams d0) (md_letters d0) (md_letterMany d0) (md_chunks d0) (md_chunkMany d0) (md_homes d0) (md_dropped d0) (md_madeIn d0) (md_madeAt d0) (md_putMany d0) (md_path d0) (md_store d0) (md_thinOnes d0))) → va_S A s.heap H locs → lv_has ls 2 [(0, .ref h0), (1, .int s2_.1)] → W p l e ({ frames := 0, cells := 0, slots := 0, locals := 0 } : Room) s m args below meth c H locs 0 0 (MQ below (kQv D (TY t) ((wmd t h0 a0 ((md_thrown d0), (md_s d0), (md_aside d0), r, (md_saved d0), (md_savedMany d0), (md_slots d0), (md_hasSlot d0), (md_text d0), (md_length d0), (md_begins d0), (md_lengths d0), (md_streams d0), (md_letters d0), (md_letterMany d0), (md_chunks d0), (md_chunkMany d0), (md_homes d0), (md_dropped d0), (md_madeIn d0), (md_madeAt d0), (md_putMany d0), (md_path d0), (md_store d0), (md_thinOnes d0)))) A) args s 0 0 A) (F0 m 2 ls [])) ?_ FU (0, (md_base d0)) hF _ _ _ hP hD hS (lv_sub hl [1, 0] rfl)
  intro self2 ih2 s2_ hF H locs ls hP hD hS hl
  refine lv_iload_n hx hb (kd tdlX9_keepsBase_0 2 rfl) rfl (lv_at hl 1 rfl) ?_
  refine lv_sipush (v := 1270) hx hb (kd tdlX9_keepsBase_0 3 rfl) (by decide) ?_
  refine lv_icmp_ge (tgt := 27) hx hb (kd tdlX9_keepsBase_0 4 rfl) (by decide) (fun hc6 => ?_) (fun hc6 => ?_)
  · have hF := kt hc6 hF
    cases ko hF
    exact ke_v hx hb hr hlocks hK hP hD hS (kd tdlX9_keepsBase_0 15 rfl)
  · have hF := kf hc6 hF
    refine lv_aload_n hx hb (kd tdlX9_keepsBase_0 5 rfl) rfl (lv_at hl 0 rfl) ?_
    refine md_g_base hx hb hts inX9_ hown hK hP L16 (kd tdlX9_keepsBase_0 6 rfl) ?_
    refine lv_iload_n hx hb (kd tdlX9_keepsBase_0 7 rfl) rfl (lv_at hl 1 rfl) ?_
    refine lv_aload_n hx hb (kd tdlX9_keepsBase_0 8 rfl) rfl (lv_at hl 0 rfl) ?_
    refine md_g_s hx hb hts inX9_ hown hK hP L7 (kd tdlX9_keepsBase_0 9 rfl) ?_
    refine lv_iload_n hx hb (kd tdlX9_keepsBase_0 10 rfl) rfl (lv_at hl 1 rfl) ?_
    obtain ⟨hi19, hF⟩ := kg hF
    refine md_l_s hx hb hK hP hi19 (kd tdlX9_keepsBase_0 11 rfl) ?_
    obtain ⟨hi20, hF⟩ := kg hF
    refine md_s_base hx hb hK hP hD hS hi20 (kd tdlX9_keepsBase_0 12 rfl) (fun H locs hP hD hS => ?_)
    refine lv_iinc (v := (s2_.1 + 1)) (lv' := [(1, .int (s2_.1 + 1)), (0, .ref h0)]) hx hb (kd tdlX9_keepsBase_0 13 rfl) hl (k := 1) rfl rfl (by decide) rfl (fun ls hl => ?_)
    refine lv_goto (tgt := 2) hx hb (kd tdlX9_keepsBase_0 14 rfl) (by decide) ?_
    exact ih2 ((s2_.1 + 1), (upd s2_.2 (Int32.toNatClampNeg s2_.1) ((md_s d0) (Int32.toNatClampNeg s2_.1)))) hF _ _ _ hP hD hS (lv_sub hl [1, 0] rfl)
set_option maxHeartbeats 4000000 in
set_option maxRecDepth 100000 in
theorem c_X9_backToBase (l : Launch) (D : va_G) (t : Nat → ClassId) (h0 : Nat) (a0 : Nat → Nat) (d0 : MDT) (sz : Nat)  (r : (Nat → Int32)) (hF : F_X9_backToBase (md_s d0) (md_base d0) = some r) : Met l yX9_backToBase wX9_backToBase ({ frames := 0, cells := 0, slots := 0, locals := 0 } : Room) (kPc D (TY t) ((wmd t h0 a0 d0)) [.ref h0] sz) (kQv D (TY t) ((wmd t h0 a0 ((md_thrown d0), r, (md_aside d0), (md_base d0), (md_saved d0), (md_savedMany d0), (md_slots d0), (md_hasSlot d0), (md_text d0), (md_length d0), (md_begins d0), (md_lengths d0), (md_streams d0), (md_letters d0), (md_letterMany d0), (md_chunks d0), (md_chunkMany d0), (md_homes d0), (md_dropped d0), (md_madeIn d0), (md_madeAt d0), (md_putMany d0), (md_path d0), (md_store d0), (md_thinOnes d0)))) (va_A ((wmd t h0 a0 d0)) sz)) 0 0 (va_A ((wmd t h0 a0 d0)) sz) := by
  refine kE (cc := cX9_backToBase) (maxL := 2) (ret := none) (Qx := fun A => kQv D (TY t) ((wmd t h0 a0 ((md_thrown d0), r, (md_aside d0), (md_base d0), (md_saved d0), (md_savedMany d0), (md_slots d0), (md_hasSlot d0), (md_text d0), (md_length d0), (md_begins d0), (md_lengths d0), (md_streams d0), (md_letters d0), (md_letterMany d0), (md_chunks d0), (md_chunkMany d0), (md_homes d0), (md_dropped d0), (md_madeIn d0), (md_madeAt d0), (md_putMany d0), (md_path d0), (md_store d0), (md_thinOnes d0)))) A) (lv0 := [(0, .ref h0)]) RX9 rfl (by decide) rfl (Nat.le_of_ble_eq_true rfl) rfl ?_
  intro p e s m args below meth c A ls hx hb hml hr hlocks hown hts hA hK hP hD hS hl
  have L16 := hts (.fieldLink RX9 16 "ChunkCarriersModel" "base" "[I") (List.mem_cons_of_mem _ w_103)
  have L7 := hts (.fieldLink RX9 7 "ChunkCarriersModel" "s" "[I") (List.mem_cons_of_mem _ w_101)
  have inX9_ : ∀ w ∈ wsX90, w ∈ wX9_backToBase := fun w h => List.mem_cons_of_mem _ (inlX9 w h)
  have hP : va_P D vwCl ((wmdF t h0 a0 (md_thrown d0) (md_s d0) (md_aside d0) (md_base d0) (md_saved d0) (md_savedMany d0) (md_slots d0) (md_hasSlot d0) (md_text d0) (md_length d0) (md_begins d0) (md_lengths d0) (md_streams d0) (md_letters d0) (md_letterMany d0) (md_chunks d0) (md_chunkMany d0) (md_homes d0) (md_dropped d0) (md_madeIn d0) (md_madeAt d0) (md_putMany d0) (md_path d0) (md_store d0) (md_thinOnes d0))) s.heap := hP
  have hD : va_D A ((wmdF t h0 a0 (md_thrown d0) (md_s d0) (md_aside d0) (md_base d0) (md_saved d0) (md_savedMany d0) (md_slots d0) (md_hasSlot d0) (md_text d0) (md_length d0) (md_begins d0) (md_lengths d0) (md_streams d0) (md_letters d0) (md_letterMany d0) (md_chunks d0) (md_chunkMany d0) (md_homes d0) (md_dropped d0) (md_madeIn d0) (md_madeAt d0) (md_putMany d0) (md_path d0) (md_store d0) (md_thinOnes d0))) := hD
  refine lv_iconst (v := 0) hx hb (kd tdlX9_backToBase_0 0 rfl) (by decide) ?_
  refine lv_istore_n (lv' := [(1, .int 0), (0, .ref h0)]) hx hb (kd tdlX9_backToBase_0 1 rfl) rfl hl (by decide) rfl (fun ls hl => ?_)
  refine lp_ind (f := B_X9_backToBase_2 (md_base d0)) (r := r) (P := fun s2_ => ∀ (H : Heap) (locs : List Loc) (ls : Array Slot), va_P D vwCl ((wmdF t h0 a0 (md_thrown d0) s2_.2 (md_aside d0) (md_base d0) (md_saved d0) (md_savedMany d0) (md_slots d0) (md_hasSlot d0) (md_text d0) (md_length d0) (md_begins d0) (md_lengths d0) (md_streams d0) (md_letters d0) (md_letterMany d0) (md_chunks d0) (md_chunkMany d0) (md_homes d0) (md_dropped d0) (md_madeIn d0) (md_madeAt d0) (md_putMany d0) (md_path d0) (md_store d0) (md_thinOnes d0))) H → va_D A ((wmdF t h0 a0 (md_thrown d0) s2_.2 (md_aside d0) (md_base d0) (md_saved d0) (md_savedMany d0) (md_slots d0) (md_hasSlot d0) (md_text d0) (md_length d0) (md_begins d0) (md_lengths d0) (md_streams d0) (md_letters d0) (md_letterMany d0) (md_chunks d0) (md_chunkMany d0) (md_homes d0) (md_dropped d0) (md_madeIn d0) (md_madeAt d0) (md_putMany d0) (md_path d0) (md_store d0) (md_thinOnes d0))) → va_S A s.heap H locs → lv_has ls 2 [(0, .ref h0), (1, .int s2_.1)] → W p l e ({ frames := 0, cells := 0, slots := 0, locals := 0 } : Room) s m args below meth c H locs 0 0 (MQ below (kQv D (TY t) ((wmd t h0 a0 ((md_thrown d0), r, (md_aside d0), (md_base d0), (md_saved d0), (md_savedMany d0), (md_slots d0), (md_hasSlot d0), (md_text d0), (md_length d0), (md_begins d0), (md_lengths d0), (md_streams d0), (md_letters d0), (md_letterMany d0), (md_chunks d0), (md_chunkMany d0), (md_homes d0), (md_dropped d0), (md_madeIn d0), (md_madeAt d0), (md_putMany d0), (md_path d0), (md_store d0), (md_thinOnes d0)))) A) args s 0 0 A) (F0 m 2 ls [])) ?_ FU (0, (md_s d0)) hF _ _ _ hP hD hS (lv_sub hl [1, 0] rfl)
  intro self2 ih2 s2_ hF H locs ls hP hD hS hl
  refine lv_iload_n hx hb (kd tdlX9_backToBase_0 2 rfl) rfl (lv_at hl 1 rfl) ?_
  refine lv_sipush (v := 1270) hx hb (kd tdlX9_backToBase_0 3 rfl) (by decide) ?_
  refine lv_icmp_ge (tgt := 27) hx hb (kd tdlX9_backToBase_0 4 rfl) (by decide) (fun hc6 => ?_) (fun hc6 => ?_)
  · have hF := kt hc6 hF
    cases ko hF
    exact ke_v hx hb hr hlocks hK hP hD hS (kd tdlX9_backToBase_0 15 rfl)
  · have hF := kf hc6 hF
    refine lv_aload_n hx hb (kd tdlX9_backToBase_0 5 rfl) rfl (lv_at hl 0 rfl) ?_
    refine md_g_s hx hb hts inX9_ hown hK hP L7 (kd tdlX9_backToBase_0 6 rfl) ?_
    refine lv_iload_n hx hb (kd tdlX9_backToBase_0 7 rfl) rfl (lv_at hl 1 rfl) ?_
    refine lv_aload_n hx hb (kd tdlX9_backToBase_0 8 rfl) rfl (lv_at hl 0 rfl) ?_
    refine md_g_base hx hb hts inX9_ hown hK hP L16 (kd tdlX9_backToBase_0 9 rfl) ?_
    refine lv_iload_n hx hb (kd tdlX9_backToBase_0 10 rfl) rfl (lv_at hl 1 rfl) ?_
    obtain ⟨hi19, hF⟩ := kg hF
    refine md_l_base hx hb hK hP hi19 (kd tdlX9_backToBase_0 11 rfl) ?_
    obtain ⟨hi20, hF⟩ := kg hF
    refine md_s_s hx hb hK hP hD hS hi20 (kd tdlX9_backToBase_0 12 rfl) (fun H locs hP hD hS => ?_)
    refine lv_iinc (v := (s2_.1 + 1)) (lv' := [(1, .int (s2_.1 + 1)), (0, .ref h0)]) hx hb (kd tdlX9_backToBase_0 13 rfl) hl (k := 1) rfl rfl (by decide) rfl (fun ls hl => ?_)
    refine lv_goto (tgt := 2) hx hb (kd tdlX9_backToBase_0 14 rfl) (by decide) ?_
    exact ih2 ((s2_.1 + 1), (upd s2_.2 (Int32.toNatClampNeg s2_.1) ((md_base d0) (Int32.toNatClampNeg s2_.1)))) hF _ _ _ hP hD hS (lv_sub hl [1, 0] rfl)
set_option maxHeartbeats 4000000 in
set_option maxRecDepth 100000 in
theorem c_X9_runScript (l : Launch) (D : va_G) (t : Nat → ClassId) (h0 : Nat) (a0 : Nat → Nat) (d0 : MDT) (sz : Nat) (p1 : Int32) (p2 : Int64) (r : Int32 × MDT) (hF : F_X9_runScript d0 p1 p2 = some r) : Met l yX9_runScript wX9_runScript ({ frames := 7, cells := 0, slots := 0, locals := 160 } : Room) (kPc D (TY t) ((wmd t h0 a0 d0)) [.ref h0, .int p1, .long p2] sz) (kQi D (TY t) ((wmd t h0 a0 r.2)) r.1 (va_A ((wmd t h0 a0 d0)) sz)) 0 0 (va_A ((wmd t h0 a0 d0)) sz) := by
  refine kE (cc := cX9_runScript) (maxL := 9) (ret := (some .int)) (Qx := fun A => kQi D (TY t) ((wmd t h0 a0 r.2)) r.1 A) (lv0 := [(0, .ref h0), (1, .int p1), (2, .long p2)]) RX9 rfl (by decide) rfl (Nat.le_of_ble_eq_true rfl) rfl ?_
  intro p e s m args below meth c A ls hx hb hml hr hlocks hown hts hA hK hP hD hS hl
  have L65 := hts (.fieldLink RX9 65 "ChunkCarriersModel" "thrown" "I") (List.mem_cons_of_mem _ w_119)
  have Lc231 := hts (.constantLong RX9 231 (10000)) (List.mem_cons_of_mem _ w_995)
  have inX9_ : ∀ w ∈ wsX90, w ∈ wX9_runScript := fun w h => List.mem_cons_of_mem _ (inlX9 w h)
  have hP : va_P D vwCl ((wmdF t h0 a0 (md_thrown d0) (md_s d0) (md_aside d0) (md_base d0) (md_saved d0) (md_savedMany d0) (md_slots d0) (md_hasSlot d0) (md_text d0) (md_length d0) (md_begins d0) (md_lengths d0) (md_streams d0) (md_letters d0) (md_letterMany d0) (md_chunks d0) (md_chunkMany d0) (md_homes d0) (md_dropped d0) (md_madeIn d0) (md_madeAt d0) (md_putMany d0) (md_path d0) (md_store d0) (md_thinOnes d0))) s.heap := hP
  have hD : va_D A ((wmdF t h0 a0 (md_thrown d0) (md_s d0) (md_aside d0) (md_base d0) (md_saved d0) (md_savedMany d0) (md_slots d0) (md_hasSlot d0) (md_text d0) (md_length d0) (md_begins d0) (md_lengths d0) (md_streams d0) (md_letters d0) (md_letterMany d0) (md_chunks d0) (md_chunkMany d0) (md_homes d0) (md_dropped d0) (md_madeIn d0) (md_madeAt d0) (md_putMany d0) (md_path d0) (md_store d0) (md_thinOnes d0))) := hD
  refine lv_aload_n hx hb (kd tdlX9_runScript_0 0 rfl) rfl (lv_at hl 0 rfl) ?_
  refine lv_iconst (v := 0) hx hb (kd tdlX9_runScript_0 1 rfl) (by decide) ?_
  refine md_p_thrown hx hb hts inX9_ hown hK hP hD hS L65 (kd tdlX9_runScript_0 2 rfl) (fun H locs hP hD hS => ?_)
  refine lv_iload_n hx hb (kd tdlX9_runScript_0 3 rfl) rfl (lv_at hl 1 rfl) ?_
  refine lv_iconst (v := 1) hx hb (kd tdlX9_runScript_0 4 rfl) (by decide) ?_
  refine lv_iconst (v := 3) hx hb (kd tdlX9_runScript_0 5 rfl) (by decide) ?_
  obtain ⟨v8, e8, hF⟩ := kc hF
  refine kc_iR hK hP hD hS hA [] rfl (kr_S (Qx := (fun A => kQi D (TY t) ([] : va_W) v8 A)) (wc := ([] : va_W)) (As := [.int p1, .int 1, .int 3]) (rest := []) ⟨hx, hb, hml, hown, hts⟩ hK hP hD [] nd_ rfl (c_X9_in l D t  _ p1 1 3 v8 e8) (va_cwS 3 hts (gcX9_in w_150) rfl rfl rfl hdX9_inS ⟨Nat.le_of_ble_eq_true rfl, Nat.le_of_ble_eq_true rfl⟩) rfl hl.1 rfl (Nat.le_of_ble_eq_true rfl) (kd tdlX9_runScript_0 6 rfl) ⟨Nat.zero_le _, Nat.zero_le _⟩) (fun H locs hP hS => ?_)
  refine lv_if_ne (tgt := 20) hx hb (kd tdlX9_runScript_0 7 rfl) (by decide) (fun hc11 => ?_) (fun hc11 => ?_)
  · have hF := kf hc11 hF
    refine lv_lconst (v := 1) hx hb (kd tdlX9_runScript_0 12 rfl) (by decide) ?_
    refine lv_lstore (lv' := [(4, .long 1), (0, .ref h0), (1, .int p1), (2, .long p2)]) hx hb (kd tdlX9_runScript_0 13 rfl) hl (by decide) rfl (fun ls hl => ?_)
    refine lv_iconst (v := 1) hx hb (kd tdlX9_runScript_0 14 rfl) (by decide) ?_
    refine lv_istore (lv' := [(6, .int 1), (4, .long 1), (0, .ref h0), (1, .int p1), (2, .long p2)]) hx hb (kd tdlX9_runScript_0 15 rfl) hl (by decide) rfl (fun ls hl => ?_)
    have hK46 : ∀ k46 : Int64, K_X9_runScript_46 p2 d0 p1 k46 = some r → ∀ (H : Heap) (locs : List Loc) (ls : Array Slot), va_P D vwCl ((wmdF t h0 a0 0 (md_s d0) (md_aside d0) (md_base d0) (md_saved d0) (md_savedMany d0) (md_slots d0) (md_hasSlot d0) (md_text d0) (md_length d0) (md_begins d0) (md_lengths d0) (md_streams d0) (md_letters d0) (md_letterMany d0) (md_chunks d0) (md_chunkMany d0) (md_homes d0) (md_dropped d0) (md_madeIn d0) (md_madeAt d0) (md_putMany d0) (md_path d0) (md_store d0) (md_thinOnes d0))) H → va_D A ((wmdF t h0 a0 0 (md_s d0) (md_aside d0) (md_base d0) (md_saved d0) (md_savedMany d0) (md_slots d0) (md_hasSlot d0) (md_text d0) (md_length d0) (md_begins d0) (md_lengths d0) (md_streams d0) (md_letters d0) (md_letterMany d0) (md_chunks d0) (md_chunkMany d0) (md_homes d0) (md_dropped d0) (md_madeIn d0) (md_madeAt d0) (md_putMany d0) (md_path d0) (md_store d0) (md_thinOnes d0))) → va_S A s.heap H locs → lv_has ls 9 [(0, .ref h0), (1, .int p1), (2, .long p2), (4, .long k46)] → W p l e ({ frames := 7, cells := 0, slots := 0, locals := 160 } : Room) s m args below meth c H locs 0 0 (MQ below (kQi D (TY t) ((wmd t h0 a0 r.2)) r.1 A) args s 0 0 A) (F0 m 46 ls []) := by
      intro k46 hF H locs ls hP hD hS hl
      refine lv_lload_n hx hb (kd tdlX9_runScript_0 25 rfl) rfl (lv_at hl 2 rfl) ?_
      refine lv_lconst (v := 0) hx hb (kd tdlX9_runScript_0 26 rfl) (by decide) ?_
      refine W.lcmp hx hb (kd tdlX9_runScript_0 27 rfl) ?_
      have hJ63 : ∀ j63 : Unit, J_X9_runScript_63 d0 j63 = some r → ∀ (H : Heap) (locs : List Loc) (ls : Array Slot), va_P D vwCl ((wmdF t h0 a0 0 (md_s d0) (md_aside d0) (md_base d0) (md_saved d0) (md_savedMany d0) (md_slots d0) (md_hasSlot d0) (md_text d0) (md_length d0) (md_begins d0) (md_lengths d0) (md_streams d0) (md_letters d0) (md_letterMany d0) (md_chunks d0) (md_chunkMany d0) (md_homes d0) (md_dropped d0) (md_madeIn d0) (md_madeAt d0) (md_putMany d0) (md_path d0) (md_store d0) (md_thinOnes d0))) H → va_D A ((wmdF t h0 a0 0 (md_s d0) (md_aside d0) (md_base d0) (md_saved d0) (md_savedMany d0) (md_slots d0) (md_hasSlot d0) (md_text d0) (md_length d0) (md_begins d0) (md_lengths d0) (md_streams d0) (md_letters d0) (md_letterMany d0) (md_chunks d0) (md_chunkMany d0) (md_homes d0) (md_dropped d0) (md_madeIn d0) (md_madeAt d0) (md_putMany d0) (md_path d0) (md_store d0) (md_thinOnes d0))) → va_S A s.heap H locs → lv_has ls 9 [(0, .ref h0)] → W p l e ({ frames := 7, cells := 0, slots := 0, locals := 160 } : Room) s m args below meth c H locs 0 0 (MQ below (kQi D (TY t) ((wmd t h0 a0 r.2)) r.1 A) args s 0 0 A) (F0 m 63 ls []) := by
        intro j63 hF H locs ls hP hD hS hl
        refine lv_aload_n hx hb (kd tdlX9_runScript_0 35 rfl) rfl (lv_at hl 0 rfl) ?_
        refine lv_iconst (v := 1) hx hb (kd tdlX9_runScript_0 36 rfl) (by decide) ?_
        obtain ⟨v65, e65, hF⟩ := kc hF
        refine kc_i0 (w1 := ((wmdF t h0 a0 v65.2 (md_s d0) (md_aside d0) (md_base d0) (md_saved d0) (md_savedMany d0) (md_slots d0) (md_hasSlot d0) (md_text d0) (md_length d0) (md_begins d0) (md_lengths d0) (md_streams d0) (md_letters d0) (md_letterMany d0) (md_chunks d0) (md_chunkMany d0) (md_homes d0) (md_dropped d0) (md_madeIn d0) (md_madeAt d0) (md_putMany d0) (md_path d0) (md_store d0) (md_thinOnes d0)))) hP hD hS hA (kr_V0 (Qx := (fun A => kQi D (TY t) ((wmdF t h0 a0 v65.2 (md_s d0) (md_aside d0) (md_base d0) (md_saved d0) (md_savedMany d0) (md_slots d0) (md_hasSlot d0) (md_text d0) (md_length d0) (md_begins d0) (md_lengths d0) (md_streams d0) (md_letters d0) (md_letterMany d0) (md_chunks d0) (md_chunkMany d0) (md_homes d0) (md_dropped d0) (md_madeIn d0) (md_madeAt d0) (md_putMany d0) (md_path d0) (md_store d0) (md_thinOnes d0))) v65.1 A)) (As := [.int 1]) (rest := []) ⟨hx, hb, hml, hown, hts⟩ hK hP hD (c_X9_fails l D t h0 a0 (0, (md_s d0), (md_aside d0), (md_base d0), (md_saved d0), (md_savedMany d0), (md_slots d0), (md_hasSlot d0), (md_text d0), (md_length d0), (md_begins d0), (md_lengths d0), (md_streams d0), (md_letters d0), (md_letterMany d0), (md_chunks d0), (md_chunkMany d0), (md_homes d0), (md_dropped d0), (md_madeIn d0), (md_madeAt d0), (md_putMany d0), (md_path d0), (md_store d0), (md_thinOnes d0)) _ 1 v65 e65) (cwV 1 hts (gcX9_fails w_153) rfl rfl rfl hdX9_failsV ⟨Nat.le_of_ble_eq_true rfl, Nat.le_of_ble_eq_true rfl⟩) (ci := 8) (q0 := 0) rfl rfl rfl hl.1 rfl (Nat.le_of_ble_eq_true rfl) (kd tdlX9_runScript_0 37 rfl) ⟨Nat.zero_le _, Nat.zero_le _⟩) (fun H locs hP hD hS => ?_)
        cases ko hF
        exact ke_i hx hb hr hlocks hK hP hD hS rfl (kd tdlX9_runScript_0 38 rfl)
      refine lv_if_lt (tgt := 63) hx hb (kd tdlX9_runScript_0 28 rfl) (by decide) (fun hc49 => ?_) (fun hc49 => ?_)
      · have hF := kt hc49 hF
        exact hJ63 () hF _ _ _ hP hD hS (lv_sub hl [0] rfl)
      · have hF := kf hc49 hF
        refine lv_lload_n hx hb (kd tdlX9_runScript_0 29 rfl) rfl (lv_at hl 2 rfl) ?_
        refine lv_lload hx hb (kd tdlX9_runScript_0 30 rfl) (lv_at hl 3 rfl) ?_
        obtain ⟨hz55, hF⟩ := kgzl hF
        refine lv_ldiv hx hb (kd tdlX9_runScript_0 31 rfl) hz55 ?_
        refine lv_ldc2 (v := (10000)) hx hb hown Lc231 (kd tdlX9_runScript_0 32 rfl) ?_
        refine W.lcmp hx hb (kd tdlX9_runScript_0 33 rfl) ?_
        refine lv_if_lt (tgt := 69) hx hb (kd tdlX9_runScript_0 34 rfl) (by decide) (fun hc60 => ?_) (fun hc60 => ?_)
        · have hF := kt hc60 hF
          refine lv_aload_n hx hb (kd tdlX9_runScript_0 39 rfl) rfl (lv_at hl 0 rfl) ?_
          obtain ⟨v70, e70, hF⟩ := kc hF
          refine kc_v0 (w1 := ((wmdF t h0 a0 0 (md_s d0) (md_aside d0) v70 (md_saved d0) (md_savedMany d0) (md_slots d0) (md_hasSlot d0) (md_text d0) (md_length d0) (md_begins d0) (md_lengths d0) (md_streams d0) (md_letters d0) (md_letterMany d0) (md_chunks d0) (md_chunkMany d0) (md_homes d0) (md_dropped d0) (md_madeIn d0) (md_madeAt d0) (md_putMany d0) (md_path d0) (md_store d0) (md_thinOnes d0)))) hP hD hS hA (kr_V0 (Qx := (fun A => kQv D (TY t) ((wmdF t h0 a0 0 (md_s d0) (md_aside d0) v70 (md_saved d0) (md_savedMany d0) (md_slots d0) (md_hasSlot d0) (md_text d0) (md_length d0) (md_begins d0) (md_lengths d0) (md_streams d0) (md_letters d0) (md_letterMany d0) (md_chunks d0) (md_chunkMany d0) (md_homes d0) (md_dropped d0) (md_madeIn d0) (md_madeAt d0) (md_putMany d0) (md_path d0) (md_store d0) (md_thinOnes d0))) A)) (As := []) (rest := []) ⟨hx, hb, hml, hown, hts⟩ hK hP hD (c_X9_keepsBase l D t h0 a0 (0, (md_s d0), (md_aside d0), (md_base d0), (md_saved d0), (md_savedMany d0), (md_slots d0), (md_hasSlot d0), (md_text d0), (md_length d0), (md_begins d0), (md_lengths d0), (md_streams d0), (md_letters d0), (md_letterMany d0), (md_chunks d0), (md_chunkMany d0), (md_homes d0), (md_dropped d0), (md_madeIn d0), (md_madeAt d0), (md_putMany d0), (md_path d0), (md_store d0), (md_thinOnes d0)) _  v70 e70) (cwV 0 hts (gcX9_keepsBase w_996) rfl rfl rfl hdX9_keepsBaseV ⟨Nat.le_of_ble_eq_true rfl, Nat.le_of_ble_eq_true rfl⟩) (ci := 8) (q0 := 0) rfl rfl rfl hl.1 rfl (Nat.le_of_ble_eq_true rfl) (kd tdlX9_runScript_0 40 rfl) ⟨Nat.zero_le _, Nat.zero_le _⟩) (fun H locs hP hD hS => ?_)
          refine lv_iconst (v := (-1)) hx hb (kd tdlX9_runScript_0 41 rfl) (by decide) ?_
          refine lv_istore (lv' := [(6, .int (-1)), (0, .ref h0), (1, .int p1), (2, .long p2), (4, .long k46)]) hx hb (kd tdlX9_runScript_0 42 rfl) hl (by decide) rfl (fun ls hl => ?_)
          refine lv_iconst (v := 0) hx hb (kd tdlX9_runScript_0 43 rfl) (by decide) ?_
          refine lv_istore (lv' := [(7, .int 0), (6, .int (-1)), (0, .ref h0), (1, .int p1), (2, .long p2), (4, .long k46)]) hx hb (kd tdlX9_runScript_0 44 rfl) hl (by decide) rfl (fun ls hl => ?_)
          have hK158 : ∀ k158 : Int32 × MDT, K_X9_runScript_158 k158 = some r → ∀ (H : Heap) (locs : List Loc) (ls : Array Slot), va_P D vwCl ((wmdF t h0 a0 (md_thrown k158.2) (md_s k158.2) (md_aside k158.2) (md_base k158.2) (md_saved k158.2) (md_savedMany k158.2) (md_slots k158.2) (md_hasSlot k158.2) (md_text k158.2) (md_length k158.2) (md_begins k158.2) (md_lengths k158.2) (md_streams k158.2) (md_letters k158.2) (md_letterMany k158.2) (md_chunks k158.2) (md_chunkMany k158.2) (md_homes k158.2) (md_dropped k158.2) (md_madeIn k158.2) (md_madeAt k158.2) (md_putMany k158.2) (md_path k158.2) (md_store k158.2) (md_thinOnes k158.2))) H → va_D A ((wmdF t h0 a0 (md_thrown k158.2) (md_s k158.2) (md_aside k158.2) (md_base k158.2) (md_saved k158.2) (md_savedMany k158.2) (md_slots k158.2) (md_hasSlot k158.2) (md_text k158.2) (md_length k158.2) (md_begins k158.2) (md_lengths k158.2) (md_streams k158.2) (md_letters k158.2) (md_letterMany k158.2) (md_chunks k158.2) (md_chunkMany k158.2) (md_homes k158.2) (md_dropped k158.2) (md_madeIn k158.2) (md_madeAt k158.2) (md_putMany k158.2) (md_path k158.2) (md_store k158.2) (md_thinOnes k158.2))) → va_S A s.heap H locs → lv_has ls 9 [(0, .ref h0), (6, .int k158.1)] → W p l e ({ frames := 7, cells := 0, slots := 0, locals := 160 } : Room) s m args below meth c H locs 0 0 (MQ below (kQi D (TY t) ((wmd t h0 a0 r.2)) r.1 A) args s 0 0 A) (F0 m 158 ls []) := by
            intro k158 hF H locs ls hP hD hS hl
            refine lv_aload_n hx hb (kd tdlX9_runScript_1 42 rfl) rfl (lv_at hl 0 rfl) ?_
            obtain ⟨v159, e159, hF⟩ := kc hF
            refine kc_v0 (w1 := ((wmdF t h0 a0 (md_thrown k158.2) v159 (md_aside k158.2) (md_base k158.2) (md_saved k158.2) (md_savedMany k158.2) (md_slots k158.2) (md_hasSlot k158.2) (md_text k158.2) (md_length k158.2) (md_begins k158.2) (md_lengths k158.2) (md_streams k158.2) (md_letters k158.2) (md_letterMany k158.2) (md_chunks k158.2) (md_chunkMany k158.2) (md_homes k158.2) (md_dropped k158.2) (md_madeIn k158.2) (md_madeAt k158.2) (md_putMany k158.2) (md_path k158.2) (md_store k158.2) (md_thinOnes k158.2)))) hP hD hS hA (kr_V0 (Qx := (fun A => kQv D (TY t) ((wmdF t h0 a0 (md_thrown k158.2) v159 (md_aside k158.2) (md_base k158.2) (md_saved k158.2) (md_savedMany k158.2) (md_slots k158.2) (md_hasSlot k158.2) (md_text k158.2) (md_length k158.2) (md_begins k158.2) (md_lengths k158.2) (md_streams k158.2) (md_letters k158.2) (md_letterMany k158.2) (md_chunks k158.2) (md_chunkMany k158.2) (md_homes k158.2) (md_dropped k158.2) (md_madeIn k158.2) (md_madeAt k158.2) (md_putMany k158.2) (md_path k158.2) (md_store k158.2) (md_thinOnes k158.2))) A)) (As := []) (rest := []) ⟨hx, hb, hml, hown, hts⟩ hK hP hD (c_X9_backToBase l D t h0 a0 k158.2 _  v159 e159) (cwV 0 hts (gcX9_backToBase w_1004) rfl rfl rfl hdX9_backToBaseV ⟨Nat.le_of_ble_eq_true rfl, Nat.le_of_ble_eq_true rfl⟩) (ci := 8) (q0 := 0) rfl rfl rfl hl.1 rfl (Nat.le_of_ble_eq_true rfl) (kd tdlX9_runScript_1 43 rfl) ⟨Nat.zero_le _, Nat.zero_le _⟩) (fun H locs hP hD hS => ?_)
            refine lv_iload hx hb (kd tdlX9_runScript_1 44 rfl) (lv_at hl 1 rfl) ?_
            cases ko hF
            exact ke_i hx hb hr hlocks hK hP hD hS rfl (kd tdlX9_runScript_2 0 rfl)
          refine lp_ind (f := B_X9_runScript_79 p1 p2 (K_X9_runScript_158)) (r := r) (P := fun s79_ => ∀ (H : Heap) (locs : List Loc) (ls : Array Slot), va_P D vwCl ((wmdF t h0 a0 (md_thrown s79_.2.2.2) (md_s s79_.2.2.2) (md_aside s79_.2.2.2) (md_base s79_.2.2.2) (md_saved s79_.2.2.2) (md_savedMany s79_.2.2.2) (md_slots s79_.2.2.2) (md_hasSlot s79_.2.2.2) (md_text s79_.2.2.2) (md_length s79_.2.2.2) (md_begins s79_.2.2.2) (md_lengths s79_.2.2.2) (md_streams s79_.2.2.2) (md_letters s79_.2.2.2) (md_letterMany s79_.2.2.2) (md_chunks s79_.2.2.2) (md_chunkMany s79_.2.2.2) (md_homes s79_.2.2.2) (md_dropped s79_.2.2.2) (md_madeIn s79_.2.2.2) (md_madeAt s79_.2.2.2) (md_putMany s79_.2.2.2) (md_path s79_.2.2.2) (md_store s79_.2.2.2) (md_thinOnes s79_.2.2.2))) H → va_D A ((wmdF t h0 a0 (md_thrown s79_.2.2.2) (md_s s79_.2.2.2) (md_aside s79_.2.2.2) (md_base s79_.2.2.2) (md_saved s79_.2.2.2) (md_savedMany s79_.2.2.2) (md_slots s79_.2.2.2) (md_hasSlot s79_.2.2.2) (md_text s79_.2.2.2) (md_length s79_.2.2.2) (md_begins s79_.2.2.2) (md_lengths s79_.2.2.2) (md_streams s79_.2.2.2) (md_letters s79_.2.2.2) (md_letterMany s79_.2.2.2) (md_chunks s79_.2.2.2) (md_chunkMany s79_.2.2.2) (md_homes s79_.2.2.2) (md_dropped s79_.2.2.2) (md_madeIn s79_.2.2.2) (md_madeAt s79_.2.2.2) (md_putMany s79_.2.2.2) (md_path s79_.2.2.2) (md_store s79_.2.2.2) (md_thinOnes s79_.2.2.2))) → va_S A s.heap H locs → lv_has ls 9 [(0, .ref h0), (1, .int p1), (2, .long p2), (4, .long s79_.1), (6, .int s79_.2.1), (7, .int s79_.2.2.1)] → W p l e ({ frames := 7, cells := 0, slots := 0, locals := 160 } : Room) s m args below meth c H locs 0 0 (MQ below (kQi D (TY t) ((wmd t h0 a0 r.2)) r.1 A) args s 0 0 A) (F0 m 79 ls [])) ?_ FU (k46, (-1), 0, (0, (md_s d0), (md_aside d0), v70, (md_saved d0), (md_savedMany d0), (md_slots d0), (md_hasSlot d0), (md_text d0), (md_length d0), (md_begins d0), (md_lengths d0), (md_streams d0), (md_letters d0), (md_letterMany d0), (md_chunks d0), (md_chunkMany d0), (md_homes d0), (md_dropped d0), (md_madeIn d0), (md_madeAt d0), (md_putMany d0), (md_path d0), (md_store d0), (md_thinOnes d0))) hF _ _ _ hP hD hS (lv_sub hl [2, 3, 4, 5, 1, 0] rfl)
          intro self79 ih79 s79_ hF H locs ls hP hD hS hl
          refine lv_iload hx hb (kd tdlX9_runScript_1 0 rfl) (lv_at hl 5 rfl) ?_
          refine lv_iload_n hx hb (kd tdlX9_runScript_1 1 rfl) rfl (lv_at hl 1 rfl) ?_
          refine lv_icmp_ge (tgt := 158) hx hb (kd tdlX9_runScript_1 2 rfl) (by decide) (fun hc82 => ?_) (fun hc82 => ?_)
          · have hF := kt hc82 hF
            exact hK158 (s79_.2.1, s79_.2.2.2) hF _ _ _ hP hD hS (lv_sub hl [0, 4] rfl)
          · have hF := kf hc82 hF
            refine lv_iload hx hb (kd tdlX9_runScript_1 3 rfl) (lv_at hl 4 rfl) ?_
            refine lv_iconst (v := (-1)) hx hb (kd tdlX9_runScript_1 4 rfl) (by decide) ?_
            refine lv_icmp_ne (tgt := 158) hx hb (kd tdlX9_runScript_1 5 rfl) (by decide) (fun hc88 => ?_) (fun hc88 => ?_)
            · have hF := kf hc88 hF
              exact hK158 (s79_.2.1, s79_.2.2.2) hF _ _ _ hP hD hS (lv_sub hl [0, 4] rfl)
            · have hF := kt hc88 hF
              refine lv_lload_n hx hb (kd tdlX9_runScript_1 6 rfl) rfl (lv_at hl 2 rfl) ?_
              refine lv_lload hx hb (kd tdlX9_runScript_1 7 rfl) (lv_at hl 3 rfl) ?_
              obtain ⟨hz94, hF⟩ := kgzl hF
              refine lv_ldiv hx hb (kd tdlX9_runScript_1 8 rfl) hz94 ?_
              refine lv_ldc2 (v := (10000)) hx hb hown Lc231 (kd tdlX9_runScript_1 9 rfl) ?_
              obtain ⟨hz98, hF⟩ := kgzl hF
              refine lv_lrem hx hb (kd tdlX9_runScript_1 10 rfl) hz98 ?_
              refine lv_l2i hx hb (kd tdlX9_runScript_1 11 rfl) rfl ?_
              refine lv_istore (lv' := [(8, .int (Int64.toInt32 ((p2 / s79_.1) - (p2 / s79_.1) / (10000) * (10000)))), (0, .ref h0), (1, .int p1), (2, .long p2), (4, .long s79_.1), (6, .int s79_.2.1), (7, .int s79_.2.2.1)]) hx hb (kd tdlX9_runScript_1 12 rfl) hl (by decide) rfl (fun ls hl => ?_)
              refine lv_aload_n hx hb (kd tdlX9_runScript_1 13 rfl) rfl (lv_at hl 1 rfl) ?_
              refine lv_iload hx hb (kd tdlX9_runScript_1 14 rfl) (lv_at hl 0 rfl) ?_
              refine lv_sipush (v := 1000) hx hb (kd tdlX9_runScript_1 15 rfl) (by decide) ?_
              obtain ⟨hz108, hF⟩ := kgz hF
              refine lv_idiv hx hb (kd tdlX9_runScript_1 16 rfl) hz108 ?_
              refine lv_iload hx hb (kd tdlX9_runScript_1 17 rfl) (lv_at hl 0 rfl) ?_
              refine lv_bipush (v := 100) hx hb (kd tdlX9_runScript_1 18 rfl) (by decide) ?_
              obtain ⟨hz113, hF⟩ := kgz hF
              refine lv_idiv hx hb (kd tdlX9_runScript_1 19 rfl) hz113 ?_
              refine lv_bipush (v := 10) hx hb (kd tdlX9_runScript_1 20 rfl) (by decide) ?_
              obtain ⟨hz116, hF⟩ := kgz hF
              refine lv_irem hx hb (kd tdlX9_runScript_1 21 rfl) hz116 ?_
              refine lv_iload hx hb (kd tdlX9_runScript_1 22 rfl) (lv_at hl 0 rfl) ?_
              refine lv_bipush (v := 10) hx hb (kd tdlX9_runScript_1 23 rfl) (by decide) ?_
              obtain ⟨hz121, hF⟩ := kgz hF
              refine lv_idiv hx hb (kd tdlX9_runScript_1 24 rfl) hz121 ?_
              refine lv_bipush (v := 10) hx hb (kd tdlX9_runScript_1 25 rfl) (by decide) ?_
              obtain ⟨hz124, hF⟩ := kgz hF
              refine lv_irem hx hb (kd tdlX9_runScript_1 26 rfl) hz124 ?_
              refine lv_iload hx hb (kd tdlX9_runScript_1 27 rfl) (lv_at hl 0 rfl) ?_
              refine lv_bipush (v := 10) hx hb (kd tdlX9_runScript_1 28 rfl) (by decide) ?_
              obtain ⟨hz129, hF⟩ := kgz hF
              refine lv_irem hx hb (kd tdlX9_runScript_1 29 rfl) hz129 ?_
              obtain ⟨v130, e130, hF⟩ := kc hF
              refine kc_i0 (w1 := ((wmdF t h0 a0 (md_thrown v130.2) (md_s v130.2) (md_aside v130.2) (md_base v130.2) (md_saved v130.2) (md_savedMany v130.2) (md_slots v130.2) (md_hasSlot v130.2) (md_text v130.2) (md_length v130.2) (md_begins v130.2) (md_lengths v130.2) (md_streams v130.2) (md_letters v130.2) (md_letterMany v130.2) (md_chunks v130.2) (md_chunkMany v130.2) (md_homes v130.2) (md_dropped v130.2) (md_madeIn v130.2) (md_madeAt v130.2) (md_putMany v130.2) (md_path v130.2) (md_store v130.2) (md_thinOnes v130.2)))) hP hD hS hA (kr_V0 (Qx := (fun A => kQi D (TY t) ((wmdF t h0 a0 (md_thrown v130.2) (md_s v130.2) (md_aside v130.2) (md_base v130.2) (md_saved v130.2) (md_savedMany v130.2) (md_slots v130.2) (md_hasSlot v130.2) (md_text v130.2) (md_length v130.2) (md_begins v130.2) (md_lengths v130.2) (md_streams v130.2) (md_letters v130.2) (md_letterMany v130.2) (md_chunks v130.2) (md_chunkMany v130.2) (md_homes v130.2) (md_dropped v130.2) (md_madeIn v130.2) (md_madeAt v130.2) (md_putMany v130.2) (md_path v130.2) (md_store v130.2) (md_thinOnes v130.2))) v130.1 A)) (As := [.int ((Int64.toInt32 ((p2 / s79_.1) - (p2 / s79_.1) / (10000) * (10000))) / 1000), .int (((Int64.toInt32 ((p2 / s79_.1) - (p2 / s79_.1) / (10000) * (10000))) / 100) - ((Int64.toInt32 ((p2 / s79_.1) - (p2 / s79_.1) / (10000) * (10000))) / 100) / 10 * 10), .int (((Int64.toInt32 ((p2 / s79_.1) - (p2 / s79_.1) / (10000) * (10000))) / 10) - ((Int64.toInt32 ((p2 / s79_.1) - (p2 / s79_.1) / (10000) * (10000))) / 10) / 10 * 10), .int ((Int64.toInt32 ((p2 / s79_.1) - (p2 / s79_.1) / (10000) * (10000))) - (Int64.toInt32 ((p2 / s79_.1) - (p2 / s79_.1) / (10000) * (10000))) / 10 * 10)]) (rest := []) ⟨hx, hb, hml, hown, hts⟩ hK hP hD (c_X9_does l D t h0 a0 s79_.2.2.2 _ ((Int64.toInt32 ((p2 / s79_.1) - (p2 / s79_.1) / (10000) * (10000))) / 1000) (((Int64.toInt32 ((p2 / s79_.1) - (p2 / s79_.1) / (10000) * (10000))) / 100) - ((Int64.toInt32 ((p2 / s79_.1) - (p2 / s79_.1) / (10000) * (10000))) / 100) / 10 * 10) (((Int64.toInt32 ((p2 / s79_.1) - (p2 / s79_.1) / (10000) * (10000))) / 10) - ((Int64.toInt32 ((p2 / s79_.1) - (p2 / s79_.1) / (10000) * (10000))) / 10) / 10 * 10) ((Int64.toInt32 ((p2 / s79_.1) - (p2 / s79_.1) / (10000) * (10000))) - (Int64.toInt32 ((p2 / s79_.1) - (p2 / s79_.1) / (10000) * (10000))) / 10 * 10) v130 e130) (cwV 4 hts (gcX9_does w_1000) rfl rfl rfl hdX9_doesV ⟨Nat.le_of_ble_eq_true rfl, Nat.le_of_ble_eq_true rfl⟩) (ci := 8) (q0 := 0) rfl rfl rfl hl.1 rfl (Nat.le_of_ble_eq_true rfl) (kd tdlX9_runScript_1 30 rfl) ⟨Nat.zero_le _, Nat.zero_le _⟩) (fun H locs hP hD hS => ?_)
              have hJ142 : ∀ j142 : Int32, J_X9_runScript_142 self79 s79_ v130 j142 = some r → ∀ (H : Heap) (locs : List Loc) (ls : Array Slot), va_P D vwCl ((wmdF t h0 a0 (md_thrown v130.2) (md_s v130.2) (md_aside v130.2) (md_base v130.2) (md_saved v130.2) (md_savedMany v130.2) (md_slots v130.2) (md_hasSlot v130.2) (md_text v130.2) (md_length v130.2) (md_begins v130.2) (md_lengths v130.2) (md_streams v130.2) (md_letters v130.2) (md_letterMany v130.2) (md_chunks v130.2) (md_chunkMany v130.2) (md_homes v130.2) (md_dropped v130.2) (md_madeIn v130.2) (md_madeAt v130.2) (md_putMany v130.2) (md_path v130.2) (md_store v130.2) (md_thinOnes v130.2))) H → va_D A ((wmdF t h0 a0 (md_thrown v130.2) (md_s v130.2) (md_aside v130.2) (md_base v130.2) (md_saved v130.2) (md_savedMany v130.2) (md_slots v130.2) (md_hasSlot v130.2) (md_text v130.2) (md_length v130.2) (md_begins v130.2) (md_lengths v130.2) (md_streams v130.2) (md_letters v130.2) (md_letterMany v130.2) (md_chunks v130.2) (md_chunkMany v130.2) (md_homes v130.2) (md_dropped v130.2) (md_madeIn v130.2) (md_madeAt v130.2) (md_putMany v130.2) (md_path v130.2) (md_store v130.2) (md_thinOnes v130.2))) → va_S A s.heap H locs → lv_has ls 9 [(0, .ref h0), (1, .int p1), (2, .long p2), (4, .long s79_.1), (7, .int s79_.2.2.1)] → W p l e ({ frames := 7, cells := 0, slots := 0, locals := 160 } : Room) s m args below meth c H locs 0 0 (MQ below (kQi D (TY t) ((wmd t h0 a0 r.2)) r.1 A) args s 0 0 A) (F0 m 142 ls [.int j142]) := by
                intro j142 hF H locs ls hP hD hS hl
                refine lv_istore (lv' := [(6, .int j142), (0, .ref h0), (1, .int p1), (2, .long p2), (4, .long s79_.1), (7, .int s79_.2.2.1)]) hx hb (kd tdlX9_runScript_1 35 rfl) hl (by decide) rfl (fun ls hl => ?_)
                refine lv_lload hx hb (kd tdlX9_runScript_1 36 rfl) (lv_at hl 4 rfl) ?_
                refine lv_ldc2 (v := (10000)) hx hb hown Lc231 (kd tdlX9_runScript_1 37 rfl) ?_
                obtain ⟨hz149, hF⟩ := kgzl hF
                refine lv_ldiv hx hb (kd tdlX9_runScript_1 38 rfl) hz149 ?_
                refine lv_lstore (lv' := [(4, .long (s79_.1 / (10000))), (6, .int j142), (0, .ref h0), (1, .int p1), (2, .long p2), (7, .int s79_.2.2.1)]) hx hb (kd tdlX9_runScript_1 39 rfl) hl (by decide) rfl (fun ls hl => ?_)
                refine lv_iinc (v := (s79_.2.2.1 + 1)) (lv' := [(7, .int (s79_.2.2.1 + 1)), (4, .long (s79_.1 / (10000))), (6, .int j142), (0, .ref h0), (1, .int p1), (2, .long p2)]) hx hb (kd tdlX9_runScript_1 40 rfl) hl (k := 5) rfl rfl (by decide) rfl (fun ls hl => ?_)
                refine lv_goto (tgt := 79) hx hb (kd tdlX9_runScript_1 41 rfl) (by decide) ?_
                exact ih79 ((s79_.1 / (10000)), j142, (s79_.2.2.1 + 1), v130.2) hF _ _ _ hP hD hS (lv_sub hl [3, 4, 5, 1, 2, 0] rfl)
              refine lv_if_eq (tgt := 140) hx hb (kd tdlX9_runScript_1 31 rfl) (by decide) (fun hc133 => ?_) (fun hc133 => ?_)
              · have hF := kt hc133 hF
                refine lv_iload hx hb (kd tdlX9_runScript_1 34 rfl) (lv_at hl 6 rfl) ?_
                exact hJ142 (s79_.2.2.1) hF _ _ _ hP hD hS (lv_sub hl [1, 2, 3, 4, 6] rfl)
              · have hF := kf hc133 hF
                refine lv_iconst (v := (-1)) hx hb (kd tdlX9_runScript_1 32 rfl) (by decide) ?_
                refine lv_goto (tgt := 142) hx hb (kd tdlX9_runScript_1 33 rfl) (by decide) ?_
                exact hJ142 ((-1)) hF _ _ _ hP hD hS (lv_sub hl [1, 2, 3, 4, 6] rfl)
        · have hF := kf hc60 hF
          exact hJ63 () hF _ _ _ hP hD hS (lv_sub hl [0] rfl)
    refine lp_ind (f := B_X9_runScript_26 p1 (K_X9_runScript_46 p2 d0 p1)) (r := r) (P := fun s26_ => ∀ (H : Heap) (locs : List Loc) (ls : Array Slot), va_P D vwCl ((wmdF t h0 a0 0 (md_s d0) (md_aside d0) (md_base d0) (md_saved d0) (md_savedMany d0) (md_slots d0) (md_hasSlot d0) (md_text d0) (md_length d0) (md_begins d0) (md_lengths d0) (md_streams d0) (md_letters d0) (md_letterMany d0) (md_chunks d0) (md_chunkMany d0) (md_homes d0) (md_dropped d0) (md_madeIn d0) (md_madeAt d0) (md_putMany d0) (md_path d0) (md_store d0) (md_thinOnes d0))) H → va_D A ((wmdF t h0 a0 0 (md_s d0) (md_aside d0) (md_base d0) (md_saved d0) (md_savedMany d0) (md_slots d0) (md_hasSlot d0) (md_text d0) (md_length d0) (md_begins d0) (md_lengths d0) (md_streams d0) (md_letters d0) (md_letterMany d0) (md_chunks d0) (md_chunkMany d0) (md_homes d0) (md_dropped d0) (md_madeIn d0) (md_madeAt d0) (md_putMany d0) (md_path d0) (md_store d0) (md_thinOnes d0))) → va_S A s.heap H locs → lv_has ls 9 [(0, .ref h0), (1, .int p1), (2, .long p2), (4, .long s26_.1), (6, .int s26_.2)] → W p l e ({ frames := 7, cells := 0, slots := 0, locals := 160 } : Room) s m args below meth c H locs 0 0 (MQ below (kQi D (TY t) ((wmd t h0 a0 r.2)) r.1 A) args s 0 0 A) (F0 m 26 ls [])) ?_ FU (1, 1) hF _ _ _ hP hD hS (lv_sub hl [2, 3, 4, 1, 0] rfl)
    intro self26 ih26 s26_ hF H locs ls hP hD hS hl
    refine lv_iload hx hb (kd tdlX9_runScript_0 16 rfl) (lv_at hl 4 rfl) ?_
    refine lv_iload_n hx hb (kd tdlX9_runScript_0 17 rfl) rfl (lv_at hl 1 rfl) ?_
    refine lv_icmp_ge (tgt := 46) hx hb (kd tdlX9_runScript_0 18 rfl) (by decide) (fun hc29 => ?_) (fun hc29 => ?_)
    · have hF := kt hc29 hF
      exact hK46 (s26_.1) hF _ _ _ hP hD hS (lv_sub hl [0, 1, 2, 3] rfl)
    · have hF := kf hc29 hF
      refine lv_lload hx hb (kd tdlX9_runScript_0 19 rfl) (lv_at hl 3 rfl) ?_
      refine lv_ldc2 (v := (10000)) hx hb hown Lc231 (kd tdlX9_runScript_0 20 rfl) ?_
      refine lv_lmul hx hb (kd tdlX9_runScript_0 21 rfl) ?_
      refine lv_lstore (lv' := [(4, .long (s26_.1 * (10000))), (0, .ref h0), (1, .int p1), (2, .long p2), (6, .int s26_.2)]) hx hb (kd tdlX9_runScript_0 22 rfl) hl (by decide) rfl (fun ls hl => ?_)
      refine lv_iinc (v := (s26_.2 + 1)) (lv' := [(6, .int (s26_.2 + 1)), (4, .long (s26_.1 * (10000))), (0, .ref h0), (1, .int p1), (2, .long p2)]) hx hb (kd tdlX9_runScript_0 23 rfl) hl (k := 4) rfl rfl (by decide) rfl (fun ls hl => ?_)
      refine lv_goto (tgt := 26) hx hb (kd tdlX9_runScript_0 24 rfl) (by decide) ?_
      exact ih26 ((s26_.1 * (10000)), (s26_.2 + 1)) hF _ _ _ hP hD hS (lv_sub hl [2, 3, 4, 1, 0] rfl)
  · have hF := kt hc11 hF
    refine lv_aload_n hx hb (kd tdlX9_runScript_0 8 rfl) rfl (lv_at hl 0 rfl) ?_
    refine lv_iconst (v := 1) hx hb (kd tdlX9_runScript_0 9 rfl) (by decide) ?_
    obtain ⟨v16, e16, hF⟩ := kc hF
    refine kc_i0 (w1 := ((wmdF t h0 a0 v16.2 (md_s d0) (md_aside d0) (md_base d0) (md_saved d0) (md_savedMany d0) (md_slots d0) (md_hasSlot d0) (md_text d0) (md_length d0) (md_begins d0) (md_lengths d0) (md_streams d0) (md_letters d0) (md_letterMany d0) (md_chunks d0) (md_chunkMany d0) (md_homes d0) (md_dropped d0) (md_madeIn d0) (md_madeAt d0) (md_putMany d0) (md_path d0) (md_store d0) (md_thinOnes d0)))) hP hD hS hA (kr_V0 (Qx := (fun A => kQi D (TY t) ((wmdF t h0 a0 v16.2 (md_s d0) (md_aside d0) (md_base d0) (md_saved d0) (md_savedMany d0) (md_slots d0) (md_hasSlot d0) (md_text d0) (md_length d0) (md_begins d0) (md_lengths d0) (md_streams d0) (md_letters d0) (md_letterMany d0) (md_chunks d0) (md_chunkMany d0) (md_homes d0) (md_dropped d0) (md_madeIn d0) (md_madeAt d0) (md_putMany d0) (md_path d0) (md_store d0) (md_thinOnes d0))) v16.1 A)) (As := [.int 1]) (rest := []) ⟨hx, hb, hml, hown, hts⟩ hK hP hD (c_X9_fails l D t h0 a0 (0, (md_s d0), (md_aside d0), (md_base d0), (md_saved d0), (md_savedMany d0), (md_slots d0), (md_hasSlot d0), (md_text d0), (md_length d0), (md_begins d0), (md_lengths d0), (md_streams d0), (md_letters d0), (md_letterMany d0), (md_chunks d0), (md_chunkMany d0), (md_homes d0), (md_dropped d0), (md_madeIn d0), (md_madeAt d0), (md_putMany d0), (md_path d0), (md_store d0), (md_thinOnes d0)) _ 1 v16 e16) (cwV 1 hts (gcX9_fails w_153) rfl rfl rfl hdX9_failsV ⟨Nat.le_of_ble_eq_true rfl, Nat.le_of_ble_eq_true rfl⟩) (ci := 8) (q0 := 0) rfl rfl rfl hl.1 rfl (Nat.le_of_ble_eq_true rfl) (kd tdlX9_runScript_0 10 rfl) ⟨Nat.zero_le _, Nat.zero_le _⟩) (fun H locs hP hD hS => ?_)
    cases ko hF
    exact ke_i hx hb hr hlocks hK hP hD hS rfl (kd tdlX9_runScript_0 11 rfl)
