set_option maxHeartbeats 4000000 in
set_option maxRecDepth 100000 in
theorem c_X9_containerOf (l : Launch) (D : va_G) (t : Nat → ClassId) (h0 : Nat) (a0 : Nat → Nat) (d0 : MDT) (sz : Nat) (p1 : Int32) (p2 : Int32) (r : Int32 × Int32) (hF : F_X9_containerOf (md_thrown d0) (md_s d0) p1 p2 = some r) : Met l yX9_containerOf wX9_containerOf ({ frames := 4, cells := 0, slots := 0, locals := 93 } : Room) (kPc D (TY t) ((wmd t h0 a0 d0)) [.ref h0, .int p1, .int p2] sz) (kQi D (TY t) ((wmd t h0 a0 (r.2, (md_s d0), (md_aside d0), (md_base d0), (md_saved d0), (md_savedMany d0), (md_slots d0), (md_hasSlot d0), (md_text d0), (md_length d0), (md_begins d0), (md_lengths d0), (md_streams d0), (md_letters d0), (md_letterMany d0), (md_chunks d0), (md_chunkMany d0), (md_homes d0), (md_dropped d0), (md_madeIn d0), (md_madeAt d0), (md_putMany d0), (md_path d0), (md_store d0), (md_thinOnes d0)))) r.1 (va_A ((wmd t h0 a0 d0)) sz)) 0 0 (va_A ((wmd t h0 a0 d0)) sz) := by
  refine kE (cc := cX9_containerOf) (maxL := 6) (ret := (some .int)) (Qx := fun A => kQi D (TY t) ((wmd t h0 a0 (r.2, (md_s d0), (md_aside d0), (md_base d0), (md_saved d0), (md_savedMany d0), (md_slots d0), (md_hasSlot d0), (md_text d0), (md_length d0), (md_begins d0), (md_lengths d0), (md_streams d0), (md_letters d0), (md_letterMany d0), (md_chunks d0), (md_chunkMany d0), (md_homes d0), (md_dropped d0), (md_madeIn d0), (md_madeAt d0), (md_putMany d0), (md_path d0), (md_store d0), (md_thinOnes d0)))) r.1 A) (lv0 := [(0, .ref h0), (1, .int p1), (2, .int p2)]) RX9 rfl (by decide) rfl (Nat.le_of_ble_eq_true rfl) rfl ?_
  intro p e s m args below meth c A ls hx hb hml hr hlocks hown hts hA hK hP hD hS hl
  have L65 := hts (.fieldLink RX9 65 "ChunkCarriersModel" "thrown" "I") (List.mem_cons_of_mem _ w_119)
  have L7 := hts (.fieldLink RX9 7 "ChunkCarriersModel" "s" "[I") (List.mem_cons_of_mem _ w_101)
  have inX9_ : ∀ w ∈ wsX90, w ∈ wX9_containerOf := fun w h => List.mem_cons_of_mem _ (inlX9 w h)
  have hP : va_P D vwCl ((wmdF t h0 a0 (md_thrown d0) (md_s d0) (md_aside d0) (md_base d0) (md_saved d0) (md_savedMany d0) (md_slots d0) (md_hasSlot d0) (md_text d0) (md_length d0) (md_begins d0) (md_lengths d0) (md_streams d0) (md_letters d0) (md_letterMany d0) (md_chunks d0) (md_chunkMany d0) (md_homes d0) (md_dropped d0) (md_madeIn d0) (md_madeAt d0) (md_putMany d0) (md_path d0) (md_store d0) (md_thinOnes d0))) s.heap := hP
  have hD : va_D A ((wmdF t h0 a0 (md_thrown d0) (md_s d0) (md_aside d0) (md_base d0) (md_saved d0) (md_savedMany d0) (md_slots d0) (md_hasSlot d0) (md_text d0) (md_length d0) (md_begins d0) (md_lengths d0) (md_streams d0) (md_letters d0) (md_letterMany d0) (md_chunks d0) (md_chunkMany d0) (md_homes d0) (md_dropped d0) (md_madeIn d0) (md_madeAt d0) (md_putMany d0) (md_path d0) (md_store d0) (md_thinOnes d0))) := hD
  refine lv_aload_n hx hb (kd tdlX9_containerOf_0 0 rfl) rfl (lv_at hl 0 rfl) ?_
  refine lv_iconst (v := 0) hx hb (kd tdlX9_containerOf_0 1 rfl) (by decide) ?_
  refine md_p_thrown hx hb hts inX9_ hown hK hP hD hS L65 (kd tdlX9_containerOf_0 2 rfl) (fun H locs hP hD hS => ?_)
  refine lv_aload_n hx hb (kd tdlX9_containerOf_0 3 rfl) rfl (lv_at hl 0 rfl) ?_
  refine lv_iload_n hx hb (kd tdlX9_containerOf_0 4 rfl) rfl (lv_at hl 1 rfl) ?_
  obtain ⟨v7, e7, hF⟩ := kc hF
  refine kc_i0 (w1 := ((wmdF t h0 a0 0 (md_s d0) (md_aside d0) (md_base d0) (md_saved d0) (md_savedMany d0) (md_slots d0) (md_hasSlot d0) (md_text d0) (md_length d0) (md_begins d0) (md_lengths d0) (md_streams d0) (md_letters d0) (md_letterMany d0) (md_chunks d0) (md_chunkMany d0) (md_homes d0) (md_dropped d0) (md_madeIn d0) (md_madeAt d0) (md_putMany d0) (md_path d0) (md_store d0) (md_thinOnes d0)))) hP hD hS hA (kr_V0 (Qx := (fun A => kQi D (TY t) ((wmdF t h0 a0 0 (md_s d0) (md_aside d0) (md_base d0) (md_saved d0) (md_savedMany d0) (md_slots d0) (md_hasSlot d0) (md_text d0) (md_length d0) (md_begins d0) (md_lengths d0) (md_streams d0) (md_letters d0) (md_letterMany d0) (md_chunks d0) (md_chunkMany d0) (md_homes d0) (md_dropped d0) (md_madeIn d0) (md_madeAt d0) (md_putMany d0) (md_path d0) (md_store d0) (md_thinOnes d0))) v7 A)) (As := [.int p1]) (rest := []) ⟨hx, hb, hml, hown, hts⟩ hK hP hD (c_X9_slotOf l D t h0 a0 (0, (md_s d0), (md_aside d0), (md_base d0), (md_saved d0), (md_savedMany d0), (md_slots d0), (md_hasSlot d0), (md_text d0), (md_length d0), (md_begins d0), (md_lengths d0), (md_streams d0), (md_letters d0), (md_letterMany d0), (md_chunks d0), (md_chunkMany d0), (md_homes d0), (md_dropped d0), (md_madeIn d0), (md_madeAt d0), (md_putMany d0), (md_path d0), (md_store d0), (md_thinOnes d0)) _ p1 v7 e7) (cwV 1 hts (gcX9_slotOf w_479) rfl rfl rfl hdX9_slotOfV ⟨Nat.le_of_ble_eq_true rfl, Nat.le_of_ble_eq_true rfl⟩) (ci := 8) (q0 := 0) rfl rfl rfl hl.1 rfl (Nat.le_of_ble_eq_true rfl) (kd tdlX9_containerOf_0 5 rfl) ⟨Nat.zero_le _, Nat.zero_le _⟩) (fun H locs hP hD hS => ?_)
  refine lv_istore_n (lv' := [(3, .int v7), (0, .ref h0), (1, .int p1), (2, .int p2)]) hx hb (kd tdlX9_containerOf_0 6 rfl) rfl hl (by decide) rfl (fun ls hl => ?_)
  refine lv_iload_n hx hb (kd tdlX9_containerOf_0 7 rfl) rfl (lv_at hl 0 rfl) ?_
  refine lv_iconst (v := (-1)) hx hb (kd tdlX9_containerOf_0 8 rfl) (by decide) ?_
  refine lv_icmp_ne (tgt := 22) hx hb (kd tdlX9_containerOf_0 9 rfl) (by decide) (fun hc13 => ?_) (fun hc13 => ?_)
  · have hF := kf hc13 hF
    refine lv_iload_n hx hb (kd tdlX9_containerOf_0 14 rfl) rfl (lv_at hl 3 rfl) ?_
    refine lv_iconst (v := 0) hx hb (kd tdlX9_containerOf_0 15 rfl) (by decide) ?_
    refine lv_iconst (v := 4) hx hb (kd tdlX9_containerOf_0 16 rfl) (by decide) ?_
    obtain ⟨v25, e25, hF⟩ := kc hF
    refine kc_iR hK hP hD hS hA [] rfl (kr_S (Qx := (fun A => kQi D (TY t) ([] : va_W) v25 A)) (wc := ([] : va_W)) (As := [.int p2, .int 0, .int 4]) (rest := []) ⟨hx, hb, hml, hown, hts⟩ hK hP hD [] nd_ rfl (c_X9_in l D t  _ p2 0 4 v25 e25) (va_cwS 3 hts (gcX9_in w_150) rfl rfl rfl hdX9_inS ⟨Nat.le_of_ble_eq_true rfl, Nat.le_of_ble_eq_true rfl⟩) rfl hl.1 rfl (Nat.le_of_ble_eq_true rfl) (kd tdlX9_containerOf_0 17 rfl) ⟨Nat.zero_le _, Nat.zero_le _⟩) (fun H locs hP hS => ?_)
    refine lv_if_ne (tgt := 37) hx hb (kd tdlX9_containerOf_0 18 rfl) (by decide) (fun hc28 => ?_) (fun hc28 => ?_)
    · have hF := kf hc28 hF
      refine lv_iconst (v := 0) hx hb (kd tdlX9_containerOf_0 23 rfl) (by decide) ?_
      refine lv_istore (lv' := [(4, .int 0), (3, .int v7), (0, .ref h0), (1, .int p1), (2, .int p2)]) hx hb (kd tdlX9_containerOf_0 24 rfl) hl (by decide) rfl (fun ls hl => ?_)
      refine lv_iconst (v := 0) hx hb (kd tdlX9_containerOf_0 25 rfl) (by decide) ?_
      refine lv_istore (lv' := [(5, .int 0), (4, .int 0), (3, .int v7), (0, .ref h0), (1, .int p1), (2, .int p2)]) hx hb (kd tdlX9_containerOf_0 26 rfl) hl (by decide) rfl (fun ls hl => ?_)
      have hK76 : ∀ k76 : Int32, K_X9_containerOf_76 p2 v7 (md_s d0) k76 = some r → ∀ (H : Heap) (locs : List Loc) (ls : Array Slot), va_P D vwCl ((wmdF t h0 a0 0 (md_s d0) (md_aside d0) (md_base d0) (md_saved d0) (md_savedMany d0) (md_slots d0) (md_hasSlot d0) (md_text d0) (md_length d0) (md_begins d0) (md_lengths d0) (md_streams d0) (md_letters d0) (md_letterMany d0) (md_chunks d0) (md_chunkMany d0) (md_homes d0) (md_dropped d0) (md_madeIn d0) (md_madeAt d0) (md_putMany d0) (md_path d0) (md_store d0) (md_thinOnes d0))) H → va_D A ((wmdF t h0 a0 0 (md_s d0) (md_aside d0) (md_base d0) (md_saved d0) (md_savedMany d0) (md_slots d0) (md_hasSlot d0) (md_text d0) (md_length d0) (md_begins d0) (md_lengths d0) (md_streams d0) (md_letters d0) (md_letterMany d0) (md_chunks d0) (md_chunkMany d0) (md_homes d0) (md_dropped d0) (md_madeIn d0) (md_madeAt d0) (md_putMany d0) (md_path d0) (md_store d0) (md_thinOnes d0))) → va_S A s.heap H locs → lv_has ls 6 [(0, .ref h0), (2, .int p2), (3, .int v7), (4, .int k76)] → W p l e ({ frames := 4, cells := 0, slots := 0, locals := 93 } : Room) s m args below meth c H locs 0 0 (MQ below (kQi D (TY t) ((wmd t h0 a0 (r.2, (md_s d0), (md_aside d0), (md_base d0), (md_saved d0), (md_savedMany d0), (md_slots d0), (md_hasSlot d0), (md_text d0), (md_length d0), (md_begins d0), (md_lengths d0), (md_streams d0), (md_letters d0), (md_letterMany d0), (md_chunks d0), (md_chunkMany d0), (md_homes d0), (md_dropped d0), (md_madeIn d0), (md_madeAt d0), (md_putMany d0), (md_path d0), (md_store d0), (md_thinOnes d0)))) r.1 A) args s 0 0 A) (F0 m 76 ls []) := by
        intro k76 hF H locs ls hP hD hS hl
        refine lv_iload_n hx hb (kd tdlX9_containerOf_0 43 rfl) rfl (lv_at hl 1 rfl) ?_
        by_cases hw77 : (Int32.toInt p2 < 0 ∨ 3 < Int32.toInt p2)
        · have hF := kt hw77 hF
          refine lv_tableOut (tgt := 155) hx hb (kd tdlX9_containerOf_0 44 rfl) hw77 (by decide) ?_
          refine lv_iload hx hb (kd tdlX9_containerOf_1 31 rfl) (lv_at hl 3 rfl) ?_
          cases ko hF
          exact ke_i hx hb hr hlocks hK hP hD hS rfl (kd tdlX9_containerOf_1 32 rfl)
        · have hF := kf hw77 hF
          by_cases hv77_0 : p2 = 0
          · have hF := kt hv77_0 hF
            refine ksw (n := 0) (off := (31)) (tgt := 108) hx hb (kd tdlX9_containerOf_0 44 rfl) hv77_0 (by decide) (by decide) (by decide) (by decide) ?_
            refine lv_aload_n hx hb (kd tdlX9_containerOf_1 0 rfl) rfl (lv_at hl 0 rfl) ?_
            refine md_g_s hx hb hts inX9_ hown hK hP L7 (kd tdlX9_containerOf_1 1 rfl) ?_
            refine lv_aload_n hx hb (kd tdlX9_containerOf_1 2 rfl) rfl (lv_at hl 0 rfl) ?_
            refine lv_iload_n hx hb (kd tdlX9_containerOf_1 3 rfl) rfl (lv_at hl 2 rfl) ?_
            obtain ⟨v114, e114, hF⟩ := kc hF
            refine kc_i0 (w1 := ((wmdF t h0 a0 0 (md_s d0) (md_aside d0) (md_base d0) (md_saved d0) (md_savedMany d0) (md_slots d0) (md_hasSlot d0) (md_text d0) (md_length d0) (md_begins d0) (md_lengths d0) (md_streams d0) (md_letters d0) (md_letterMany d0) (md_chunks d0) (md_chunkMany d0) (md_homes d0) (md_dropped d0) (md_madeIn d0) (md_madeAt d0) (md_putMany d0) (md_path d0) (md_store d0) (md_thinOnes d0)))) hP hD hS hA (kr_V0 (Qx := (fun A => kQi D (TY t) ((wmdF t h0 a0 0 (md_s d0) (md_aside d0) (md_base d0) (md_saved d0) (md_savedMany d0) (md_slots d0) (md_hasSlot d0) (md_text d0) (md_length d0) (md_begins d0) (md_lengths d0) (md_streams d0) (md_letters d0) (md_letterMany d0) (md_chunks d0) (md_chunkMany d0) (md_homes d0) (md_dropped d0) (md_madeIn d0) (md_madeAt d0) (md_putMany d0) (md_path d0) (md_store d0) (md_thinOnes d0))) v114 A)) (As := [.int v7]) (rest := [.ref (a0 0)]) ⟨hx, hb, hml, hown, hts⟩ hK hP hD (c_X9_at l D t h0 a0 (0, (md_s d0), (md_aside d0), (md_base d0), (md_saved d0), (md_savedMany d0), (md_slots d0), (md_hasSlot d0), (md_text d0), (md_length d0), (md_begins d0), (md_lengths d0), (md_streams d0), (md_letters d0), (md_letterMany d0), (md_chunks d0), (md_chunkMany d0), (md_homes d0), (md_dropped d0), (md_madeIn d0), (md_madeAt d0), (md_putMany d0), (md_path d0), (md_store d0), (md_thinOnes d0)) _ v7 v114 e114) (cwV 1 hts (gcX9_at w_306) rfl rfl rfl hdX9_atV ⟨Nat.le_of_ble_eq_true rfl, Nat.le_of_ble_eq_true rfl⟩) (ci := 8) (q0 := 0) rfl rfl rfl hl.1 rfl (Nat.le_of_ble_eq_true rfl) (kd tdlX9_containerOf_1 4 rfl) ⟨Nat.zero_le _, Nat.zero_le _⟩) (fun H locs hP hD hS => ?_)
            refine lv_iconst (v := 1) hx hb (kd tdlX9_containerOf_1 5 rfl) (by decide) ?_
            refine lv_iadd hx hb (kd tdlX9_containerOf_1 6 rfl) ?_
            obtain ⟨hi119, hF⟩ := kg hF
            refine md_l_s hx hb hK hP hi119 (kd tdlX9_containerOf_1 7 rfl) ?_
            cases ko hF
            exact ke_i hx hb hr hlocks hK hP hD hS rfl (kd tdlX9_containerOf_1 8 rfl)
          · have hF := kf hv77_0 hF
            by_cases hv77_1 : p2 = 1
            · have hF := kt hv77_1 hF
              refine ksw (n := 1) (off := (44)) (tgt := 121) hx hb (kd tdlX9_containerOf_0 44 rfl) hv77_1 (by decide) (by decide) (by decide) (by decide) ?_
              refine lv_aload_n hx hb (kd tdlX9_containerOf_1 9 rfl) rfl (lv_at hl 0 rfl) ?_
              refine md_g_s hx hb hts inX9_ hown hK hP L7 (kd tdlX9_containerOf_1 10 rfl) ?_
              refine lv_aload_n hx hb (kd tdlX9_containerOf_1 11 rfl) rfl (lv_at hl 0 rfl) ?_
              refine lv_iload_n hx hb (kd tdlX9_containerOf_1 12 rfl) rfl (lv_at hl 2 rfl) ?_
              obtain ⟨v127, e127, hF⟩ := kc hF
              refine kc_i0 (w1 := ((wmdF t h0 a0 0 (md_s d0) (md_aside d0) (md_base d0) (md_saved d0) (md_savedMany d0) (md_slots d0) (md_hasSlot d0) (md_text d0) (md_length d0) (md_begins d0) (md_lengths d0) (md_streams d0) (md_letters d0) (md_letterMany d0) (md_chunks d0) (md_chunkMany d0) (md_homes d0) (md_dropped d0) (md_madeIn d0) (md_madeAt d0) (md_putMany d0) (md_path d0) (md_store d0) (md_thinOnes d0)))) hP hD hS hA (kr_V0 (Qx := (fun A => kQi D (TY t) ((wmdF t h0 a0 0 (md_s d0) (md_aside d0) (md_base d0) (md_saved d0) (md_savedMany d0) (md_slots d0) (md_hasSlot d0) (md_text d0) (md_length d0) (md_begins d0) (md_lengths d0) (md_streams d0) (md_letters d0) (md_letterMany d0) (md_chunks d0) (md_chunkMany d0) (md_homes d0) (md_dropped d0) (md_madeIn d0) (md_madeAt d0) (md_putMany d0) (md_path d0) (md_store d0) (md_thinOnes d0))) v127 A)) (As := [.int v7]) (rest := [.ref (a0 0)]) ⟨hx, hb, hml, hown, hts⟩ hK hP hD (c_X9_at l D t h0 a0 (0, (md_s d0), (md_aside d0), (md_base d0), (md_saved d0), (md_savedMany d0), (md_slots d0), (md_hasSlot d0), (md_text d0), (md_length d0), (md_begins d0), (md_lengths d0), (md_streams d0), (md_letters d0), (md_letterMany d0), (md_chunks d0), (md_chunkMany d0), (md_homes d0), (md_dropped d0), (md_madeIn d0), (md_madeAt d0), (md_putMany d0), (md_path d0), (md_store d0), (md_thinOnes d0)) _ v7 v127 e127) (cwV 1 hts (gcX9_at w_306) rfl rfl rfl hdX9_atV ⟨Nat.le_of_ble_eq_true rfl, Nat.le_of_ble_eq_true rfl⟩) (ci := 8) (q0 := 0) rfl rfl rfl hl.1 rfl (Nat.le_of_ble_eq_true rfl) (kd tdlX9_containerOf_1 13 rfl) ⟨Nat.zero_le _, Nat.zero_le _⟩) (fun H locs hP hD hS => ?_)
              refine lv_iconst (v := 2) hx hb (kd tdlX9_containerOf_1 14 rfl) (by decide) ?_
              refine lv_iadd hx hb (kd tdlX9_containerOf_1 15 rfl) ?_
              obtain ⟨hi132, hF⟩ := kg hF
              refine md_l_s hx hb hK hP hi132 (kd tdlX9_containerOf_1 16 rfl) ?_
              cases ko hF
              exact ke_i hx hb hr hlocks hK hP hD hS rfl (kd tdlX9_containerOf_1 17 rfl)
            · have hF := kf hv77_1 hF
              by_cases hv77_2 : p2 = 2
              · have hF := kt hv77_2 hF
                refine ksw (n := 2) (off := (57)) (tgt := 134) hx hb (kd tdlX9_containerOf_0 44 rfl) hv77_2 (by decide) (by decide) (by decide) (by decide) ?_
                refine lv_aload_n hx hb (kd tdlX9_containerOf_1 18 rfl) rfl (lv_at hl 0 rfl) ?_
                refine lv_iload_n hx hb (kd tdlX9_containerOf_1 19 rfl) rfl (lv_at hl 2 rfl) ?_
                refine lv_iconst (v := (-1)) hx hb (kd tdlX9_containerOf_1 20 rfl) (by decide) ?_
                obtain ⟨v137, e137, hF⟩ := kc hF
                refine kc_i0 (w1 := ((wmdF t h0 a0 0 (md_s d0) (md_aside d0) (md_base d0) (md_saved d0) (md_savedMany d0) (md_slots d0) (md_hasSlot d0) (md_text d0) (md_length d0) (md_begins d0) (md_lengths d0) (md_streams d0) (md_letters d0) (md_letterMany d0) (md_chunks d0) (md_chunkMany d0) (md_homes d0) (md_dropped d0) (md_madeIn d0) (md_madeAt d0) (md_putMany d0) (md_path d0) (md_store d0) (md_thinOnes d0)))) hP hD hS hA (kr_V0 (Qx := (fun A => kQi D (TY t) ((wmdF t h0 a0 0 (md_s d0) (md_aside d0) (md_base d0) (md_saved d0) (md_savedMany d0) (md_slots d0) (md_hasSlot d0) (md_text d0) (md_length d0) (md_begins d0) (md_lengths d0) (md_streams d0) (md_letters d0) (md_letterMany d0) (md_chunks d0) (md_chunkMany d0) (md_homes d0) (md_dropped d0) (md_madeIn d0) (md_madeAt d0) (md_putMany d0) (md_path d0) (md_store d0) (md_thinOnes d0))) v137 A)) (As := [.int v7, .int (-1)]) (rest := []) ⟨hx, hb, hml, hown, hts⟩ hK hP hD (c_X9_livingIn l D t h0 a0 (0, (md_s d0), (md_aside d0), (md_base d0), (md_saved d0), (md_savedMany d0), (md_slots d0), (md_hasSlot d0), (md_text d0), (md_length d0), (md_begins d0), (md_lengths d0), (md_streams d0), (md_letters d0), (md_letterMany d0), (md_chunks d0), (md_chunkMany d0), (md_homes d0), (md_dropped d0), (md_madeIn d0), (md_madeAt d0), (md_putMany d0), (md_path d0), (md_store d0), (md_thinOnes d0)) _ v7 (-1) v137 e137) (cwV 2 hts (gcX9_livingIn w_398) rfl rfl rfl hdX9_livingInV ⟨Nat.le_of_ble_eq_true rfl, Nat.le_of_ble_eq_true rfl⟩) (ci := 8) (q0 := 0) rfl rfl rfl hl.1 rfl (Nat.le_of_ble_eq_true rfl) (kd tdlX9_containerOf_1 21 rfl) ⟨Nat.zero_le _, Nat.zero_le _⟩) (fun H locs hP hD hS => ?_)
                cases ko hF
                exact ke_i hx hb hr hlocks hK hP hD hS rfl (kd tdlX9_containerOf_1 22 rfl)
              · have hF := kf hv77_2 hF
                have hv77_3 : p2 = 3 := keq (k := 3) (by have a0 := kne hv77_0 (k := 0) (by decide); have a1 := kne hv77_1 (k := 1) (by decide); have a2 := kne hv77_2 (k := 2) (by decide); omega) (by decide)
                refine ksw (n := 3) (off := (64)) (tgt := 141) hx hb (kd tdlX9_containerOf_0 44 rfl) hv77_3 (by decide) (by decide) (by decide) (by decide) ?_
                refine lv_aload_n hx hb (kd tdlX9_containerOf_1 23 rfl) rfl (lv_at hl 0 rfl) ?_
                refine lv_iload_n hx hb (kd tdlX9_containerOf_1 24 rfl) rfl (lv_at hl 2 rfl) ?_
                obtain ⟨v143, e143, hF⟩ := kc hF
                refine kc_i0 (w1 := ((wmdF t h0 a0 0 (md_s d0) (md_aside d0) (md_base d0) (md_saved d0) (md_savedMany d0) (md_slots d0) (md_hasSlot d0) (md_text d0) (md_length d0) (md_begins d0) (md_lengths d0) (md_streams d0) (md_letters d0) (md_letterMany d0) (md_chunks d0) (md_chunkMany d0) (md_homes d0) (md_dropped d0) (md_madeIn d0) (md_madeAt d0) (md_putMany d0) (md_path d0) (md_store d0) (md_thinOnes d0)))) hP hD hS hA (kr_V0 (Qx := (fun A => kQi D (TY t) ((wmdF t h0 a0 0 (md_s d0) (md_aside d0) (md_base d0) (md_saved d0) (md_savedMany d0) (md_slots d0) (md_hasSlot d0) (md_text d0) (md_length d0) (md_begins d0) (md_lengths d0) (md_streams d0) (md_letters d0) (md_letterMany d0) (md_chunks d0) (md_chunkMany d0) (md_homes d0) (md_dropped d0) (md_madeIn d0) (md_madeAt d0) (md_putMany d0) (md_path d0) (md_store d0) (md_thinOnes d0))) v143 A)) (As := [.int v7]) (rest := []) ⟨hx, hb, hml, hown, hts⟩ hK hP hD (c_X9_isThin l D t h0 a0 (0, (md_s d0), (md_aside d0), (md_base d0), (md_saved d0), (md_savedMany d0), (md_slots d0), (md_hasSlot d0), (md_text d0), (md_length d0), (md_begins d0), (md_lengths d0), (md_streams d0), (md_letters d0), (md_letterMany d0), (md_chunks d0), (md_chunkMany d0), (md_homes d0), (md_dropped d0), (md_madeIn d0), (md_madeAt d0), (md_putMany d0), (md_path d0), (md_store d0), (md_thinOnes d0)) _ v7 v143 e143) (cwV 1 hts (gcX9_isThin w_414) rfl rfl rfl hdX9_isThinV ⟨Nat.le_of_ble_eq_true rfl, Nat.le_of_ble_eq_true rfl⟩) (ci := 8) (q0 := 0) rfl rfl rfl hl.1 rfl (Nat.le_of_ble_eq_true rfl) (kd tdlX9_containerOf_1 25 rfl) ⟨Nat.zero_le _, Nat.zero_le _⟩) (fun H locs hP hD hS => ?_)
                refine lv_if_eq (tgt := 153) hx hb (kd tdlX9_containerOf_1 26 rfl) (by decide) (fun hc146 => ?_) (fun hc146 => ?_)
                · have hF := kt hc146 hF
                  refine lv_iconst (v := 0) hx hb (kd tdlX9_containerOf_1 29 rfl) (by decide) ?_
                  cases ko hF
                  exact ke_i hx hb hr hlocks hK hP hD hS rfl (kd tdlX9_containerOf_1 30 rfl)
                · have hF := kf hc146 hF
                  refine lv_iconst (v := 1) hx hb (kd tdlX9_containerOf_1 27 rfl) (by decide) ?_
                  refine lv_goto (tgt := 154) hx hb (kd tdlX9_containerOf_1 28 rfl) (by decide) ?_
                  cases ko hF
                  exact ke_i hx hb hr hlocks hK hP hD hS rfl (kd tdlX9_containerOf_1 30 rfl)
      refine lp_ind (f := B_X9_containerOf_43 (md_s d0) p1 (K_X9_containerOf_76 p2 v7 (md_s d0))) (r := r) (P := fun s43_ => ∀ (H : Heap) (locs : List Loc) (ls : Array Slot), va_P D vwCl ((wmdF t h0 a0 0 (md_s d0) (md_aside d0) (md_base d0) (md_saved d0) (md_savedMany d0) (md_slots d0) (md_hasSlot d0) (md_text d0) (md_length d0) (md_begins d0) (md_lengths d0) (md_streams d0) (md_letters d0) (md_letterMany d0) (md_chunks d0) (md_chunkMany d0) (md_homes d0) (md_dropped d0) (md_madeIn d0) (md_madeAt d0) (md_putMany d0) (md_path d0) (md_store d0) (md_thinOnes d0))) H → va_D A ((wmdF t h0 a0 0 (md_s d0) (md_aside d0) (md_base d0) (md_saved d0) (md_savedMany d0) (md_slots d0) (md_hasSlot d0) (md_text d0) (md_length d0) (md_begins d0) (md_lengths d0) (md_streams d0) (md_letters d0) (md_letterMany d0) (md_chunks d0) (md_chunkMany d0) (md_homes d0) (md_dropped d0) (md_madeIn d0) (md_madeAt d0) (md_putMany d0) (md_path d0) (md_store d0) (md_thinOnes d0))) → va_S A s.heap H locs → lv_has ls 6 [(0, .ref h0), (1, .int p1), (2, .int p2), (3, .int v7), (4, .int s43_.1), (5, .int s43_.2)] → W p l e ({ frames := 4, cells := 0, slots := 0, locals := 93 } : Room) s m args below meth c H locs 0 0 (MQ below (kQi D (TY t) ((wmd t h0 a0 (r.2, (md_s d0), (md_aside d0), (md_base d0), (md_saved d0), (md_savedMany d0), (md_slots d0), (md_hasSlot d0), (md_text d0), (md_length d0), (md_begins d0), (md_lengths d0), (md_streams d0), (md_letters d0), (md_letterMany d0), (md_chunks d0), (md_chunkMany d0), (md_homes d0), (md_dropped d0), (md_madeIn d0), (md_madeAt d0), (md_putMany d0), (md_path d0), (md_store d0), (md_thinOnes d0)))) r.1 A) args s 0 0 A) (F0 m 43 ls [])) ?_ FU (0, 0) hF _ _ _ hP hD hS (lv_sub hl [3, 4, 5, 2, 1, 0] rfl)
      intro self43 ih43 s43_ hF H locs ls hP hD hS hl
      refine lv_iload hx hb (kd tdlX9_containerOf_0 27 rfl) (lv_at hl 5 rfl) ?_
      refine lv_bipush (v := 8) hx hb (kd tdlX9_containerOf_0 28 rfl) (by decide) ?_
      refine lv_icmp_ge (tgt := 76) hx hb (kd tdlX9_containerOf_0 29 rfl) (by decide) (fun hc47 => ?_) (fun hc47 => ?_)
      · have hF := kt hc47 hF
        exact hK76 (s43_.1) hF _ _ _ hP hD hS (lv_sub hl [0, 2, 3, 4] rfl)
      · have hF := kf hc47 hF
        refine lv_iload hx hb (kd tdlX9_containerOf_0 30 rfl) (lv_at hl 4 rfl) ?_
        refine lv_aload_n hx hb (kd tdlX9_containerOf_0 31 rfl) rfl (lv_at hl 0 rfl) ?_
        refine lv_iload hx hb (kd tdlX9_containerOf_0 32 rfl) (lv_at hl 5 rfl) ?_
        refine lv_iload_n hx hb (kd tdlX9_containerOf_0 33 rfl) rfl (lv_at hl 1 rfl) ?_
        obtain ⟨v56, e56, hF⟩ := kc hF
        refine kc_i0 (w1 := ((wmdF t h0 a0 0 (md_s d0) (md_aside d0) (md_base d0) (md_saved d0) (md_savedMany d0) (md_slots d0) (md_hasSlot d0) (md_text d0) (md_length d0) (md_begins d0) (md_lengths d0) (md_streams d0) (md_letters d0) (md_letterMany d0) (md_chunks d0) (md_chunkMany d0) (md_homes d0) (md_dropped d0) (md_madeIn d0) (md_madeAt d0) (md_putMany d0) (md_path d0) (md_store d0) (md_thinOnes d0)))) hP hD hS hA (kr_V0 (Qx := (fun A => kQi D (TY t) ((wmdF t h0 a0 0 (md_s d0) (md_aside d0) (md_base d0) (md_saved d0) (md_savedMany d0) (md_slots d0) (md_hasSlot d0) (md_text d0) (md_length d0) (md_begins d0) (md_lengths d0) (md_streams d0) (md_letters d0) (md_letterMany d0) (md_chunks d0) (md_chunkMany d0) (md_homes d0) (md_dropped d0) (md_madeIn d0) (md_madeAt d0) (md_putMany d0) (md_path d0) (md_store d0) (md_thinOnes d0))) v56 A)) (As := [.int s43_.2, .int p1]) (rest := [.int s43_.1]) ⟨hx, hb, hml, hown, hts⟩ hK hP hD (c_X9_refersTo l D t h0 a0 (0, (md_s d0), (md_aside d0), (md_base d0), (md_saved d0), (md_savedMany d0), (md_slots d0), (md_hasSlot d0), (md_text d0), (md_length d0), (md_begins d0), (md_lengths d0), (md_streams d0), (md_letters d0), (md_letterMany d0), (md_chunks d0), (md_chunkMany d0), (md_homes d0), (md_dropped d0), (md_madeIn d0), (md_madeAt d0), (md_putMany d0), (md_path d0), (md_store d0), (md_thinOnes d0)) _ s43_.2 p1 v56 e56) (cwV 2 hts (gcX9_refersTo w_483) rfl rfl rfl hdX9_refersToV ⟨Nat.le_of_ble_eq_true rfl, Nat.le_of_ble_eq_true rfl⟩) (ci := 8) (q0 := 0) rfl rfl rfl hl.1 rfl (Nat.le_of_ble_eq_true rfl) (kd tdlX9_containerOf_0 34 rfl) ⟨Nat.zero_le _, Nat.zero_le _⟩) (fun H locs hP hD hS => ?_)
        refine lv_if_eq (tgt := 66) hx hb (kd tdlX9_containerOf_0 35 rfl) (by decide) (fun hc59 => ?_) (fun hc59 => ?_)
        · have hF := kt hc59 hF
          refine lv_iconst (v := 0) hx hb (kd tdlX9_containerOf_0 38 rfl) (by decide) ?_
          refine lv_iadd hx hb (kd tdlX9_containerOf_0 39 rfl) ?_
          refine lv_istore (lv' := [(4, .int (s43_.1 + 0)), (0, .ref h0), (1, .int p1), (2, .int p2), (3, .int v7), (5, .int s43_.2)]) hx hb (kd tdlX9_containerOf_0 40 rfl) hl (by decide) rfl (fun ls hl => ?_)
          refine lv_iinc (v := (s43_.2 + 1)) (lv' := [(5, .int (s43_.2 + 1)), (4, .int (s43_.1 + 0)), (0, .ref h0), (1, .int p1), (2, .int p2), (3, .int v7)]) hx hb (kd tdlX9_containerOf_0 41 rfl) hl (k := 5) rfl rfl (by decide) rfl (fun ls hl => ?_)
          refine lv_goto (tgt := 43) hx hb (kd tdlX9_containerOf_0 42 rfl) (by decide) ?_
          exact ih43 ((s43_.1 + 0), (s43_.2 + 1)) hF _ _ _ hP hD hS (lv_sub hl [2, 3, 4, 5, 1, 0] rfl)
        · have hF := kf hc59 hF
          refine lv_iconst (v := 1) hx hb (kd tdlX9_containerOf_0 36 rfl) (by decide) ?_
          refine lv_goto (tgt := 67) hx hb (kd tdlX9_containerOf_0 37 rfl) (by decide) ?_
          refine lv_iadd hx hb (kd tdlX9_containerOf_0 39 rfl) ?_
          refine lv_istore (lv' := [(4, .int (s43_.1 + 1)), (0, .ref h0), (1, .int p1), (2, .int p2), (3, .int v7), (5, .int s43_.2)]) hx hb (kd tdlX9_containerOf_0 40 rfl) hl (by decide) rfl (fun ls hl => ?_)
          refine lv_iinc (v := (s43_.2 + 1)) (lv' := [(5, .int (s43_.2 + 1)), (4, .int (s43_.1 + 1)), (0, .ref h0), (1, .int p1), (2, .int p2), (3, .int v7)]) hx hb (kd tdlX9_containerOf_0 41 rfl) hl (k := 5) rfl rfl (by decide) rfl (fun ls hl => ?_)
          refine lv_goto (tgt := 43) hx hb (kd tdlX9_containerOf_0 42 rfl) (by decide) ?_
          exact ih43 ((s43_.1 + 1), (s43_.2 + 1)) hF _ _ _ hP hD hS (lv_sub hl [2, 3, 4, 5, 1, 0] rfl)
    · have hF := kt hc28 hF
      refine lv_aload_n hx hb (kd tdlX9_containerOf_0 19 rfl) rfl (lv_at hl 1 rfl) ?_
      refine lv_iconst (v := 2) hx hb (kd tdlX9_containerOf_0 20 rfl) (by decide) ?_
      obtain ⟨v33, e33, hF⟩ := kc hF
      refine kc_i0 (w1 := ((wmdF t h0 a0 v33.2 (md_s d0) (md_aside d0) (md_base d0) (md_saved d0) (md_savedMany d0) (md_slots d0) (md_hasSlot d0) (md_text d0) (md_length d0) (md_begins d0) (md_lengths d0) (md_streams d0) (md_letters d0) (md_letterMany d0) (md_chunks d0) (md_chunkMany d0) (md_homes d0) (md_dropped d0) (md_madeIn d0) (md_madeAt d0) (md_putMany d0) (md_path d0) (md_store d0) (md_thinOnes d0)))) hP hD hS hA (kr_V0 (Qx := (fun A => kQi D (TY t) ((wmdF t h0 a0 v33.2 (md_s d0) (md_aside d0) (md_base d0) (md_saved d0) (md_savedMany d0) (md_slots d0) (md_hasSlot d0) (md_text d0) (md_length d0) (md_begins d0) (md_lengths d0) (md_streams d0) (md_letters d0) (md_letterMany d0) (md_chunks d0) (md_chunkMany d0) (md_homes d0) (md_dropped d0) (md_madeIn d0) (md_madeAt d0) (md_putMany d0) (md_path d0) (md_store d0) (md_thinOnes d0))) v33.1 A)) (As := [.int 2]) (rest := []) ⟨hx, hb, hml, hown, hts⟩ hK hP hD (c_X9_fails l D t h0 a0 (0, (md_s d0), (md_aside d0), (md_base d0), (md_saved d0), (md_savedMany d0), (md_slots d0), (md_hasSlot d0), (md_text d0), (md_length d0), (md_begins d0), (md_lengths d0), (md_streams d0), (md_letters d0), (md_letterMany d0), (md_chunks d0), (md_chunkMany d0), (md_homes d0), (md_dropped d0), (md_madeIn d0), (md_madeAt d0), (md_putMany d0), (md_path d0), (md_store d0), (md_thinOnes d0)) _ 2 v33 e33) (cwV 1 hts (gcX9_fails w_153) rfl rfl rfl hdX9_failsV ⟨Nat.le_of_ble_eq_true rfl, Nat.le_of_ble_eq_true rfl⟩) (ci := 8) (q0 := 0) rfl rfl rfl hl.1 rfl (Nat.le_of_ble_eq_true rfl) (kd tdlX9_containerOf_0 21 rfl) ⟨Nat.zero_le _, Nat.zero_le _⟩) (fun H locs hP hD hS => ?_)
      cases ko hF
      exact ke_i hx hb hr hlocks hK hP hD hS rfl (kd tdlX9_containerOf_0 22 rfl)
  · have hF := kt hc13 hF
    refine lv_aload_n hx hb (kd tdlX9_containerOf_0 10 rfl) rfl (lv_at hl 1 rfl) ?_
    refine lv_iconst (v := 1) hx hb (kd tdlX9_containerOf_0 11 rfl) (by decide) ?_
    obtain ⟨v18, e18, hF⟩ := kc hF
    refine kc_i0 (w1 := ((wmdF t h0 a0 v18.2 (md_s d0) (md_aside d0) (md_base d0) (md_saved d0) (md_savedMany d0) (md_slots d0) (md_hasSlot d0) (md_text d0) (md_length d0) (md_begins d0) (md_lengths d0) (md_streams d0) (md_letters d0) (md_letterMany d0) (md_chunks d0) (md_chunkMany d0) (md_homes d0) (md_dropped d0) (md_madeIn d0) (md_madeAt d0) (md_putMany d0) (md_path d0) (md_store d0) (md_thinOnes d0)))) hP hD hS hA (kr_V0 (Qx := (fun A => kQi D (TY t) ((wmdF t h0 a0 v18.2 (md_s d0) (md_aside d0) (md_base d0) (md_saved d0) (md_savedMany d0) (md_slots d0) (md_hasSlot d0) (md_text d0) (md_length d0) (md_begins d0) (md_lengths d0) (md_streams d0) (md_letters d0) (md_letterMany d0) (md_chunks d0) (md_chunkMany d0) (md_homes d0) (md_dropped d0) (md_madeIn d0) (md_madeAt d0) (md_putMany d0) (md_path d0) (md_store d0) (md_thinOnes d0))) v18.1 A)) (As := [.int 1]) (rest := []) ⟨hx, hb, hml, hown, hts⟩ hK hP hD (c_X9_fails l D t h0 a0 (0, (md_s d0), (md_aside d0), (md_base d0), (md_saved d0), (md_savedMany d0), (md_slots d0), (md_hasSlot d0), (md_text d0), (md_length d0), (md_begins d0), (md_lengths d0), (md_streams d0), (md_letters d0), (md_letterMany d0), (md_chunks d0), (md_chunkMany d0), (md_homes d0), (md_dropped d0), (md_madeIn d0), (md_madeAt d0), (md_putMany d0), (md_path d0), (md_store d0), (md_thinOnes d0)) _ 1 v18 e18) (cwV 1 hts (gcX9_fails w_153) rfl rfl rfl hdX9_failsV ⟨Nat.le_of_ble_eq_true rfl, Nat.le_of_ble_eq_true rfl⟩) (ci := 8) (q0 := 0) rfl rfl rfl hl.1 rfl (Nat.le_of_ble_eq_true rfl) (kd tdlX9_containerOf_0 12 rfl) ⟨Nat.zero_le _, Nat.zero_le _⟩) (fun H locs hP hD hS => ?_)
    cases ko hF
    exact ke_i hx hb hr hlocks hK hP hD hS rfl (kd tdlX9_containerOf_0 13 rfl)
set_option maxHeartbeats 4000000 in
set_option maxRecDepth 100000 in
theorem c_X9_entry (l : Launch) (D : va_G) (t : Nat → ClassId) (h0 : Nat) (a0 : Nat → Nat) (d0 : MDT) (sz : Nat) (p1 : Int32) (p2 : Int32) (p3 : Int32) (r : Int32 × Int32) (hF : F_X9_entry (md_thrown d0) (md_s d0) p1 p2 p3 = some r) : Met l yX9_entry wX9_entry ({ frames := 3, cells := 0, slots := 0, locals := 68 } : Room) (kPc D (TY t) ((wmd t h0 a0 d0)) [.ref h0, .int p1, .int p2, .int p3] sz) (kQi D (TY t) ((wmd t h0 a0 (r.2, (md_s d0), (md_aside d0), (md_base d0), (md_saved d0), (md_savedMany d0), (md_slots d0), (md_hasSlot d0), (md_text d0), (md_length d0), (md_begins d0), (md_lengths d0), (md_streams d0), (md_letters d0), (md_letterMany d0), (md_chunks d0), (md_chunkMany d0), (md_homes d0), (md_dropped d0), (md_madeIn d0), (md_madeAt d0), (md_putMany d0), (md_path d0), (md_store d0), (md_thinOnes d0)))) r.1 (va_A ((wmd t h0 a0 d0)) sz)) 0 0 (va_A ((wmd t h0 a0 d0)) sz) := by
  refine kE (cc := cX9_entry) (maxL := 6) (ret := (some .int)) (Qx := fun A => kQi D (TY t) ((wmd t h0 a0 (r.2, (md_s d0), (md_aside d0), (md_base d0), (md_saved d0), (md_savedMany d0), (md_slots d0), (md_hasSlot d0), (md_text d0), (md_length d0), (md_begins d0), (md_lengths d0), (md_streams d0), (md_letters d0), (md_letterMany d0), (md_chunks d0), (md_chunkMany d0), (md_homes d0), (md_dropped d0), (md_madeIn d0), (md_madeAt d0), (md_putMany d0), (md_path d0), (md_store d0), (md_thinOnes d0)))) r.1 A) (lv0 := [(0, .ref h0), (1, .int p1), (2, .int p2), (3, .int p3)]) RX9 rfl (by decide) rfl (Nat.le_of_ble_eq_true rfl) rfl ?_
  intro p e s m args below meth c A ls hx hb hml hr hlocks hown hts hA hK hP hD hS hl
  have L65 := hts (.fieldLink RX9 65 "ChunkCarriersModel" "thrown" "I") (List.mem_cons_of_mem _ w_119)
  have L7 := hts (.fieldLink RX9 7 "ChunkCarriersModel" "s" "[I") (List.mem_cons_of_mem _ w_101)
  have inX9_ : ∀ w ∈ wsX90, w ∈ wX9_entry := fun w h => List.mem_cons_of_mem _ (inlX9 w h)
  have hP : va_P D vwCl ((wmdF t h0 a0 (md_thrown d0) (md_s d0) (md_aside d0) (md_base d0) (md_saved d0) (md_savedMany d0) (md_slots d0) (md_hasSlot d0) (md_text d0) (md_length d0) (md_begins d0) (md_lengths d0) (md_streams d0) (md_letters d0) (md_letterMany d0) (md_chunks d0) (md_chunkMany d0) (md_homes d0) (md_dropped d0) (md_madeIn d0) (md_madeAt d0) (md_putMany d0) (md_path d0) (md_store d0) (md_thinOnes d0))) s.heap := hP
  have hD : va_D A ((wmdF t h0 a0 (md_thrown d0) (md_s d0) (md_aside d0) (md_base d0) (md_saved d0) (md_savedMany d0) (md_slots d0) (md_hasSlot d0) (md_text d0) (md_length d0) (md_begins d0) (md_lengths d0) (md_streams d0) (md_letters d0) (md_letterMany d0) (md_chunks d0) (md_chunkMany d0) (md_homes d0) (md_dropped d0) (md_madeIn d0) (md_madeAt d0) (md_putMany d0) (md_path d0) (md_store d0) (md_thinOnes d0))) := hD
  refine lv_aload_n hx hb (kd tdlX9_entry_0 0 rfl) rfl (lv_at hl 0 rfl) ?_
  refine lv_iconst (v := 0) hx hb (kd tdlX9_entry_0 1 rfl) (by decide) ?_
  refine md_p_thrown hx hb hts inX9_ hown hK hP hD hS L65 (kd tdlX9_entry_0 2 rfl) (fun H locs hP hD hS => ?_)
  refine lv_aload_n hx hb (kd tdlX9_entry_0 3 rfl) rfl (lv_at hl 0 rfl) ?_
  refine lv_iload_n hx hb (kd tdlX9_entry_0 4 rfl) rfl (lv_at hl 1 rfl) ?_
  obtain ⟨v7, e7, hF⟩ := kc hF
  refine kc_i0 (w1 := ((wmdF t h0 a0 0 (md_s d0) (md_aside d0) (md_base d0) (md_saved d0) (md_savedMany d0) (md_slots d0) (md_hasSlot d0) (md_text d0) (md_length d0) (md_begins d0) (md_lengths d0) (md_streams d0) (md_letters d0) (md_letterMany d0) (md_chunks d0) (md_chunkMany d0) (md_homes d0) (md_dropped d0) (md_madeIn d0) (md_madeAt d0) (md_putMany d0) (md_path d0) (md_store d0) (md_thinOnes d0)))) hP hD hS hA (kr_V0 (Qx := (fun A => kQi D (TY t) ((wmdF t h0 a0 0 (md_s d0) (md_aside d0) (md_base d0) (md_saved d0) (md_savedMany d0) (md_slots d0) (md_hasSlot d0) (md_text d0) (md_length d0) (md_begins d0) (md_lengths d0) (md_streams d0) (md_letters d0) (md_letterMany d0) (md_chunks d0) (md_chunkMany d0) (md_homes d0) (md_dropped d0) (md_madeIn d0) (md_madeAt d0) (md_putMany d0) (md_path d0) (md_store d0) (md_thinOnes d0))) v7 A)) (As := [.int p1]) (rest := []) ⟨hx, hb, hml, hown, hts⟩ hK hP hD (c_X9_slotOf l D t h0 a0 (0, (md_s d0), (md_aside d0), (md_base d0), (md_saved d0), (md_savedMany d0), (md_slots d0), (md_hasSlot d0), (md_text d0), (md_length d0), (md_begins d0), (md_lengths d0), (md_streams d0), (md_letters d0), (md_letterMany d0), (md_chunks d0), (md_chunkMany d0), (md_homes d0), (md_dropped d0), (md_madeIn d0), (md_madeAt d0), (md_putMany d0), (md_path d0), (md_store d0), (md_thinOnes d0)) _ p1 v7 e7) (cwV 1 hts (gcX9_slotOf w_479) rfl rfl rfl hdX9_slotOfV ⟨Nat.le_of_ble_eq_true rfl, Nat.le_of_ble_eq_true rfl⟩) (ci := 8) (q0 := 0) rfl rfl rfl hl.1 rfl (Nat.le_of_ble_eq_true rfl) (kd tdlX9_entry_0 5 rfl) ⟨Nat.zero_le _, Nat.zero_le _⟩) (fun H locs hP hD hS => ?_)
  refine lv_istore (lv' := [(4, .int v7), (0, .ref h0), (1, .int p1), (2, .int p2), (3, .int p3)]) hx hb (kd tdlX9_entry_0 6 rfl) hl (by decide) rfl (fun ls hl => ?_)
  refine lv_iload hx hb (kd tdlX9_entry_0 7 rfl) (lv_at hl 0 rfl) ?_
  refine lv_iconst (v := (-1)) hx hb (kd tdlX9_entry_0 8 rfl) (by decide) ?_
  have hJ41 : ∀ j41 : Unit, J_X9_entry_41 j41 = some r → ∀ (H : Heap) (locs : List Loc) (ls : Array Slot), va_P D vwCl ((wmdF t h0 a0 0 (md_s d0) (md_aside d0) (md_base d0) (md_saved d0) (md_savedMany d0) (md_slots d0) (md_hasSlot d0) (md_text d0) (md_length d0) (md_begins d0) (md_lengths d0) (md_streams d0) (md_letters d0) (md_letterMany d0) (md_chunks d0) (md_chunkMany d0) (md_homes d0) (md_dropped d0) (md_madeIn d0) (md_madeAt d0) (md_putMany d0) (md_path d0) (md_store d0) (md_thinOnes d0))) H → va_D A ((wmdF t h0 a0 0 (md_s d0) (md_aside d0) (md_base d0) (md_saved d0) (md_savedMany d0) (md_slots d0) (md_hasSlot d0) (md_text d0) (md_length d0) (md_begins d0) (md_lengths d0) (md_streams d0) (md_letters d0) (md_letterMany d0) (md_chunks d0) (md_chunkMany d0) (md_homes d0) (md_dropped d0) (md_madeIn d0) (md_madeAt d0) (md_putMany d0) (md_path d0) (md_store d0) (md_thinOnes d0))) → va_S A s.heap H locs → lv_has ls 6 [(0, .ref h0)] → W p l e ({ frames := 3, cells := 0, slots := 0, locals := 68 } : Room) s m args below meth c H locs 0 0 (MQ below (kQi D (TY t) ((wmd t h0 a0 (r.2, (md_s d0), (md_aside d0), (md_base d0), (md_saved d0), (md_savedMany d0), (md_slots d0), (md_hasSlot d0), (md_text d0), (md_length d0), (md_begins d0), (md_lengths d0), (md_streams d0), (md_letters d0), (md_letterMany d0), (md_chunks d0), (md_chunkMany d0), (md_homes d0), (md_dropped d0), (md_madeIn d0), (md_madeAt d0), (md_putMany d0), (md_path d0), (md_store d0), (md_thinOnes d0)))) r.1 A) args s 0 0 A) (F0 m 41 ls []) := by
    intro j41 hF H locs ls hP hD hS hl
    refine lv_aload_n hx hb (kd tdlX9_entry_0 24 rfl) rfl (lv_at hl 0 rfl) ?_
    refine lv_iconst (v := 1) hx hb (kd tdlX9_entry_0 25 rfl) (by decide) ?_
    obtain ⟨v43, e43, hF⟩ := kc hF
    refine kc_i0 (w1 := ((wmdF t h0 a0 v43.2 (md_s d0) (md_aside d0) (md_base d0) (md_saved d0) (md_savedMany d0) (md_slots d0) (md_hasSlot d0) (md_text d0) (md_length d0) (md_begins d0) (md_lengths d0) (md_streams d0) (md_letters d0) (md_letterMany d0) (md_chunks d0) (md_chunkMany d0) (md_homes d0) (md_dropped d0) (md_madeIn d0) (md_madeAt d0) (md_putMany d0) (md_path d0) (md_store d0) (md_thinOnes d0)))) hP hD hS hA (kr_V0 (Qx := (fun A => kQi D (TY t) ((wmdF t h0 a0 v43.2 (md_s d0) (md_aside d0) (md_base d0) (md_saved d0) (md_savedMany d0) (md_slots d0) (md_hasSlot d0) (md_text d0) (md_length d0) (md_begins d0) (md_lengths d0) (md_streams d0) (md_letters d0) (md_letterMany d0) (md_chunks d0) (md_chunkMany d0) (md_homes d0) (md_dropped d0) (md_madeIn d0) (md_madeAt d0) (md_putMany d0) (md_path d0) (md_store d0) (md_thinOnes d0))) v43.1 A)) (As := [.int 1]) (rest := []) ⟨hx, hb, hml, hown, hts⟩ hK hP hD (c_X9_fails l D t h0 a0 (0, (md_s d0), (md_aside d0), (md_base d0), (md_saved d0), (md_savedMany d0), (md_slots d0), (md_hasSlot d0), (md_text d0), (md_length d0), (md_begins d0), (md_lengths d0), (md_streams d0), (md_letters d0), (md_letterMany d0), (md_chunks d0), (md_chunkMany d0), (md_homes d0), (md_dropped d0), (md_madeIn d0), (md_madeAt d0), (md_putMany d0), (md_path d0), (md_store d0), (md_thinOnes d0)) _ 1 v43 e43) (cwV 1 hts (gcX9_fails w_153) rfl rfl rfl hdX9_failsV ⟨Nat.le_of_ble_eq_true rfl, Nat.le_of_ble_eq_true rfl⟩) (ci := 8) (q0 := 0) rfl rfl rfl hl.1 rfl (Nat.le_of_ble_eq_true rfl) (kd tdlX9_entry_0 26 rfl) ⟨Nat.zero_le _, Nat.zero_le _⟩) (fun H locs hP hD hS => ?_)
    cases ko hF
    exact ke_i hx hb hr hlocks hK hP hD hS rfl (kd tdlX9_entry_0 27 rfl)
  refine lv_icmp_eq (tgt := 41) hx hb (kd tdlX9_entry_0 9 rfl) (by decide) (fun hc15 => ?_) (fun hc15 => ?_)
  · have hF := kt hc15 hF
    exact hJ41 () hF _ _ _ hP hD hS (lv_sub hl [1] rfl)
  · have hF := kf hc15 hF
    refine lv_iload_n hx hb (kd tdlX9_entry_0 10 rfl) rfl (lv_at hl 3 rfl) ?_
    refine lv_iconst (v := 0) hx hb (kd tdlX9_entry_0 11 rfl) (by decide) ?_
    refine lv_aload_n hx hb (kd tdlX9_entry_0 12 rfl) rfl (lv_at hl 1 rfl) ?_
    refine md_g_s hx hb hts inX9_ hown hK hP L7 (kd tdlX9_entry_0 13 rfl) ?_
    refine lv_aload_n hx hb (kd tdlX9_entry_0 14 rfl) rfl (lv_at hl 1 rfl) ?_
    refine lv_iload hx hb (kd tdlX9_entry_0 15 rfl) (lv_at hl 0 rfl) ?_
    obtain ⟨v27, e27, hF⟩ := kc hF
    refine kc_i0 (w1 := ((wmdF t h0 a0 0 (md_s d0) (md_aside d0) (md_base d0) (md_saved d0) (md_savedMany d0) (md_slots d0) (md_hasSlot d0) (md_text d0) (md_length d0) (md_begins d0) (md_lengths d0) (md_streams d0) (md_letters d0) (md_letterMany d0) (md_chunks d0) (md_chunkMany d0) (md_homes d0) (md_dropped d0) (md_madeIn d0) (md_madeAt d0) (md_putMany d0) (md_path d0) (md_store d0) (md_thinOnes d0)))) hP hD hS hA (kr_V0 (Qx := (fun A => kQi D (TY t) ((wmdF t h0 a0 0 (md_s d0) (md_aside d0) (md_base d0) (md_saved d0) (md_savedMany d0) (md_slots d0) (md_hasSlot d0) (md_text d0) (md_length d0) (md_begins d0) (md_lengths d0) (md_streams d0) (md_letters d0) (md_letterMany d0) (md_chunks d0) (md_chunkMany d0) (md_homes d0) (md_dropped d0) (md_madeIn d0) (md_madeAt d0) (md_putMany d0) (md_path d0) (md_store d0) (md_thinOnes d0))) v27 A)) (As := [.int v7]) (rest := [.ref (a0 0), .int 0, .int p2]) ⟨hx, hb, hml, hown, hts⟩ hK hP hD (c_X9_at l D t h0 a0 (0, (md_s d0), (md_aside d0), (md_base d0), (md_saved d0), (md_savedMany d0), (md_slots d0), (md_hasSlot d0), (md_text d0), (md_length d0), (md_begins d0), (md_lengths d0), (md_streams d0), (md_letters d0), (md_letterMany d0), (md_chunks d0), (md_chunkMany d0), (md_homes d0), (md_dropped d0), (md_madeIn d0), (md_madeAt d0), (md_putMany d0), (md_path d0), (md_store d0), (md_thinOnes d0)) _ v7 v27 e27) (cwV 1 hts (gcX9_at w_306) rfl rfl rfl hdX9_atV ⟨Nat.le_of_ble_eq_true rfl, Nat.le_of_ble_eq_true rfl⟩) (ci := 8) (q0 := 0) rfl rfl rfl hl.1 rfl (Nat.le_of_ble_eq_true rfl) (kd tdlX9_entry_0 16 rfl) ⟨Nat.zero_le _, Nat.zero_le _⟩) (fun H locs hP hD hS => ?_)
    refine lv_iconst (v := 2) hx hb (kd tdlX9_entry_0 17 rfl) (by decide) ?_
    refine lv_iadd hx hb (kd tdlX9_entry_0 18 rfl) ?_
    obtain ⟨hi32, hF⟩ := kg hF
    refine md_l_s hx hb hK hP hi32 (kd tdlX9_entry_0 19 rfl) ?_
    refine lv_iconst (v := 1) hx hb (kd tdlX9_entry_0 20 rfl) (by decide) ?_
    refine lv_isub hx hb (kd tdlX9_entry_0 21 rfl) ?_
    obtain ⟨v35, e35, hF⟩ := kc hF
    refine kc_iR hK hP hD hS hA [] rfl (kr_S (Qx := (fun A => kQi D (TY t) ([] : va_W) v35 A)) (wc := ([] : va_W)) (As := [.int p2, .int 0, .int (((md_s d0) (Int32.toNatClampNeg (v27 + 2))) - 1)]) (rest := []) ⟨hx, hb, hml, hown, hts⟩ hK hP hD [] nd_ rfl (c_X9_in l D t  _ p2 0 (((md_s d0) (Int32.toNatClampNeg (v27 + 2))) - 1) v35 e35) (va_cwS 3 hts (gcX9_in w_150) rfl rfl rfl hdX9_inS ⟨Nat.le_of_ble_eq_true rfl, Nat.le_of_ble_eq_true rfl⟩) rfl hl.1 rfl (Nat.le_of_ble_eq_true rfl) (kd tdlX9_entry_0 22 rfl) ⟨Nat.zero_le _, Nat.zero_le _⟩) (fun H locs hP hS => ?_)
    refine lv_if_ne (tgt := 47) hx hb (kd tdlX9_entry_0 23 rfl) (by decide) (fun hc38 => ?_) (fun hc38 => ?_)
    · have hF := kf hc38 hF
      refine lv_iload_n hx hb (kd tdlX9_entry_0 28 rfl) rfl (lv_at hl 4 rfl) ?_
      refine lv_iconst (v := 0) hx hb (kd tdlX9_entry_0 29 rfl) (by decide) ?_
      refine lv_iconst (v := 3) hx hb (kd tdlX9_entry_0 30 rfl) (by decide) ?_
      obtain ⟨v50, e50, hF⟩ := kc hF
      refine kc_iR hK hP hD hS hA [] rfl (kr_S (Qx := (fun A => kQi D (TY t) ([] : va_W) v50 A)) (wc := ([] : va_W)) (As := [.int p3, .int 0, .int 3]) (rest := []) ⟨hx, hb, hml, hown, hts⟩ hK hP hD [] nd_ rfl (c_X9_in l D t  _ p3 0 3 v50 e50) (va_cwS 3 hts (gcX9_in w_150) rfl rfl rfl hdX9_inS ⟨Nat.le_of_ble_eq_true rfl, Nat.le_of_ble_eq_true rfl⟩) rfl hl.1 rfl (Nat.le_of_ble_eq_true rfl) (kd tdlX9_entry_0 31 rfl) ⟨Nat.zero_le _, Nat.zero_le _⟩) (fun H locs hP hS => ?_)
      refine lv_if_ne (tgt := 62) hx hb (kd tdlX9_entry_0 32 rfl) (by decide) (fun hc53 => ?_) (fun hc53 => ?_)
      · have hF := kf hc53 hF
        refine lv_aload_n hx hb (kd tdlX9_entry_0 37 rfl) rfl (lv_at hl 1 rfl) ?_
        refine md_g_s hx hb hts inX9_ hown hK hP L7 (kd tdlX9_entry_0 38 rfl) ?_
        refine lv_aload_n hx hb (kd tdlX9_entry_0 39 rfl) rfl (lv_at hl 1 rfl) ?_
        refine lv_iload hx hb (kd tdlX9_entry_0 40 rfl) (lv_at hl 0 rfl) ?_
        obtain ⟨v69, e69, hF⟩ := kc hF
        refine kc_i0 (w1 := ((wmdF t h0 a0 0 (md_s d0) (md_aside d0) (md_base d0) (md_saved d0) (md_savedMany d0) (md_slots d0) (md_hasSlot d0) (md_text d0) (md_length d0) (md_begins d0) (md_lengths d0) (md_streams d0) (md_letters d0) (md_letterMany d0) (md_chunks d0) (md_chunkMany d0) (md_homes d0) (md_dropped d0) (md_madeIn d0) (md_madeAt d0) (md_putMany d0) (md_path d0) (md_store d0) (md_thinOnes d0)))) hP hD hS hA (kr_V0 (Qx := (fun A => kQi D (TY t) ((wmdF t h0 a0 0 (md_s d0) (md_aside d0) (md_base d0) (md_saved d0) (md_savedMany d0) (md_slots d0) (md_hasSlot d0) (md_text d0) (md_length d0) (md_begins d0) (md_lengths d0) (md_streams d0) (md_letters d0) (md_letterMany d0) (md_chunks d0) (md_chunkMany d0) (md_homes d0) (md_dropped d0) (md_madeIn d0) (md_madeAt d0) (md_putMany d0) (md_path d0) (md_store d0) (md_thinOnes d0))) v69 A)) (As := [.int v7]) (rest := [.ref (a0 0)]) ⟨hx, hb, hml, hown, hts⟩ hK hP hD (c_X9_at l D t h0 a0 (0, (md_s d0), (md_aside d0), (md_base d0), (md_saved d0), (md_savedMany d0), (md_slots d0), (md_hasSlot d0), (md_text d0), (md_length d0), (md_begins d0), (md_lengths d0), (md_streams d0), (md_letters d0), (md_letterMany d0), (md_chunks d0), (md_chunkMany d0), (md_homes d0), (md_dropped d0), (md_madeIn d0), (md_madeAt d0), (md_putMany d0), (md_path d0), (md_store d0), (md_thinOnes d0)) _ v7 v69 e69) (cwV 1 hts (gcX9_at w_306) rfl rfl rfl hdX9_atV ⟨Nat.le_of_ble_eq_true rfl, Nat.le_of_ble_eq_true rfl⟩) (ci := 8) (q0 := 0) rfl rfl rfl hl.1 rfl (Nat.le_of_ble_eq_true rfl) (kd tdlX9_entry_0 41 rfl) ⟨Nat.zero_le _, Nat.zero_le _⟩) (fun H locs hP hD hS => ?_)
        refine lv_iconst (v := 3) hx hb (kd tdlX9_entry_0 42 rfl) (by decide) ?_
        refine lv_iadd hx hb (kd tdlX9_entry_0 43 rfl) ?_
        refine lv_iload_n hx hb (kd tdlX9_entry_0 44 rfl) rfl (lv_at hl 3 rfl) ?_
        refine lv_iadd hx hb (kd tdlX9_entry_1 0 rfl) ?_
        obtain ⟨hi76, hF⟩ := kg hF
        refine md_l_s hx hb hK hP hi76 (kd tdlX9_entry_1 1 rfl) ?_
        refine lv_istore (lv' := [(5, .int ((md_s d0) (Int32.toNatClampNeg ((v69 + 3) + p2)))), (4, .int v7), (0, .ref h0), (1, .int p1), (2, .int p2), (3, .int p3)]) hx hb (kd tdlX9_entry_1 2 rfl) hl (by decide) rfl (fun ls hl => ?_)
        refine lv_iload_n hx hb (kd tdlX9_entry_1 3 rfl) rfl (lv_at hl 5 rfl) ?_
        by_cases hw80 : (Int32.toInt p3 < 0 ∨ 2 < Int32.toInt p3)
        · have hF := kt hw80 hF
          refine lv_tableOut (tgt := 128) hx hb (kd tdlX9_entry_1 4 rfl) hw80 (by decide) ?_
          refine lv_bipush (v := 96) hx hb (kd tdlX9_entry_1 17 rfl) (by decide) ?_
          refine lv_iload hx hb (kd tdlX9_entry_1 18 rfl) (lv_at hl 0 rfl) ?_
          refine lv_iconst (v := 0) hx hb (kd tdlX9_entry_1 19 rfl) (by decide) ?_
          obtain ⟨v133, e133, hF⟩ := kc hF
          refine kc_iR hK hP hD hS hA [] rfl (kr_S (Qx := (fun A => kQi D (TY t) ([] : va_W) v133 A)) (wc := ([] : va_W)) (As := [.int ((md_s d0) (Int32.toNatClampNeg ((v69 + 3) + p2))), .int 0]) (rest := [.int 96]) ⟨hx, hb, hml, hown, hts⟩ hK hP hD [] nd_ rfl (c_X9_worthAt l D t  _ ((md_s d0) (Int32.toNatClampNeg ((v69 + 3) + p2))) 0 v133 e133) (va_cwS 2 hts (gcX9_worthAt w_295) rfl rfl rfl hdX9_worthAtS ⟨Nat.le_of_ble_eq_true rfl, Nat.le_of_ble_eq_true rfl⟩) rfl hl.1 rfl (Nat.le_of_ble_eq_true rfl) (kd tdlX9_entry_1 20 rfl) ⟨Nat.zero_le _, Nat.zero_le _⟩) (fun H locs hP hS => ?_)
          refine lv_iadd hx hb (kd tdlX9_entry_1 21 rfl) ?_
          cases ko hF
          exact ke_i hx hb hr hlocks hK hP hD hS rfl (kd tdlX9_entry_1 22 rfl)
        · have hF := kf hw80 hF
          by_cases hv80_0 : p3 = 0
          · have hF := kt hv80_0 hF
            refine ksw (n := 0) (off := (28)) (tgt := 108) hx hb (kd tdlX9_entry_1 4 rfl) hv80_0 (by decide) (by decide) (by decide) (by decide) ?_
            refine lv_iload hx hb (kd tdlX9_entry_1 5 rfl) (lv_at hl 0 rfl) ?_
            obtain ⟨v110, e110, hF⟩ := kc hF
            refine kc_iR hK hP hD hS hA [] rfl (kr_S (Qx := (fun A => kQi D (TY t) ([] : va_W) v110 A)) (wc := ([] : va_W)) (As := [.int ((md_s d0) (Int32.toNatClampNeg ((v69 + 3) + p2)))]) (rest := []) ⟨hx, hb, hml, hown, hts⟩ hK hP hD [] nd_ rfl (c_X9_lengthOf l D t  _ ((md_s d0) (Int32.toNatClampNeg ((v69 + 3) + p2))) v110 e110) (va_cwS 1 hts (gcX9_lengthOf w_289) rfl rfl rfl hdX9_lengthOfS ⟨Nat.le_of_ble_eq_true rfl, Nat.le_of_ble_eq_true rfl⟩) rfl hl.1 rfl (Nat.le_of_ble_eq_true rfl) (kd tdlX9_entry_1 6 rfl) ⟨Nat.zero_le _, Nat.zero_le _⟩) (fun H locs hP hS => ?_)
            cases ko hF
            exact ke_i hx hb hr hlocks hK hP hD hS rfl (kd tdlX9_entry_1 7 rfl)
          · have hF := kf hv80_0 hF
            by_cases hv80_1 : p3 = 1
            · have hF := kt hv80_1 hF
              refine ksw (n := 1) (off := (34)) (tgt := 114) hx hb (kd tdlX9_entry_1 4 rfl) hv80_1 (by decide) (by decide) (by decide) (by decide) ?_
              refine lv_iload hx hb (kd tdlX9_entry_1 8 rfl) (lv_at hl 0 rfl) ?_
              obtain ⟨v116, e116, hF⟩ := kc hF
              refine kc_iR hK hP hD hS hA [] rfl (kr_S (Qx := (fun A => kQi D (TY t) ([] : va_W) v116 A)) (wc := ([] : va_W)) (As := [.int ((md_s d0) (Int32.toNatClampNeg ((v69 + 3) + p2)))]) (rest := []) ⟨hx, hb, hml, hown, hts⟩ hK hP hD [] nd_ rfl (c_X9_sumOf l D t  _ ((md_s d0) (Int32.toNatClampNeg ((v69 + 3) + p2))) v116 e116) (va_cwS 1 hts (gcX9_sumOf w_292) rfl rfl rfl hdX9_sumOfS ⟨Nat.le_of_ble_eq_true rfl, Nat.le_of_ble_eq_true rfl⟩) rfl hl.1 rfl (Nat.le_of_ble_eq_true rfl) (kd tdlX9_entry_1 9 rfl) ⟨Nat.zero_le _, Nat.zero_le _⟩) (fun H locs hP hS => ?_)
              cases ko hF
              exact ke_i hx hb hr hlocks hK hP hD hS rfl (kd tdlX9_entry_1 10 rfl)
            · have hF := kf hv80_1 hF
              have hv80_2 : p3 = 2 := keq (k := 2) (by have a0 := kne hv80_0 (k := 0) (by decide); have a1 := kne hv80_1 (k := 1) (by decide); omega) (by decide)
              refine ksw (n := 2) (off := (40)) (tgt := 120) hx hb (kd tdlX9_entry_1 4 rfl) hv80_2 (by decide) (by decide) (by decide) (by decide) ?_
              refine lv_aload_n hx hb (kd tdlX9_entry_1 11 rfl) rfl (lv_at hl 2 rfl) ?_
              refine lv_iload_n hx hb (kd tdlX9_entry_1 12 rfl) rfl (lv_at hl 3 rfl) ?_
              refine lv_iload_n hx hb (kd tdlX9_entry_1 13 rfl) rfl (lv_at hl 4 rfl) ?_
              refine lv_iconst (v := (-1)) hx hb (kd tdlX9_entry_1 14 rfl) (by decide) ?_
              obtain ⟨v124, e124, hF⟩ := kc hF
              refine kc_i0 (w1 := ((wmdF t h0 a0 0 (md_s d0) (md_aside d0) (md_base d0) (md_saved d0) (md_savedMany d0) (md_slots d0) (md_hasSlot d0) (md_text d0) (md_length d0) (md_begins d0) (md_lengths d0) (md_streams d0) (md_letters d0) (md_letterMany d0) (md_chunks d0) (md_chunkMany d0) (md_homes d0) (md_dropped d0) (md_madeIn d0) (md_madeAt d0) (md_putMany d0) (md_path d0) (md_store d0) (md_thinOnes d0)))) hP hD hS hA (kr_V0 (Qx := (fun A => kQi D (TY t) ((wmdF t h0 a0 0 (md_s d0) (md_aside d0) (md_base d0) (md_saved d0) (md_savedMany d0) (md_slots d0) (md_hasSlot d0) (md_text d0) (md_length d0) (md_begins d0) (md_lengths d0) (md_streams d0) (md_letters d0) (md_letterMany d0) (md_chunks d0) (md_chunkMany d0) (md_homes d0) (md_dropped d0) (md_madeIn d0) (md_madeAt d0) (md_putMany d0) (md_path d0) (md_store d0) (md_thinOnes d0))) v124 A)) (As := [.int p1, .int p2, .int (-1)]) (rest := []) ⟨hx, hb, hml, hown, hts⟩ hK hP hD (c_X9_referencesBut l D t h0 a0 (0, (md_s d0), (md_aside d0), (md_base d0), (md_saved d0), (md_savedMany d0), (md_slots d0), (md_hasSlot d0), (md_text d0), (md_length d0), (md_begins d0), (md_lengths d0), (md_streams d0), (md_letters d0), (md_letterMany d0), (md_chunks d0), (md_chunkMany d0), (md_homes d0), (md_dropped d0), (md_madeIn d0), (md_madeAt d0), (md_putMany d0), (md_path d0), (md_store d0), (md_thinOnes d0)) _ p1 p2 (-1) v124 e124) (cwV 3 hts (gcX9_referencesBut w_402) rfl rfl rfl hdX9_referencesButV ⟨Nat.le_of_ble_eq_true rfl, Nat.le_of_ble_eq_true rfl⟩) (ci := 8) (q0 := 0) rfl rfl rfl hl.1 rfl (Nat.le_of_ble_eq_true rfl) (kd tdlX9_entry_1 15 rfl) ⟨Nat.zero_le _, Nat.zero_le _⟩) (fun H locs hP hD hS => ?_)
              cases ko hF
              exact ke_i hx hb hr hlocks hK hP hD hS rfl (kd tdlX9_entry_1 16 rfl)
      · have hF := kt hc53 hF
        refine lv_aload_n hx hb (kd tdlX9_entry_0 33 rfl) rfl (lv_at hl 1 rfl) ?_
        refine lv_iconst (v := 2) hx hb (kd tdlX9_entry_0 34 rfl) (by decide) ?_
        obtain ⟨v58, e58, hF⟩ := kc hF
        refine kc_i0 (w1 := ((wmdF t h0 a0 v58.2 (md_s d0) (md_aside d0) (md_base d0) (md_saved d0) (md_savedMany d0) (md_slots d0) (md_hasSlot d0) (md_text d0) (md_length d0) (md_begins d0) (md_lengths d0) (md_streams d0) (md_letters d0) (md_letterMany d0) (md_chunks d0) (md_chunkMany d0) (md_homes d0) (md_dropped d0) (md_madeIn d0) (md_madeAt d0) (md_putMany d0) (md_path d0) (md_store d0) (md_thinOnes d0)))) hP hD hS hA (kr_V0 (Qx := (fun A => kQi D (TY t) ((wmdF t h0 a0 v58.2 (md_s d0) (md_aside d0) (md_base d0) (md_saved d0) (md_savedMany d0) (md_slots d0) (md_hasSlot d0) (md_text d0) (md_length d0) (md_begins d0) (md_lengths d0) (md_streams d0) (md_letters d0) (md_letterMany d0) (md_chunks d0) (md_chunkMany d0) (md_homes d0) (md_dropped d0) (md_madeIn d0) (md_madeAt d0) (md_putMany d0) (md_path d0) (md_store d0) (md_thinOnes d0))) v58.1 A)) (As := [.int 2]) (rest := []) ⟨hx, hb, hml, hown, hts⟩ hK hP hD (c_X9_fails l D t h0 a0 (0, (md_s d0), (md_aside d0), (md_base d0), (md_saved d0), (md_savedMany d0), (md_slots d0), (md_hasSlot d0), (md_text d0), (md_length d0), (md_begins d0), (md_lengths d0), (md_streams d0), (md_letters d0), (md_letterMany d0), (md_chunks d0), (md_chunkMany d0), (md_homes d0), (md_dropped d0), (md_madeIn d0), (md_madeAt d0), (md_putMany d0), (md_path d0), (md_store d0), (md_thinOnes d0)) _ 2 v58 e58) (cwV 1 hts (gcX9_fails w_153) rfl rfl rfl hdX9_failsV ⟨Nat.le_of_ble_eq_true rfl, Nat.le_of_ble_eq_true rfl⟩) (ci := 8) (q0 := 0) rfl rfl rfl hl.1 rfl (Nat.le_of_ble_eq_true rfl) (kd tdlX9_entry_0 35 rfl) ⟨Nat.zero_le _, Nat.zero_le _⟩) (fun H locs hP hD hS => ?_)
        cases ko hF
        exact ke_i hx hb hr hlocks hK hP hD hS rfl (kd tdlX9_entry_0 36 rfl)
    · have hF := kt hc38 hF
      exact hJ41 () hF _ _ _ hP hD hS (lv_sub hl [1] rfl)
set_option maxHeartbeats 4000000 in
set_option maxRecDepth 100000 in
theorem c_X9_isBackup (l : Launch) (D : va_G) (t : Nat → ClassId) (h0 : Nat) (a0 : Nat → Nat) (d0 : MDT) (sz : Nat) (p1 : Int32) (r : Int32) (hF : F_X9_isBackup (md_s d0) p1 = some r) : Met l yX9_isBackup wX9_isBackup ({ frames := 1, cells := 0, slots := 0, locals := 22 } : Room) (kPc D (TY t) ((wmd t h0 a0 d0)) [.ref h0, .int p1] sz) (kQi D (TY t) ((wmd t h0 a0 d0)) r (va_A ((wmd t h0 a0 d0)) sz)) 0 0 (va_A ((wmd t h0 a0 d0)) sz) := by
  refine kE (cc := cX9_isBackup) (maxL := 2) (ret := (some .boolean)) (Qx := fun A => kQi D (TY t) ((wmd t h0 a0 d0)) r A) (lv0 := [(0, .ref h0), (1, .int p1)]) RX9 rfl (by decide) rfl (Nat.le_of_ble_eq_true rfl) rfl ?_
  intro p e s m args below meth c A ls hx hb hml hr hlocks hown hts hA hK hP hD hS hl
  have L7 := hts (.fieldLink RX9 7 "ChunkCarriersModel" "s" "[I") (List.mem_cons_of_mem _ w_101)
  have inX9_ : ∀ w ∈ wsX90, w ∈ wX9_isBackup := fun w h => List.mem_cons_of_mem _ (inlX9 w h)
  have hP : va_P D vwCl ((wmdF t h0 a0 (md_thrown d0) (md_s d0) (md_aside d0) (md_base d0) (md_saved d0) (md_savedMany d0) (md_slots d0) (md_hasSlot d0) (md_text d0) (md_length d0) (md_begins d0) (md_lengths d0) (md_streams d0) (md_letters d0) (md_letterMany d0) (md_chunks d0) (md_chunkMany d0) (md_homes d0) (md_dropped d0) (md_madeIn d0) (md_madeAt d0) (md_putMany d0) (md_path d0) (md_store d0) (md_thinOnes d0))) s.heap := hP
  have hD : va_D A ((wmdF t h0 a0 (md_thrown d0) (md_s d0) (md_aside d0) (md_base d0) (md_saved d0) (md_savedMany d0) (md_slots d0) (md_hasSlot d0) (md_text d0) (md_length d0) (md_begins d0) (md_lengths d0) (md_streams d0) (md_letters d0) (md_letterMany d0) (md_chunks d0) (md_chunkMany d0) (md_homes d0) (md_dropped d0) (md_madeIn d0) (md_madeAt d0) (md_putMany d0) (md_path d0) (md_store d0) (md_thinOnes d0))) := hD
  refine lv_iload_n hx hb (kd tdlX9_isBackup_0 0 rfl) rfl (lv_at hl 1 rfl) ?_
  refine lv_iconst (v := 0) hx hb (kd tdlX9_isBackup_0 1 rfl) (by decide) ?_
  refine lv_bipush (v := 7) hx hb (kd tdlX9_isBackup_0 2 rfl) (by decide) ?_
  obtain ⟨v4, e4, hF⟩ := kc hF
  refine kc_iR hK hP hD hS hA [] rfl (kr_S (Qx := (fun A => kQi D (TY t) ([] : va_W) v4 A)) (wc := ([] : va_W)) (As := [.int p1, .int 0, .int 7]) (rest := []) ⟨hx, hb, hml, hown, hts⟩ hK hP hD [] nd_ rfl (c_X9_in l D t  _ p1 0 7 v4 e4) (va_cwS 3 hts (gcX9_in w_150) rfl rfl rfl hdX9_inS ⟨Nat.le_of_ble_eq_true rfl, Nat.le_of_ble_eq_true rfl⟩) rfl hl.1 rfl (Nat.le_of_ble_eq_true rfl) (kd tdlX9_isBackup_0 3 rfl) ⟨Nat.zero_le _, Nat.zero_le _⟩) (fun H locs hP hS => ?_)
  refine lv_if_eq (tgt := 30) hx hb (kd tdlX9_isBackup_0 4 rfl) (by decide) (fun hc7 => ?_) (fun hc7 => ?_)
  · have hF := kt hc7 hF
    refine lv_iconst (v := 0) hx hb (kd tdlX9_isBackup_0 17 rfl) (by decide) ?_
    cases ko hF
    exact ke_z hx hb hr hlocks rfl hK hP hD hS rfl (kd tdlX9_isBackup_0 18 rfl)
  · have hF := kf hc7 hF
    refine lv_aload_n hx hb (kd tdlX9_isBackup_0 5 rfl) rfl (lv_at hl 0 rfl) ?_
    refine md_g_s hx hb hts inX9_ hown hK hP L7 (kd tdlX9_isBackup_0 6 rfl) ?_
    refine lv_aload_n hx hb (kd tdlX9_isBackup_0 7 rfl) rfl (lv_at hl 0 rfl) ?_
    refine lv_iload_n hx hb (kd tdlX9_isBackup_0 8 rfl) rfl (lv_at hl 1 rfl) ?_
    obtain ⟨v16, e16, hF⟩ := kc hF
    refine kc_i0 (w1 := ((wmdF t h0 a0 (md_thrown d0) (md_s d0) (md_aside d0) (md_base d0) (md_saved d0) (md_savedMany d0) (md_slots d0) (md_hasSlot d0) (md_text d0) (md_length d0) (md_begins d0) (md_lengths d0) (md_streams d0) (md_letters d0) (md_letterMany d0) (md_chunks d0) (md_chunkMany d0) (md_homes d0) (md_dropped d0) (md_madeIn d0) (md_madeAt d0) (md_putMany d0) (md_path d0) (md_store d0) (md_thinOnes d0)))) hP hD hS hA (kr_V0 (Qx := (fun A => kQi D (TY t) ((wmdF t h0 a0 (md_thrown d0) (md_s d0) (md_aside d0) (md_base d0) (md_saved d0) (md_savedMany d0) (md_slots d0) (md_hasSlot d0) (md_text d0) (md_length d0) (md_begins d0) (md_lengths d0) (md_streams d0) (md_letters d0) (md_letterMany d0) (md_chunks d0) (md_chunkMany d0) (md_homes d0) (md_dropped d0) (md_madeIn d0) (md_madeAt d0) (md_putMany d0) (md_path d0) (md_store d0) (md_thinOnes d0))) v16 A)) (As := [.int p1]) (rest := [.ref (a0 0)]) ⟨hx, hb, hml, hown, hts⟩ hK hP hD (c_X9_backupAt l D t h0 a0 d0 _ p1 v16 e16) (cwV 1 hts (gcX9_backupAt w_382) rfl rfl rfl hdX9_backupAtV ⟨Nat.le_of_ble_eq_true rfl, Nat.le_of_ble_eq_true rfl⟩) (ci := 8) (q0 := 0) rfl rfl rfl hl.1 rfl (Nat.le_of_ble_eq_true rfl) (kd tdlX9_isBackup_0 9 rfl) ⟨Nat.zero_le _, Nat.zero_le _⟩) (fun H locs hP hD hS => ?_)
    refine lv_iconst (v := 0) hx hb (kd tdlX9_isBackup_0 10 rfl) (by decide) ?_
    refine lv_iadd hx hb (kd tdlX9_isBackup_0 11 rfl) ?_
    obtain ⟨hi21, hF⟩ := kg hF
    refine md_l_s hx hb hK hP hi21 (kd tdlX9_isBackup_0 12 rfl) ?_
    refine lv_iconst (v := 1) hx hb (kd tdlX9_isBackup_0 13 rfl) (by decide) ?_
    refine lv_icmp_ne (tgt := 30) hx hb (kd tdlX9_isBackup_0 14 rfl) (by decide) (fun hc23 => ?_) (fun hc23 => ?_)
    · have hF := kf hc23 hF
      refine lv_iconst (v := 0) hx hb (kd tdlX9_isBackup_0 17 rfl) (by decide) ?_
      cases ko hF
      exact ke_z hx hb hr hlocks rfl hK hP hD hS rfl (kd tdlX9_isBackup_0 18 rfl)
    · have hF := kt hc23 hF
      refine lv_iconst (v := 1) hx hb (kd tdlX9_isBackup_0 15 rfl) (by decide) ?_
      refine lv_goto (tgt := 31) hx hb (kd tdlX9_isBackup_0 16 rfl) (by decide) ?_
      cases ko hF
      exact ke_z hx hb hr hlocks rfl hK hP hD hS rfl (kd tdlX9_isBackup_0 18 rfl)
set_option maxHeartbeats 4000000 in
set_option maxRecDepth 100000 in
theorem c_X9_referred (l : Launch) (D : va_G) (t : Nat → ClassId) (h0 : Nat) (a0 : Nat → Nat) (d0 : MDT) (sz : Nat) (p1 : Int32) (p2 : Int32) (r : Int32) (hF : F_X9_referred (md_s d0) p1 p2 = some r) : Met l yX9_referred wX9_referred ({ frames := 2, cells := 0, slots := 0, locals := 43 } : Room) (kPc D (TY t) ((wmd t h0 a0 d0)) [.ref h0, .int p1, .int p2] sz) (kQi D (TY t) ((wmd t h0 a0 d0)) r (va_A ((wmd t h0 a0 d0)) sz)) 0 0 (va_A ((wmd t h0 a0 d0)) sz) := by
  refine kE (cc := cX9_referred) (maxL := 4) (ret := (some .int)) (Qx := fun A => kQi D (TY t) ((wmd t h0 a0 d0)) r A) (lv0 := [(0, .ref h0), (1, .int p1), (2, .int p2)]) RX9 rfl (by decide) rfl (Nat.le_of_ble_eq_true rfl) rfl ?_
  intro p e s m args below meth c A ls hx hb hml hr hlocks hown hts hA hK hP hD hS hl
  have L7 := hts (.fieldLink RX9 7 "ChunkCarriersModel" "s" "[I") (List.mem_cons_of_mem _ w_101)
  have inX9_ : ∀ w ∈ wsX90, w ∈ wX9_referred := fun w h => List.mem_cons_of_mem _ (inlX9 w h)
  have hP : va_P D vwCl ((wmdF t h0 a0 (md_thrown d0) (md_s d0) (md_aside d0) (md_base d0) (md_saved d0) (md_savedMany d0) (md_slots d0) (md_hasSlot d0) (md_text d0) (md_length d0) (md_begins d0) (md_lengths d0) (md_streams d0) (md_letters d0) (md_letterMany d0) (md_chunks d0) (md_chunkMany d0) (md_homes d0) (md_dropped d0) (md_madeIn d0) (md_madeAt d0) (md_putMany d0) (md_path d0) (md_store d0) (md_thinOnes d0))) s.heap := hP
  have hD : va_D A ((wmdF t h0 a0 (md_thrown d0) (md_s d0) (md_aside d0) (md_base d0) (md_saved d0) (md_savedMany d0) (md_slots d0) (md_hasSlot d0) (md_text d0) (md_length d0) (md_begins d0) (md_lengths d0) (md_streams d0) (md_letters d0) (md_letterMany d0) (md_chunks d0) (md_chunkMany d0) (md_homes d0) (md_dropped d0) (md_madeIn d0) (md_madeAt d0) (md_putMany d0) (md_path d0) (md_store d0) (md_thinOnes d0))) := hD
  refine lv_aload_n hx hb (kd tdlX9_referred_0 0 rfl) rfl (lv_at hl 0 rfl) ?_
  refine lv_iload_n hx hb (kd tdlX9_referred_0 1 rfl) rfl (lv_at hl 1 rfl) ?_
  obtain ⟨v2, e2, hF⟩ := kc hF
  refine kc_i0 (w1 := ((wmdF t h0 a0 (md_thrown d0) (md_s d0) (md_aside d0) (md_base d0) (md_saved d0) (md_savedMany d0) (md_slots d0) (md_hasSlot d0) (md_text d0) (md_length d0) (md_begins d0) (md_lengths d0) (md_streams d0) (md_letters d0) (md_letterMany d0) (md_chunks d0) (md_chunkMany d0) (md_homes d0) (md_dropped d0) (md_madeIn d0) (md_madeAt d0) (md_putMany d0) (md_path d0) (md_store d0) (md_thinOnes d0)))) hP hD hS hA (kr_V0 (Qx := (fun A => kQi D (TY t) ((wmdF t h0 a0 (md_thrown d0) (md_s d0) (md_aside d0) (md_base d0) (md_saved d0) (md_savedMany d0) (md_slots d0) (md_hasSlot d0) (md_text d0) (md_length d0) (md_begins d0) (md_lengths d0) (md_streams d0) (md_letters d0) (md_letterMany d0) (md_chunks d0) (md_chunkMany d0) (md_homes d0) (md_dropped d0) (md_madeIn d0) (md_madeAt d0) (md_putMany d0) (md_path d0) (md_store d0) (md_thinOnes d0))) v2 A)) (As := [.int p1]) (rest := []) ⟨hx, hb, hml, hown, hts⟩ hK hP hD (c_X9_backupAt l D t h0 a0 d0 _ p1 v2 e2) (cwV 1 hts (gcX9_backupAt w_382) rfl rfl rfl hdX9_backupAtV ⟨Nat.le_of_ble_eq_true rfl, Nat.le_of_ble_eq_true rfl⟩) (ci := 8) (q0 := 0) rfl rfl rfl hl.1 rfl (Nat.le_of_ble_eq_true rfl) (kd tdlX9_referred_0 2 rfl) ⟨Nat.zero_le _, Nat.zero_le _⟩) (fun H locs hP hD hS => ?_)
  refine lv_iconst (v := 2) hx hb (kd tdlX9_referred_0 3 rfl) (by decide) ?_
  refine lv_iadd hx hb (kd tdlX9_referred_0 4 rfl) ?_
  refine lv_iconst (v := 2) hx hb (kd tdlX9_referred_0 5 rfl) (by decide) ?_
  refine lv_iload_n hx hb (kd tdlX9_referred_0 6 rfl) rfl (lv_at hl 2 rfl) ?_
  refine lv_imul hx hb (kd tdlX9_referred_0 7 rfl) ?_
  refine lv_iadd hx hb (kd tdlX9_referred_0 8 rfl) ?_
  refine lv_istore_n (lv' := [(3, .int ((v2 + 2) + (2 * p2))), (0, .ref h0), (1, .int p1), (2, .int p2)]) hx hb (kd tdlX9_referred_0 9 rfl) rfl hl (by decide) rfl (fun ls hl => ?_)
  refine lv_aload_n hx hb (kd tdlX9_referred_0 10 rfl) rfl (lv_at hl 1 rfl) ?_
  refine md_g_s hx hb hts inX9_ hown hK hP L7 (kd tdlX9_referred_0 11 rfl) ?_
  refine lv_aload_n hx hb (kd tdlX9_referred_0 12 rfl) rfl (lv_at hl 1 rfl) ?_
  refine lv_aload_n hx hb (kd tdlX9_referred_0 13 rfl) rfl (lv_at hl 1 rfl) ?_
  refine lv_aload_n hx hb (kd tdlX9_referred_0 14 rfl) rfl (lv_at hl 1 rfl) ?_
  refine md_g_s hx hb hts inX9_ hown hK hP L7 (kd tdlX9_referred_0 15 rfl) ?_
  refine lv_iload_n hx hb (kd tdlX9_referred_0 16 rfl) rfl (lv_at hl 0 rfl) ?_
  obtain ⟨hi23, hF⟩ := kg hF
  refine md_l_s hx hb hK hP hi23 (kd tdlX9_referred_0 17 rfl) ?_
  obtain ⟨v24, e24, hF⟩ := kc hF
  refine kc_i0 (w1 := ((wmdF t h0 a0 (md_thrown d0) (md_s d0) (md_aside d0) (md_base d0) (md_saved d0) (md_savedMany d0) (md_slots d0) (md_hasSlot d0) (md_text d0) (md_length d0) (md_begins d0) (md_lengths d0) (md_streams d0) (md_letters d0) (md_letterMany d0) (md_chunks d0) (md_chunkMany d0) (md_homes d0) (md_dropped d0) (md_madeIn d0) (md_madeAt d0) (md_putMany d0) (md_path d0) (md_store d0) (md_thinOnes d0)))) hP hD hS hA (kr_V0 (Qx := (fun A => kQi D (TY t) ((wmdF t h0 a0 (md_thrown d0) (md_s d0) (md_aside d0) (md_base d0) (md_saved d0) (md_savedMany d0) (md_slots d0) (md_hasSlot d0) (md_text d0) (md_length d0) (md_begins d0) (md_lengths d0) (md_streams d0) (md_letters d0) (md_letterMany d0) (md_chunks d0) (md_chunkMany d0) (md_homes d0) (md_dropped d0) (md_madeIn d0) (md_madeAt d0) (md_putMany d0) (md_path d0) (md_store d0) (md_thinOnes d0))) v24 A)) (As := [.int ((md_s d0) (Int32.toNatClampNeg ((v2 + 2) + (2 * p2))))]) (rest := [.ref h0, .ref (a0 0)]) ⟨hx, hb, hml, hown, hts⟩ hK hP hD (c_X9_slotOf l D t h0 a0 d0 _ ((md_s d0) (Int32.toNatClampNeg ((v2 + 2) + (2 * p2)))) v24 e24) (cwV 1 hts (gcX9_slotOf w_479) rfl rfl rfl hdX9_slotOfV ⟨Nat.le_of_ble_eq_true rfl, Nat.le_of_ble_eq_true rfl⟩) (ci := 8) (q0 := 0) rfl rfl rfl hl.1 rfl (Nat.le_of_ble_eq_true rfl) (kd tdlX9_referred_0 18 rfl) ⟨Nat.zero_le _, Nat.zero_le _⟩) (fun H locs hP hD hS => ?_)
  obtain ⟨v27, e27, hF⟩ := kc hF
  refine kc_i0 (w1 := ((wmdF t h0 a0 (md_thrown d0) (md_s d0) (md_aside d0) (md_base d0) (md_saved d0) (md_savedMany d0) (md_slots d0) (md_hasSlot d0) (md_text d0) (md_length d0) (md_begins d0) (md_lengths d0) (md_streams d0) (md_letters d0) (md_letterMany d0) (md_chunks d0) (md_chunkMany d0) (md_homes d0) (md_dropped d0) (md_madeIn d0) (md_madeAt d0) (md_putMany d0) (md_path d0) (md_store d0) (md_thinOnes d0)))) hP hD hS hA (kr_V0 (Qx := (fun A => kQi D (TY t) ((wmdF t h0 a0 (md_thrown d0) (md_s d0) (md_aside d0) (md_base d0) (md_saved d0) (md_savedMany d0) (md_slots d0) (md_hasSlot d0) (md_text d0) (md_length d0) (md_begins d0) (md_lengths d0) (md_streams d0) (md_letters d0) (md_letterMany d0) (md_chunks d0) (md_chunkMany d0) (md_homes d0) (md_dropped d0) (md_madeIn d0) (md_madeAt d0) (md_putMany d0) (md_path d0) (md_store d0) (md_thinOnes d0))) v27 A)) (As := [.int v24]) (rest := [.ref (a0 0)]) ⟨hx, hb, hml, hown, hts⟩ hK hP hD (c_X9_at l D t h0 a0 d0 _ v24 v27 e27) (cwV 1 hts (gcX9_at w_306) rfl rfl rfl hdX9_atV ⟨Nat.le_of_ble_eq_true rfl, Nat.le_of_ble_eq_true rfl⟩) (ci := 8) (q0 := 0) rfl rfl rfl hl.1 rfl (Nat.le_of_ble_eq_true rfl) (kd tdlX9_referred_0 19 rfl) ⟨Nat.zero_le _, Nat.zero_le _⟩) (fun H locs hP hD hS => ?_)
  refine lv_iconst (v := 3) hx hb (kd tdlX9_referred_0 20 rfl) (by decide) ?_
  refine lv_iadd hx hb (kd tdlX9_referred_0 21 rfl) ?_
  refine lv_aload_n hx hb (kd tdlX9_referred_0 22 rfl) rfl (lv_at hl 1 rfl) ?_
  refine md_g_s hx hb hts inX9_ hown hK hP L7 (kd tdlX9_referred_0 23 rfl) ?_
  refine lv_iload_n hx hb (kd tdlX9_referred_0 24 rfl) rfl (lv_at hl 0 rfl) ?_
  refine lv_iconst (v := 1) hx hb (kd tdlX9_referred_0 25 rfl) (by decide) ?_
  refine lv_iadd hx hb (kd tdlX9_referred_0 26 rfl) ?_
  obtain ⟨hi39, hF⟩ := kg hF
  refine md_l_s hx hb hK hP hi39 (kd tdlX9_referred_0 27 rfl) ?_
  refine lv_iadd hx hb (kd tdlX9_referred_0 28 rfl) ?_
  obtain ⟨hi41, hF⟩ := kg hF
  refine md_l_s hx hb hK hP hi41 (kd tdlX9_referred_0 29 rfl) ?_
  cases ko hF
  exact ke_i hx hb hr hlocks hK hP hD hS rfl (kd tdlX9_referred_0 30 rfl)
set_option maxHeartbeats 4000000 in
set_option maxRecDepth 100000 in
theorem c_X9_containersOf (l : Launch) (D : va_G) (t : Nat → ClassId) (h0 : Nat) (a0 : Nat → Nat) (d0 : MDT) (sz : Nat) (p1 : Int32) (r : Int32) (hF : F_X9_containersOf (md_s d0) p1 = some r) : Met l yX9_containersOf wX9_containersOf ({ frames := 2, cells := 0, slots := 0, locals := 45 } : Room) (kPc D (TY t) ((wmd t h0 a0 d0)) [.ref h0, .int p1] sz) (kQi D (TY t) ((wmd t h0 a0 d0)) r (va_A ((wmd t h0 a0 d0)) sz)) 0 0 (va_A ((wmd t h0 a0 d0)) sz) := by
  refine kE (cc := cX9_containersOf) (maxL := 4) (ret := (some .int)) (Qx := fun A => kQi D (TY t) ((wmd t h0 a0 d0)) r A) (lv0 := [(0, .ref h0), (1, .int p1)]) RX9 rfl (by decide) rfl (Nat.le_of_ble_eq_true rfl) rfl ?_
  intro p e s m args below meth c A ls hx hb hml hr hlocks hown hts hA hK hP hD hS hl
  have L7 := hts (.fieldLink RX9 7 "ChunkCarriersModel" "s" "[I") (List.mem_cons_of_mem _ w_101)
  have inX9_ : ∀ w ∈ wsX90, w ∈ wX9_containersOf := fun w h => List.mem_cons_of_mem _ (inlX9 w h)
  have hP : va_P D vwCl ((wmdF t h0 a0 (md_thrown d0) (md_s d0) (md_aside d0) (md_base d0) (md_saved d0) (md_savedMany d0) (md_slots d0) (md_hasSlot d0) (md_text d0) (md_length d0) (md_begins d0) (md_lengths d0) (md_streams d0) (md_letters d0) (md_letterMany d0) (md_chunks d0) (md_chunkMany d0) (md_homes d0) (md_dropped d0) (md_madeIn d0) (md_madeAt d0) (md_putMany d0) (md_path d0) (md_store d0) (md_thinOnes d0))) s.heap := hP
  have hD : va_D A ((wmdF t h0 a0 (md_thrown d0) (md_s d0) (md_aside d0) (md_base d0) (md_saved d0) (md_savedMany d0) (md_slots d0) (md_hasSlot d0) (md_text d0) (md_length d0) (md_begins d0) (md_lengths d0) (md_streams d0) (md_letters d0) (md_letterMany d0) (md_chunks d0) (md_chunkMany d0) (md_homes d0) (md_dropped d0) (md_madeIn d0) (md_madeAt d0) (md_putMany d0) (md_path d0) (md_store d0) (md_thinOnes d0))) := hD
  refine lv_iconst (v := 0) hx hb (kd tdlX9_containersOf_0 0 rfl) (by decide) ?_
  refine lv_istore_n (lv' := [(2, .int 0), (0, .ref h0), (1, .int p1)]) hx hb (kd tdlX9_containersOf_0 1 rfl) rfl hl (by decide) rfl (fun ls hl => ?_)
  refine lv_iconst (v := 0) hx hb (kd tdlX9_containersOf_0 2 rfl) (by decide) ?_
  refine lv_istore_n (lv' := [(3, .int 0), (2, .int 0), (0, .ref h0), (1, .int p1)]) hx hb (kd tdlX9_containersOf_0 3 rfl) rfl hl (by decide) rfl (fun ls hl => ?_)
  refine lp_ind (f := B_X9_containersOf_4 (md_s d0) p1) (r := r) (P := fun s4_ => ∀ (H : Heap) (locs : List Loc) (ls : Array Slot), va_P D vwCl ((wmdF t h0 a0 (md_thrown d0) (md_s d0) (md_aside d0) (md_base d0) (md_saved d0) (md_savedMany d0) (md_slots d0) (md_hasSlot d0) (md_text d0) (md_length d0) (md_begins d0) (md_lengths d0) (md_streams d0) (md_letters d0) (md_letterMany d0) (md_chunks d0) (md_chunkMany d0) (md_homes d0) (md_dropped d0) (md_madeIn d0) (md_madeAt d0) (md_putMany d0) (md_path d0) (md_store d0) (md_thinOnes d0))) H → va_D A ((wmdF t h0 a0 (md_thrown d0) (md_s d0) (md_aside d0) (md_base d0) (md_saved d0) (md_savedMany d0) (md_slots d0) (md_hasSlot d0) (md_text d0) (md_length d0) (md_begins d0) (md_lengths d0) (md_streams d0) (md_letters d0) (md_letterMany d0) (md_chunks d0) (md_chunkMany d0) (md_homes d0) (md_dropped d0) (md_madeIn d0) (md_madeAt d0) (md_putMany d0) (md_path d0) (md_store d0) (md_thinOnes d0))) → va_S A s.heap H locs → lv_has ls 4 [(0, .ref h0), (1, .int p1), (2, .int s4_.1), (3, .int s4_.2)] → W p l e ({ frames := 2, cells := 0, slots := 0, locals := 45 } : Room) s m args below meth c H locs 0 0 (MQ below (kQi D (TY t) ((wmd t h0 a0 d0)) r A) args s 0 0 A) (F0 m 4 ls [])) ?_ FU (0, 0) hF _ _ _ hP hD hS (lv_sub hl [2, 3, 1, 0] rfl)
  intro self4 ih4 s4_ hF H locs ls hP hD hS hl
  refine lv_iload_n hx hb (kd tdlX9_containersOf_0 4 rfl) rfl (lv_at hl 3 rfl) ?_
  refine lv_aload_n hx hb (kd tdlX9_containersOf_0 5 rfl) rfl (lv_at hl 0 rfl) ?_
  refine md_g_s hx hb hts inX9_ hown hK hP L7 (kd tdlX9_containersOf_0 6 rfl) ?_
  refine lv_bipush (v := 7) hx hb (kd tdlX9_containersOf_0 7 rfl) (by decide) ?_
  obtain ⟨hi11, hF⟩ := kg hF
  refine md_l_s hx hb hK hP hi11 (kd tdlX9_containersOf_0 8 rfl) ?_
  refine lv_icmp_ge (tgt := 49) hx hb (kd tdlX9_containersOf_0 9 rfl) (by decide) (fun hc12 => ?_) (fun hc12 => ?_)
  · have hF := kt hc12 hF
    refine lv_iload_n hx hb (kd tdlX9_containersOf_0 30 rfl) rfl (lv_at hl 2 rfl) ?_
    cases ko hF
    exact ke_i hx hb hr hlocks hK hP hD hS rfl (kd tdlX9_containersOf_0 31 rfl)
  · have hF := kf hc12 hF
    refine lv_iload_n hx hb (kd tdlX9_containersOf_0 10 rfl) rfl (lv_at hl 2 rfl) ?_
    refine lv_aload_n hx hb (kd tdlX9_containersOf_0 11 rfl) rfl (lv_at hl 0 rfl) ?_
    refine lv_iload_n hx hb (kd tdlX9_containersOf_0 12 rfl) rfl (lv_at hl 1 rfl) ?_
    refine lv_aload_n hx hb (kd tdlX9_containersOf_0 13 rfl) rfl (lv_at hl 0 rfl) ?_
    refine md_g_s hx hb hts inX9_ hown hK hP L7 (kd tdlX9_containersOf_0 14 rfl) ?_
    refine lv_aload_n hx hb (kd tdlX9_containersOf_0 15 rfl) rfl (lv_at hl 0 rfl) ?_
    refine lv_iload_n hx hb (kd tdlX9_containersOf_0 16 rfl) rfl (lv_at hl 3 rfl) ?_
    obtain ⟨v24, e24, hF⟩ := kc hF
    refine kc_i0 (w1 := ((wmdF t h0 a0 (md_thrown d0) (md_s d0) (md_aside d0) (md_base d0) (md_saved d0) (md_savedMany d0) (md_slots d0) (md_hasSlot d0) (md_text d0) (md_length d0) (md_begins d0) (md_lengths d0) (md_streams d0) (md_letters d0) (md_letterMany d0) (md_chunks d0) (md_chunkMany d0) (md_homes d0) (md_dropped d0) (md_madeIn d0) (md_madeAt d0) (md_putMany d0) (md_path d0) (md_store d0) (md_thinOnes d0)))) hP hD hS hA (kr_V0 (Qx := (fun A => kQi D (TY t) ((wmdF t h0 a0 (md_thrown d0) (md_s d0) (md_aside d0) (md_base d0) (md_saved d0) (md_savedMany d0) (md_slots d0) (md_hasSlot d0) (md_text d0) (md_length d0) (md_begins d0) (md_lengths d0) (md_streams d0) (md_letters d0) (md_letterMany d0) (md_chunks d0) (md_chunkMany d0) (md_homes d0) (md_dropped d0) (md_madeIn d0) (md_madeAt d0) (md_putMany d0) (md_path d0) (md_store d0) (md_thinOnes d0))) v24 A)) (As := [.int s4_.2]) (rest := [.ref (a0 0), .int p1, .ref h0, .int s4_.1]) ⟨hx, hb, hml, hown, hts⟩ hK hP hD (c_X9_at l D t h0 a0 d0 _ s4_.2 v24 e24) (cwV 1 hts (gcX9_at w_306) rfl rfl rfl hdX9_atV ⟨Nat.le_of_ble_eq_true rfl, Nat.le_of_ble_eq_true rfl⟩) (ci := 8) (q0 := 0) rfl rfl rfl hl.1 rfl (Nat.le_of_ble_eq_true rfl) (kd tdlX9_containersOf_0 17 rfl) ⟨Nat.zero_le _, Nat.zero_le _⟩) (fun H locs hP hD hS => ?_)
    refine lv_iconst (v := 0) hx hb (kd tdlX9_containersOf_0 18 rfl) (by decide) ?_
    refine lv_iadd hx hb (kd tdlX9_containersOf_0 19 rfl) ?_
    obtain ⟨hi29, hF⟩ := kg hF
    refine md_l_s hx hb hK hP hi29 (kd tdlX9_containersOf_0 20 rfl) ?_
    obtain ⟨v30, e30, hF⟩ := kc hF
    refine kc_i0 (w1 := ((wmdF t h0 a0 (md_thrown d0) (md_s d0) (md_aside d0) (md_base d0) (md_saved d0) (md_savedMany d0) (md_slots d0) (md_hasSlot d0) (md_text d0) (md_length d0) (md_begins d0) (md_lengths d0) (md_streams d0) (md_letters d0) (md_letterMany d0) (md_chunks d0) (md_chunkMany d0) (md_homes d0) (md_dropped d0) (md_madeIn d0) (md_madeAt d0) (md_putMany d0) (md_path d0) (md_store d0) (md_thinOnes d0)))) hP hD hS hA (kr_V0 (Qx := (fun A => kQi D (TY t) ((wmdF t h0 a0 (md_thrown d0) (md_s d0) (md_aside d0) (md_base d0) (md_saved d0) (md_savedMany d0) (md_slots d0) (md_hasSlot d0) (md_text d0) (md_length d0) (md_begins d0) (md_lengths d0) (md_streams d0) (md_letters d0) (md_letterMany d0) (md_chunks d0) (md_chunkMany d0) (md_homes d0) (md_dropped d0) (md_madeIn d0) (md_madeAt d0) (md_putMany d0) (md_path d0) (md_store d0) (md_thinOnes d0))) v30 A)) (As := [.int p1, .int ((md_s d0) (Int32.toNatClampNeg (v24 + 0)))]) (rest := [.int s4_.1]) ⟨hx, hb, hml, hown, hts⟩ hK hP hD (c_X9_refersTo l D t h0 a0 d0 _ p1 ((md_s d0) (Int32.toNatClampNeg (v24 + 0))) v30 e30) (cwV 2 hts (gcX9_refersTo w_483) rfl rfl rfl hdX9_refersToV ⟨Nat.le_of_ble_eq_true rfl, Nat.le_of_ble_eq_true rfl⟩) (ci := 8) (q0 := 0) rfl rfl rfl hl.1 rfl (Nat.le_of_ble_eq_true rfl) (kd tdlX9_containersOf_0 21 rfl) ⟨Nat.zero_le _, Nat.zero_le _⟩) (fun H locs hP hD hS => ?_)
    refine lv_if_eq (tgt := 40) hx hb (kd tdlX9_containersOf_0 22 rfl) (by decide) (fun hc33 => ?_) (fun hc33 => ?_)
    · have hF := kt hc33 hF
      refine lv_iconst (v := 0) hx hb (kd tdlX9_containersOf_0 25 rfl) (by decide) ?_
      refine lv_iadd hx hb (kd tdlX9_containersOf_0 26 rfl) ?_
      refine lv_istore_n (lv' := [(2, .int (s4_.1 + 0)), (0, .ref h0), (1, .int p1), (3, .int s4_.2)]) hx hb (kd tdlX9_containersOf_0 27 rfl) rfl hl (by decide) rfl (fun ls hl => ?_)
      refine lv_iinc (v := (s4_.2 + 1)) (lv' := [(3, .int (s4_.2 + 1)), (2, .int (s4_.1 + 0)), (0, .ref h0), (1, .int p1)]) hx hb (kd tdlX9_containersOf_0 28 rfl) hl (k := 3) rfl rfl (by decide) rfl (fun ls hl => ?_)
      refine lv_goto (tgt := 4) hx hb (kd tdlX9_containersOf_0 29 rfl) (by decide) ?_
      exact ih4 ((s4_.1 + 0), (s4_.2 + 1)) hF _ _ _ hP hD hS (lv_sub hl [2, 3, 1, 0] rfl)
    · have hF := kf hc33 hF
      refine lv_iconst (v := 1) hx hb (kd tdlX9_containersOf_0 23 rfl) (by decide) ?_
      refine lv_goto (tgt := 41) hx hb (kd tdlX9_containersOf_0 24 rfl) (by decide) ?_
      refine lv_iadd hx hb (kd tdlX9_containersOf_0 26 rfl) ?_
      refine lv_istore_n (lv' := [(2, .int (s4_.1 + 1)), (0, .ref h0), (1, .int p1), (3, .int s4_.2)]) hx hb (kd tdlX9_containersOf_0 27 rfl) rfl hl (by decide) rfl (fun ls hl => ?_)
      refine lv_iinc (v := (s4_.2 + 1)) (lv' := [(3, .int (s4_.2 + 1)), (2, .int (s4_.1 + 1)), (0, .ref h0), (1, .int p1)]) hx hb (kd tdlX9_containersOf_0 28 rfl) hl (k := 3) rfl rfl (by decide) rfl (fun ls hl => ?_)
      refine lv_goto (tgt := 4) hx hb (kd tdlX9_containersOf_0 29 rfl) (by decide) ?_
      exact ih4 ((s4_.1 + 1), (s4_.2 + 1)) hF _ _ _ hP hD hS (lv_sub hl [2, 3, 1, 0] rfl)
set_option maxHeartbeats 4000000 in
set_option maxRecDepth 100000 in
theorem c_X9_backupOf (l : Launch) (D : va_G) (t : Nat → ClassId) (h0 : Nat) (a0 : Nat → Nat) (d0 : MDT) (sz : Nat) (p1 : Int32) (p2 : Int32) (r : Int32 × Int32 × (Nat → Int32) × (Nat → Int32)) (hF : F_X9_backupOf (md_thrown d0) (md_s d0) (md_path d0) (md_store d0) p1 p2 = some r) : Met l yX9_backupOf wX9_backupOf ({ frames := 3, cells := 0, slots := 0, locals := 68 } : Room) (kPc D (TY t) ((wmd t h0 a0 d0)) [.ref h0, .int p1, .int p2] sz) (kQi D (TY t) ((wmd t h0 a0 (r.2.1, (md_s d0), (md_aside d0), (md_base d0), (md_saved d0), (md_savedMany d0), (md_slots d0), (md_hasSlot d0), (md_text d0), (md_length d0), (md_begins d0), (md_lengths d0), (md_streams d0), (md_letters d0), (md_letterMany d0), (md_chunks d0), (md_chunkMany d0), (md_homes d0), (md_dropped d0), (md_madeIn d0), (md_madeAt d0), (md_putMany d0), r.2.2.1, r.2.2.2, (md_thinOnes d0)))) r.1 (va_A ((wmd t h0 a0 d0)) sz)) 0 0 (va_A ((wmd t h0 a0 d0)) sz) := by
  refine kE (cc := cX9_backupOf) (maxL := 8) (ret := (some .int)) (Qx := fun A => kQi D (TY t) ((wmd t h0 a0 (r.2.1, (md_s d0), (md_aside d0), (md_base d0), (md_saved d0), (md_savedMany d0), (md_slots d0), (md_hasSlot d0), (md_text d0), (md_length d0), (md_begins d0), (md_lengths d0), (md_streams d0), (md_letters d0), (md_letterMany d0), (md_chunks d0), (md_chunkMany d0), (md_homes d0), (md_dropped d0), (md_madeIn d0), (md_madeAt d0), (md_putMany d0), r.2.2.1, r.2.2.2, (md_thinOnes d0)))) r.1 A) (lv0 := [(0, .ref h0), (1, .int p1), (2, .int p2)]) RX9 rfl (by decide) rfl (Nat.le_of_ble_eq_true rfl) rfl ?_
  intro p e s m args below meth c A ls hx hb hml hr hlocks hown hts hA hK hP hD hS hl
  have L65 := hts (.fieldLink RX9 65 "ChunkCarriersModel" "thrown" "I") (List.mem_cons_of_mem _ w_119)
  have L7 := hts (.fieldLink RX9 7 "ChunkCarriersModel" "s" "[I") (List.mem_cons_of_mem _ w_101)
  have inX9_ : ∀ w ∈ wsX90, w ∈ wX9_backupOf := fun w h => List.mem_cons_of_mem _ (inlX9 w h)
  have hP : va_P D vwCl ((wmdF t h0 a0 (md_thrown d0) (md_s d0) (md_aside d0) (md_base d0) (md_saved d0) (md_savedMany d0) (md_slots d0) (md_hasSlot d0) (md_text d0) (md_length d0) (md_begins d0) (md_lengths d0) (md_streams d0) (md_letters d0) (md_letterMany d0) (md_chunks d0) (md_chunkMany d0) (md_homes d0) (md_dropped d0) (md_madeIn d0) (md_madeAt d0) (md_putMany d0) (md_path d0) (md_store d0) (md_thinOnes d0))) s.heap := hP
  have hD : va_D A ((wmdF t h0 a0 (md_thrown d0) (md_s d0) (md_aside d0) (md_base d0) (md_saved d0) (md_savedMany d0) (md_slots d0) (md_hasSlot d0) (md_text d0) (md_length d0) (md_begins d0) (md_lengths d0) (md_streams d0) (md_letters d0) (md_letterMany d0) (md_chunks d0) (md_chunkMany d0) (md_homes d0) (md_dropped d0) (md_madeIn d0) (md_madeAt d0) (md_putMany d0) (md_path d0) (md_store d0) (md_thinOnes d0))) := hD
  refine lv_aload_n hx hb (kd tdlX9_backupOf_0 0 rfl) rfl (lv_at hl 0 rfl) ?_
  refine lv_iconst (v := 0) hx hb (kd tdlX9_backupOf_0 1 rfl) (by decide) ?_
  refine md_p_thrown hx hb hts inX9_ hown hK hP hD hS L65 (kd tdlX9_backupOf_0 2 rfl) (fun H locs hP hD hS => ?_)
  refine lv_aload_n hx hb (kd tdlX9_backupOf_0 3 rfl) rfl (lv_at hl 0 rfl) ?_
  refine lv_iload_n hx hb (kd tdlX9_backupOf_0 4 rfl) rfl (lv_at hl 1 rfl) ?_
  obtain ⟨v7, e7, hF⟩ := kc hF
  refine kc_i0 (w1 := ((wmdF t h0 a0 0 (md_s d0) (md_aside d0) (md_base d0) (md_saved d0) (md_savedMany d0) (md_slots d0) (md_hasSlot d0) (md_text d0) (md_length d0) (md_begins d0) (md_lengths d0) (md_streams d0) (md_letters d0) (md_letterMany d0) (md_chunks d0) (md_chunkMany d0) (md_homes d0) (md_dropped d0) (md_madeIn d0) (md_madeAt d0) (md_putMany d0) (md_path d0) (md_store d0) (md_thinOnes d0)))) hP hD hS hA (kr_V0 (Qx := (fun A => kQi D (TY t) ((wmdF t h0 a0 0 (md_s d0) (md_aside d0) (md_base d0) (md_saved d0) (md_savedMany d0) (md_slots d0) (md_hasSlot d0) (md_text d0) (md_length d0) (md_begins d0) (md_lengths d0) (md_streams d0) (md_letters d0) (md_letterMany d0) (md_chunks d0) (md_chunkMany d0) (md_homes d0) (md_dropped d0) (md_madeIn d0) (md_madeAt d0) (md_putMany d0) (md_path d0) (md_store d0) (md_thinOnes d0))) v7 A)) (As := [.int p1]) (rest := []) ⟨hx, hb, hml, hown, hts⟩ hK hP hD (c_X9_isBackup l D t h0 a0 (0, (md_s d0), (md_aside d0), (md_base d0), (md_saved d0), (md_savedMany d0), (md_slots d0), (md_hasSlot d0), (md_text d0), (md_length d0), (md_begins d0), (md_lengths d0), (md_streams d0), (md_letters d0), (md_letterMany d0), (md_chunks d0), (md_chunkMany d0), (md_homes d0), (md_dropped d0), (md_madeIn d0), (md_madeAt d0), (md_putMany d0), (md_path d0), (md_store d0), (md_thinOnes d0)) _ p1 v7 e7) (cwV 1 hts (gcX9_isBackup w_564) rfl rfl rfl hdX9_isBackupV ⟨Nat.le_of_ble_eq_true rfl, Nat.le_of_ble_eq_true rfl⟩) (ci := 8) (q0 := 0) rfl rfl rfl hl.1 rfl (Nat.le_of_ble_eq_true rfl) (kd tdlX9_backupOf_0 5 rfl) ⟨Nat.zero_le _, Nat.zero_le _⟩) (fun H locs hP hD hS => ?_)
  refine lv_if_ne (tgt := 19) hx hb (kd tdlX9_backupOf_0 6 rfl) (by decide) (fun hc10 => ?_) (fun hc10 => ?_)
  · have hF := kf hc10 hF
    refine lv_iload_n hx hb (kd tdlX9_backupOf_0 11 rfl) rfl (lv_at hl 2 rfl) ?_
    refine lv_iconst (v := 0) hx hb (kd tdlX9_backupOf_0 12 rfl) (by decide) ?_
    refine lv_iconst (v := 4) hx hb (kd tdlX9_backupOf_0 13 rfl) (by decide) ?_
    obtain ⟨v22, e22, hF⟩ := kc hF
    refine kc_iR hK hP hD hS hA [] rfl (kr_S (Qx := (fun A => kQi D (TY t) ([] : va_W) v22 A)) (wc := ([] : va_W)) (As := [.int p2, .int 0, .int 4]) (rest := []) ⟨hx, hb, hml, hown, hts⟩ hK hP hD [] nd_ rfl (c_X9_in l D t  _ p2 0 4 v22 e22) (va_cwS 3 hts (gcX9_in w_150) rfl rfl rfl hdX9_inS ⟨Nat.le_of_ble_eq_true rfl, Nat.le_of_ble_eq_true rfl⟩) rfl hl.1 rfl (Nat.le_of_ble_eq_true rfl) (kd tdlX9_backupOf_0 14 rfl) ⟨Nat.zero_le _, Nat.zero_le _⟩) (fun H locs hP hS => ?_)
    refine lv_if_ne (tgt := 34) hx hb (kd tdlX9_backupOf_0 15 rfl) (by decide) (fun hc25 => ?_) (fun hc25 => ?_)
    · have hF := kf hc25 hF
      refine lv_aload_n hx hb (kd tdlX9_backupOf_0 20 rfl) rfl (lv_at hl 0 rfl) ?_
      refine lv_iload_n hx hb (kd tdlX9_backupOf_0 21 rfl) rfl (lv_at hl 1 rfl) ?_
      obtain ⟨v36, e36, hF⟩ := kc hF
      refine kc_i0 (w1 := ((wmdF t h0 a0 0 (md_s d0) (md_aside d0) (md_base d0) (md_saved d0) (md_savedMany d0) (md_slots d0) (md_hasSlot d0) (md_text d0) (md_length d0) (md_begins d0) (md_lengths d0) (md_streams d0) (md_letters d0) (md_letterMany d0) (md_chunks d0) (md_chunkMany d0) (md_homes d0) (md_dropped d0) (md_madeIn d0) (md_madeAt d0) (md_putMany d0) (md_path d0) (md_store d0) (md_thinOnes d0)))) hP hD hS hA (kr_V0 (Qx := (fun A => kQi D (TY t) ((wmdF t h0 a0 0 (md_s d0) (md_aside d0) (md_base d0) (md_saved d0) (md_savedMany d0) (md_slots d0) (md_hasSlot d0) (md_text d0) (md_length d0) (md_begins d0) (md_lengths d0) (md_streams d0) (md_letters d0) (md_letterMany d0) (md_chunks d0) (md_chunkMany d0) (md_homes d0) (md_dropped d0) (md_madeIn d0) (md_madeAt d0) (md_putMany d0) (md_path d0) (md_store d0) (md_thinOnes d0))) v36 A)) (As := [.int p1]) (rest := []) ⟨hx, hb, hml, hown, hts⟩ hK hP hD (c_X9_backupAt l D t h0 a0 (0, (md_s d0), (md_aside d0), (md_base d0), (md_saved d0), (md_savedMany d0), (md_slots d0), (md_hasSlot d0), (md_text d0), (md_length d0), (md_begins d0), (md_lengths d0), (md_streams d0), (md_letters d0), (md_letterMany d0), (md_chunks d0), (md_chunkMany d0), (md_homes d0), (md_dropped d0), (md_madeIn d0), (md_madeAt d0), (md_putMany d0), (md_path d0), (md_store d0), (md_thinOnes d0)) _ p1 v36 e36) (cwV 1 hts (gcX9_backupAt w_382) rfl rfl rfl hdX9_backupAtV ⟨Nat.le_of_ble_eq_true rfl, Nat.le_of_ble_eq_true rfl⟩) (ci := 8) (q0 := 0) rfl rfl rfl hl.1 rfl (Nat.le_of_ble_eq_true rfl) (kd tdlX9_backupOf_0 22 rfl) ⟨Nat.zero_le _, Nat.zero_le _⟩) (fun H locs hP hD hS => ?_)
      refine lv_istore_n (lv' := [(3, .int v36), (0, .ref h0), (1, .int p1), (2, .int p2)]) hx hb (kd tdlX9_backupOf_0 23 rfl) rfl hl (by decide) rfl (fun ls hl => ?_)
      refine lv_aload_n hx hb (kd tdlX9_backupOf_0 24 rfl) rfl (lv_at hl 1 rfl) ?_
      refine md_g_s hx hb hts inX9_ hown hK hP L7 (kd tdlX9_backupOf_0 25 rfl) ?_
      refine lv_iload_n hx hb (kd tdlX9_backupOf_0 26 rfl) rfl (lv_at hl 0 rfl) ?_
      refine lv_iconst (v := 1) hx hb (kd tdlX9_backupOf_0 27 rfl) (by decide) ?_
      refine lv_iadd hx hb (kd tdlX9_backupOf_0 28 rfl) ?_
      obtain ⟨hi47, hF⟩ := kg hF
      refine md_l_s hx hb hK hP hi47 (kd tdlX9_backupOf_0 29 rfl) ?_
      refine lv_istore (lv' := [(4, .int ((md_s d0) (Int32.toNatClampNeg (v36 + 1)))), (3, .int v36), (0, .ref h0), (1, .int p1), (2, .int p2)]) hx hb (kd tdlX9_backupOf_0 30 rfl) hl (by decide) rfl (fun ls hl => ?_)
      refine lv_iconst (v := 0) hx hb (kd tdlX9_backupOf_0 31 rfl) (by decide) ?_
      refine lv_istore (lv' := [(5, .int 0), (4, .int ((md_s d0) (Int32.toNatClampNeg (v36 + 1)))), (3, .int v36), (0, .ref h0), (1, .int p1), (2, .int p2)]) hx hb (kd tdlX9_backupOf_0 32 rfl) hl (by decide) rfl (fun ls hl => ?_)
      refine lv_iconst (v := 0) hx hb (kd tdlX9_backupOf_0 33 rfl) (by decide) ?_
      refine lv_istore (lv' := [(6, .int 0), (5, .int 0), (4, .int ((md_s d0) (Int32.toNatClampNeg (v36 + 1)))), (3, .int v36), (0, .ref h0), (1, .int p1), (2, .int p2)]) hx hb (kd tdlX9_backupOf_0 34 rfl) hl (by decide) rfl (fun ls hl => ?_)
      refine lv_iconst (v := 0) hx hb (kd tdlX9_backupOf_0 35 rfl) (by decide) ?_
      refine lv_istore (lv' := [(7, .int 0), (6, .int 0), (5, .int 0), (4, .int ((md_s d0) (Int32.toNatClampNeg (v36 + 1)))), (3, .int v36), (0, .ref h0), (1, .int p1), (2, .int p2)]) hx hb (kd tdlX9_backupOf_0 36 rfl) hl (by decide) rfl (fun ls hl => ?_)
      have hK133 : ∀ k133 : Int32 × Int32, K_X9_backupOf_133 p2 (md_path d0) (md_store d0) (md_s d0) v36 p1 k133 = some r → ∀ (H : Heap) (locs : List Loc) (ls : Array Slot), va_P D vwCl ((wmdF t h0 a0 0 (md_s d0) (md_aside d0) (md_base d0) (md_saved d0) (md_savedMany d0) (md_slots d0) (md_hasSlot d0) (md_text d0) (md_length d0) (md_begins d0) (md_lengths d0) (md_streams d0) (md_letters d0) (md_letterMany d0) (md_chunks d0) (md_chunkMany d0) (md_homes d0) (md_dropped d0) (md_madeIn d0) (md_madeAt d0) (md_putMany d0) (md_path d0) (md_store d0) (md_thinOnes d0))) H → va_D A ((wmdF t h0 a0 0 (md_s d0) (md_aside d0) (md_base d0) (md_saved d0) (md_savedMany d0) (md_slots d0) (md_hasSlot d0) (md_text d0) (md_length d0) (md_begins d0) (md_lengths d0) (md_streams d0) (md_letters d0) (md_letterMany d0) (md_chunks d0) (md_chunkMany d0) (md_homes d0) (md_dropped d0) (md_madeIn d0) (md_madeAt d0) (md_putMany d0) (md_path d0) (md_store d0) (md_thinOnes d0))) → va_S A s.heap H locs → lv_has ls 8 [(0, .ref h0), (1, .int p1), (2, .int p2), (4, .int ((md_s d0) (Int32.toNatClampNeg (v36 + 1)))), (5, .int k133.1), (6, .int k133.2)] → W p l e ({ frames := 3, cells := 0, slots := 0, locals := 68 } : Room) s m args below meth c H locs 0 0 (MQ below (kQi D (TY t) ((wmd t h0 a0 (r.2.1, (md_s d0), (md_aside d0), (md_base d0), (md_saved d0), (md_savedMany d0), (md_slots d0), (md_hasSlot d0), (md_text d0), (md_length d0), (md_begins d0), (md_lengths d0), (md_streams d0), (md_letters d0), (md_letterMany d0), (md_chunks d0), (md_chunkMany d0), (md_homes d0), (md_dropped d0), (md_madeIn d0), (md_madeAt d0), (md_putMany d0), r.2.2.1, r.2.2.2, (md_thinOnes d0)))) r.1 A) args s 0 0 A) (F0 m 133 ls []) := by
        intro k133 hF H locs ls hP hD hS hl
        refine lv_iload_n hx hb (kd tdlX9_backupOf_1 36 rfl) rfl (lv_at hl 2 rfl) ?_
        by_cases hw134 : (Int32.toInt p2 < 0 ∨ 3 < Int32.toInt p2)
        · have hF := kt hw134 hF
          refine lv_tableOut (tgt := 182) hx hb (kd tdlX9_backupOf_1 37 rfl) hw134 (by decide) ?_
          refine lv_iload hx hb (kd tdlX9_backupOf_2 5 rfl) (lv_at hl 5 rfl) ?_
          cases ko hF
          exact ke_i hx hb hr hlocks hK hP hD hS rfl (kd tdlX9_backupOf_2 6 rfl)
        · have hF := kf hw134 hF
          by_cases hv134_0 : p2 = 0
          · have hF := kt hv134_0 hF
            refine ksw (n := 0) (off := (30)) (tgt := 164) hx hb (kd tdlX9_backupOf_1 37 rfl) hv134_0 (by decide) (by decide) (by decide) (by decide) ?_
            refine lv_iload hx hb (kd tdlX9_backupOf_1 38 rfl) (lv_at hl 3 rfl) ?_
            cases ko hF
            exact ke_i hx hb hr hlocks hK hP hD hS rfl (kd tdlX9_backupOf_1 39 rfl)
          · have hF := kf hv134_0 hF
            by_cases hv134_1 : p2 = 1
            · have hF := kt hv134_1 hF
              refine ksw (n := 1) (off := (33)) (tgt := 167) hx hb (kd tdlX9_backupOf_1 37 rfl) hv134_1 (by decide) (by decide) (by decide) (by decide) ?_
              refine lv_iload hx hb (kd tdlX9_backupOf_1 40 rfl) (lv_at hl 4 rfl) ?_
              cases ko hF
              exact ke_i hx hb hr hlocks hK hP hD hS rfl (kd tdlX9_backupOf_1 41 rfl)
            · have hF := kf hv134_1 hF
              by_cases hv134_2 : p2 = 2
              · have hF := kt hv134_2 hF
                refine ksw (n := 2) (off := (36)) (tgt := 170) hx hb (kd tdlX9_backupOf_1 37 rfl) hv134_2 (by decide) (by decide) (by decide) (by decide) ?_
                refine lv_aload_n hx hb (kd tdlX9_backupOf_1 42 rfl) rfl (lv_at hl 0 rfl) ?_
                refine lv_iload_n hx hb (kd tdlX9_backupOf_1 43 rfl) rfl (lv_at hl 1 rfl) ?_
                obtain ⟨v172, e172, hF⟩ := kc hF
                refine kc_i0 (w1 := ((wmdF t h0 a0 0 (md_s d0) (md_aside d0) (md_base d0) (md_saved d0) (md_savedMany d0) (md_slots d0) (md_hasSlot d0) (md_text d0) (md_length d0) (md_begins d0) (md_lengths d0) (md_streams d0) (md_letters d0) (md_letterMany d0) (md_chunks d0) (md_chunkMany d0) (md_homes d0) (md_dropped d0) (md_madeIn d0) (md_madeAt d0) (md_putMany d0) (md_path d0) (md_store d0) (md_thinOnes d0)))) hP hD hS hA (kr_V0 (Qx := (fun A => kQi D (TY t) ((wmdF t h0 a0 0 (md_s d0) (md_aside d0) (md_base d0) (md_saved d0) (md_savedMany d0) (md_slots d0) (md_hasSlot d0) (md_text d0) (md_length d0) (md_begins d0) (md_lengths d0) (md_streams d0) (md_letters d0) (md_letterMany d0) (md_chunks d0) (md_chunkMany d0) (md_homes d0) (md_dropped d0) (md_madeIn d0) (md_madeAt d0) (md_putMany d0) (md_path d0) (md_store d0) (md_thinOnes d0))) v172 A)) (As := [.int p1]) (rest := []) ⟨hx, hb, hml, hown, hts⟩ hK hP hD (c_X9_containersOf l D t h0 a0 (0, (md_s d0), (md_aside d0), (md_base d0), (md_saved d0), (md_savedMany d0), (md_slots d0), (md_hasSlot d0), (md_text d0), (md_length d0), (md_begins d0), (md_lengths d0), (md_streams d0), (md_letters d0), (md_letterMany d0), (md_chunks d0), (md_chunkMany d0), (md_homes d0), (md_dropped d0), (md_madeIn d0), (md_madeAt d0), (md_putMany d0), (md_path d0), (md_store d0), (md_thinOnes d0)) _ p1 v172 e172) (cwV 1 hts (gcX9_containersOf w_572) rfl rfl rfl hdX9_containersOfV ⟨Nat.le_of_ble_eq_true rfl, Nat.le_of_ble_eq_true rfl⟩) (ci := 8) (q0 := 0) rfl rfl rfl hl.1 rfl (Nat.le_of_ble_eq_true rfl) (kd tdlX9_backupOf_1 44 rfl) ⟨Nat.zero_le _, Nat.zero_le _⟩) (fun H locs hP hD hS => ?_)
                cases ko hF
                exact ke_i hx hb hr hlocks hK hP hD hS rfl (kd tdlX9_backupOf_2 0 rfl)
              · have hF := kf hv134_2 hF
                have hv134_3 : p2 = 3 := keq (k := 3) (by have a0 := kne hv134_0 (k := 0) (by decide); have a1 := kne hv134_1 (k := 1) (by decide); have a2 := kne hv134_2 (k := 2) (by decide); omega) (by decide)
                refine ksw (n := 3) (off := (42)) (tgt := 176) hx hb (kd tdlX9_backupOf_1 37 rfl) hv134_3 (by decide) (by decide) (by decide) (by decide) ?_
                refine lv_aload_n hx hb (kd tdlX9_backupOf_2 1 rfl) rfl (lv_at hl 0 rfl) ?_
                refine lv_iload_n hx hb (kd tdlX9_backupOf_2 2 rfl) rfl (lv_at hl 1 rfl) ?_
                obtain ⟨v178, e178, hF⟩ := kc hF
                refine kc_i0 (w1 := ((wmdF t h0 a0 0 (md_s d0) (md_aside d0) (md_base d0) (md_saved d0) (md_savedMany d0) (md_slots d0) (md_hasSlot d0) (md_text d0) (md_length d0) (md_begins d0) (md_lengths d0) (md_streams d0) (md_letters d0) (md_letterMany d0) (md_chunks d0) (md_chunkMany d0) (md_homes d0) (md_dropped d0) (md_madeIn d0) (md_madeAt d0) (md_putMany d0) v178.2.1 v178.2.2 (md_thinOnes d0)))) hP hD hS hA (kr_V0 (Qx := (fun A => kQi D (TY t) ((wmdF t h0 a0 0 (md_s d0) (md_aside d0) (md_base d0) (md_saved d0) (md_savedMany d0) (md_slots d0) (md_hasSlot d0) (md_text d0) (md_length d0) (md_begins d0) (md_lengths d0) (md_streams d0) (md_letters d0) (md_letterMany d0) (md_chunks d0) (md_chunkMany d0) (md_homes d0) (md_dropped d0) (md_madeIn d0) (md_madeAt d0) (md_putMany d0) v178.2.1 v178.2.2 (md_thinOnes d0))) v178.1 A)) (As := [.int p1]) (rest := []) ⟨hx, hb, hml, hown, hts⟩ hK hP hD (c_X9_loadsOf l D t h0 a0 (0, (md_s d0), (md_aside d0), (md_base d0), (md_saved d0), (md_savedMany d0), (md_slots d0), (md_hasSlot d0), (md_text d0), (md_length d0), (md_begins d0), (md_lengths d0), (md_streams d0), (md_letters d0), (md_letterMany d0), (md_chunks d0), (md_chunkMany d0), (md_homes d0), (md_dropped d0), (md_madeIn d0), (md_madeAt d0), (md_putMany d0), (md_path d0), (md_store d0), (md_thinOnes d0)) _ p1 v178 e178) (cwV 1 hts (gcX9_loadsOf w_576) rfl rfl rfl hdX9_loadsOfV ⟨Nat.le_of_ble_eq_true rfl, Nat.le_of_ble_eq_true rfl⟩) (ci := 8) (q0 := 0) rfl rfl rfl hl.1 rfl (Nat.le_of_ble_eq_true rfl) (kd tdlX9_backupOf_2 3 rfl) ⟨Nat.zero_le _, Nat.zero_le _⟩) (fun H locs hP hD hS => ?_)
                cases ko hF
                exact ke_i hx hb hr hlocks hK hP hD hS rfl (kd tdlX9_backupOf_2 4 rfl)
      refine lp_ind (f := B_X9_backupOf_59 (md_s d0) v36 p1 (K_X9_backupOf_133 p2 (md_path d0) (md_store d0) (md_s d0) v36 p1)) (r := r) (P := fun s59_ => ∀ (H : Heap) (locs : List Loc) (ls : Array Slot), va_P D vwCl ((wmdF t h0 a0 0 (md_s d0) (md_aside d0) (md_base d0) (md_saved d0) (md_savedMany d0) (md_slots d0) (md_hasSlot d0) (md_text d0) (md_length d0) (md_begins d0) (md_lengths d0) (md_streams d0) (md_letters d0) (md_letterMany d0) (md_chunks d0) (md_chunkMany d0) (md_homes d0) (md_dropped d0) (md_madeIn d0) (md_madeAt d0) (md_putMany d0) (md_path d0) (md_store d0) (md_thinOnes d0))) H → va_D A ((wmdF t h0 a0 0 (md_s d0) (md_aside d0) (md_base d0) (md_saved d0) (md_savedMany d0) (md_slots d0) (md_hasSlot d0) (md_text d0) (md_length d0) (md_begins d0) (md_lengths d0) (md_streams d0) (md_letters d0) (md_letterMany d0) (md_chunks d0) (md_chunkMany d0) (md_homes d0) (md_dropped d0) (md_madeIn d0) (md_madeAt d0) (md_putMany d0) (md_path d0) (md_store d0) (md_thinOnes d0))) → va_S A s.heap H locs → lv_has ls 8 [(0, .ref h0), (1, .int p1), (2, .int p2), (3, .int v36), (4, .int ((md_s d0) (Int32.toNatClampNeg (v36 + 1)))), (5, .int s59_.1), (6, .int s59_.2.1), (7, .int s59_.2.2)] → W p l e ({ frames := 3, cells := 0, slots := 0, locals := 68 } : Room) s m args below meth c H locs 0 0 (MQ below (kQi D (TY t) ((wmd t h0 a0 (r.2.1, (md_s d0), (md_aside d0), (md_base d0), (md_saved d0), (md_savedMany d0), (md_slots d0), (md_hasSlot d0), (md_text d0), (md_length d0), (md_begins d0), (md_lengths d0), (md_streams d0), (md_letters d0), (md_letterMany d0), (md_chunks d0), (md_chunkMany d0), (md_homes d0), (md_dropped d0), (md_madeIn d0), (md_madeAt d0), (md_putMany d0), r.2.2.1, r.2.2.2, (md_thinOnes d0)))) r.1 A) args s 0 0 A) (F0 m 59 ls [])) ?_ FU (0, 0, 0) hF _ _ _ hP hD hS (lv_sub hl [5, 6, 7, 4, 3, 2, 1, 0] rfl)
      intro self59 ih59 s59_ hF H locs ls hP hD hS hl
      refine lv_iload hx hb (kd tdlX9_backupOf_0 37 rfl) (lv_at hl 7 rfl) ?_
      refine lv_iload hx hb (kd tdlX9_backupOf_0 38 rfl) (lv_at hl 4 rfl) ?_
      refine lv_icmp_ge (tgt := 133) hx hb (kd tdlX9_backupOf_0 39 rfl) (by decide) (fun hc63 => ?_) (fun hc63 => ?_)
      · have hF := kt hc63 hF
        exact hK133 (s59_.1, s59_.2.1) hF _ _ _ hP hD hS (lv_sub hl [0, 1, 2, 4, 5, 6] rfl)
      · have hF := kf hc63 hF
        refine lv_iload hx hb (kd tdlX9_backupOf_0 40 rfl) (lv_at hl 5 rfl) ?_
        refine lv_aload_n hx hb (kd tdlX9_backupOf_0 41 rfl) rfl (lv_at hl 0 rfl) ?_
        refine lv_iload_n hx hb (kd tdlX9_backupOf_0 42 rfl) rfl (lv_at hl 1 rfl) ?_
        refine lv_iload hx hb (kd tdlX9_backupOf_0 43 rfl) (lv_at hl 7 rfl) ?_
        obtain ⟨v72, e72, hF⟩ := kc hF
        refine kc_i0 (w1 := ((wmdF t h0 a0 0 (md_s d0) (md_aside d0) (md_base d0) (md_saved d0) (md_savedMany d0) (md_slots d0) (md_hasSlot d0) (md_text d0) (md_length d0) (md_begins d0) (md_lengths d0) (md_streams d0) (md_letters d0) (md_letterMany d0) (md_chunks d0) (md_chunkMany d0) (md_homes d0) (md_dropped d0) (md_madeIn d0) (md_madeAt d0) (md_putMany d0) (md_path d0) (md_store d0) (md_thinOnes d0)))) hP hD hS hA (kr_V0 (Qx := (fun A => kQi D (TY t) ((wmdF t h0 a0 0 (md_s d0) (md_aside d0) (md_base d0) (md_saved d0) (md_savedMany d0) (md_slots d0) (md_hasSlot d0) (md_text d0) (md_length d0) (md_begins d0) (md_lengths d0) (md_streams d0) (md_letters d0) (md_letterMany d0) (md_chunks d0) (md_chunkMany d0) (md_homes d0) (md_dropped d0) (md_madeIn d0) (md_madeAt d0) (md_putMany d0) (md_path d0) (md_store d0) (md_thinOnes d0))) v72 A)) (As := [.int p1, .int s59_.2.2]) (rest := [.int s59_.1]) ⟨hx, hb, hml, hown, hts⟩ hK hP hD (c_X9_referred l D t h0 a0 (0, (md_s d0), (md_aside d0), (md_base d0), (md_saved d0), (md_savedMany d0), (md_slots d0), (md_hasSlot d0), (md_text d0), (md_length d0), (md_begins d0), (md_lengths d0), (md_streams d0), (md_letters d0), (md_letterMany d0), (md_chunks d0), (md_chunkMany d0), (md_homes d0), (md_dropped d0), (md_madeIn d0), (md_madeAt d0), (md_putMany d0), (md_path d0), (md_store d0), (md_thinOnes d0)) _ p1 s59_.2.2 v72 e72) (cwV 2 hts (gcX9_referred w_568) rfl rfl rfl hdX9_referredV ⟨Nat.le_of_ble_eq_true rfl, Nat.le_of_ble_eq_true rfl⟩) (ci := 8) (q0 := 0) rfl rfl rfl hl.1 rfl (Nat.le_of_ble_eq_true rfl) (kd tdlX9_backupOf_0 44 rfl) ⟨Nat.zero_le _, Nat.zero_le _⟩) (fun H locs hP hD hS => ?_)
        obtain ⟨v75, e75, hF⟩ := kc hF
        refine kc_iR hK hP hD hS hA [] rfl (kr_S (Qx := (fun A => kQi D (TY t) ([] : va_W) v75 A)) (wc := ([] : va_W)) (As := [.int v72]) (rest := [.int s59_.1]) ⟨hx, hb, hml, hown, hts⟩ hK hP hD [] nd_ rfl (c_X9_lengthOf l D t  _ v72 v75 e75) (va_cwS 1 hts (gcX9_lengthOf w_289) rfl rfl rfl hdX9_lengthOfS ⟨Nat.le_of_ble_eq_true rfl, Nat.le_of_ble_eq_true rfl⟩) rfl hl.1 rfl (Nat.le_of_ble_eq_true rfl) (kd tdlX9_backupOf_1 0 rfl) ⟨Nat.zero_le _, Nat.zero_le _⟩) (fun H locs hP hS => ?_)
        refine lv_iadd hx hb (kd tdlX9_backupOf_1 1 rfl) ?_
        refine lv_istore (lv' := [(5, .int (s59_.1 + v75)), (0, .ref h0), (1, .int p1), (2, .int p2), (3, .int v36), (4, .int ((md_s d0) (Int32.toNatClampNeg (v36 + 1)))), (6, .int s59_.2.1), (7, .int s59_.2.2)]) hx hb (kd tdlX9_backupOf_1 2 rfl) hl (by decide) rfl (fun ls hl => ?_)
        refine lv_iload hx hb (kd tdlX9_backupOf_1 3 rfl) (lv_at hl 6 rfl) ?_
        refine lv_iload hx hb (kd tdlX9_backupOf_1 4 rfl) (lv_at hl 7 rfl) ?_
        refine lv_if_le (tgt := 123) hx hb (kd tdlX9_backupOf_1 5 rfl) (by decide) (fun hc85 => ?_) (fun hc85 => ?_)
        · have hF := kt hc85 hF
          refine lv_iconst (v := 0) hx hb (kd tdlX9_backupOf_1 31 rfl) (by decide) ?_
          refine lv_iadd hx hb (kd tdlX9_backupOf_1 32 rfl) ?_
          refine lv_istore (lv' := [(6, .int (s59_.2.1 + 0)), (5, .int (s59_.1 + v75)), (0, .ref h0), (1, .int p1), (2, .int p2), (3, .int v36), (4, .int ((md_s d0) (Int32.toNatClampNeg (v36 + 1)))), (7, .int s59_.2.2)]) hx hb (kd tdlX9_backupOf_1 33 rfl) hl (by decide) rfl (fun ls hl => ?_)
          refine lv_iinc (v := (s59_.2.2 + 1)) (lv' := [(7, .int (s59_.2.2 + 1)), (6, .int (s59_.2.1 + 0)), (5, .int (s59_.1 + v75)), (0, .ref h0), (1, .int p1), (2, .int p2), (3, .int v36), (4, .int ((md_s d0) (Int32.toNatClampNeg (v36 + 1))))]) hx hb (kd tdlX9_backupOf_1 34 rfl) hl (k := 7) rfl rfl (by decide) rfl (fun ls hl => ?_)
          refine lv_goto (tgt := 59) hx hb (kd tdlX9_backupOf_1 35 rfl) (by decide) ?_
          exact ih59 ((s59_.1 + v75), (s59_.2.1 + 0), (s59_.2.2 + 1)) hF _ _ _ hP hD hS (lv_sub hl [3, 4, 5, 6, 7, 2, 1, 0] rfl)
        · have hF := kf hc85 hF
          refine lv_aload_n hx hb (kd tdlX9_backupOf_1 6 rfl) rfl (lv_at hl 1 rfl) ?_
          refine md_g_s hx hb hts inX9_ hown hK hP L7 (kd tdlX9_backupOf_1 7 rfl) ?_
          refine lv_iload_n hx hb (kd tdlX9_backupOf_1 8 rfl) rfl (lv_at hl 4 rfl) ?_
          refine lv_iconst (v := 2) hx hb (kd tdlX9_backupOf_1 9 rfl) (by decide) ?_
          refine lv_iadd hx hb (kd tdlX9_backupOf_1 10 rfl) ?_
          refine lv_iconst (v := 2) hx hb (kd tdlX9_backupOf_1 11 rfl) (by decide) ?_
          refine lv_iload hx hb (kd tdlX9_backupOf_1 12 rfl) (lv_at hl 7 rfl) ?_
          refine lv_imul hx hb (kd tdlX9_backupOf_1 13 rfl) ?_
          refine lv_iadd hx hb (kd tdlX9_backupOf_1 14 rfl) ?_
          obtain ⟨hi100, hF⟩ := kg hF
          refine md_l_s hx hb hK hP hi100 (kd tdlX9_backupOf_1 15 rfl) ?_
          refine lv_aload_n hx hb (kd tdlX9_backupOf_1 16 rfl) rfl (lv_at hl 1 rfl) ?_
          refine md_g_s hx hb hts inX9_ hown hK hP L7 (kd tdlX9_backupOf_1 17 rfl) ?_
          refine lv_iload_n hx hb (kd tdlX9_backupOf_1 18 rfl) rfl (lv_at hl 4 rfl) ?_
          refine lv_iconst (v := 2) hx hb (kd tdlX9_backupOf_1 19 rfl) (by decide) ?_
          refine lv_iadd hx hb (kd tdlX9_backupOf_1 20 rfl) ?_
          refine lv_iconst (v := 2) hx hb (kd tdlX9_backupOf_1 21 rfl) (by decide) ?_
          refine lv_iload hx hb (kd tdlX9_backupOf_1 22 rfl) (lv_at hl 7 rfl) ?_
          refine lv_imul hx hb (kd tdlX9_backupOf_1 23 rfl) ?_
          refine lv_iadd hx hb (kd tdlX9_backupOf_1 24 rfl) ?_
          refine lv_iconst (v := 2) hx hb (kd tdlX9_backupOf_1 25 rfl) (by decide) ?_
          refine lv_isub hx hb (kd tdlX9_backupOf_1 26 rfl) ?_
          obtain ⟨hi115, hF⟩ := kg hF
          refine md_l_s hx hb hK hP hi115 (kd tdlX9_backupOf_1 27 rfl) ?_
          refine lv_icmp_eq (tgt := 123) hx hb (kd tdlX9_backupOf_1 28 rfl) (by decide) (fun hc116 => ?_) (fun hc116 => ?_)
          · have hF := kt hc116 hF
            refine lv_iconst (v := 0) hx hb (kd tdlX9_backupOf_1 31 rfl) (by decide) ?_
            refine lv_iadd hx hb (kd tdlX9_backupOf_1 32 rfl) ?_
            refine lv_istore (lv' := [(6, .int (s59_.2.1 + 0)), (5, .int (s59_.1 + v75)), (0, .ref h0), (1, .int p1), (2, .int p2), (3, .int v36), (4, .int ((md_s d0) (Int32.toNatClampNeg (v36 + 1)))), (7, .int s59_.2.2)]) hx hb (kd tdlX9_backupOf_1 33 rfl) hl (by decide) rfl (fun ls hl => ?_)
            refine lv_iinc (v := (s59_.2.2 + 1)) (lv' := [(7, .int (s59_.2.2 + 1)), (6, .int (s59_.2.1 + 0)), (5, .int (s59_.1 + v75)), (0, .ref h0), (1, .int p1), (2, .int p2), (3, .int v36), (4, .int ((md_s d0) (Int32.toNatClampNeg (v36 + 1))))]) hx hb (kd tdlX9_backupOf_1 34 rfl) hl (k := 7) rfl rfl (by decide) rfl (fun ls hl => ?_)
            refine lv_goto (tgt := 59) hx hb (kd tdlX9_backupOf_1 35 rfl) (by decide) ?_
            exact ih59 ((s59_.1 + v75), (s59_.2.1 + 0), (s59_.2.2 + 1)) hF _ _ _ hP hD hS (lv_sub hl [3, 4, 5, 6, 7, 2, 1, 0] rfl)
          · have hF := kf hc116 hF
            refine lv_iconst (v := 1) hx hb (kd tdlX9_backupOf_1 29 rfl) (by decide) ?_
            refine lv_goto (tgt := 124) hx hb (kd tdlX9_backupOf_1 30 rfl) (by decide) ?_
            refine lv_iadd hx hb (kd tdlX9_backupOf_1 32 rfl) ?_
            refine lv_istore (lv' := [(6, .int (s59_.2.1 + 1)), (5, .int (s59_.1 + v75)), (0, .ref h0), (1, .int p1), (2, .int p2), (3, .int v36), (4, .int ((md_s d0) (Int32.toNatClampNeg (v36 + 1)))), (7, .int s59_.2.2)]) hx hb (kd tdlX9_backupOf_1 33 rfl) hl (by decide) rfl (fun ls hl => ?_)
            refine lv_iinc (v := (s59_.2.2 + 1)) (lv' := [(7, .int (s59_.2.2 + 1)), (6, .int (s59_.2.1 + 1)), (5, .int (s59_.1 + v75)), (0, .ref h0), (1, .int p1), (2, .int p2), (3, .int v36), (4, .int ((md_s d0) (Int32.toNatClampNeg (v36 + 1))))]) hx hb (kd tdlX9_backupOf_1 34 rfl) hl (k := 7) rfl rfl (by decide) rfl (fun ls hl => ?_)
            refine lv_goto (tgt := 59) hx hb (kd tdlX9_backupOf_1 35 rfl) (by decide) ?_
            exact ih59 ((s59_.1 + v75), (s59_.2.1 + 1), (s59_.2.2 + 1)) hF _ _ _ hP hD hS (lv_sub hl [3, 4, 5, 6, 7, 2, 1, 0] rfl)
    · have hF := kt hc25 hF
      refine lv_aload_n hx hb (kd tdlX9_backupOf_0 16 rfl) rfl (lv_at hl 0 rfl) ?_
      refine lv_iconst (v := 2) hx hb (kd tdlX9_backupOf_0 17 rfl) (by decide) ?_
      obtain ⟨v30, e30, hF⟩ := kc hF
      refine kc_i0 (w1 := ((wmdF t h0 a0 v30.2 (md_s d0) (md_aside d0) (md_base d0) (md_saved d0) (md_savedMany d0) (md_slots d0) (md_hasSlot d0) (md_text d0) (md_length d0) (md_begins d0) (md_lengths d0) (md_streams d0) (md_letters d0) (md_letterMany d0) (md_chunks d0) (md_chunkMany d0) (md_homes d0) (md_dropped d0) (md_madeIn d0) (md_madeAt d0) (md_putMany d0) (md_path d0) (md_store d0) (md_thinOnes d0)))) hP hD hS hA (kr_V0 (Qx := (fun A => kQi D (TY t) ((wmdF t h0 a0 v30.2 (md_s d0) (md_aside d0) (md_base d0) (md_saved d0) (md_savedMany d0) (md_slots d0) (md_hasSlot d0) (md_text d0) (md_length d0) (md_begins d0) (md_lengths d0) (md_streams d0) (md_letters d0) (md_letterMany d0) (md_chunks d0) (md_chunkMany d0) (md_homes d0) (md_dropped d0) (md_madeIn d0) (md_madeAt d0) (md_putMany d0) (md_path d0) (md_store d0) (md_thinOnes d0))) v30.1 A)) (As := [.int 2]) (rest := []) ⟨hx, hb, hml, hown, hts⟩ hK hP hD (c_X9_fails l D t h0 a0 (0, (md_s d0), (md_aside d0), (md_base d0), (md_saved d0), (md_savedMany d0), (md_slots d0), (md_hasSlot d0), (md_text d0), (md_length d0), (md_begins d0), (md_lengths d0), (md_streams d0), (md_letters d0), (md_letterMany d0), (md_chunks d0), (md_chunkMany d0), (md_homes d0), (md_dropped d0), (md_madeIn d0), (md_madeAt d0), (md_putMany d0), (md_path d0), (md_store d0), (md_thinOnes d0)) _ 2 v30 e30) (cwV 1 hts (gcX9_fails w_153) rfl rfl rfl hdX9_failsV ⟨Nat.le_of_ble_eq_true rfl, Nat.le_of_ble_eq_true rfl⟩) (ci := 8) (q0 := 0) rfl rfl rfl hl.1 rfl (Nat.le_of_ble_eq_true rfl) (kd tdlX9_backupOf_0 18 rfl) ⟨Nat.zero_le _, Nat.zero_le _⟩) (fun H locs hP hD hS => ?_)
      cases ko hF
      exact ke_i hx hb hr hlocks hK hP hD hS rfl (kd tdlX9_backupOf_0 19 rfl)
  · have hF := kt hc10 hF
    refine lv_aload_n hx hb (kd tdlX9_backupOf_0 7 rfl) rfl (lv_at hl 0 rfl) ?_
    refine lv_iconst (v := 1) hx hb (kd tdlX9_backupOf_0 8 rfl) (by decide) ?_
    obtain ⟨v15, e15, hF⟩ := kc hF
    refine kc_i0 (w1 := ((wmdF t h0 a0 v15.2 (md_s d0) (md_aside d0) (md_base d0) (md_saved d0) (md_savedMany d0) (md_slots d0) (md_hasSlot d0) (md_text d0) (md_length d0) (md_begins d0) (md_lengths d0) (md_streams d0) (md_letters d0) (md_letterMany d0) (md_chunks d0) (md_chunkMany d0) (md_homes d0) (md_dropped d0) (md_madeIn d0) (md_madeAt d0) (md_putMany d0) (md_path d0) (md_store d0) (md_thinOnes d0)))) hP hD hS hA (kr_V0 (Qx := (fun A => kQi D (TY t) ((wmdF t h0 a0 v15.2 (md_s d0) (md_aside d0) (md_base d0) (md_saved d0) (md_savedMany d0) (md_slots d0) (md_hasSlot d0) (md_text d0) (md_length d0) (md_begins d0) (md_lengths d0) (md_streams d0) (md_letters d0) (md_letterMany d0) (md_chunks d0) (md_chunkMany d0) (md_homes d0) (md_dropped d0) (md_madeIn d0) (md_madeAt d0) (md_putMany d0) (md_path d0) (md_store d0) (md_thinOnes d0))) v15.1 A)) (As := [.int 1]) (rest := []) ⟨hx, hb, hml, hown, hts⟩ hK hP hD (c_X9_fails l D t h0 a0 (0, (md_s d0), (md_aside d0), (md_base d0), (md_saved d0), (md_savedMany d0), (md_slots d0), (md_hasSlot d0), (md_text d0), (md_length d0), (md_begins d0), (md_lengths d0), (md_streams d0), (md_letters d0), (md_letterMany d0), (md_chunks d0), (md_chunkMany d0), (md_homes d0), (md_dropped d0), (md_madeIn d0), (md_madeAt d0), (md_putMany d0), (md_path d0), (md_store d0), (md_thinOnes d0)) _ 1 v15 e15) (cwV 1 hts (gcX9_fails w_153) rfl rfl rfl hdX9_failsV ⟨Nat.le_of_ble_eq_true rfl, Nat.le_of_ble_eq_true rfl⟩) (ci := 8) (q0 := 0) rfl rfl rfl hl.1 rfl (Nat.le_of_ble_eq_true rfl) (kd tdlX9_backupOf_0 9 rfl) ⟨Nat.zero_le _, Nat.zero_le _⟩) (fun H locs hP hD hS => ?_)
    cases ko hF
    exact ke_i hx hb hr hlocks hK hP hD hS rfl (kd tdlX9_backupOf_0 10 rfl)
set_option maxHeartbeats 4000000 in
set_option maxRecDepth 100000 in
theorem c_X9_reference (l : Launch) (D : va_G) (t : Nat → ClassId) (h0 : Nat) (a0 : Nat → Nat) (d0 : MDT) (sz : Nat) (p1 : Int32) (p2 : Int32) (p3 : Int32) (r : Int32 × Int32) (hF : F_X9_reference (md_thrown d0) (md_s d0) p1 p2 p3 = some r) : Met l yX9_reference wX9_reference ({ frames := 2, cells := 0, slots := 0, locals := 43 } : Room) (kPc D (TY t) ((wmd t h0 a0 d0)) [.ref h0, .int p1, .int p2, .int p3] sz) (kQi D (TY t) ((wmd t h0 a0 (r.2, (md_s d0), (md_aside d0), (md_base d0), (md_saved d0), (md_savedMany d0), (md_slots d0), (md_hasSlot d0), (md_text d0), (md_length d0), (md_begins d0), (md_lengths d0), (md_streams d0), (md_letters d0), (md_letterMany d0), (md_chunks d0), (md_chunkMany d0), (md_homes d0), (md_dropped d0), (md_madeIn d0), (md_madeAt d0), (md_putMany d0), (md_path d0), (md_store d0), (md_thinOnes d0)))) r.1 (va_A ((wmd t h0 a0 d0)) sz)) 0 0 (va_A ((wmd t h0 a0 d0)) sz) := by
  refine kE (cc := cX9_reference) (maxL := 4) (ret := (some .int)) (Qx := fun A => kQi D (TY t) ((wmd t h0 a0 (r.2, (md_s d0), (md_aside d0), (md_base d0), (md_saved d0), (md_savedMany d0), (md_slots d0), (md_hasSlot d0), (md_text d0), (md_length d0), (md_begins d0), (md_lengths d0), (md_streams d0), (md_letters d0), (md_letterMany d0), (md_chunks d0), (md_chunkMany d0), (md_homes d0), (md_dropped d0), (md_madeIn d0), (md_madeAt d0), (md_putMany d0), (md_path d0), (md_store d0), (md_thinOnes d0)))) r.1 A) (lv0 := [(0, .ref h0), (1, .int p1), (2, .int p2), (3, .int p3)]) RX9 rfl (by decide) rfl (Nat.le_of_ble_eq_true rfl) rfl ?_
  intro p e s m args below meth c A ls hx hb hml hr hlocks hown hts hA hK hP hD hS hl
  have L65 := hts (.fieldLink RX9 65 "ChunkCarriersModel" "thrown" "I") (List.mem_cons_of_mem _ w_119)
  have L7 := hts (.fieldLink RX9 7 "ChunkCarriersModel" "s" "[I") (List.mem_cons_of_mem _ w_101)
  have inX9_ : ∀ w ∈ wsX90, w ∈ wX9_reference := fun w h => List.mem_cons_of_mem _ (inlX9 w h)
  have hP : va_P D vwCl ((wmdF t h0 a0 (md_thrown d0) (md_s d0) (md_aside d0) (md_base d0) (md_saved d0) (md_savedMany d0) (md_slots d0) (md_hasSlot d0) (md_text d0) (md_length d0) (md_begins d0) (md_lengths d0) (md_streams d0) (md_letters d0) (md_letterMany d0) (md_chunks d0) (md_chunkMany d0) (md_homes d0) (md_dropped d0) (md_madeIn d0) (md_madeAt d0) (md_putMany d0) (md_path d0) (md_store d0) (md_thinOnes d0))) s.heap := hP
  have hD : va_D A ((wmdF t h0 a0 (md_thrown d0) (md_s d0) (md_aside d0) (md_base d0) (md_saved d0) (md_savedMany d0) (md_slots d0) (md_hasSlot d0) (md_text d0) (md_length d0) (md_begins d0) (md_lengths d0) (md_streams d0) (md_letters d0) (md_letterMany d0) (md_chunks d0) (md_chunkMany d0) (md_homes d0) (md_dropped d0) (md_madeIn d0) (md_madeAt d0) (md_putMany d0) (md_path d0) (md_store d0) (md_thinOnes d0))) := hD
  refine lv_aload_n hx hb (kd tdlX9_reference_0 0 rfl) rfl (lv_at hl 0 rfl) ?_
  refine lv_iconst (v := 0) hx hb (kd tdlX9_reference_0 1 rfl) (by decide) ?_
  refine md_p_thrown hx hb hts inX9_ hown hK hP hD hS L65 (kd tdlX9_reference_0 2 rfl) (fun H locs hP hD hS => ?_)
  refine lv_aload_n hx hb (kd tdlX9_reference_0 3 rfl) rfl (lv_at hl 0 rfl) ?_
  refine lv_iload_n hx hb (kd tdlX9_reference_0 4 rfl) rfl (lv_at hl 1 rfl) ?_
  obtain ⟨v7, e7, hF⟩ := kc hF
  refine kc_i0 (w1 := ((wmdF t h0 a0 0 (md_s d0) (md_aside d0) (md_base d0) (md_saved d0) (md_savedMany d0) (md_slots d0) (md_hasSlot d0) (md_text d0) (md_length d0) (md_begins d0) (md_lengths d0) (md_streams d0) (md_letters d0) (md_letterMany d0) (md_chunks d0) (md_chunkMany d0) (md_homes d0) (md_dropped d0) (md_madeIn d0) (md_madeAt d0) (md_putMany d0) (md_path d0) (md_store d0) (md_thinOnes d0)))) hP hD hS hA (kr_V0 (Qx := (fun A => kQi D (TY t) ((wmdF t h0 a0 0 (md_s d0) (md_aside d0) (md_base d0) (md_saved d0) (md_savedMany d0) (md_slots d0) (md_hasSlot d0) (md_text d0) (md_length d0) (md_begins d0) (md_lengths d0) (md_streams d0) (md_letters d0) (md_letterMany d0) (md_chunks d0) (md_chunkMany d0) (md_homes d0) (md_dropped d0) (md_madeIn d0) (md_madeAt d0) (md_putMany d0) (md_path d0) (md_store d0) (md_thinOnes d0))) v7 A)) (As := [.int p1]) (rest := []) ⟨hx, hb, hml, hown, hts⟩ hK hP hD (c_X9_isBackup l D t h0 a0 (0, (md_s d0), (md_aside d0), (md_base d0), (md_saved d0), (md_savedMany d0), (md_slots d0), (md_hasSlot d0), (md_text d0), (md_length d0), (md_begins d0), (md_lengths d0), (md_streams d0), (md_letters d0), (md_letterMany d0), (md_chunks d0), (md_chunkMany d0), (md_homes d0), (md_dropped d0), (md_madeIn d0), (md_madeAt d0), (md_putMany d0), (md_path d0), (md_store d0), (md_thinOnes d0)) _ p1 v7 e7) (cwV 1 hts (gcX9_isBackup w_564) rfl rfl rfl hdX9_isBackupV ⟨Nat.le_of_ble_eq_true rfl, Nat.le_of_ble_eq_true rfl⟩) (ci := 8) (q0 := 0) rfl rfl rfl hl.1 rfl (Nat.le_of_ble_eq_true rfl) (kd tdlX9_reference_0 5 rfl) ⟨Nat.zero_le _, Nat.zero_le _⟩) (fun H locs hP hD hS => ?_)
  refine lv_if_ne (tgt := 19) hx hb (kd tdlX9_reference_0 6 rfl) (by decide) (fun hc10 => ?_) (fun hc10 => ?_)
  · have hF := kf hc10 hF
    refine lv_iload_n hx hb (kd tdlX9_reference_0 11 rfl) rfl (lv_at hl 2 rfl) ?_
    have hJ32 : ∀ j32 : Unit, J_X9_reference_32 j32 = some r → ∀ (H : Heap) (locs : List Loc) (ls : Array Slot), va_P D vwCl ((wmdF t h0 a0 0 (md_s d0) (md_aside d0) (md_base d0) (md_saved d0) (md_savedMany d0) (md_slots d0) (md_hasSlot d0) (md_text d0) (md_length d0) (md_begins d0) (md_lengths d0) (md_streams d0) (md_letters d0) (md_letterMany d0) (md_chunks d0) (md_chunkMany d0) (md_homes d0) (md_dropped d0) (md_madeIn d0) (md_madeAt d0) (md_putMany d0) (md_path d0) (md_store d0) (md_thinOnes d0))) H → va_D A ((wmdF t h0 a0 0 (md_s d0) (md_aside d0) (md_base d0) (md_saved d0) (md_savedMany d0) (md_slots d0) (md_hasSlot d0) (md_text d0) (md_length d0) (md_begins d0) (md_lengths d0) (md_streams d0) (md_letters d0) (md_letterMany d0) (md_chunks d0) (md_chunkMany d0) (md_homes d0) (md_dropped d0) (md_madeIn d0) (md_madeAt d0) (md_putMany d0) (md_path d0) (md_store d0) (md_thinOnes d0))) → va_S A s.heap H locs → lv_has ls 4 [(0, .ref h0)] → W p l e ({ frames := 2, cells := 0, slots := 0, locals := 43 } : Room) s m args below meth c H locs 0 0 (MQ below (kQi D (TY t) ((wmd t h0 a0 (r.2, (md_s d0), (md_aside d0), (md_base d0), (md_saved d0), (md_savedMany d0), (md_slots d0), (md_hasSlot d0), (md_text d0), (md_length d0), (md_begins d0), (md_lengths d0), (md_streams d0), (md_letters d0), (md_letterMany d0), (md_chunks d0), (md_chunkMany d0), (md_homes d0), (md_dropped d0), (md_madeIn d0), (md_madeAt d0), (md_putMany d0), (md_path d0), (md_store d0), (md_thinOnes d0)))) r.1 A) args s 0 0 A) (F0 m 32 ls []) := by
      intro j32 hF H locs ls hP hD hS hl
      refine lv_aload_n hx hb (kd tdlX9_reference_0 18 rfl) rfl (lv_at hl 0 rfl) ?_
      refine lv_iconst (v := 2) hx hb (kd tdlX9_reference_0 19 rfl) (by decide) ?_
      obtain ⟨v34, e34, hF⟩ := kc hF
      refine kc_i0 (w1 := ((wmdF t h0 a0 v34.2 (md_s d0) (md_aside d0) (md_base d0) (md_saved d0) (md_savedMany d0) (md_slots d0) (md_hasSlot d0) (md_text d0) (md_length d0) (md_begins d0) (md_lengths d0) (md_streams d0) (md_letters d0) (md_letterMany d0) (md_chunks d0) (md_chunkMany d0) (md_homes d0) (md_dropped d0) (md_madeIn d0) (md_madeAt d0) (md_putMany d0) (md_path d0) (md_store d0) (md_thinOnes d0)))) hP hD hS hA (kr_V0 (Qx := (fun A => kQi D (TY t) ((wmdF t h0 a0 v34.2 (md_s d0) (md_aside d0) (md_base d0) (md_saved d0) (md_savedMany d0) (md_slots d0) (md_hasSlot d0) (md_text d0) (md_length d0) (md_begins d0) (md_lengths d0) (md_streams d0) (md_letters d0) (md_letterMany d0) (md_chunks d0) (md_chunkMany d0) (md_homes d0) (md_dropped d0) (md_madeIn d0) (md_madeAt d0) (md_putMany d0) (md_path d0) (md_store d0) (md_thinOnes d0))) v34.1 A)) (As := [.int 2]) (rest := []) ⟨hx, hb, hml, hown, hts⟩ hK hP hD (c_X9_fails l D t h0 a0 (0, (md_s d0), (md_aside d0), (md_base d0), (md_saved d0), (md_savedMany d0), (md_slots d0), (md_hasSlot d0), (md_text d0), (md_length d0), (md_begins d0), (md_lengths d0), (md_streams d0), (md_letters d0), (md_letterMany d0), (md_chunks d0), (md_chunkMany d0), (md_homes d0), (md_dropped d0), (md_madeIn d0), (md_madeAt d0), (md_putMany d0), (md_path d0), (md_store d0), (md_thinOnes d0)) _ 2 v34 e34) (cwV 1 hts (gcX9_fails w_153) rfl rfl rfl hdX9_failsV ⟨Nat.le_of_ble_eq_true rfl, Nat.le_of_ble_eq_true rfl⟩) (ci := 8) (q0 := 0) rfl rfl rfl hl.1 rfl (Nat.le_of_ble_eq_true rfl) (kd tdlX9_reference_0 20 rfl) ⟨Nat.zero_le _, Nat.zero_le _⟩) (fun H locs hP hD hS => ?_)
      cases ko hF
      exact ke_i hx hb hr hlocks hK hP hD hS rfl (kd tdlX9_reference_0 21 rfl)
    refine lv_if_lt (tgt := 32) hx hb (kd tdlX9_reference_0 12 rfl) (by decide) (fun hc20 => ?_) (fun hc20 => ?_)
    · have hF := kt hc20 hF
      exact hJ32 () hF _ _ _ hP hD hS (lv_sub hl [0] rfl)
    · have hF := kf hc20 hF
      refine lv_iload_n hx hb (kd tdlX9_reference_0 13 rfl) rfl (lv_at hl 3 rfl) ?_
      refine lv_iconst (v := 0) hx hb (kd tdlX9_reference_0 14 rfl) (by decide) ?_
      refine lv_iconst (v := 1) hx hb (kd tdlX9_reference_0 15 rfl) (by decide) ?_
      obtain ⟨v26, e26, hF⟩ := kc hF
      refine kc_iR hK hP hD hS hA [] rfl (kr_S (Qx := (fun A => kQi D (TY t) ([] : va_W) v26 A)) (wc := ([] : va_W)) (As := [.int p3, .int 0, .int 1]) (rest := []) ⟨hx, hb, hml, hown, hts⟩ hK hP hD [] nd_ rfl (c_X9_in l D t  _ p3 0 1 v26 e26) (va_cwS 3 hts (gcX9_in w_150) rfl rfl rfl hdX9_inS ⟨Nat.le_of_ble_eq_true rfl, Nat.le_of_ble_eq_true rfl⟩) rfl hl.1 rfl (Nat.le_of_ble_eq_true rfl) (kd tdlX9_reference_0 16 rfl) ⟨Nat.zero_le _, Nat.zero_le _⟩) (fun H locs hP hS => ?_)
      refine lv_if_ne (tgt := 38) hx hb (kd tdlX9_reference_0 17 rfl) (by decide) (fun hc29 => ?_) (fun hc29 => ?_)
      · have hF := kf hc29 hF
        refine lv_iload_n hx hb (kd tdlX9_reference_0 22 rfl) rfl (lv_at hl 2 rfl) ?_
        refine lv_aload_n hx hb (kd tdlX9_reference_0 23 rfl) rfl (lv_at hl 0 rfl) ?_
        refine md_g_s hx hb hts inX9_ hown hK hP L7 (kd tdlX9_reference_0 24 rfl) ?_
        refine lv_aload_n hx hb (kd tdlX9_reference_0 25 rfl) rfl (lv_at hl 0 rfl) ?_
        refine lv_iload_n hx hb (kd tdlX9_reference_0 26 rfl) rfl (lv_at hl 1 rfl) ?_
        obtain ⟨v45, e45, hF⟩ := kc hF
        refine kc_i0 (w1 := ((wmdF t h0 a0 0 (md_s d0) (md_aside d0) (md_base d0) (md_saved d0) (md_savedMany d0) (md_slots d0) (md_hasSlot d0) (md_text d0) (md_length d0) (md_begins d0) (md_lengths d0) (md_streams d0) (md_letters d0) (md_letterMany d0) (md_chunks d0) (md_chunkMany d0) (md_homes d0) (md_dropped d0) (md_madeIn d0) (md_madeAt d0) (md_putMany d0) (md_path d0) (md_store d0) (md_thinOnes d0)))) hP hD hS hA (kr_V0 (Qx := (fun A => kQi D (TY t) ((wmdF t h0 a0 0 (md_s d0) (md_aside d0) (md_base d0) (md_saved d0) (md_savedMany d0) (md_slots d0) (md_hasSlot d0) (md_text d0) (md_length d0) (md_begins d0) (md_lengths d0) (md_streams d0) (md_letters d0) (md_letterMany d0) (md_chunks d0) (md_chunkMany d0) (md_homes d0) (md_dropped d0) (md_madeIn d0) (md_madeAt d0) (md_putMany d0) (md_path d0) (md_store d0) (md_thinOnes d0))) v45 A)) (As := [.int p1]) (rest := [.ref (a0 0), .int p2]) ⟨hx, hb, hml, hown, hts⟩ hK hP hD (c_X9_backupAt l D t h0 a0 (0, (md_s d0), (md_aside d0), (md_base d0), (md_saved d0), (md_savedMany d0), (md_slots d0), (md_hasSlot d0), (md_text d0), (md_length d0), (md_begins d0), (md_lengths d0), (md_streams d0), (md_letters d0), (md_letterMany d0), (md_chunks d0), (md_chunkMany d0), (md_homes d0), (md_dropped d0), (md_madeIn d0), (md_madeAt d0), (md_putMany d0), (md_path d0), (md_store d0), (md_thinOnes d0)) _ p1 v45 e45) (cwV 1 hts (gcX9_backupAt w_382) rfl rfl rfl hdX9_backupAtV ⟨Nat.le_of_ble_eq_true rfl, Nat.le_of_ble_eq_true rfl⟩) (ci := 8) (q0 := 0) rfl rfl rfl hl.1 rfl (Nat.le_of_ble_eq_true rfl) (kd tdlX9_reference_0 27 rfl) ⟨Nat.zero_le _, Nat.zero_le _⟩) (fun H locs hP hD hS => ?_)
        refine lv_iconst (v := 1) hx hb (kd tdlX9_reference_0 28 rfl) (by decide) ?_
        refine lv_iadd hx hb (kd tdlX9_reference_0 29 rfl) ?_
        obtain ⟨hi50, hF⟩ := kg hF
        refine md_l_s hx hb hK hP hi50 (kd tdlX9_reference_0 30 rfl) ?_
        refine lv_icmp_ge (tgt := 75) hx hb (kd tdlX9_reference_0 31 rfl) (by decide) (fun hc51 => ?_) (fun hc51 => ?_)
        · have hF := kt hc51 hF
          refine lv_iconst (v := (-1)) hx hb (kd tdlX9_reference_1 2 rfl) (by decide) ?_
          cases ko hF
          exact ke_i hx hb hr hlocks hK hP hD hS rfl (kd tdlX9_reference_1 3 rfl)
        · have hF := kf hc51 hF
          refine lv_aload_n hx hb (kd tdlX9_reference_0 32 rfl) rfl (lv_at hl 0 rfl) ?_
          refine md_g_s hx hb hts inX9_ hown hK hP L7 (kd tdlX9_reference_0 33 rfl) ?_
          refine lv_aload_n hx hb (kd tdlX9_reference_0 34 rfl) rfl (lv_at hl 0 rfl) ?_
          refine lv_iload_n hx hb (kd tdlX9_reference_0 35 rfl) rfl (lv_at hl 1 rfl) ?_
          obtain ⟨v60, e60, hF⟩ := kc hF
          refine kc_i0 (w1 := ((wmdF t h0 a0 0 (md_s d0) (md_aside d0) (md_base d0) (md_saved d0) (md_savedMany d0) (md_slots d0) (md_hasSlot d0) (md_text d0) (md_length d0) (md_begins d0) (md_lengths d0) (md_streams d0) (md_letters d0) (md_letterMany d0) (md_chunks d0) (md_chunkMany d0) (md_homes d0) (md_dropped d0) (md_madeIn d0) (md_madeAt d0) (md_putMany d0) (md_path d0) (md_store d0) (md_thinOnes d0)))) hP hD hS hA (kr_V0 (Qx := (fun A => kQi D (TY t) ((wmdF t h0 a0 0 (md_s d0) (md_aside d0) (md_base d0) (md_saved d0) (md_savedMany d0) (md_slots d0) (md_hasSlot d0) (md_text d0) (md_length d0) (md_begins d0) (md_lengths d0) (md_streams d0) (md_letters d0) (md_letterMany d0) (md_chunks d0) (md_chunkMany d0) (md_homes d0) (md_dropped d0) (md_madeIn d0) (md_madeAt d0) (md_putMany d0) (md_path d0) (md_store d0) (md_thinOnes d0))) v60 A)) (As := [.int p1]) (rest := [.ref (a0 0)]) ⟨hx, hb, hml, hown, hts⟩ hK hP hD (c_X9_backupAt l D t h0 a0 (0, (md_s d0), (md_aside d0), (md_base d0), (md_saved d0), (md_savedMany d0), (md_slots d0), (md_hasSlot d0), (md_text d0), (md_length d0), (md_begins d0), (md_lengths d0), (md_streams d0), (md_letters d0), (md_letterMany d0), (md_chunks d0), (md_chunkMany d0), (md_homes d0), (md_dropped d0), (md_madeIn d0), (md_madeAt d0), (md_putMany d0), (md_path d0), (md_store d0), (md_thinOnes d0)) _ p1 v60 e60) (cwV 1 hts (gcX9_backupAt w_382) rfl rfl rfl hdX9_backupAtV ⟨Nat.le_of_ble_eq_true rfl, Nat.le_of_ble_eq_true rfl⟩) (ci := 8) (q0 := 0) rfl rfl rfl hl.1 rfl (Nat.le_of_ble_eq_true rfl) (kd tdlX9_reference_0 36 rfl) ⟨Nat.zero_le _, Nat.zero_le _⟩) (fun H locs hP hD hS => ?_)
          refine lv_iconst (v := 2) hx hb (kd tdlX9_reference_0 37 rfl) (by decide) ?_
          refine lv_iadd hx hb (kd tdlX9_reference_0 38 rfl) ?_
          refine lv_iconst (v := 2) hx hb (kd tdlX9_reference_0 39 rfl) (by decide) ?_
          refine lv_iload_n hx hb (kd tdlX9_reference_0 40 rfl) rfl (lv_at hl 2 rfl) ?_
          refine lv_imul hx hb (kd tdlX9_reference_0 41 rfl) ?_
          refine lv_iadd hx hb (kd tdlX9_reference_0 42 rfl) ?_
          refine lv_iload_n hx hb (kd tdlX9_reference_0 43 rfl) rfl (lv_at hl 3 rfl) ?_
          refine lv_iadd hx hb (kd tdlX9_reference_0 44 rfl) ?_
          obtain ⟨hi71, hF⟩ := kg hF
          refine md_l_s hx hb hK hP hi71 (kd tdlX9_reference_1 0 rfl) ?_
          refine lv_goto (tgt := 76) hx hb (kd tdlX9_reference_1 1 rfl) (by decide) ?_
          cases ko hF
          exact ke_i hx hb hr hlocks hK hP hD hS rfl (kd tdlX9_reference_1 3 rfl)
      · have hF := kt hc29 hF
        exact hJ32 () hF _ _ _ hP hD hS (lv_sub hl [0] rfl)
  · have hF := kt hc10 hF
    refine lv_aload_n hx hb (kd tdlX9_reference_0 7 rfl) rfl (lv_at hl 0 rfl) ?_
    refine lv_iconst (v := 1) hx hb (kd tdlX9_reference_0 8 rfl) (by decide) ?_
    obtain ⟨v15, e15, hF⟩ := kc hF
    refine kc_i0 (w1 := ((wmdF t h0 a0 v15.2 (md_s d0) (md_aside d0) (md_base d0) (md_saved d0) (md_savedMany d0) (md_slots d0) (md_hasSlot d0) (md_text d0) (md_length d0) (md_begins d0) (md_lengths d0) (md_streams d0) (md_letters d0) (md_letterMany d0) (md_chunks d0) (md_chunkMany d0) (md_homes d0) (md_dropped d0) (md_madeIn d0) (md_madeAt d0) (md_putMany d0) (md_path d0) (md_store d0) (md_thinOnes d0)))) hP hD hS hA (kr_V0 (Qx := (fun A => kQi D (TY t) ((wmdF t h0 a0 v15.2 (md_s d0) (md_aside d0) (md_base d0) (md_saved d0) (md_savedMany d0) (md_slots d0) (md_hasSlot d0) (md_text d0) (md_length d0) (md_begins d0) (md_lengths d0) (md_streams d0) (md_letters d0) (md_letterMany d0) (md_chunks d0) (md_chunkMany d0) (md_homes d0) (md_dropped d0) (md_madeIn d0) (md_madeAt d0) (md_putMany d0) (md_path d0) (md_store d0) (md_thinOnes d0))) v15.1 A)) (As := [.int 1]) (rest := []) ⟨hx, hb, hml, hown, hts⟩ hK hP hD (c_X9_fails l D t h0 a0 (0, (md_s d0), (md_aside d0), (md_base d0), (md_saved d0), (md_savedMany d0), (md_slots d0), (md_hasSlot d0), (md_text d0), (md_length d0), (md_begins d0), (md_lengths d0), (md_streams d0), (md_letters d0), (md_letterMany d0), (md_chunks d0), (md_chunkMany d0), (md_homes d0), (md_dropped d0), (md_madeIn d0), (md_madeAt d0), (md_putMany d0), (md_path d0), (md_store d0), (md_thinOnes d0)) _ 1 v15 e15) (cwV 1 hts (gcX9_fails w_153) rfl rfl rfl hdX9_failsV ⟨Nat.le_of_ble_eq_true rfl, Nat.le_of_ble_eq_true rfl⟩) (ci := 8) (q0 := 0) rfl rfl rfl hl.1 rfl (Nat.le_of_ble_eq_true rfl) (kd tdlX9_reference_0 9 rfl) ⟨Nat.zero_le _, Nat.zero_le _⟩) (fun H locs hP hD hS => ?_)
    cases ko hF
    exact ke_i hx hb hr hlocks hK hP hD hS rfl (kd tdlX9_reference_0 10 rfl)
