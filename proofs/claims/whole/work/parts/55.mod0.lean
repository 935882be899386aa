set_option maxHeartbeats 4000000 in
set_option maxRecDepth 100000 in
theorem c_X9_thrown (l : Launch) (D : va_G) (t : Nat → ClassId) (h0 : Nat) (a0 : Nat → Nat) (d0 : MDT) (sz : Nat)  (r : Int32) (hF : F_X9_thrown (md_thrown d0) = some r) : Met l yX9_thrown wX9_thrown ({ frames := 0, cells := 0, slots := 0, locals := 0 } : Room) (kPc D (TY t) ((wmd t h0 a0 d0)) [.ref h0] sz) (kQi D (TY t) ((wmd t h0 a0 d0)) r (va_A ((wmd t h0 a0 d0)) sz)) 0 0 (va_A ((wmd t h0 a0 d0)) sz) := by
  refine kE (cc := cX9_thrown) (maxL := 1) (ret := (some .int)) (Qx := fun A => kQi D (TY t) ((wmd t h0 a0 d0)) r A) (lv0 := [(0, .ref h0)]) RX9 rfl (by decide) rfl (Nat.le_of_ble_eq_true rfl) rfl ?_
  intro p e s m args below meth c A ls hx hb hml hr hlocks hown hts hA hK hP hD hS hl
  have L65 := hts (.fieldLink RX9 65 "ChunkCarriersModel" "thrown" "I") (List.mem_cons_of_mem _ w_119)
  have inX9_ : ∀ w ∈ wsX90, w ∈ wX9_thrown := fun w h => List.mem_cons_of_mem _ (inlX9 w h)
  have hP : va_P D vwCl ((wmdF t h0 a0 (md_thrown d0) (md_s d0) (md_aside d0) (md_base d0) (md_saved d0) (md_savedMany d0) (md_slots d0) (md_hasSlot d0) (md_text d0) (md_length d0) (md_begins d0) (md_lengths d0) (md_streams d0) (md_letters d0) (md_letterMany d0) (md_chunks d0) (md_chunkMany d0) (md_homes d0) (md_dropped d0) (md_madeIn d0) (md_madeAt d0) (md_putMany d0) (md_path d0) (md_store d0) (md_thinOnes d0))) s.heap := hP
  have hD : va_D A ((wmdF t h0 a0 (md_thrown d0) (md_s d0) (md_aside d0) (md_base d0) (md_saved d0) (md_savedMany d0) (md_slots d0) (md_hasSlot d0) (md_text d0) (md_length d0) (md_begins d0) (md_lengths d0) (md_streams d0) (md_letters d0) (md_letterMany d0) (md_chunks d0) (md_chunkMany d0) (md_homes d0) (md_dropped d0) (md_madeIn d0) (md_madeAt d0) (md_putMany d0) (md_path d0) (md_store d0) (md_thinOnes d0))) := hD
  refine lv_aload_n hx hb (kd tdlX9_thrown_0 0 rfl) rfl (lv_at hl 0 rfl) ?_
  refine md_g_thrown hx hb hts inX9_ hown hK hP L65 (kd tdlX9_thrown_0 1 rfl) ?_
  cases ko hF
  exact ke_i hx hb hr hlocks hK hP hD hS rfl (kd tdlX9_thrown_0 2 rfl)
set_option maxHeartbeats 4000000 in
set_option maxRecDepth 100000 in
theorem c_X9_in (l : Launch) (D : va_G) (t : Nat → ClassId)  (sz : Nat) (p0 : Int32) (p1 : Int32) (p2 : Int32) (r : Int32) (hF : F_X9_in p0 p1 p2 = some r) : Met l yX9_in wX9_in ({ frames := 0, cells := 0, slots := 0, locals := 0 } : Room) (kPc D (TY t) ([] : va_W) [.int p0, .int p1, .int p2] sz) (kQi D (TY t) ([] : va_W) r (va_A ([] : va_W) sz)) 0 0 (va_A ([] : va_W) sz) := by
  refine kE (cc := cX9_in) (maxL := 3) (ret := (some .boolean)) (Qx := fun A => kQi D (TY t) ([] : va_W) r A) (lv0 := [(0, .int p0), (1, .int p1), (2, .int p2)]) RX9 rfl (by decide) rfl (Nat.le_of_ble_eq_true rfl) rfl ?_
  intro p e s m args below meth c A ls hx hb hml hr hlocks hown hts hA hK hP hD hS hl
  have hP : va_P D vwCl (([] : va_W)) s.heap := hP
  have hD : va_D A (([] : va_W)) := hD
  refine lv_iload_n hx hb (kd tdlX9_in_0 0 rfl) rfl (lv_at hl 0 rfl) ?_
  refine lv_iload_n hx hb (kd tdlX9_in_0 1 rfl) rfl (lv_at hl 1 rfl) ?_
  refine lv_icmp_lt (tgt := 14) hx hb (kd tdlX9_in_0 2 rfl) (by decide) (fun hc2 => ?_) (fun hc2 => ?_)
  · have hF := kt hc2 hF
    refine lv_iconst (v := 0) hx hb (kd tdlX9_in_0 8 rfl) (by decide) ?_
    cases ko hF
    exact ke_z hx hb hr hlocks rfl hK hP hD hS rfl (kd tdlX9_in_0 9 rfl)
  · have hF := kf hc2 hF
    refine lv_iload_n hx hb (kd tdlX9_in_0 3 rfl) rfl (lv_at hl 0 rfl) ?_
    refine lv_iload_n hx hb (kd tdlX9_in_0 4 rfl) rfl (lv_at hl 2 rfl) ?_
    refine lv_icmp_gt (tgt := 14) hx hb (kd tdlX9_in_0 5 rfl) (by decide) (fun hc7 => ?_) (fun hc7 => ?_)
    · have hF := kt hc7 hF
      refine lv_iconst (v := 0) hx hb (kd tdlX9_in_0 8 rfl) (by decide) ?_
      cases ko hF
      exact ke_z hx hb hr hlocks rfl hK hP hD hS rfl (kd tdlX9_in_0 9 rfl)
    · have hF := kf hc7 hF
      refine lv_iconst (v := 1) hx hb (kd tdlX9_in_0 6 rfl) (by decide) ?_
      refine lv_goto (tgt := 15) hx hb (kd tdlX9_in_0 7 rfl) (by decide) ?_
      cases ko hF
      exact ke_z hx hb hr hlocks rfl hK hP hD hS rfl (kd tdlX9_in_0 9 rfl)
set_option maxHeartbeats 4000000 in
set_option maxRecDepth 100000 in
theorem c_X9_fails (l : Launch) (D : va_G) (t : Nat → ClassId) (h0 : Nat) (a0 : Nat → Nat) (d0 : MDT) (sz : Nat) (p1 : Int32) (r : Int32 × Int32) (hF : F_X9_fails (md_thrown d0) p1 = some r) : Met l yX9_fails wX9_fails ({ frames := 0, cells := 0, slots := 0, locals := 0 } : Room) (kPc D (TY t) ((wmd t h0 a0 d0)) [.ref h0, .int p1] sz) (kQi D (TY t) ((wmd t h0 a0 (r.2, (md_s d0), (md_aside d0), (md_base d0), (md_saved d0), (md_savedMany d0), (md_slots d0), (md_hasSlot d0), (md_text d0), (md_length d0), (md_begins d0), (md_lengths d0), (md_streams d0), (md_letters d0), (md_letterMany d0), (md_chunks d0), (md_chunkMany d0), (md_homes d0), (md_dropped d0), (md_madeIn d0), (md_madeAt d0), (md_putMany d0), (md_path d0), (md_store d0), (md_thinOnes d0)))) r.1 (va_A ((wmd t h0 a0 d0)) sz)) 0 0 (va_A ((wmd t h0 a0 d0)) sz) := by
  refine kE (cc := cX9_fails) (maxL := 2) (ret := (some .int)) (Qx := fun A => kQi D (TY t) ((wmd t h0 a0 (r.2, (md_s d0), (md_aside d0), (md_base d0), (md_saved d0), (md_savedMany d0), (md_slots d0), (md_hasSlot d0), (md_text d0), (md_length d0), (md_begins d0), (md_lengths d0), (md_streams d0), (md_letters d0), (md_letterMany d0), (md_chunks d0), (md_chunkMany d0), (md_homes d0), (md_dropped d0), (md_madeIn d0), (md_madeAt d0), (md_putMany d0), (md_path d0), (md_store d0), (md_thinOnes d0)))) r.1 A) (lv0 := [(0, .ref h0), (1, .int p1)]) RX9 rfl (by decide) rfl (Nat.le_of_ble_eq_true rfl) rfl ?_
  intro p e s m args below meth c A ls hx hb hml hr hlocks hown hts hA hK hP hD hS hl
  have L65 := hts (.fieldLink RX9 65 "ChunkCarriersModel" "thrown" "I") (List.mem_cons_of_mem _ w_119)
  have inX9_ : ∀ w ∈ wsX90, w ∈ wX9_fails := fun w h => List.mem_cons_of_mem _ (inlX9 w h)
  have hP : va_P D vwCl ((wmdF t h0 a0 (md_thrown d0) (md_s d0) (md_aside d0) (md_base d0) (md_saved d0) (md_savedMany d0) (md_slots d0) (md_hasSlot d0) (md_text d0) (md_length d0) (md_begins d0) (md_lengths d0) (md_streams d0) (md_letters d0) (md_letterMany d0) (md_chunks d0) (md_chunkMany d0) (md_homes d0) (md_dropped d0) (md_madeIn d0) (md_madeAt d0) (md_putMany d0) (md_path d0) (md_store d0) (md_thinOnes d0))) s.heap := hP
  have hD : va_D A ((wmdF t h0 a0 (md_thrown d0) (md_s d0) (md_aside d0) (md_base d0) (md_saved d0) (md_savedMany d0) (md_slots d0) (md_hasSlot d0) (md_text d0) (md_length d0) (md_begins d0) (md_lengths d0) (md_streams d0) (md_letters d0) (md_letterMany d0) (md_chunks d0) (md_chunkMany d0) (md_homes d0) (md_dropped d0) (md_madeIn d0) (md_madeAt d0) (md_putMany d0) (md_path d0) (md_store d0) (md_thinOnes d0))) := hD
  refine lv_aload_n hx hb (kd tdlX9_fails_0 0 rfl) rfl (lv_at hl 0 rfl) ?_
  refine lv_iload_n hx hb (kd tdlX9_fails_0 1 rfl) rfl (lv_at hl 1 rfl) ?_
  refine md_p_thrown hx hb hts inX9_ hown hK hP hD hS L65 (kd tdlX9_fails_0 2 rfl) (fun H locs hP hD hS => ?_)
  refine lv_iconst (v := 0) hx hb (kd tdlX9_fails_0 3 rfl) (by decide) ?_
  cases ko hF
  exact ke_i hx hb hr hlocks hK hP hD hS rfl (kd tdlX9_fails_0 4 rfl)
set_option maxHeartbeats 4000000 in
set_option maxRecDepth 100000 in
theorem c_X9_putAside (l : Launch) (D : va_G) (t : Nat → ClassId) (h0 : Nat) (a0 : Nat → Nat) (d0 : MDT) (sz : Nat)  (r : (Nat → Int32)) (hF : F_X9_putAside (md_s d0) (md_aside d0) = some r) : Met l yX9_putAside wX9_putAside ({ frames := 0, cells := 0, slots := 0, locals := 0 } : Room) (kPc D (TY t) ((wmd t h0 a0 d0)) [.ref h0] sz) (kQv D (TY t) ((wmd t h0 a0 ((md_thrown d0), (md_s d0), r, (md_base d0), (md_saved d0), (md_savedMany d0), (md_slots d0), (md_hasSlot d0), (md_text d0), (md_length d0), (md_begins d0), (md_lengths d0), (md_streams d0), (md_letters d0), (md_letterMany d0), (md_chunks d0), (md_chunkMany d0), (md_homes d0), (md_dropped d0), (md_madeIn d0), (md_madeAt d0), (md_putMany d0), (md_path d0), (md_store d0), (md_thinOnes d0)))) (va_A ((wmd t h0 a0 d0)) sz)) 0 0 (va_A ((wmd t h0 a0 d0)) sz) := by
  refine kE (cc := cX9_putAside) (maxL := 2) (ret := none) (Qx := fun A => kQv D (TY t) ((wmd t h0 a0 ((md_thrown d0), (md_s d0), r, (md_base d0), (md_saved d0), (md_savedMany d0), (md_slots d0), (md_hasSlot d0), (md_text d0), (md_length d0), (md_begins d0), (md_lengths d0), (md_streams d0), (md_letters d0), (md_letterMany d0), (md_chunks d0), (md_chunkMany d0), (md_homes d0), (md_dropped d0), (md_madeIn d0), (md_madeAt d0), (md_putMany d0), (md_path d0), (md_store d0), (md_thinOnes d0)))) A) (lv0 := [(0, .ref h0)]) RX9 rfl (by decide) rfl (Nat.le_of_ble_eq_true rfl) rfl ?_
  intro p e s m args below meth c A ls hx hb hml hr hlocks hown hts hA hK hP hD hS hl
  have L13 := hts (.fieldLink RX9 13 "ChunkCarriersModel" "aside" "[I") (List.mem_cons_of_mem _ w_102)
  have L7 := hts (.fieldLink RX9 7 "ChunkCarriersModel" "s" "[I") (List.mem_cons_of_mem _ w_101)
  have inX9_ : ∀ w ∈ wsX90, w ∈ wX9_putAside := fun w h => List.mem_cons_of_mem _ (inlX9 w h)
  have hP : va_P D vwCl ((wmdF t h0 a0 (md_thrown d0) (md_s d0) (md_aside d0) (md_base d0) (md_saved d0) (md_savedMany d0) (md_slots d0) (md_hasSlot d0) (md_text d0) (md_length d0) (md_begins d0) (md_lengths d0) (md_streams d0) (md_letters d0) (md_letterMany d0) (md_chunks d0) (md_chunkMany d0) (md_homes d0) (md_dropped d0) (md_madeIn d0) (md_madeAt d0) (md_putMany d0) (md_path d0) (md_store d0) (md_thinOnes d0))) s.heap := hP
  have hD : va_D A ((wmdF t h0 a0 (md_thrown d0) (md_s d0) (md_aside d0) (md_base d0) (md_saved d0) (md_savedMany d0) (md_slots d0) (md_hasSlot d0) (md_text d0) (md_length d0) (md_begins d0) (md_lengths d0) (md_streams d0) (md_letters d0) (md_letterMany d0) (md_chunks d0) (md_chunkMany d0) (md_homes d0) (md_dropped d0) (md_madeIn d0) (md_madeAt d0) (md_putMany d0) (md_path d0) (md_store d0) (md_thinOnes d0))) := hD
  refine lv_iconst (v := 0) hx hb (kd tdlX9_putAside_0 0 rfl) (by decide) ?_
  refine lv_istore_n (lv' := [(1, .int 0), (0, .ref h0)]) hx hb (kd tdlX9_putAside_0 1 rfl) rfl hl (by decide) rfl (fun ls hl => ?_)
  refine lp_ind (f := B_X9_putAside_2 (md_s d0)) (r := r) (P := fun s2_ => ∀ (H : Heap) (locs : List Loc) (ls : Array Slot), va_P D vwCl ((wmdF t h0 a0 (md_thrown d0) (md_s d0) s2_.2 (md_base d0) (md_saved d0) (md_savedMany d0) (md_slots d0) (md_hasSlot d0) (md_text d0) (md_length d0) (md_begins d0) (md_lengths d0) (md_streams d0) (md_letters d0) (md_letterMany d0) (md_chunks d0) (md_chunkMany d0) (md_homes d0) (md_dropped d0) (md_madeIn d0) (md_madeAt d0) (md_putMany d0) (md_path d0) (md_store d0) (md_thinOnes d0))) H → va_D A ((wmdF t h0 a0 (md_thrown d0) (md_s d0) s2_.2 (md_base d0) (md_saved d0) (md_savedMany d0) (md_slots d0) (md_hasSlot d0) (md_text d0) (md_length d0) (md_begins d0) (md_lengths d0) (md_streams d0) (md_letters d0) (md_letterMany d0) (md_chunks d0) (md_chunkMany d0) (md_homes d0) (md_dropped d0) (md_madeIn d0) (md_madeAt d0) (md_putMany d0) (md_path d0) (md_store d0) (md_thinOnes d0))) → va_S A s.heap H locs → lv_has ls 2 [(0, .ref h0), (1, .int s2_.1)] → W p l e ({ frames := 0, cells := 0, slots := 0, locals := 0 } : Room) s m args below meth c H locs 0 0 (MQ below (kQv D (TY t) ((wmd t h0 a0 ((md_thrown d0), (md_s d0), r, (md_base d0), (md_saved d0), (md_savedMany d0), (md_slots d0), (md_hasSlot d0), (md_text d0), (md_length d0), (md_begins d0), (md_lengths d0), (md_streams d0), (md_letters d0), (md_letterMany d0), (md_chunks d0), (md_chunkMany d0), (md_homes d0), (md_dropped d0), (md_madeIn d0), (md_madeAt d0), (md_putMany d0), (md_path d0), (md_store d0), (md_thinOnes d0)))) A) args s 0 0 A) (F0 m 2 ls [])) ?_ FU (0, (md_aside d0)) hF _ _ _ hP hD hS (lv_sub hl [1, 0] rfl)
  intro self2 ih2 s2_ hF H locs ls hP hD hS hl
  refine lv_iload_n hx hb (kd tdlX9_putAside_0 2 rfl) rfl (lv_at hl 1 rfl) ?_
  refine lv_sipush (v := 1270) hx hb (kd tdlX9_putAside_0 3 rfl) (by decide) ?_
  refine lv_icmp_ge (tgt := 27) hx hb (kd tdlX9_putAside_0 4 rfl) (by decide) (fun hc6 => ?_) (fun hc6 => ?_)
  · have hF := kt hc6 hF
    cases ko hF
    exact ke_v hx hb hr hlocks hK hP hD hS (kd tdlX9_putAside_0 15 rfl)
  · have hF := kf hc6 hF
    refine lv_aload_n hx hb (kd tdlX9_putAside_0 5 rfl) rfl (lv_at hl 0 rfl) ?_
    refine md_g_aside hx hb hts inX9_ hown hK hP L13 (kd tdlX9_putAside_0 6 rfl) ?_
    refine lv_iload_n hx hb (kd tdlX9_putAside_0 7 rfl) rfl (lv_at hl 1 rfl) ?_
    refine lv_aload_n hx hb (kd tdlX9_putAside_0 8 rfl) rfl (lv_at hl 0 rfl) ?_
    refine md_g_s hx hb hts inX9_ hown hK hP L7 (kd tdlX9_putAside_0 9 rfl) ?_
    refine lv_iload_n hx hb (kd tdlX9_putAside_0 10 rfl) rfl (lv_at hl 1 rfl) ?_
    obtain ⟨hi19, hF⟩ := kg hF
    refine md_l_s hx hb hK hP hi19 (kd tdlX9_putAside_0 11 rfl) ?_
    obtain ⟨hi20, hF⟩ := kg hF
    refine md_s_aside hx hb hK hP hD hS hi20 (kd tdlX9_putAside_0 12 rfl) (fun H locs hP hD hS => ?_)
    refine lv_iinc (v := (s2_.1 + 1)) (lv' := [(1, .int (s2_.1 + 1)), (0, .ref h0)]) hx hb (kd tdlX9_putAside_0 13 rfl) hl (k := 1) rfl rfl (by decide) rfl (fun ls hl => ?_)
    refine lv_goto (tgt := 2) hx hb (kd tdlX9_putAside_0 14 rfl) (by decide) ?_
    exact ih2 ((s2_.1 + 1), (upd s2_.2 (Int32.toNatClampNeg s2_.1) ((md_s d0) (Int32.toNatClampNeg s2_.1)))) hF _ _ _ hP hD hS (lv_sub hl [1, 0] rfl)
set_option maxHeartbeats 4000000 in
set_option maxRecDepth 100000 in
theorem c_X9_takeBack (l : Launch) (D : va_G) (t : Nat → ClassId) (h0 : Nat) (a0 : Nat → Nat) (d0 : MDT) (sz : Nat)  (r : (Nat → Int32)) (hF : F_X9_takeBack (md_s d0) (md_aside d0) = some r) : Met l yX9_takeBack wX9_takeBack ({ frames := 0, cells := 0, slots := 0, locals := 0 } : Room) (kPc D (TY t) ((wmd t h0 a0 d0)) [.ref h0] sz) (kQv D (TY t) ((wmd t h0 a0 ((md_thrown d0), r, (md_aside d0), (md_base d0), (md_saved d0), (md_savedMany d0), (md_slots d0), (md_hasSlot d0), (md_text d0), (md_length d0), (md_begins d0), (md_lengths d0), (md_streams d0), (md_letters d0), (md_letterMany d0), (md_chunks d0), (md_chunkMany d0), (md_homes d0), (md_dropped d0), (md_madeIn d0), (md_madeAt d0), (md_putMany d0), (md_path d0), (md_store d0), (md_thinOnes d0)))) (va_A ((wmd t h0 a0 d0)) sz)) 0 0 (va_A ((wmd t h0 a0 d0)) sz) := by
  refine kE (cc := cX9_takeBack) (maxL := 2) (ret := none) (Qx := fun A => kQv D (TY t) ((wmd t h0 a0 ((md_thrown d0), r, (md_aside d0), (md_base d0), (md_saved d0), (md_savedMany d0), (md_slots d0), (md_hasSlot d0), (md_text d0), (md_length d0), (md_begins d0), (md_lengths d0), (md_streams d0), (md_letters d0), (md_letterMany d0), (md_chunks d0), (md_chunkMany d0), (md_homes d0), (md_dropped d0), (md_madeIn d0), (md_madeAt d0), (md_putMany d0), (md_path d0), (md_store d0), (md_thinOnes d0)))) A) (lv0 := [(0, .ref h0)]) RX9 rfl (by decide) rfl (Nat.le_of_ble_eq_true rfl) rfl ?_
  intro p e s m args below meth c A ls hx hb hml hr hlocks hown hts hA hK hP hD hS hl
  have L13 := hts (.fieldLink RX9 13 "ChunkCarriersModel" "aside" "[I") (List.mem_cons_of_mem _ w_102)
  have L7 := hts (.fieldLink RX9 7 "ChunkCarriersModel" "s" "[I") (List.mem_cons_of_mem _ w_101)
  have inX9_ : ∀ w ∈ wsX90, w ∈ wX9_takeBack := fun w h => List.mem_cons_of_mem _ (inlX9 w h)
  have hP : va_P D vwCl ((wmdF t h0 a0 (md_thrown d0) (md_s d0) (md_aside d0) (md_base d0) (md_saved d0) (md_savedMany d0) (md_slots d0) (md_hasSlot d0) (md_text d0) (md_length d0) (md_begins d0) (md_lengths d0) (md_streams d0) (md_letters d0) (md_letterMany d0) (md_chunks d0) (md_chunkMany d0) (md_homes d0) (md_dropped d0) (md_madeIn d0) (md_madeAt d0) (md_putMany d0) (md_path d0) (md_store d0) (md_thinOnes d0))) s.heap := hP
  have hD : va_D A ((wmdF t h0 a0 (md_thrown d0) (md_s d0) (md_aside d0) (md_base d0) (md_saved d0) (md_savedMany d0) (md_slots d0) (md_hasSlot d0) (md_text d0) (md_length d0) (md_begins d0) (md_lengths d0) (md_streams d0) (md_letters d0) (md_letterMany d0) (md_chunks d0) (md_chunkMany d0) (md_homes d0) (md_dropped d0) (md_madeIn d0) (md_madeAt d0) (md_putMany d0) (md_path d0) (md_store d0) (md_thinOnes d0))) := hD
  refine lv_iconst (v := 0) hx hb (kd tdlX9_takeBack_0 0 rfl) (by decide) ?_
  refine lv_istore_n (lv' := [(1, .int 0), (0, .ref h0)]) hx hb (kd tdlX9_takeBack_0 1 rfl) rfl hl (by decide) rfl (fun ls hl => ?_)
  refine lp_ind (f := B_X9_takeBack_2 (md_aside d0)) (r := r) (P := fun s2_ => ∀ (H : Heap) (locs : List Loc) (ls : Array Slot), va_P D vwCl ((wmdF t h0 a0 (md_thrown d0) s2_.2 (md_aside d0) (md_base d0) (md_saved d0) (md_savedMany d0) (md_slots d0) (md_hasSlot d0) (md_text d0) (md_length d0) (md_begins d0) (md_lengths d0) (md_streams d0) (md_letters d0) (md_letterMany d0) (md_chunks d0) (md_chunkMany d0) (md_homes d0) (md_dropped d0) (md_madeIn d0) (md_madeAt d0) (md_putMany d0) (md_path d0) (md_store d0) (md_thinOnes d0))) H → va_D A ((wmdF t h0 a0 (md_thrown d0) s2_.2 (md_aside d0) (md_base d0) (md_saved d0) (md_savedMany d0) (md_slots d0) (md_hasSlot d0) (md_text d0) (md_length d0) (md_begins d0) (md_lengths d0) (md_streams d0) (md_letters d0) (md_letterMany d0) (md_chunks d0) (md_chunkMany d0) (md_homes d0) (md_dropped d0) (md_madeIn d0) (md_madeAt d0) (md_putMany d0) (md_path d0) (md_store d0) (md_thinOnes d0))) → va_S A s.heap H locs → lv_has ls 2 [(0, .ref h0), (1, .int s2_.1)] → W p l e ({ frames := 0, cells := 0, slots := 0, locals := 0 } : Room) s m args below meth c H locs 0 0 (MQ below (kQv D (TY t) ((wmd t h0 a0 ((md_thrown d0), r, (md_aside d0), (md_base d0), (md_saved d0), (md_savedMany d0), (md_slots d0), (md_hasSlot d0), (md_text d0), (md_length d0), (md_begins d0), (md_lengths d0), (md_streams d0), (md_letters d0), (md_letterMany d0), (md_chunks d0), (md_chunkMany d0), (md_homes d0), (md_dropped d0), (md_madeIn d0), (md_madeAt d0), (md_putMany d0), (md_path d0), (md_store d0), (md_thinOnes d0)))) A) args s 0 0 A) (F0 m 2 ls [])) ?_ FU (0, (md_s d0)) hF _ _ _ hP hD hS (lv_sub hl [1, 0] rfl)
  intro self2 ih2 s2_ hF H locs ls hP hD hS hl
  refine lv_iload_n hx hb (kd tdlX9_takeBack_0 2 rfl) rfl (lv_at hl 1 rfl) ?_
  refine lv_sipush (v := 1270) hx hb (kd tdlX9_takeBack_0 3 rfl) (by decide) ?_
  refine lv_icmp_ge (tgt := 27) hx hb (kd tdlX9_takeBack_0 4 rfl) (by decide) (fun hc6 => ?_) (fun hc6 => ?_)
  · have hF := kt hc6 hF
    cases ko hF
    exact ke_v hx hb hr hlocks hK hP hD hS (kd tdlX9_takeBack_0 15 rfl)
  · have hF := kf hc6 hF
    refine lv_aload_n hx hb (kd tdlX9_takeBack_0 5 rfl) rfl (lv_at hl 0 rfl) ?_
    refine md_g_s hx hb hts inX9_ hown hK hP L7 (kd tdlX9_takeBack_0 6 rfl) ?_
    refine lv_iload_n hx hb (kd tdlX9_takeBack_0 7 rfl) rfl (lv_at hl 1 rfl) ?_
    refine lv_aload_n hx hb (kd tdlX9_takeBack_0 8 rfl) rfl (lv_at hl 0 rfl) ?_
    refine md_g_aside hx hb hts inX9_ hown hK hP L13 (kd tdlX9_takeBack_0 9 rfl) ?_
    refine lv_iload_n hx hb (kd tdlX9_takeBack_0 10 rfl) rfl (lv_at hl 1 rfl) ?_
    obtain ⟨hi19, hF⟩ := kg hF
    refine md_l_aside hx hb hK hP hi19 (kd tdlX9_takeBack_0 11 rfl) ?_
    obtain ⟨hi20, hF⟩ := kg hF
    refine md_s_s hx hb hK hP hD hS hi20 (kd tdlX9_takeBack_0 12 rfl) (fun H locs hP hD hS => ?_)
    refine lv_iinc (v := (s2_.1 + 1)) (lv' := [(1, .int (s2_.1 + 1)), (0, .ref h0)]) hx hb (kd tdlX9_takeBack_0 13 rfl) hl (k := 1) rfl rfl (by decide) rfl (fun ls hl => ?_)
    refine lv_goto (tgt := 2) hx hb (kd tdlX9_takeBack_0 14 rfl) (by decide) ?_
    exact ih2 ((s2_.1 + 1), (upd s2_.2 (Int32.toNatClampNeg s2_.1) ((md_aside d0) (Int32.toNatClampNeg s2_.1)))) hF _ _ _ hP hD hS (lv_sub hl [1, 0] rfl)
set_option maxHeartbeats 4000000 in
set_option maxRecDepth 100000 in
theorem c_X9_remember (l : Launch) (D : va_G) (t : Nat → ClassId) (h0 : Nat) (a0 : Nat → Nat) (d0 : MDT) (sz : Nat)  (r : (Nat → Int32) × Int32) (hF : F_X9_remember (md_aside d0) (md_saved d0) (md_savedMany d0) = some r) : Met l yX9_remember wX9_remember ({ frames := 0, cells := 0, slots := 0, locals := 0 } : Room) (kPc D (TY t) ((wmd t h0 a0 d0)) [.ref h0] sz) (kQv D (TY t) ((wmd t h0 a0 ((md_thrown d0), (md_s d0), (md_aside d0), (md_base d0), r.1, r.2, (md_slots d0), (md_hasSlot d0), (md_text d0), (md_length d0), (md_begins d0), (md_lengths d0), (md_streams d0), (md_letters d0), (md_letterMany d0), (md_chunks d0), (md_chunkMany d0), (md_homes d0), (md_dropped d0), (md_madeIn d0), (md_madeAt d0), (md_putMany d0), (md_path d0), (md_store d0), (md_thinOnes d0)))) (va_A ((wmd t h0 a0 d0)) sz)) 0 0 (va_A ((wmd t h0 a0 d0)) sz) := by
  refine kE (cc := cX9_remember) (maxL := 2) (ret := none) (Qx := fun A => kQv D (TY t) ((wmd t h0 a0 ((md_thrown d0), (md_s d0), (md_aside d0), (md_base d0), r.1, r.2, (md_slots d0), (md_hasSlot d0), (md_text d0), (md_length d0), (md_begins d0), (md_lengths d0), (md_streams d0), (md_letters d0), (md_letterMany d0), (md_chunks d0), (md_chunkMany d0), (md_homes d0), (md_dropped d0), (md_madeIn d0), (md_madeAt d0), (md_putMany d0), (md_path d0), (md_store d0), (md_thinOnes d0)))) A) (lv0 := [(0, .ref h0)]) RX9 rfl (by decide) rfl (Nat.le_of_ble_eq_true rfl) rfl ?_
  intro p e s m args below meth c A ls hx hb hml hr hlocks hown hts hA hK hP hD hS hl
  have L13 := hts (.fieldLink RX9 13 "ChunkCarriersModel" "aside" "[I") (List.mem_cons_of_mem _ w_102)
  have L19 := hts (.fieldLink RX9 19 "ChunkCarriersModel" "saved" "[I") (List.mem_cons_of_mem _ w_104)
  have L69 := hts (.fieldLink RX9 69 "ChunkCarriersModel" "savedMany" "I") (List.mem_cons_of_mem _ w_767)
  have inX9_ : ∀ w ∈ wsX90, w ∈ wX9_remember := fun w h => List.mem_cons_of_mem _ (inlX9 w h)
  have hP : va_P D vwCl ((wmdF t h0 a0 (md_thrown d0) (md_s d0) (md_aside d0) (md_base d0) (md_saved d0) (md_savedMany d0) (md_slots d0) (md_hasSlot d0) (md_text d0) (md_length d0) (md_begins d0) (md_lengths d0) (md_streams d0) (md_letters d0) (md_letterMany d0) (md_chunks d0) (md_chunkMany d0) (md_homes d0) (md_dropped d0) (md_madeIn d0) (md_madeAt d0) (md_putMany d0) (md_path d0) (md_store d0) (md_thinOnes d0))) s.heap := hP
  have hD : va_D A ((wmdF t h0 a0 (md_thrown d0) (md_s d0) (md_aside d0) (md_base d0) (md_saved d0) (md_savedMany d0) (md_slots d0) (md_hasSlot d0) (md_text d0) (md_length d0) (md_begins d0) (md_lengths d0) (md_streams d0) (md_letters d0) (md_letterMany d0) (md_chunks d0) (md_chunkMany d0) (md_homes d0) (md_dropped d0) (md_madeIn d0) (md_madeAt d0) (md_putMany d0) (md_path d0) (md_store d0) (md_thinOnes d0))) := hD
  refine lv_aload_n hx hb (kd tdlX9_remember_0 0 rfl) rfl (lv_at hl 0 rfl) ?_
  refine md_g_savedMany hx hb hts inX9_ hown hK hP L69 (kd tdlX9_remember_0 1 rfl) ?_
  refine lv_bipush (v := 14) hx hb (kd tdlX9_remember_0 2 rfl) (by decide) ?_
  have hJ50 : ∀ j50 : (Nat → Int32) × Int32, J_X9_remember_50 (md_aside d0) j50 = some r → ∀ (H : Heap) (locs : List Loc) (ls : Array Slot), va_P D vwCl ((wmdF t h0 a0 (md_thrown d0) (md_s d0) (md_aside d0) (md_base d0) j50.1 j50.2 (md_slots d0) (md_hasSlot d0) (md_text d0) (md_length d0) (md_begins d0) (md_lengths d0) (md_streams d0) (md_letters d0) (md_letterMany d0) (md_chunks d0) (md_chunkMany d0) (md_homes d0) (md_dropped d0) (md_madeIn d0) (md_madeAt d0) (md_putMany d0) (md_path d0) (md_store d0) (md_thinOnes d0))) H → va_D A ((wmdF t h0 a0 (md_thrown d0) (md_s d0) (md_aside d0) (md_base d0) j50.1 j50.2 (md_slots d0) (md_hasSlot d0) (md_text d0) (md_length d0) (md_begins d0) (md_lengths d0) (md_streams d0) (md_letters d0) (md_letterMany d0) (md_chunks d0) (md_chunkMany d0) (md_homes d0) (md_dropped d0) (md_madeIn d0) (md_madeAt d0) (md_putMany d0) (md_path d0) (md_store d0) (md_thinOnes d0))) → va_S A s.heap H locs → lv_has ls 2 [(0, .ref h0)] → W p l e ({ frames := 0, cells := 0, slots := 0, locals := 0 } : Room) s m args below meth c H locs 0 0 (MQ below (kQv D (TY t) ((wmd t h0 a0 ((md_thrown d0), (md_s d0), (md_aside d0), (md_base d0), r.1, r.2, (md_slots d0), (md_hasSlot d0), (md_text d0), (md_length d0), (md_begins d0), (md_lengths d0), (md_streams d0), (md_letters d0), (md_letterMany d0), (md_chunks d0), (md_chunkMany d0), (md_homes d0), (md_dropped d0), (md_madeIn d0), (md_madeAt d0), (md_putMany d0), (md_path d0), (md_store d0), (md_thinOnes d0)))) A) args s 0 0 A) (F0 m 50 ls []) := by
    intro j50 hF H locs ls hP hD hS hl
    refine lv_iconst (v := 0) hx hb (kd tdlX9_remember_0 27 rfl) (by decide) ?_
    refine lv_istore_n (lv' := [(1, .int 0), (0, .ref h0)]) hx hb (kd tdlX9_remember_0 28 rfl) rfl hl (by decide) rfl (fun ls hl => ?_)
    refine lp_ind (f := B_X9_remember_52 j50 (md_aside d0)) (r := r) (P := fun s52_ => ∀ (H : Heap) (locs : List Loc) (ls : Array Slot), va_P D vwCl ((wmdF t h0 a0 (md_thrown d0) (md_s d0) (md_aside d0) (md_base d0) s52_.2 j50.2 (md_slots d0) (md_hasSlot d0) (md_text d0) (md_length d0) (md_begins d0) (md_lengths d0) (md_streams d0) (md_letters d0) (md_letterMany d0) (md_chunks d0) (md_chunkMany d0) (md_homes d0) (md_dropped d0) (md_madeIn d0) (md_madeAt d0) (md_putMany d0) (md_path d0) (md_store d0) (md_thinOnes d0))) H → va_D A ((wmdF t h0 a0 (md_thrown d0) (md_s d0) (md_aside d0) (md_base d0) s52_.2 j50.2 (md_slots d0) (md_hasSlot d0) (md_text d0) (md_length d0) (md_begins d0) (md_lengths d0) (md_streams d0) (md_letters d0) (md_letterMany d0) (md_chunks d0) (md_chunkMany d0) (md_homes d0) (md_dropped d0) (md_madeIn d0) (md_madeAt d0) (md_putMany d0) (md_path d0) (md_store d0) (md_thinOnes d0))) → va_S A s.heap H locs → lv_has ls 2 [(0, .ref h0), (1, .int s52_.1)] → W p l e ({ frames := 0, cells := 0, slots := 0, locals := 0 } : Room) s m args below meth c H locs 0 0 (MQ below (kQv D (TY t) ((wmd t h0 a0 ((md_thrown d0), (md_s d0), (md_aside d0), (md_base d0), r.1, r.2, (md_slots d0), (md_hasSlot d0), (md_text d0), (md_length d0), (md_begins d0), (md_lengths d0), (md_streams d0), (md_letters d0), (md_letterMany d0), (md_chunks d0), (md_chunkMany d0), (md_homes d0), (md_dropped d0), (md_madeIn d0), (md_madeAt d0), (md_putMany d0), (md_path d0), (md_store d0), (md_thinOnes d0)))) A) args s 0 0 A) (F0 m 52 ls [])) ?_ FU (0, j50.1) hF _ _ _ hP hD hS (lv_sub hl [1, 0] rfl)
    intro self52 ih52 s52_ hF H locs ls hP hD hS hl
    refine lv_iload_n hx hb (kd tdlX9_remember_0 29 rfl) rfl (lv_at hl 1 rfl) ?_
    refine lv_sipush (v := 1270) hx hb (kd tdlX9_remember_0 30 rfl) (by decide) ?_
    refine lv_icmp_ge (tgt := 86) hx hb (kd tdlX9_remember_0 31 rfl) (by decide) (fun hc56 => ?_) (fun hc56 => ?_)
    · have hF := kt hc56 hF
      refine lv_aload_n hx hb (kd tdlX9_remember_1 2 rfl) rfl (lv_at hl 0 rfl) ?_
      refine lv_dup hx hb (kd tdlX9_remember_1 3 rfl) rfl ?_
      refine md_g_savedMany hx hb hts inX9_ hown hK hP L69 (kd tdlX9_remember_1 4 rfl) ?_
      refine lv_iconst (v := 1) hx hb (kd tdlX9_remember_1 5 rfl) (by decide) ?_
      refine lv_iadd hx hb (kd tdlX9_remember_1 6 rfl) ?_
      refine md_p_savedMany hx hb hts inX9_ hown hK hP hD hS L69 (kd tdlX9_remember_1 7 rfl) (fun H locs hP hD hS => ?_)
      cases ko hF
      exact ke_v hx hb hr hlocks hK hP hD hS (kd tdlX9_remember_1 8 rfl)
    · have hF := kf hc56 hF
      refine lv_aload_n hx hb (kd tdlX9_remember_0 32 rfl) rfl (lv_at hl 0 rfl) ?_
      refine md_g_saved hx hb hts inX9_ hown hK hP L19 (kd tdlX9_remember_0 33 rfl) ?_
      refine lv_sipush (v := 1270) hx hb (kd tdlX9_remember_0 34 rfl) (by decide) ?_
      refine lv_aload_n hx hb (kd tdlX9_remember_0 35 rfl) rfl (lv_at hl 0 rfl) ?_
      refine md_g_savedMany hx hb hts inX9_ hown hK hP L69 (kd tdlX9_remember_0 36 rfl) ?_
      refine lv_imul hx hb (kd tdlX9_remember_0 37 rfl) ?_
      refine lv_iload_n hx hb (kd tdlX9_remember_0 38 rfl) rfl (lv_at hl 1 rfl) ?_
      refine lv_iadd hx hb (kd tdlX9_remember_0 39 rfl) ?_
      refine lv_aload_n hx hb (kd tdlX9_remember_0 40 rfl) rfl (lv_at hl 0 rfl) ?_
      refine md_g_aside hx hb hts inX9_ hown hK hP L13 (kd tdlX9_remember_0 41 rfl) ?_
      refine lv_iload_n hx hb (kd tdlX9_remember_0 42 rfl) rfl (lv_at hl 1 rfl) ?_
      obtain ⟨hi78, hF⟩ := kg hF
      refine md_l_aside hx hb hK hP hi78 (kd tdlX9_remember_0 43 rfl) ?_
      obtain ⟨hi79, hF⟩ := kg hF
      refine md_s_saved hx hb hK hP hD hS hi79 (kd tdlX9_remember_0 44 rfl) (fun H locs hP hD hS => ?_)
      refine lv_iinc (v := (s52_.1 + 1)) (lv' := [(1, .int (s52_.1 + 1)), (0, .ref h0)]) hx hb (kd tdlX9_remember_1 0 rfl) hl (k := 1) rfl rfl (by decide) rfl (fun ls hl => ?_)
      refine lv_goto (tgt := 52) hx hb (kd tdlX9_remember_1 1 rfl) (by decide) ?_
      exact ih52 ((s52_.1 + 1), (upd s52_.2 (Int32.toNatClampNeg ((1270 * j50.2) + s52_.1)) ((md_aside d0) (Int32.toNatClampNeg s52_.1)))) hF _ _ _ hP hD hS (lv_sub hl [1, 0] rfl)
  refine lv_icmp_ne (tgt := 50) hx hb (kd tdlX9_remember_0 3 rfl) (by decide) (fun hc6 => ?_) (fun hc6 => ?_)
  · have hF := kf hc6 hF
    exact hJ50 ((md_saved d0), (md_savedMany d0)) hF _ _ _ hP hD hS (lv_sub hl [0] rfl)
  · have hF := kt hc6 hF
    refine lv_iconst (v := 0) hx hb (kd tdlX9_remember_0 4 rfl) (by decide) ?_
    refine lv_istore_n (lv' := [(1, .int 0), (0, .ref h0)]) hx hb (kd tdlX9_remember_0 5 rfl) rfl hl (by decide) rfl (fun ls hl => ?_)
    have hK40 : ∀ k40 : (Nat → Int32), K_X9_remember_40 (md_aside d0) (md_savedMany d0) k40 = some r → ∀ (H : Heap) (locs : List Loc) (ls : Array Slot), va_P D vwCl ((wmdF t h0 a0 (md_thrown d0) (md_s d0) (md_aside d0) (md_base d0) k40 (md_savedMany d0) (md_slots d0) (md_hasSlot d0) (md_text d0) (md_length d0) (md_begins d0) (md_lengths d0) (md_streams d0) (md_letters d0) (md_letterMany d0) (md_chunks d0) (md_chunkMany d0) (md_homes d0) (md_dropped d0) (md_madeIn d0) (md_madeAt d0) (md_putMany d0) (md_path d0) (md_store d0) (md_thinOnes d0))) H → va_D A ((wmdF t h0 a0 (md_thrown d0) (md_s d0) (md_aside d0) (md_base d0) k40 (md_savedMany d0) (md_slots d0) (md_hasSlot d0) (md_text d0) (md_length d0) (md_begins d0) (md_lengths d0) (md_streams d0) (md_letters d0) (md_letterMany d0) (md_chunks d0) (md_chunkMany d0) (md_homes d0) (md_dropped d0) (md_madeIn d0) (md_madeAt d0) (md_putMany d0) (md_path d0) (md_store d0) (md_thinOnes d0))) → va_S A s.heap H locs → lv_has ls 2 [(0, .ref h0)] → W p l e ({ frames := 0, cells := 0, slots := 0, locals := 0 } : Room) s m args below meth c H locs 0 0 (MQ below (kQv D (TY t) ((wmd t h0 a0 ((md_thrown d0), (md_s d0), (md_aside d0), (md_base d0), r.1, r.2, (md_slots d0), (md_hasSlot d0), (md_text d0), (md_length d0), (md_begins d0), (md_lengths d0), (md_streams d0), (md_letters d0), (md_letterMany d0), (md_chunks d0), (md_chunkMany d0), (md_homes d0), (md_dropped d0), (md_madeIn d0), (md_madeAt d0), (md_putMany d0), (md_path d0), (md_store d0), (md_thinOnes d0)))) A) args s 0 0 A) (F0 m 40 ls []) := by
      intro k40 hF H locs ls hP hD hS hl
      refine lv_aload_n hx hb (kd tdlX9_remember_0 21 rfl) rfl (lv_at hl 0 rfl) ?_
      refine lv_dup hx hb (kd tdlX9_remember_0 22 rfl) rfl ?_
      refine md_g_savedMany hx hb hts inX9_ hown hK hP L69 (kd tdlX9_remember_0 23 rfl) ?_
      refine lv_iconst (v := 1) hx hb (kd tdlX9_remember_0 24 rfl) (by decide) ?_
      refine lv_isub hx hb (kd tdlX9_remember_0 25 rfl) ?_
      refine md_p_savedMany hx hb hts inX9_ hown hK hP hD hS L69 (kd tdlX9_remember_0 26 rfl) (fun H locs hP hD hS => ?_)
      exact hJ50 (k40, ((md_savedMany d0) - 1)) hF _ _ _ hP hD hS (lv_sub hl [0] rfl)
    refine lp_ind (f := B_X9_remember_11 (K_X9_remember_40 (md_aside d0) (md_savedMany d0))) (r := r) (P := fun s11_ => ∀ (H : Heap) (locs : List Loc) (ls : Array Slot), va_P D vwCl ((wmdF t h0 a0 (md_thrown d0) (md_s d0) (md_aside d0) (md_base d0) s11_.2 (md_savedMany d0) (md_slots d0) (md_hasSlot d0) (md_text d0) (md_length d0) (md_begins d0) (md_lengths d0) (md_streams d0) (md_letters d0) (md_letterMany d0) (md_chunks d0) (md_chunkMany d0) (md_homes d0) (md_dropped d0) (md_madeIn d0) (md_madeAt d0) (md_putMany d0) (md_path d0) (md_store d0) (md_thinOnes d0))) H → va_D A ((wmdF t h0 a0 (md_thrown d0) (md_s d0) (md_aside d0) (md_base d0) s11_.2 (md_savedMany d0) (md_slots d0) (md_hasSlot d0) (md_text d0) (md_length d0) (md_begins d0) (md_lengths d0) (md_streams d0) (md_letters d0) (md_letterMany d0) (md_chunks d0) (md_chunkMany d0) (md_homes d0) (md_dropped d0) (md_madeIn d0) (md_madeAt d0) (md_putMany d0) (md_path d0) (md_store d0) (md_thinOnes d0))) → va_S A s.heap H locs → lv_has ls 2 [(0, .ref h0), (1, .int s11_.1)] → W p l e ({ frames := 0, cells := 0, slots := 0, locals := 0 } : Room) s m args below meth c H locs 0 0 (MQ below (kQv D (TY t) ((wmd t h0 a0 ((md_thrown d0), (md_s d0), (md_aside d0), (md_base d0), r.1, r.2, (md_slots d0), (md_hasSlot d0), (md_text d0), (md_length d0), (md_begins d0), (md_lengths d0), (md_streams d0), (md_letters d0), (md_letterMany d0), (md_chunks d0), (md_chunkMany d0), (md_homes d0), (md_dropped d0), (md_madeIn d0), (md_madeAt d0), (md_putMany d0), (md_path d0), (md_store d0), (md_thinOnes d0)))) A) args s 0 0 A) (F0 m 11 ls [])) ?_ FU (0, (md_saved d0)) hF _ _ _ hP hD hS (lv_sub hl [1, 0] rfl)
    intro self11 ih11 s11_ hF H locs ls hP hD hS hl
    refine lv_iload_n hx hb (kd tdlX9_remember_0 6 rfl) rfl (lv_at hl 1 rfl) ?_
    refine lv_sipush (v := 16510) hx hb (kd tdlX9_remember_0 7 rfl) (by decide) ?_
    refine lv_icmp_ge (tgt := 40) hx hb (kd tdlX9_remember_0 8 rfl) (by decide) (fun hc15 => ?_) (fun hc15 => ?_)
    · have hF := kt hc15 hF
      exact hK40 (s11_.2) hF _ _ _ hP hD hS (lv_sub hl [0] rfl)
    · have hF := kf hc15 hF
      refine lv_aload_n hx hb (kd tdlX9_remember_0 9 rfl) rfl (lv_at hl 0 rfl) ?_
      refine md_g_saved hx hb hts inX9_ hown hK hP L19 (kd tdlX9_remember_0 10 rfl) ?_
      refine lv_iload_n hx hb (kd tdlX9_remember_0 11 rfl) rfl (lv_at hl 1 rfl) ?_
      refine lv_aload_n hx hb (kd tdlX9_remember_0 12 rfl) rfl (lv_at hl 0 rfl) ?_
      refine md_g_saved hx hb hts inX9_ hown hK hP L19 (kd tdlX9_remember_0 13 rfl) ?_
      refine lv_iload_n hx hb (kd tdlX9_remember_0 14 rfl) rfl (lv_at hl 1 rfl) ?_
      refine lv_sipush (v := 1270) hx hb (kd tdlX9_remember_0 15 rfl) (by decide) ?_
      refine lv_iadd hx hb (kd tdlX9_remember_0 16 rfl) ?_
      obtain ⟨hi32, hF⟩ := kg hF
      refine md_l_saved hx hb hK hP hi32 (kd tdlX9_remember_0 17 rfl) ?_
      obtain ⟨hi33, hF⟩ := kg hF
      refine md_s_saved hx hb hK hP hD hS hi33 (kd tdlX9_remember_0 18 rfl) (fun H locs hP hD hS => ?_)
      refine lv_iinc (v := (s11_.1 + 1)) (lv' := [(1, .int (s11_.1 + 1)), (0, .ref h0)]) hx hb (kd tdlX9_remember_0 19 rfl) hl (k := 1) rfl rfl (by decide) rfl (fun ls hl => ?_)
      refine lv_goto (tgt := 11) hx hb (kd tdlX9_remember_0 20 rfl) (by decide) ?_
      exact ih11 ((s11_.1 + 1), (upd s11_.2 (Int32.toNatClampNeg s11_.1) (s11_.2 (Int32.toNatClampNeg (s11_.1 + 1270))))) hF _ _ _ hP hD hS (lv_sub hl [1, 0] rfl)
set_option maxHeartbeats 4000000 in
set_option maxRecDepth 100000 in
theorem c_X9_append (l : Launch) (D : va_G) (t : Nat → ClassId) (h0 : Nat) (a0 : Nat → Nat) (d0 : MDT) (sz : Nat) (p1 : Int32) (r : Int32 × Int32 × (Nat → Int32) × Int32) (hF : F_X9_append (md_thrown d0) (md_text d0) (md_length d0) p1 = some r) : Met l yX9_append wX9_append ({ frames := 1, cells := 0, slots := 0, locals := 22 } : Room) (kPc D (TY t) ((wmd t h0 a0 d0)) [.ref h0, .int p1] sz) (kQi D (TY t) ((wmd t h0 a0 (r.2.1, (md_s d0), (md_aside d0), (md_base d0), (md_saved d0), (md_savedMany d0), (md_slots d0), (md_hasSlot d0), r.2.2.1, r.2.2.2, (md_begins d0), (md_lengths d0), (md_streams d0), (md_letters d0), (md_letterMany d0), (md_chunks d0), (md_chunkMany d0), (md_homes d0), (md_dropped d0), (md_madeIn d0), (md_madeAt d0), (md_putMany d0), (md_path d0), (md_store d0), (md_thinOnes d0)))) r.1 (va_A ((wmd t h0 a0 d0)) sz)) 0 0 (va_A ((wmd t h0 a0 d0)) sz) := by
  refine kE (cc := cX9_append) (maxL := 2) (ret := (some .int)) (Qx := fun A => kQi D (TY t) ((wmd t h0 a0 (r.2.1, (md_s d0), (md_aside d0), (md_base d0), (md_saved d0), (md_savedMany d0), (md_slots d0), (md_hasSlot d0), r.2.2.1, r.2.2.2, (md_begins d0), (md_lengths d0), (md_streams d0), (md_letters d0), (md_letterMany d0), (md_chunks d0), (md_chunkMany d0), (md_homes d0), (md_dropped d0), (md_madeIn d0), (md_madeAt d0), (md_putMany d0), (md_path d0), (md_store d0), (md_thinOnes d0)))) r.1 A) (lv0 := [(0, .ref h0), (1, .int p1)]) RX9 rfl (by decide) rfl (Nat.le_of_ble_eq_true rfl) rfl ?_
  intro p e s m args below meth c A ls hx hb hml hr hlocks hown hts hA hK hP hD hS hl
  have L29 := hts (.fieldLink RX9 29 "ChunkCarriersModel" "text" "[I") (List.mem_cons_of_mem _ w_107)
  have L65 := hts (.fieldLink RX9 65 "ChunkCarriersModel" "thrown" "I") (List.mem_cons_of_mem _ w_119)
  have L80 := hts (.fieldLink RX9 80 "ChunkCarriersModel" "length" "I") (List.mem_cons_of_mem _ w_149)
  have inX9_ : ∀ w ∈ wsX90, w ∈ wX9_append := fun w h => List.mem_cons_of_mem _ (inlX9 w h)
  have hP : va_P D vwCl ((wmdF t h0 a0 (md_thrown d0) (md_s d0) (md_aside d0) (md_base d0) (md_saved d0) (md_savedMany d0) (md_slots d0) (md_hasSlot d0) (md_text d0) (md_length d0) (md_begins d0) (md_lengths d0) (md_streams d0) (md_letters d0) (md_letterMany d0) (md_chunks d0) (md_chunkMany d0) (md_homes d0) (md_dropped d0) (md_madeIn d0) (md_madeAt d0) (md_putMany d0) (md_path d0) (md_store d0) (md_thinOnes d0))) s.heap := hP
  have hD : va_D A ((wmdF t h0 a0 (md_thrown d0) (md_s d0) (md_aside d0) (md_base d0) (md_saved d0) (md_savedMany d0) (md_slots d0) (md_hasSlot d0) (md_text d0) (md_length d0) (md_begins d0) (md_lengths d0) (md_streams d0) (md_letters d0) (md_letterMany d0) (md_chunks d0) (md_chunkMany d0) (md_homes d0) (md_dropped d0) (md_madeIn d0) (md_madeAt d0) (md_putMany d0) (md_path d0) (md_store d0) (md_thinOnes d0))) := hD
  refine lv_aload_n hx hb (kd tdlX9_append_0 0 rfl) rfl (lv_at hl 0 rfl) ?_
  refine lv_iconst (v := 0) hx hb (kd tdlX9_append_0 1 rfl) (by decide) ?_
  refine md_p_thrown hx hb hts inX9_ hown hK hP hD hS L65 (kd tdlX9_append_0 2 rfl) (fun H locs hP hD hS => ?_)
  refine lv_iload_n hx hb (kd tdlX9_append_0 3 rfl) rfl (lv_at hl 1 rfl) ?_
  refine lv_iconst (v := 0) hx hb (kd tdlX9_append_0 4 rfl) (by decide) ?_
  refine lv_sipush (v := 255) hx hb (kd tdlX9_append_0 5 rfl) (by decide) ?_
  obtain ⟨v10, e10, hF⟩ := kc hF
  refine kc_iR hK hP hD hS hA [] rfl (kr_S (Qx := (fun A => kQi D (TY t) ([] : va_W) v10 A)) (wc := ([] : va_W)) (As := [.int p1, .int 0, .int 255]) (rest := []) ⟨hx, hb, hml, hown, hts⟩ hK hP hD [] nd_ rfl (c_X9_in l D t  _ p1 0 255 v10 e10) (va_cwS 3 hts (gcX9_in w_150) rfl rfl rfl hdX9_inS ⟨Nat.le_of_ble_eq_true rfl, Nat.le_of_ble_eq_true rfl⟩) rfl hl.1 rfl (Nat.le_of_ble_eq_true rfl) (kd tdlX9_append_0 6 rfl) ⟨Nat.zero_le _, Nat.zero_le _⟩) (fun H locs hP hS => ?_)
  refine lv_if_ne (tgt := 22) hx hb (kd tdlX9_append_0 7 rfl) (by decide) (fun hc13 => ?_) (fun hc13 => ?_)
  · have hF := kf hc13 hF
    refine lv_aload_n hx hb (kd tdlX9_append_0 12 rfl) rfl (lv_at hl 0 rfl) ?_
    refine md_g_length hx hb hts inX9_ hown hK hP L80 (kd tdlX9_append_0 13 rfl) ?_
    refine lv_bipush (v := 120) hx hb (kd tdlX9_append_0 14 rfl) (by decide) ?_
    refine lv_icmp_ne (tgt := 37) hx hb (kd tdlX9_append_0 15 rfl) (by decide) (fun hc28 => ?_) (fun hc28 => ?_)
    · have hF := kf hc28 hF
      refine lv_aload_n hx hb (kd tdlX9_append_0 20 rfl) rfl (lv_at hl 0 rfl) ?_
      refine md_g_text hx hb hts inX9_ hown hK hP L29 (kd tdlX9_append_0 21 rfl) ?_
      refine lv_aload_n hx hb (kd tdlX9_append_0 22 rfl) rfl (lv_at hl 0 rfl) ?_
      refine md_g_length hx hb hts inX9_ hown hK hP L80 (kd tdlX9_append_0 23 rfl) ?_
      refine lv_iload_n hx hb (kd tdlX9_append_0 24 rfl) rfl (lv_at hl 1 rfl) ?_
      obtain ⟨hi46, hF⟩ := kg hF
      refine md_s_text hx hb hK hP hD hS hi46 (kd tdlX9_append_0 25 rfl) (fun H locs hP hD hS => ?_)
      refine lv_aload_n hx hb (kd tdlX9_append_0 26 rfl) rfl (lv_at hl 0 rfl) ?_
      refine lv_dup hx hb (kd tdlX9_append_0 27 rfl) rfl ?_
      refine md_g_length hx hb hts inX9_ hown hK hP L80 (kd tdlX9_append_0 28 rfl) ?_
      refine lv_iconst (v := 1) hx hb (kd tdlX9_append_0 29 rfl) (by decide) ?_
      refine lv_iadd hx hb (kd tdlX9_append_0 30 rfl) ?_
      refine md_p_length hx hb hts inX9_ hown hK hP hD hS L80 (kd tdlX9_append_0 31 rfl) (fun H locs hP hD hS => ?_)
      refine lv_aload_n hx hb (kd tdlX9_append_0 32 rfl) rfl (lv_at hl 0 rfl) ?_
      refine md_g_length hx hb hts inX9_ hown hK hP L80 (kd tdlX9_append_0 33 rfl) ?_
      cases ko hF
      exact ke_i hx hb hr hlocks hK hP hD hS rfl (kd tdlX9_append_0 34 rfl)
    · have hF := kt hc28 hF
      refine lv_aload_n hx hb (kd tdlX9_append_0 16 rfl) rfl (lv_at hl 0 rfl) ?_
      refine lv_iconst (v := 2) hx hb (kd tdlX9_append_0 17 rfl) (by decide) ?_
      obtain ⟨v33, e33, hF⟩ := kc hF
      refine kc_i0 (w1 := ((wmdF t h0 a0 v33.2 (md_s d0) (md_aside d0) (md_base d0) (md_saved d0) (md_savedMany d0) (md_slots d0) (md_hasSlot d0) (md_text d0) (md_length d0) (md_begins d0) (md_lengths d0) (md_streams d0) (md_letters d0) (md_letterMany d0) (md_chunks d0) (md_chunkMany d0) (md_homes d0) (md_dropped d0) (md_madeIn d0) (md_madeAt d0) (md_putMany d0) (md_path d0) (md_store d0) (md_thinOnes d0)))) hP hD hS hA (kr_V0 (Qx := (fun A => kQi D (TY t) ((wmdF t h0 a0 v33.2 (md_s d0) (md_aside d0) (md_base d0) (md_saved d0) (md_savedMany d0) (md_slots d0) (md_hasSlot d0) (md_text d0) (md_length d0) (md_begins d0) (md_lengths d0) (md_streams d0) (md_letters d0) (md_letterMany d0) (md_chunks d0) (md_chunkMany d0) (md_homes d0) (md_dropped d0) (md_madeIn d0) (md_madeAt d0) (md_putMany d0) (md_path d0) (md_store d0) (md_thinOnes d0))) v33.1 A)) (As := [.int 2]) (rest := []) ⟨hx, hb, hml, hown, hts⟩ hK hP hD (c_X9_fails l D t h0 a0 (0, (md_s d0), (md_aside d0), (md_base d0), (md_saved d0), (md_savedMany d0), (md_slots d0), (md_hasSlot d0), (md_text d0), (md_length d0), (md_begins d0), (md_lengths d0), (md_streams d0), (md_letters d0), (md_letterMany d0), (md_chunks d0), (md_chunkMany d0), (md_homes d0), (md_dropped d0), (md_madeIn d0), (md_madeAt d0), (md_putMany d0), (md_path d0), (md_store d0), (md_thinOnes d0)) _ 2 v33 e33) (cwV 1 hts (gcX9_fails w_153) rfl rfl rfl hdX9_failsV ⟨Nat.le_of_ble_eq_true rfl, Nat.le_of_ble_eq_true rfl⟩) (ci := 8) (q0 := 0) rfl rfl rfl hl.1 rfl (Nat.le_of_ble_eq_true rfl) (kd tdlX9_append_0 18 rfl) ⟨Nat.zero_le _, Nat.zero_le _⟩) (fun H locs hP hD hS => ?_)
      cases ko hF
      exact ke_i hx hb hr hlocks hK hP hD hS rfl (kd tdlX9_append_0 19 rfl)
  · have hF := kt hc13 hF
    refine lv_aload_n hx hb (kd tdlX9_append_0 8 rfl) rfl (lv_at hl 0 rfl) ?_
    refine lv_iconst (v := 1) hx hb (kd tdlX9_append_0 9 rfl) (by decide) ?_
    obtain ⟨v18, e18, hF⟩ := kc hF
    refine kc_i0 (w1 := ((wmdF t h0 a0 v18.2 (md_s d0) (md_aside d0) (md_base d0) (md_saved d0) (md_savedMany d0) (md_slots d0) (md_hasSlot d0) (md_text d0) (md_length d0) (md_begins d0) (md_lengths d0) (md_streams d0) (md_letters d0) (md_letterMany d0) (md_chunks d0) (md_chunkMany d0) (md_homes d0) (md_dropped d0) (md_madeIn d0) (md_madeAt d0) (md_putMany d0) (md_path d0) (md_store d0) (md_thinOnes d0)))) hP hD hS hA (kr_V0 (Qx := (fun A => kQi D (TY t) ((wmdF t h0 a0 v18.2 (md_s d0) (md_aside d0) (md_base d0) (md_saved d0) (md_savedMany d0) (md_slots d0) (md_hasSlot d0) (md_text d0) (md_length d0) (md_begins d0) (md_lengths d0) (md_streams d0) (md_letters d0) (md_letterMany d0) (md_chunks d0) (md_chunkMany d0) (md_homes d0) (md_dropped d0) (md_madeIn d0) (md_madeAt d0) (md_putMany d0) (md_path d0) (md_store d0) (md_thinOnes d0))) v18.1 A)) (As := [.int 1]) (rest := []) ⟨hx, hb, hml, hown, hts⟩ hK hP hD (c_X9_fails l D t h0 a0 (0, (md_s d0), (md_aside d0), (md_base d0), (md_saved d0), (md_savedMany d0), (md_slots d0), (md_hasSlot d0), (md_text d0), (md_length d0), (md_begins d0), (md_lengths d0), (md_streams d0), (md_letters d0), (md_letterMany d0), (md_chunks d0), (md_chunkMany d0), (md_homes d0), (md_dropped d0), (md_madeIn d0), (md_madeAt d0), (md_putMany d0), (md_path d0), (md_store d0), (md_thinOnes d0)) _ 1 v18 e18) (cwV 1 hts (gcX9_fails w_153) rfl rfl rfl hdX9_failsV ⟨Nat.le_of_ble_eq_true rfl, Nat.le_of_ble_eq_true rfl⟩) (ci := 8) (q0 := 0) rfl rfl rfl hl.1 rfl (Nat.le_of_ble_eq_true rfl) (kd tdlX9_append_0 10 rfl) ⟨Nat.zero_le _, Nat.zero_le _⟩) (fun H locs hP hD hS => ?_)
    cases ko hF
    exact ke_i hx hb hr hlocks hK hP hD hS rfl (kd tdlX9_append_0 11 rfl)
set_option maxHeartbeats 4000000 in
set_option maxRecDepth 100000 in
theorem c_X9_clearText (l : Launch) (D : va_G) (t : Nat → ClassId) (h0 : Nat) (a0 : Nat → Nat) (d0 : MDT) (sz : Nat)  (r : Int32 × Int32 × Int32) (hF : F_X9_clearText (md_thrown d0) (md_length d0) = some r) : Met l yX9_clearText wX9_clearText ({ frames := 0, cells := 0, slots := 0, locals := 0 } : Room) (kPc D (TY t) ((wmd t h0 a0 d0)) [.ref h0] sz) (kQi D (TY t) ((wmd t h0 a0 (r.2.1, (md_s d0), (md_aside d0), (md_base d0), (md_saved d0), (md_savedMany d0), (md_slots d0), (md_hasSlot d0), (md_text d0), r.2.2, (md_begins d0), (md_lengths d0), (md_streams d0), (md_letters d0), (md_letterMany d0), (md_chunks d0), (md_chunkMany d0), (md_homes d0), (md_dropped d0), (md_madeIn d0), (md_madeAt d0), (md_putMany d0), (md_path d0), (md_store d0), (md_thinOnes d0)))) r.1 (va_A ((wmd t h0 a0 d0)) sz)) 0 0 (va_A ((wmd t h0 a0 d0)) sz) := by
  refine kE (cc := cX9_clearText) (maxL := 2) (ret := (some .int)) (Qx := fun A => kQi D (TY t) ((wmd t h0 a0 (r.2.1, (md_s d0), (md_aside d0), (md_base d0), (md_saved d0), (md_savedMany d0), (md_slots d0), (md_hasSlot d0), (md_text d0), r.2.2, (md_begins d0), (md_lengths d0), (md_streams d0), (md_letters d0), (md_letterMany d0), (md_chunks d0), (md_chunkMany d0), (md_homes d0), (md_dropped d0), (md_madeIn d0), (md_madeAt d0), (md_putMany d0), (md_path d0), (md_store d0), (md_thinOnes d0)))) r.1 A) (lv0 := [(0, .ref h0)]) RX9 rfl (by decide) rfl (Nat.le_of_ble_eq_true rfl) rfl ?_
  intro p e s m args below meth c A ls hx hb hml hr hlocks hown hts hA hK hP hD hS hl
  have L65 := hts (.fieldLink RX9 65 "ChunkCarriersModel" "thrown" "I") (List.mem_cons_of_mem _ w_119)
  have L80 := hts (.fieldLink RX9 80 "ChunkCarriersModel" "length" "I") (List.mem_cons_of_mem _ w_149)
  have inX9_ : ∀ w ∈ wsX90, w ∈ wX9_clearText := fun w h => List.mem_cons_of_mem _ (inlX9 w h)
  have hP : va_P D vwCl ((wmdF t h0 a0 (md_thrown d0) (md_s d0) (md_aside d0) (md_base d0) (md_saved d0) (md_savedMany d0) (md_slots d0) (md_hasSlot d0) (md_text d0) (md_length d0) (md_begins d0) (md_lengths d0) (md_streams d0) (md_letters d0) (md_letterMany d0) (md_chunks d0) (md_chunkMany d0) (md_homes d0) (md_dropped d0) (md_madeIn d0) (md_madeAt d0) (md_putMany d0) (md_path d0) (md_store d0) (md_thinOnes d0))) s.heap := hP
  have hD : va_D A ((wmdF t h0 a0 (md_thrown d0) (md_s d0) (md_aside d0) (md_base d0) (md_saved d0) (md_savedMany d0) (md_slots d0) (md_hasSlot d0) (md_text d0) (md_length d0) (md_begins d0) (md_lengths d0) (md_streams d0) (md_letters d0) (md_letterMany d0) (md_chunks d0) (md_chunkMany d0) (md_homes d0) (md_dropped d0) (md_madeIn d0) (md_madeAt d0) (md_putMany d0) (md_path d0) (md_store d0) (md_thinOnes d0))) := hD
  refine lv_aload_n hx hb (kd tdlX9_clearText_0 0 rfl) rfl (lv_at hl 0 rfl) ?_
  refine lv_iconst (v := 0) hx hb (kd tdlX9_clearText_0 1 rfl) (by decide) ?_
  refine md_p_thrown hx hb hts inX9_ hown hK hP hD hS L65 (kd tdlX9_clearText_0 2 rfl) (fun H locs hP hD hS => ?_)
  refine lv_aload_n hx hb (kd tdlX9_clearText_0 3 rfl) rfl (lv_at hl 0 rfl) ?_
  refine md_g_length hx hb hts inX9_ hown hK hP L80 (kd tdlX9_clearText_0 4 rfl) ?_
  refine lv_istore_n (lv' := [(1, .int (md_length d0)), (0, .ref h0)]) hx hb (kd tdlX9_clearText_0 5 rfl) rfl hl (by decide) rfl (fun ls hl => ?_)
  refine lv_aload_n hx hb (kd tdlX9_clearText_0 6 rfl) rfl (lv_at hl 1 rfl) ?_
  refine lv_iconst (v := 0) hx hb (kd tdlX9_clearText_0 7 rfl) (by decide) ?_
  refine md_p_length hx hb hts inX9_ hown hK hP hD hS L80 (kd tdlX9_clearText_0 8 rfl) (fun H locs hP hD hS => ?_)
  refine lv_iload_n hx hb (kd tdlX9_clearText_0 9 rfl) rfl (lv_at hl 0 rfl) ?_
  cases ko hF
  exact ke_i hx hb hr hlocks hK hP hD hS rfl (kd tdlX9_clearText_0 10 rfl)
set_option maxHeartbeats 4000000 in
set_option maxRecDepth 100000 in
theorem c_X9_reads (l : Launch) (D : va_G) (t : Nat → ClassId) (h0 : Nat) (a0 : Nat → Nat) (d0 : MDT) (sz : Nat)  (r : Int32 × (Nat → Int32) × (Nat → Int32) × Int32) (hF : F_X9_reads (md_text d0) (md_length d0) (md_begins d0) (md_lengths d0) (md_streams d0) = some r) : Met l yX9_reads wX9_reads ({ frames := 1, cells := 0, slots := 0, locals := 22 } : Room) (kPc D (TY t) ((wmd t h0 a0 d0)) [.ref h0] sz) (kQi D (TY t) ((wmd t h0 a0 ((md_thrown d0), (md_s d0), (md_aside d0), (md_base d0), (md_saved d0), (md_savedMany d0), (md_slots d0), (md_hasSlot d0), (md_text d0), (md_length d0), r.2.1, r.2.2.1, r.2.2.2, (md_letters d0), (md_letterMany d0), (md_chunks d0), (md_chunkMany d0), (md_homes d0), (md_dropped d0), (md_madeIn d0), (md_madeAt d0), (md_putMany d0), (md_path d0), (md_store d0), (md_thinOnes d0)))) r.1 (va_A ((wmd t h0 a0 d0)) sz)) 0 0 (va_A ((wmd t h0 a0 d0)) sz) := by
  refine kE (cc := cX9_reads) (maxL := 4) (ret := (some .int)) (Qx := fun A => kQi D (TY t) ((wmd t h0 a0 ((md_thrown d0), (md_s d0), (md_aside d0), (md_base d0), (md_saved d0), (md_savedMany d0), (md_slots d0), (md_hasSlot d0), (md_text d0), (md_length d0), r.2.1, r.2.2.1, r.2.2.2, (md_letters d0), (md_letterMany d0), (md_chunks d0), (md_chunkMany d0), (md_homes d0), (md_dropped d0), (md_madeIn d0), (md_madeAt d0), (md_putMany d0), (md_path d0), (md_store d0), (md_thinOnes d0)))) r.1 A) (lv0 := [(0, .ref h0)]) RX9 rfl (by decide) rfl (Nat.le_of_ble_eq_true rfl) rfl ?_
  intro p e s m args below meth c A ls hx hb hml hr hlocks hown hts hA hK hP hD hS hl
  have L29 := hts (.fieldLink RX9 29 "ChunkCarriersModel" "text" "[I") (List.mem_cons_of_mem _ w_107)
  have L32 := hts (.fieldLink RX9 32 "ChunkCarriersModel" "begins" "[I") (List.mem_cons_of_mem _ w_108)
  have L35 := hts (.fieldLink RX9 35 "ChunkCarriersModel" "lengths" "[I") (List.mem_cons_of_mem _ w_109)
  have L80 := hts (.fieldLink RX9 80 "ChunkCarriersModel" "length" "I") (List.mem_cons_of_mem _ w_149)
  have L83 := hts (.fieldLink RX9 83 "ChunkCarriersModel" "streams" "I") (List.mem_cons_of_mem _ w_188)
  have inX9_ : ∀ w ∈ wsX90, w ∈ wX9_reads := fun w h => List.mem_cons_of_mem _ (inlX9 w h)
  have hP : va_P D vwCl ((wmdF t h0 a0 (md_thrown d0) (md_s d0) (md_aside d0) (md_base d0) (md_saved d0) (md_savedMany d0) (md_slots d0) (md_hasSlot d0) (md_text d0) (md_length d0) (md_begins d0) (md_lengths d0) (md_streams d0) (md_letters d0) (md_letterMany d0) (md_chunks d0) (md_chunkMany d0) (md_homes d0) (md_dropped d0) (md_madeIn d0) (md_madeAt d0) (md_putMany d0) (md_path d0) (md_store d0) (md_thinOnes d0))) s.heap := hP
  have hD : va_D A ((wmdF t h0 a0 (md_thrown d0) (md_s d0) (md_aside d0) (md_base d0) (md_saved d0) (md_savedMany d0) (md_slots d0) (md_hasSlot d0) (md_text d0) (md_length d0) (md_begins d0) (md_lengths d0) (md_streams d0) (md_letters d0) (md_letterMany d0) (md_chunks d0) (md_chunkMany d0) (md_homes d0) (md_dropped d0) (md_madeIn d0) (md_madeAt d0) (md_putMany d0) (md_path d0) (md_store d0) (md_thinOnes d0))) := hD
  refine lv_aload_n hx hb (kd tdlX9_reads_0 0 rfl) rfl (lv_at hl 0 rfl) ?_
  refine lv_iconst (v := 0) hx hb (kd tdlX9_reads_0 1 rfl) (by decide) ?_
  refine md_p_streams hx hb hts inX9_ hown hK hP hD hS L83 (kd tdlX9_reads_0 2 rfl) (fun H locs hP hD hS => ?_)
  refine lv_iconst (v := 0) hx hb (kd tdlX9_reads_0 3 rfl) (by decide) ?_
  refine lv_istore_n (lv' := [(1, .int 0), (0, .ref h0)]) hx hb (kd tdlX9_reads_0 4 rfl) rfl hl (by decide) rfl (fun ls hl => ?_)
  refine lv_iconst (v := 0) hx hb (kd tdlX9_reads_0 5 rfl) (by decide) ?_
  refine lv_istore_n (lv' := [(2, .int 0), (1, .int 0), (0, .ref h0)]) hx hb (kd tdlX9_reads_0 6 rfl) rfl hl (by decide) rfl (fun ls hl => ?_)
  have hK116 : ∀ k116 : Int32 × (Nat → Int32) × (Nat → Int32) × Int32, K_X9_reads_116 (md_length d0) k116 = some r → ∀ (H : Heap) (locs : List Loc) (ls : Array Slot), va_P D vwCl ((wmdF t h0 a0 (md_thrown d0) (md_s d0) (md_aside d0) (md_base d0) (md_saved d0) (md_savedMany d0) (md_slots d0) (md_hasSlot d0) (md_text d0) (md_length d0) k116.2.1 k116.2.2.1 k116.2.2.2 (md_letters d0) (md_letterMany d0) (md_chunks d0) (md_chunkMany d0) (md_homes d0) (md_dropped d0) (md_madeIn d0) (md_madeAt d0) (md_putMany d0) (md_path d0) (md_store d0) (md_thinOnes d0))) H → va_D A ((wmdF t h0 a0 (md_thrown d0) (md_s d0) (md_aside d0) (md_base d0) (md_saved d0) (md_savedMany d0) (md_slots d0) (md_hasSlot d0) (md_text d0) (md_length d0) k116.2.1 k116.2.2.1 k116.2.2.2 (md_letters d0) (md_letterMany d0) (md_chunks d0) (md_chunkMany d0) (md_homes d0) (md_dropped d0) (md_madeIn d0) (md_madeAt d0) (md_putMany d0) (md_path d0) (md_store d0) (md_thinOnes d0))) → va_S A s.heap H locs → lv_has ls 4 [(0, .ref h0), (1, .int k116.1)] → W p l e ({ frames := 1, cells := 0, slots := 0, locals := 22 } : Room) s m args below meth c H locs 0 0 (MQ below (kQi D (TY t) ((wmd t h0 a0 ((md_thrown d0), (md_s d0), (md_aside d0), (md_base d0), (md_saved d0), (md_savedMany d0), (md_slots d0), (md_hasSlot d0), (md_text d0), (md_length d0), r.2.1, r.2.2.1, r.2.2.2, (md_letters d0), (md_letterMany d0), (md_chunks d0), (md_chunkMany d0), (md_homes d0), (md_dropped d0), (md_madeIn d0), (md_madeAt d0), (md_putMany d0), (md_path d0), (md_store d0), (md_thinOnes d0)))) r.1 A) args s 0 0 A) (F0 m 116 ls []) := by
    intro k116 hF H locs ls hP hD hS hl
    refine lv_iload_n hx hb (kd tdlX9_reads_1 21 rfl) rfl (lv_at hl 1 rfl) ?_
    refine lv_if_ne (tgt := 127) hx hb (kd tdlX9_reads_1 22 rfl) (by decide) (fun hc117 => ?_) (fun hc117 => ?_)
    · have hF := kf hc117 hF
      refine lv_iconst (v := (-1)) hx hb (kd tdlX9_reads_1 26 rfl) (by decide) ?_
      cases ko hF
      exact ke_i hx hb hr hlocks hK hP hD hS rfl (kd tdlX9_reads_1 27 rfl)
    · have hF := kt hc117 hF
      refine lv_aload_n hx hb (kd tdlX9_reads_1 23 rfl) rfl (lv_at hl 0 rfl) ?_
      refine md_g_length hx hb hts inX9_ hown hK hP L80 (kd tdlX9_reads_1 24 rfl) ?_
      refine lv_goto (tgt := 128) hx hb (kd tdlX9_reads_1 25 rfl) (by decide) ?_
      cases ko hF
      exact ke_i hx hb hr hlocks hK hP hD hS rfl (kd tdlX9_reads_1 27 rfl)
  refine lp_ind (f := B_X9_reads_9 (md_length d0) (md_text d0) (K_X9_reads_116 (md_length d0))) (r := r) (P := fun s9_ => ∀ (H : Heap) (locs : List Loc) (ls : Array Slot), va_P D vwCl ((wmdF t h0 a0 (md_thrown d0) (md_s d0) (md_aside d0) (md_base d0) (md_saved d0) (md_savedMany d0) (md_slots d0) (md_hasSlot d0) (md_text d0) (md_length d0) s9_.2.2.1 s9_.2.2.2.1 s9_.2.2.2.2 (md_letters d0) (md_letterMany d0) (md_chunks d0) (md_chunkMany d0) (md_homes d0) (md_dropped d0) (md_madeIn d0) (md_madeAt d0) (md_putMany d0) (md_path d0) (md_store d0) (md_thinOnes d0))) H → va_D A ((wmdF t h0 a0 (md_thrown d0) (md_s d0) (md_aside d0) (md_base d0) (md_saved d0) (md_savedMany d0) (md_slots d0) (md_hasSlot d0) (md_text d0) (md_length d0) s9_.2.2.1 s9_.2.2.2.1 s9_.2.2.2.2 (md_letters d0) (md_letterMany d0) (md_chunks d0) (md_chunkMany d0) (md_homes d0) (md_dropped d0) (md_madeIn d0) (md_madeAt d0) (md_putMany d0) (md_path d0) (md_store d0) (md_thinOnes d0))) → va_S A s.heap H locs → lv_has ls 4 [(0, .ref h0), (1, .int s9_.1), (2, .int s9_.2.1)] → W p l e ({ frames := 1, cells := 0, slots := 0, locals := 22 } : Room) s m args below meth c H locs 0 0 (MQ below (kQi D (TY t) ((wmd t h0 a0 ((md_thrown d0), (md_s d0), (md_aside d0), (md_base d0), (md_saved d0), (md_savedMany d0), (md_slots d0), (md_hasSlot d0), (md_text d0), (md_length d0), r.2.1, r.2.2.1, r.2.2.2, (md_letters d0), (md_letterMany d0), (md_chunks d0), (md_chunkMany d0), (md_homes d0), (md_dropped d0), (md_madeIn d0), (md_madeAt d0), (md_putMany d0), (md_path d0), (md_store d0), (md_thinOnes d0)))) r.1 A) args s 0 0 A) (F0 m 9 ls [])) ?_ FU (0, 0, (md_begins d0), (md_lengths d0), 0) hF _ _ _ hP hD hS (lv_sub hl [2, 1, 0] rfl)
  intro self9 ih9 s9_ hF H locs ls hP hD hS hl
  refine lv_iload_n hx hb (kd tdlX9_reads_0 7 rfl) rfl (lv_at hl 2 rfl) ?_
  refine lv_aload_n hx hb (kd tdlX9_reads_0 8 rfl) rfl (lv_at hl 0 rfl) ?_
  refine md_g_length hx hb hts inX9_ hown hK hP L80 (kd tdlX9_reads_0 9 rfl) ?_
  refine lv_icmp_ge (tgt := 116) hx hb (kd tdlX9_reads_0 10 rfl) (by decide) (fun hc14 => ?_) (fun hc14 => ?_)
  · have hF := kt hc14 hF
    exact hK116 (s9_.1, s9_.2.2.1, s9_.2.2.2.1, s9_.2.2.2.2) hF _ _ _ hP hD hS (lv_sub hl [0, 1] rfl)
  · have hF := kf hc14 hF
    refine lv_aload_n hx hb (kd tdlX9_reads_0 11 rfl) rfl (lv_at hl 0 rfl) ?_
    refine md_g_text hx hb hts inX9_ hown hK hP L29 (kd tdlX9_reads_0 12 rfl) ?_
    refine lv_iload_n hx hb (kd tdlX9_reads_0 13 rfl) rfl (lv_at hl 2 rfl) ?_
    obtain ⟨hi22, hF⟩ := kg hF
    refine md_l_text hx hb hK hP hi22 (kd tdlX9_reads_0 14 rfl) ?_
    refine lv_istore_n (lv' := [(3, .int ((md_text d0) (Int32.toNatClampNeg s9_.2.1))), (0, .ref h0), (1, .int s9_.1), (2, .int s9_.2.1)]) hx hb (kd tdlX9_reads_0 15 rfl) rfl hl (by decide) rfl (fun ls hl => ?_)
    refine lv_iload_n hx hb (kd tdlX9_reads_0 16 rfl) rfl (lv_at hl 0 rfl) ?_
    refine lv_bipush (v := 97) hx hb (kd tdlX9_reads_0 17 rfl) (by decide) ?_
    refine lv_bipush (v := 104) hx hb (kd tdlX9_reads_0 18 rfl) (by decide) ?_
    obtain ⟨v29, e29, hF⟩ := kc hF
    refine kc_iR hK hP hD hS hA [] rfl (kr_S (Qx := (fun A => kQi D (TY t) ([] : va_W) v29 A)) (wc := ([] : va_W)) (As := [.int ((md_text d0) (Int32.toNatClampNeg s9_.2.1)), .int 97, .int 104]) (rest := []) ⟨hx, hb, hml, hown, hts⟩ hK hP hD [] nd_ rfl (c_X9_in l D t  _ ((md_text d0) (Int32.toNatClampNeg s9_.2.1)) 97 104 v29 e29) (va_cwS 3 hts (gcX9_in w_150) rfl rfl rfl hdX9_inS ⟨Nat.le_of_ble_eq_true rfl, Nat.le_of_ble_eq_true rfl⟩) rfl hl.1 rfl (Nat.le_of_ble_eq_true rfl) (kd tdlX9_reads_0 19 rfl) ⟨Nat.zero_le _, Nat.zero_le _⟩) (fun H locs hP hS => ?_)
    refine lv_if_eq (tgt := 85) hx hb (kd tdlX9_reads_0 20 rfl) (by decide) (fun hc32 => ?_) (fun hc32 => ?_)
    · have hF := kt hc32 hF
      refine lv_iload_n hx hb (kd tdlX9_reads_1 5 rfl) rfl (lv_at hl 0 rfl) ?_
      refine lv_bipush (v := 44) hx hb (kd tdlX9_reads_1 6 rfl) (by decide) ?_
      refine lv_icmp_ne (tgt := 108) hx hb (kd tdlX9_reads_1 7 rfl) (by decide) (fun hc88 => ?_) (fun hc88 => ?_)
      · have hF := kf hc88 hF
        refine lv_iload_n hx hb (kd tdlX9_reads_1 17 rfl) rfl (lv_at hl 3 rfl) ?_
        cases ko hF
        exact ke_i hx hb hr hlocks hK hP hD hS rfl (kd tdlX9_reads_1 18 rfl)
      · have hF := kt hc88 hF
        refine lv_iload_n hx hb (kd tdlX9_reads_1 8 rfl) rfl (lv_at hl 2 rfl) ?_
        refine lv_if_le (tgt := 108) hx hb (kd tdlX9_reads_1 9 rfl) (by decide) (fun hc92 => ?_) (fun hc92 => ?_)
        · have hF := kt hc92 hF
          refine lv_iload_n hx hb (kd tdlX9_reads_1 17 rfl) rfl (lv_at hl 3 rfl) ?_
          cases ko hF
          exact ke_i hx hb hr hlocks hK hP hD hS rfl (kd tdlX9_reads_1 18 rfl)
        · have hF := kf hc92 hF
          refine lv_aload_n hx hb (kd tdlX9_reads_1 10 rfl) rfl (lv_at hl 1 rfl) ?_
          refine md_g_streams hx hb hts inX9_ hown hK hP L83 (kd tdlX9_reads_1 11 rfl) ?_
          refine lv_iconst (v := 4) hx hb (kd tdlX9_reads_1 12 rfl) (by decide) ?_
          refine lv_icmp_ge (tgt := 108) hx hb (kd tdlX9_reads_1 13 rfl) (by decide) (fun hc100 => ?_) (fun hc100 => ?_)
          · have hF := kt hc100 hF
            refine lv_iload_n hx hb (kd tdlX9_reads_1 17 rfl) rfl (lv_at hl 3 rfl) ?_
            cases ko hF
            exact ke_i hx hb hr hlocks hK hP hD hS rfl (kd tdlX9_reads_1 18 rfl)
          · have hF := kf hc100 hF
            refine lv_iconst (v := 0) hx hb (kd tdlX9_reads_1 14 rfl) (by decide) ?_
            refine lv_istore_n (lv' := [(1, .int 0), (3, .int ((md_text d0) (Int32.toNatClampNeg s9_.2.1))), (0, .ref h0), (2, .int s9_.2.1)]) hx hb (kd tdlX9_reads_1 15 rfl) rfl hl (by decide) rfl (fun ls hl => ?_)
            refine lv_goto (tgt := 110) hx hb (kd tdlX9_reads_1 16 rfl) (by decide) ?_
            refine lv_iinc (v := (s9_.2.1 + 1)) (lv' := [(2, .int (s9_.2.1 + 1)), (1, .int 0), (3, .int ((md_text d0) (Int32.toNatClampNeg s9_.2.1))), (0, .ref h0)]) hx hb (kd tdlX9_reads_1 19 rfl) hl (k := 3) rfl rfl (by decide) rfl (fun ls hl => ?_)
            refine lv_goto (tgt := 9) hx hb (kd tdlX9_reads_1 20 rfl) (by decide) ?_
            exact ih9 (0, (s9_.2.1 + 1), s9_.2.2.1, s9_.2.2.2.1, s9_.2.2.2.2) hF _ _ _ hP hD hS (lv_sub hl [3, 1, 0] rfl)
    · have hF := kf hc32 hF
      refine lv_iload_n hx hb (kd tdlX9_reads_0 21 rfl) rfl (lv_at hl 2 rfl) ?_
      refine lv_bipush (v := 30) hx hb (kd tdlX9_reads_0 22 rfl) (by decide) ?_
      refine lv_icmp_ne (tgt := 43) hx hb (kd tdlX9_reads_0 23 rfl) (by decide) (fun hc38 => ?_) (fun hc38 => ?_)
      · have hF := kf hc38 hF
        refine lv_iload_n hx hb (kd tdlX9_reads_0 26 rfl) rfl (lv_at hl 2 rfl) ?_
        have hJ67 : ∀ j67 : (Nat → Int32) × Int32, J_X9_reads_67 self9 s9_ j67 = some r → ∀ (H : Heap) (locs : List Loc) (ls : Array Slot), va_P D vwCl ((wmdF t h0 a0 (md_thrown d0) (md_s d0) (md_aside d0) (md_base d0) (md_saved d0) (md_savedMany d0) (md_slots d0) (md_hasSlot d0) (md_text d0) (md_length d0) j67.1 s9_.2.2.2.1 j67.2 (md_letters d0) (md_letterMany d0) (md_chunks d0) (md_chunkMany d0) (md_homes d0) (md_dropped d0) (md_madeIn d0) (md_madeAt d0) (md_putMany d0) (md_path d0) (md_store d0) (md_thinOnes d0))) H → va_D A ((wmdF t h0 a0 (md_thrown d0) (md_s d0) (md_aside d0) (md_base d0) (md_saved d0) (md_savedMany d0) (md_slots d0) (md_hasSlot d0) (md_text d0) (md_length d0) j67.1 s9_.2.2.2.1 j67.2 (md_letters d0) (md_letterMany d0) (md_chunks d0) (md_chunkMany d0) (md_homes d0) (md_dropped d0) (md_madeIn d0) (md_madeAt d0) (md_putMany d0) (md_path d0) (md_store d0) (md_thinOnes d0))) → va_S A s.heap H locs → lv_has ls 4 [(0, .ref h0), (1, .int s9_.1), (2, .int s9_.2.1)] → W p l e ({ frames := 1, cells := 0, slots := 0, locals := 22 } : Room) s m args below meth c H locs 0 0 (MQ below (kQi D (TY t) ((wmd t h0 a0 ((md_thrown d0), (md_s d0), (md_aside d0), (md_base d0), (md_saved d0), (md_savedMany d0), (md_slots d0), (md_hasSlot d0), (md_text d0), (md_length d0), r.2.1, r.2.2.1, r.2.2.2, (md_letters d0), (md_letterMany d0), (md_chunks d0), (md_chunkMany d0), (md_homes d0), (md_dropped d0), (md_madeIn d0), (md_madeAt d0), (md_putMany d0), (md_path d0), (md_store d0), (md_thinOnes d0)))) r.1 A) args s 0 0 A) (F0 m 67 ls []) := by
          intro j67 hF H locs ls hP hD hS hl
          refine lv_iinc (v := (s9_.1 + 1)) (lv' := [(1, .int (s9_.1 + 1)), (0, .ref h0), (2, .int s9_.2.1)]) hx hb (kd tdlX9_reads_0 40 rfl) hl (k := 1) rfl rfl (by decide) rfl (fun ls hl => ?_)
          refine lv_aload_n hx hb (kd tdlX9_reads_0 41 rfl) rfl (lv_at hl 1 rfl) ?_
          refine md_g_lengths hx hb hts inX9_ hown hK hP L35 (kd tdlX9_reads_0 42 rfl) ?_
          refine lv_aload_n hx hb (kd tdlX9_reads_0 43 rfl) rfl (lv_at hl 1 rfl) ?_
          refine md_g_streams hx hb hts inX9_ hown hK hP L83 (kd tdlX9_reads_0 44 rfl) ?_
          refine lv_iconst (v := 1) hx hb (kd tdlX9_reads_1 0 rfl) (by decide) ?_
          refine lv_isub hx hb (kd tdlX9_reads_1 1 rfl) ?_
          refine lv_iload_n hx hb (kd tdlX9_reads_1 2 rfl) rfl (lv_at hl 0 rfl) ?_
          obtain ⟨hi81, hF⟩ := kg hF
          refine md_s_lengths hx hb hK hP hD hS hi81 (kd tdlX9_reads_1 3 rfl) (fun H locs hP hD hS => ?_)
          refine lv_goto (tgt := 110) hx hb (kd tdlX9_reads_1 4 rfl) (by decide) ?_
          refine lv_iinc (v := (s9_.2.1 + 1)) (lv' := [(2, .int (s9_.2.1 + 1)), (1, .int (s9_.1 + 1)), (0, .ref h0)]) hx hb (kd tdlX9_reads_1 19 rfl) hl (k := 2) rfl rfl (by decide) rfl (fun ls hl => ?_)
          refine lv_goto (tgt := 9) hx hb (kd tdlX9_reads_1 20 rfl) (by decide) ?_
          exact ih9 ((s9_.1 + 1), (s9_.2.1 + 1), j67.1, (upd s9_.2.2.2.1 (Int32.toNatClampNeg (j67.2 - 1)) (s9_.1 + 1)), j67.2) hF _ _ _ hP hD hS (lv_sub hl [2, 1, 0] rfl)
        refine lv_if_ne (tgt := 67) hx hb (kd tdlX9_reads_0 27 rfl) (by decide) (fun hc44 => ?_) (fun hc44 => ?_)
        · have hF := kf hc44 hF
          exact hJ67 (s9_.2.2.1, s9_.2.2.2.2) hF _ _ _ hP hD hS (lv_sub hl [1, 2, 3] rfl)
        · have hF := kt hc44 hF
          refine lv_aload_n hx hb (kd tdlX9_reads_0 28 rfl) rfl (lv_at hl 1 rfl) ?_
          refine md_g_begins hx hb hts inX9_ hown hK hP L32 (kd tdlX9_reads_0 29 rfl) ?_
          refine lv_aload_n hx hb (kd tdlX9_reads_0 30 rfl) rfl (lv_at hl 1 rfl) ?_
          refine md_g_streams hx hb hts inX9_ hown hK hP L83 (kd tdlX9_reads_0 31 rfl) ?_
          refine lv_iload_n hx hb (kd tdlX9_reads_0 32 rfl) rfl (lv_at hl 3 rfl) ?_
          obtain ⟨hi56, hF⟩ := kg hF
          refine md_s_begins hx hb hK hP hD hS hi56 (kd tdlX9_reads_0 33 rfl) (fun H locs hP hD hS => ?_)
          refine lv_aload_n hx hb (kd tdlX9_reads_0 34 rfl) rfl (lv_at hl 1 rfl) ?_
          refine lv_dup hx hb (kd tdlX9_reads_0 35 rfl) rfl ?_
          refine md_g_streams hx hb hts inX9_ hown hK hP L83 (kd tdlX9_reads_0 36 rfl) ?_
          refine lv_iconst (v := 1) hx hb (kd tdlX9_reads_0 37 rfl) (by decide) ?_
          refine lv_iadd hx hb (kd tdlX9_reads_0 38 rfl) ?_
          refine md_p_streams hx hb hts inX9_ hown hK hP hD hS L83 (kd tdlX9_reads_0 39 rfl) (fun H locs hP hD hS => ?_)
          exact hJ67 ((upd s9_.2.2.1 (Int32.toNatClampNeg s9_.2.2.2.2) s9_.2.1), (s9_.2.2.2.2 + 1)) hF _ _ _ hP hD hS (lv_sub hl [1, 2, 3] rfl)
      · have hF := kt hc38 hF
        refine lv_iload_n hx hb (kd tdlX9_reads_0 24 rfl) rfl (lv_at hl 3 rfl) ?_
        cases ko hF
        exact ke_i hx hb hr hlocks hK hP hD hS rfl (kd tdlX9_reads_0 25 rfl)
set_option maxHeartbeats 4000000 in
set_option maxRecDepth 100000 in
theorem c_X9_errorPosition (l : Launch) (D : va_G) (t : Nat → ClassId) (h0 : Nat) (a0 : Nat → Nat) (d0 : MDT) (sz : Nat)  (r : Int32 × Int32 × (Nat → Int32) × (Nat → Int32) × Int32) (hF : F_X9_errorPosition (md_thrown d0) (md_text d0) (md_length d0) (md_begins d0) (md_lengths d0) (md_streams d0) = some r) : Met l yX9_errorPosition wX9_errorPosition ({ frames := 2, cells := 0, slots := 0, locals := 45 } : Room) (kPc D (TY t) ((wmd t h0 a0 d0)) [.ref h0] sz) (kQi D (TY t) ((wmd t h0 a0 (r.2.1, (md_s d0), (md_aside d0), (md_base d0), (md_saved d0), (md_savedMany d0), (md_slots d0), (md_hasSlot d0), (md_text d0), (md_length d0), r.2.2.1, r.2.2.2.1, r.2.2.2.2, (md_letters d0), (md_letterMany d0), (md_chunks d0), (md_chunkMany d0), (md_homes d0), (md_dropped d0), (md_madeIn d0), (md_madeAt d0), (md_putMany d0), (md_path d0), (md_store d0), (md_thinOnes d0)))) r.1 (va_A ((wmd t h0 a0 d0)) sz)) 0 0 (va_A ((wmd t h0 a0 d0)) sz) := by
  refine kE (cc := cX9_errorPosition) (maxL := 1) (ret := (some .int)) (Qx := fun A => kQi D (TY t) ((wmd t h0 a0 (r.2.1, (md_s d0), (md_aside d0), (md_base d0), (md_saved d0), (md_savedMany d0), (md_slots d0), (md_hasSlot d0), (md_text d0), (md_length d0), r.2.2.1, r.2.2.2.1, r.2.2.2.2, (md_letters d0), (md_letterMany d0), (md_chunks d0), (md_chunkMany d0), (md_homes d0), (md_dropped d0), (md_madeIn d0), (md_madeAt d0), (md_putMany d0), (md_path d0), (md_store d0), (md_thinOnes d0)))) r.1 A) (lv0 := [(0, .ref h0)]) RX9 rfl (by decide) rfl (Nat.le_of_ble_eq_true rfl) rfl ?_
  intro p e s m args below meth c A ls hx hb hml hr hlocks hown hts hA hK hP hD hS hl
  have L65 := hts (.fieldLink RX9 65 "ChunkCarriersModel" "thrown" "I") (List.mem_cons_of_mem _ w_119)
  have inX9_ : ∀ w ∈ wsX90, w ∈ wX9_errorPosition := fun w h => List.mem_cons_of_mem _ (inlX9 w h)
  have hP : va_P D vwCl ((wmdF t h0 a0 (md_thrown d0) (md_s d0) (md_aside d0) (md_base d0) (md_saved d0) (md_savedMany d0) (md_slots d0) (md_hasSlot d0) (md_text d0) (md_length d0) (md_begins d0) (md_lengths d0) (md_streams d0) (md_letters d0) (md_letterMany d0) (md_chunks d0) (md_chunkMany d0) (md_homes d0) (md_dropped d0) (md_madeIn d0) (md_madeAt d0) (md_putMany d0) (md_path d0) (md_store d0) (md_thinOnes d0))) s.heap := hP
  have hD : va_D A ((wmdF t h0 a0 (md_thrown d0) (md_s d0) (md_aside d0) (md_base d0) (md_saved d0) (md_savedMany d0) (md_slots d0) (md_hasSlot d0) (md_text d0) (md_length d0) (md_begins d0) (md_lengths d0) (md_streams d0) (md_letters d0) (md_letterMany d0) (md_chunks d0) (md_chunkMany d0) (md_homes d0) (md_dropped d0) (md_madeIn d0) (md_madeAt d0) (md_putMany d0) (md_path d0) (md_store d0) (md_thinOnes d0))) := hD
  refine lv_aload_n hx hb (kd tdlX9_errorPosition_0 0 rfl) rfl (lv_at hl 0 rfl) ?_
  refine lv_iconst (v := 0) hx hb (kd tdlX9_errorPosition_0 1 rfl) (by decide) ?_
  refine md_p_thrown hx hb hts inX9_ hown hK hP hD hS L65 (kd tdlX9_errorPosition_0 2 rfl) (fun H locs hP hD hS => ?_)
  refine lv_aload_n hx hb (kd tdlX9_errorPosition_0 3 rfl) rfl (lv_at hl 0 rfl) ?_
  obtain ⟨v6, e6, hF⟩ := kc hF
  refine kc_i0 (w1 := ((wmdF t h0 a0 0 (md_s d0) (md_aside d0) (md_base d0) (md_saved d0) (md_savedMany d0) (md_slots d0) (md_hasSlot d0) (md_text d0) (md_length d0) v6.2.1 v6.2.2.1 v6.2.2.2 (md_letters d0) (md_letterMany d0) (md_chunks d0) (md_chunkMany d0) (md_homes d0) (md_dropped d0) (md_madeIn d0) (md_madeAt d0) (md_putMany d0) (md_path d0) (md_store d0) (md_thinOnes d0)))) hP hD hS hA (kr_V0 (Qx := (fun A => kQi D (TY t) ((wmdF t h0 a0 0 (md_s d0) (md_aside d0) (md_base d0) (md_saved d0) (md_savedMany d0) (md_slots d0) (md_hasSlot d0) (md_text d0) (md_length d0) v6.2.1 v6.2.2.1 v6.2.2.2 (md_letters d0) (md_letterMany d0) (md_chunks d0) (md_chunkMany d0) (md_homes d0) (md_dropped d0) (md_madeIn d0) (md_madeAt d0) (md_putMany d0) (md_path d0) (md_store d0) (md_thinOnes d0))) v6.1 A)) (As := []) (rest := []) ⟨hx, hb, hml, hown, hts⟩ hK hP hD (c_X9_reads l D t h0 a0 (0, (md_s d0), (md_aside d0), (md_base d0), (md_saved d0), (md_savedMany d0), (md_slots d0), (md_hasSlot d0), (md_text d0), (md_length d0), (md_begins d0), (md_lengths d0), (md_streams d0), (md_letters d0), (md_letterMany d0), (md_chunks d0), (md_chunkMany d0), (md_homes d0), (md_dropped d0), (md_madeIn d0), (md_madeAt d0), (md_putMany d0), (md_path d0), (md_store d0), (md_thinOnes d0)) _  v6 e6) (cwV 0 hts (gcX9_reads w_184) rfl rfl rfl hdX9_readsV ⟨Nat.le_of_ble_eq_true rfl, Nat.le_of_ble_eq_true rfl⟩) (ci := 8) (q0 := 0) rfl rfl rfl hl.1 rfl (Nat.le_of_ble_eq_true rfl) (kd tdlX9_errorPosition_0 4 rfl) ⟨Nat.zero_le _, Nat.zero_le _⟩) (fun H locs hP hD hS => ?_)
  cases ko hF
  exact ke_i hx hb hr hlocks hK hP hD hS rfl (kd tdlX9_errorPosition_0 5 rfl)
set_option maxHeartbeats 4000000 in
set_option maxRecDepth 100000 in
theorem c_X9_isStream (l : Launch) (D : va_G) (t : Nat → ClassId) (h0 : Nat) (a0 : Nat → Nat) (d0 : MDT) (sz : Nat) (p1 : Int32) (r : Int32 × (Nat → Int32) × (Nat → Int32) × Int32) (hF : F_X9_isStream (md_text d0) (md_length d0) (md_begins d0) (md_lengths d0) (md_streams d0) p1 = some r) : Met l yX9_isStream wX9_isStream ({ frames := 2, cells := 0, slots := 0, locals := 45 } : Room) (kPc D (TY t) ((wmd t h0 a0 d0)) [.ref h0, .int p1] sz) (kQi D (TY t) ((wmd t h0 a0 ((md_thrown d0), (md_s d0), (md_aside d0), (md_base d0), (md_saved d0), (md_savedMany d0), (md_slots d0), (md_hasSlot d0), (md_text d0), (md_length d0), r.2.1, r.2.2.1, r.2.2.2, (md_letters d0), (md_letterMany d0), (md_chunks d0), (md_chunkMany d0), (md_homes d0), (md_dropped d0), (md_madeIn d0), (md_madeAt d0), (md_putMany d0), (md_path d0), (md_store d0), (md_thinOnes d0)))) r.1 (va_A ((wmd t h0 a0 d0)) sz)) 0 0 (va_A ((wmd t h0 a0 d0)) sz) := by
  refine kE (cc := cX9_isStream) (maxL := 2) (ret := (some .boolean)) (Qx := fun A => kQi D (TY t) ((wmd t h0 a0 ((md_thrown d0), (md_s d0), (md_aside d0), (md_base d0), (md_saved d0), (md_savedMany d0), (md_slots d0), (md_hasSlot d0), (md_text d0), (md_length d0), r.2.1, r.2.2.1, r.2.2.2, (md_letters d0), (md_letterMany d0), (md_chunks d0), (md_chunkMany d0), (md_homes d0), (md_dropped d0), (md_madeIn d0), (md_madeAt d0), (md_putMany d0), (md_path d0), (md_store d0), (md_thinOnes d0)))) r.1 A) (lv0 := [(0, .ref h0), (1, .int p1)]) RX9 rfl (by decide) rfl (Nat.le_of_ble_eq_true rfl) rfl ?_
  intro p e s m args below meth c A ls hx hb hml hr hlocks hown hts hA hK hP hD hS hl
  have L83 := hts (.fieldLink RX9 83 "ChunkCarriersModel" "streams" "I") (List.mem_cons_of_mem _ w_188)
  have inX9_ : ∀ w ∈ wsX90, w ∈ wX9_isStream := fun w h => List.mem_cons_of_mem _ (inlX9 w h)
  have hP : va_P D vwCl ((wmdF t h0 a0 (md_thrown d0) (md_s d0) (md_aside d0) (md_base d0) (md_saved d0) (md_savedMany d0) (md_slots d0) (md_hasSlot d0) (md_text d0) (md_length d0) (md_begins d0) (md_lengths d0) (md_streams d0) (md_letters d0) (md_letterMany d0) (md_chunks d0) (md_chunkMany d0) (md_homes d0) (md_dropped d0) (md_madeIn d0) (md_madeAt d0) (md_putMany d0) (md_path d0) (md_store d0) (md_thinOnes d0))) s.heap := hP
  have hD : va_D A ((wmdF t h0 a0 (md_thrown d0) (md_s d0) (md_aside d0) (md_base d0) (md_saved d0) (md_savedMany d0) (md_slots d0) (md_hasSlot d0) (md_text d0) (md_length d0) (md_begins d0) (md_lengths d0) (md_streams d0) (md_letters d0) (md_letterMany d0) (md_chunks d0) (md_chunkMany d0) (md_homes d0) (md_dropped d0) (md_madeIn d0) (md_madeAt d0) (md_putMany d0) (md_path d0) (md_store d0) (md_thinOnes d0))) := hD
  refine lv_aload_n hx hb (kd tdlX9_isStream_0 0 rfl) rfl (lv_at hl 0 rfl) ?_
  obtain ⟨v1, e1, hF⟩ := kc hF
  refine kc_i0 (w1 := ((wmdF t h0 a0 (md_thrown d0) (md_s d0) (md_aside d0) (md_base d0) (md_saved d0) (md_savedMany d0) (md_slots d0) (md_hasSlot d0) (md_text d0) (md_length d0) v1.2.1 v1.2.2.1 v1.2.2.2 (md_letters d0) (md_letterMany d0) (md_chunks d0) (md_chunkMany d0) (md_homes d0) (md_dropped d0) (md_madeIn d0) (md_madeAt d0) (md_putMany d0) (md_path d0) (md_store d0) (md_thinOnes d0)))) hP hD hS hA (kr_V0 (Qx := (fun A => kQi D (TY t) ((wmdF t h0 a0 (md_thrown d0) (md_s d0) (md_aside d0) (md_base d0) (md_saved d0) (md_savedMany d0) (md_slots d0) (md_hasSlot d0) (md_text d0) (md_length d0) v1.2.1 v1.2.2.1 v1.2.2.2 (md_letters d0) (md_letterMany d0) (md_chunks d0) (md_chunkMany d0) (md_homes d0) (md_dropped d0) (md_madeIn d0) (md_madeAt d0) (md_putMany d0) (md_path d0) (md_store d0) (md_thinOnes d0))) v1.1 A)) (As := []) (rest := []) ⟨hx, hb, hml, hown, hts⟩ hK hP hD (c_X9_reads l D t h0 a0 d0 _  v1 e1) (cwV 0 hts (gcX9_reads w_184) rfl rfl rfl hdX9_readsV ⟨Nat.le_of_ble_eq_true rfl, Nat.le_of_ble_eq_true rfl⟩) (ci := 8) (q0 := 0) rfl rfl rfl hl.1 rfl (Nat.le_of_ble_eq_true rfl) (kd tdlX9_isStream_0 1 rfl) ⟨Nat.zero_le _, Nat.zero_le _⟩) (fun H locs hP hD hS => ?_)
  refine lv_iconst (v := (-1)) hx hb (kd tdlX9_isStream_0 2 rfl) (by decide) ?_
  refine lv_icmp_ne (tgt := 26) hx hb (kd tdlX9_isStream_0 3 rfl) (by decide) (fun hc5 => ?_) (fun hc5 => ?_)
  · have hF := kf hc5 hF
    refine lv_iconst (v := 0) hx hb (kd tdlX9_isStream_0 14 rfl) (by decide) ?_
    cases ko hF
    exact ke_z hx hb hr hlocks rfl hK hP hD hS rfl (kd tdlX9_isStream_0 15 rfl)
  · have hF := kt hc5 hF
    refine lv_iload_n hx hb (kd tdlX9_isStream_0 4 rfl) rfl (lv_at hl 1 rfl) ?_
    refine lv_iconst (v := 0) hx hb (kd tdlX9_isStream_0 5 rfl) (by decide) ?_
    refine lv_aload_n hx hb (kd tdlX9_isStream_0 6 rfl) rfl (lv_at hl 0 rfl) ?_
    refine md_g_streams hx hb hts inX9_ hown hK hP L83 (kd tdlX9_isStream_0 7 rfl) ?_
    refine lv_iconst (v := 1) hx hb (kd tdlX9_isStream_0 8 rfl) (by decide) ?_
    refine lv_isub hx hb (kd tdlX9_isStream_0 9 rfl) ?_
    obtain ⟨v16, e16, hF⟩ := kc hF
    refine kc_iR hK hP hD hS hA [] rfl (kr_S (Qx := (fun A => kQi D (TY t) ([] : va_W) v16 A)) (wc := ([] : va_W)) (As := [.int p1, .int 0, .int (v1.2.2.2 - 1)]) (rest := []) ⟨hx, hb, hml, hown, hts⟩ hK hP hD [] nd_ rfl (c_X9_in l D t  _ p1 0 (v1.2.2.2 - 1) v16 e16) (va_cwS 3 hts (gcX9_in w_150) rfl rfl rfl hdX9_inS ⟨Nat.le_of_ble_eq_true rfl, Nat.le_of_ble_eq_true rfl⟩) rfl hl.1 rfl (Nat.le_of_ble_eq_true rfl) (kd tdlX9_isStream_0 10 rfl) ⟨Nat.zero_le _, Nat.zero_le _⟩) (fun H locs hP hS => ?_)
    refine lv_if_eq (tgt := 26) hx hb (kd tdlX9_isStream_0 11 rfl) (by decide) (fun hc19 => ?_) (fun hc19 => ?_)
    · have hF := kt hc19 hF
      refine lv_iconst (v := 0) hx hb (kd tdlX9_isStream_0 14 rfl) (by decide) ?_
      cases ko hF
      exact ke_z hx hb hr hlocks rfl hK hP hD hS rfl (kd tdlX9_isStream_0 15 rfl)
    · have hF := kf hc19 hF
      refine lv_iconst (v := 1) hx hb (kd tdlX9_isStream_0 12 rfl) (by decide) ?_
      refine lv_goto (tgt := 27) hx hb (kd tdlX9_isStream_0 13 rfl) (by decide) ?_
      cases ko hF
      exact ke_z hx hb hr hlocks rfl hK hP hD hS rfl (kd tdlX9_isStream_0 15 rfl)
set_option maxHeartbeats 4000000 in
set_option maxRecDepth 100000 in
theorem c_X9_cuts (l : Launch) (D : va_G) (t : Nat → ClassId) (h0 : Nat) (a0 : Nat → Nat) (d0 : MDT) (sz : Nat)  (r : (Nat → Int32) × Int32) (hF : F_X9_cuts (md_s d0) (md_letters d0) (md_letterMany d0) (md_chunks d0) (md_chunkMany d0) = some r) : Met l yX9_cuts wX9_cuts ({ frames := 0, cells := 0, slots := 0, locals := 0 } : Room) (kPc D (TY t) ((wmd t h0 a0 d0)) [.ref h0] sz) (kQv D (TY t) ((wmd t h0 a0 ((md_thrown d0), (md_s d0), (md_aside d0), (md_base d0), (md_saved d0), (md_savedMany d0), (md_slots d0), (md_hasSlot d0), (md_text d0), (md_length d0), (md_begins d0), (md_lengths d0), (md_streams d0), (md_letters d0), (md_letterMany d0), r.1, r.2, (md_homes d0), (md_dropped d0), (md_madeIn d0), (md_madeAt d0), (md_putMany d0), (md_path d0), (md_store d0), (md_thinOnes d0)))) (va_A ((wmd t h0 a0 d0)) sz)) 0 0 (va_A ((wmd t h0 a0 d0)) sz) := by
  refine kE (cc := cX9_cuts) (maxL := 5) (ret := none) (Qx := fun A => kQv D (TY t) ((wmd t h0 a0 ((md_thrown d0), (md_s d0), (md_aside d0), (md_base d0), (md_saved d0), (md_savedMany d0), (md_slots d0), (md_hasSlot d0), (md_text d0), (md_length d0), (md_begins d0), (md_lengths d0), (md_streams d0), (md_letters d0), (md_letterMany d0), r.1, r.2, (md_homes d0), (md_dropped d0), (md_madeIn d0), (md_madeAt d0), (md_putMany d0), (md_path d0), (md_store d0), (md_thinOnes d0)))) A) (lv0 := [(0, .ref h0)]) RX9 rfl (by decide) rfl (Nat.le_of_ble_eq_true rfl) rfl ?_
  intro p e s m args below meth c A ls hx hb hml hr hlocks hown hts hA hK hP hD hS hl
  have L38 := hts (.fieldLink RX9 38 "ChunkCarriersModel" "letters" "[I") (List.mem_cons_of_mem _ w_110)
  have L41 := hts (.fieldLink RX9 41 "ChunkCarriersModel" "chunks" "[I") (List.mem_cons_of_mem _ w_111)
  have L7 := hts (.fieldLink RX9 7 "ChunkCarriersModel" "s" "[I") (List.mem_cons_of_mem _ w_101)
  have L90 := hts (.fieldLink RX9 90 "ChunkCarriersModel" "letterMany" "I") (List.mem_cons_of_mem _ w_284)
  have L96 := hts (.fieldLink RX9 96 "ChunkCarriersModel" "chunkMany" "I") (List.mem_cons_of_mem _ w_275)
  have inX9_ : ∀ w ∈ wsX90, w ∈ wX9_cuts := fun w h => List.mem_cons_of_mem _ (inlX9 w h)
  have hP : va_P D vwCl ((wmdF t h0 a0 (md_thrown d0) (md_s d0) (md_aside d0) (md_base d0) (md_saved d0) (md_savedMany d0) (md_slots d0) (md_hasSlot d0) (md_text d0) (md_length d0) (md_begins d0) (md_lengths d0) (md_streams d0) (md_letters d0) (md_letterMany d0) (md_chunks d0) (md_chunkMany d0) (md_homes d0) (md_dropped d0) (md_madeIn d0) (md_madeAt d0) (md_putMany d0) (md_path d0) (md_store d0) (md_thinOnes d0))) s.heap := hP
  have hD : va_D A ((wmdF t h0 a0 (md_thrown d0) (md_s d0) (md_aside d0) (md_base d0) (md_saved d0) (md_savedMany d0) (md_slots d0) (md_hasSlot d0) (md_text d0) (md_length d0) (md_begins d0) (md_lengths d0) (md_streams d0) (md_letters d0) (md_letterMany d0) (md_chunks d0) (md_chunkMany d0) (md_homes d0) (md_dropped d0) (md_madeIn d0) (md_madeAt d0) (md_putMany d0) (md_path d0) (md_store d0) (md_thinOnes d0))) := hD
  refine lv_aload_n hx hb (kd tdlX9_cuts_0 0 rfl) rfl (lv_at hl 0 rfl) ?_
  refine lv_iconst (v := 0) hx hb (kd tdlX9_cuts_0 1 rfl) (by decide) ?_
  refine md_p_chunkMany hx hb hts inX9_ hown hK hP hD hS L96 (kd tdlX9_cuts_0 2 rfl) (fun H locs hP hD hS => ?_)
  refine lv_iconst (v := 0) hx hb (kd tdlX9_cuts_0 3 rfl) (by decide) ?_
  refine lv_istore_n (lv' := [(1, .int 0), (0, .ref h0)]) hx hb (kd tdlX9_cuts_0 4 rfl) rfl hl (by decide) rfl (fun ls hl => ?_)
  refine lv_iconst (v := 0) hx hb (kd tdlX9_cuts_0 5 rfl) (by decide) ?_
  refine lv_istore_n (lv' := [(2, .int 0), (1, .int 0), (0, .ref h0)]) hx hb (kd tdlX9_cuts_0 6 rfl) rfl hl (by decide) rfl (fun ls hl => ?_)
  refine lv_iconst (v := 0) hx hb (kd tdlX9_cuts_0 7 rfl) (by decide) ?_
  refine lv_istore_n (lv' := [(3, .int 0), (2, .int 0), (1, .int 0), (0, .ref h0)]) hx hb (kd tdlX9_cuts_0 8 rfl) rfl hl (by decide) rfl (fun ls hl => ?_)
  refine lp_ind (f := B_X9_cuts_11 (md_letterMany d0) (md_letters d0) (md_s d0)) (r := r) (P := fun s11_ => ∀ (H : Heap) (locs : List Loc) (ls : Array Slot), va_P D vwCl ((wmdF t h0 a0 (md_thrown d0) (md_s d0) (md_aside d0) (md_base d0) (md_saved d0) (md_savedMany d0) (md_slots d0) (md_hasSlot d0) (md_text d0) (md_length d0) (md_begins d0) (md_lengths d0) (md_streams d0) (md_letters d0) (md_letterMany d0) s11_.2.2.2.1 s11_.2.2.2.2 (md_homes d0) (md_dropped d0) (md_madeIn d0) (md_madeAt d0) (md_putMany d0) (md_path d0) (md_store d0) (md_thinOnes d0))) H → va_D A ((wmdF t h0 a0 (md_thrown d0) (md_s d0) (md_aside d0) (md_base d0) (md_saved d0) (md_savedMany d0) (md_slots d0) (md_hasSlot d0) (md_text d0) (md_length d0) (md_begins d0) (md_lengths d0) (md_streams d0) (md_letters d0) (md_letterMany d0) s11_.2.2.2.1 s11_.2.2.2.2 (md_homes d0) (md_dropped d0) (md_madeIn d0) (md_madeAt d0) (md_putMany d0) (md_path d0) (md_store d0) (md_thinOnes d0))) → va_S A s.heap H locs → lv_has ls 5 [(0, .ref h0), (1, .int s11_.1), (2, .int s11_.2.1), (3, .int s11_.2.2.1)] → W p l e ({ frames := 0, cells := 0, slots := 0, locals := 0 } : Room) s m args below meth c H locs 0 0 (MQ below (kQv D (TY t) ((wmd t h0 a0 ((md_thrown d0), (md_s d0), (md_aside d0), (md_base d0), (md_saved d0), (md_savedMany d0), (md_slots d0), (md_hasSlot d0), (md_text d0), (md_length d0), (md_begins d0), (md_lengths d0), (md_streams d0), (md_letters d0), (md_letterMany d0), r.1, r.2, (md_homes d0), (md_dropped d0), (md_madeIn d0), (md_madeAt d0), (md_putMany d0), (md_path d0), (md_store d0), (md_thinOnes d0)))) A) args s 0 0 A) (F0 m 11 ls [])) ?_ FU (0, 0, 0, (md_chunks d0), 0) hF _ _ _ hP hD hS (lv_sub hl [3, 2, 1, 0] rfl)
  intro self11 ih11 s11_ hF H locs ls hP hD hS hl
  refine lv_iload_n hx hb (kd tdlX9_cuts_0 9 rfl) rfl (lv_at hl 3 rfl) ?_
  refine lv_aload_n hx hb (kd tdlX9_cuts_0 10 rfl) rfl (lv_at hl 0 rfl) ?_
  refine md_g_letterMany hx hb hts inX9_ hown hK hP L90 (kd tdlX9_cuts_0 11 rfl) ?_
  refine lv_icmp_ge (tgt := 122) hx hb (kd tdlX9_cuts_0 12 rfl) (by decide) (fun hc16 => ?_) (fun hc16 => ?_)
  · have hF := kt hc16 hF
    cases ko hF
    exact ke_v hx hb hr hlocks hK hP hD hS (kd tdlX9_cuts_1 31 rfl)
  · have hF := kf hc16 hF
    refine lv_bipush (v := 9) hx hb (kd tdlX9_cuts_0 13 rfl) (by decide) ?_
    refine lv_iload_n hx hb (kd tdlX9_cuts_0 14 rfl) rfl (lv_at hl 1 rfl) ?_
    refine lv_imul hx hb (kd tdlX9_cuts_0 15 rfl) ?_
    refine lv_aload_n hx hb (kd tdlX9_cuts_0 16 rfl) rfl (lv_at hl 0 rfl) ?_
    refine md_g_letters hx hb hts inX9_ hown hK hP L38 (kd tdlX9_cuts_0 17 rfl) ?_
    refine lv_iload_n hx hb (kd tdlX9_cuts_0 18 rfl) rfl (lv_at hl 3 rfl) ?_
    obtain ⟨hi28, hF⟩ := kg hF
    refine md_l_letters hx hb hK hP hi28 (kd tdlX9_cuts_0 19 rfl) ?_
    refine lv_iadd hx hb (kd tdlX9_cuts_0 20 rfl) ?_
    refine lv_istore_n (lv' := [(1, .int ((9 * s11_.1) + ((md_letters d0) (Int32.toNatClampNeg s11_.2.2.1)))), (0, .ref h0), (2, .int s11_.2.1), (3, .int s11_.2.2.1)]) hx hb (kd tdlX9_cuts_0 21 rfl) rfl hl (by decide) rfl (fun ls hl => ?_)
    refine lv_iinc (v := (s11_.2.1 + 1)) (lv' := [(2, .int (s11_.2.1 + 1)), (1, .int ((9 * s11_.1) + ((md_letters d0) (Int32.toNatClampNeg s11_.2.2.1)))), (0, .ref h0), (3, .int s11_.2.2.1)]) hx hb (kd tdlX9_cuts_0 22 rfl) hl (k := 2) rfl rfl (by decide) rfl (fun ls hl => ?_)
    refine lv_iload_n hx hb (kd tdlX9_cuts_0 23 rfl) rfl (lv_at hl 0 rfl) ?_
    refine lv_iconst (v := 1) hx hb (kd tdlX9_cuts_0 24 rfl) (by decide) ?_
    have hJ69 : ∀ j69 : Int32, J_X9_cuts_69 s11_ self11 (md_letters d0) (md_letterMany d0) j69 = some r → ∀ (H : Heap) (locs : List Loc) (ls : Array Slot), va_P D vwCl ((wmdF t h0 a0 (md_thrown d0) (md_s d0) (md_aside d0) (md_base d0) (md_saved d0) (md_savedMany d0) (md_slots d0) (md_hasSlot d0) (md_text d0) (md_length d0) (md_begins d0) (md_lengths d0) (md_streams d0) (md_letters d0) (md_letterMany d0) s11_.2.2.2.1 s11_.2.2.2.2 (md_homes d0) (md_dropped d0) (md_madeIn d0) (md_madeAt d0) (md_putMany d0) (md_path d0) (md_store d0) (md_thinOnes d0))) H → va_D A ((wmdF t h0 a0 (md_thrown d0) (md_s d0) (md_aside d0) (md_base d0) (md_saved d0) (md_savedMany d0) (md_slots d0) (md_hasSlot d0) (md_text d0) (md_length d0) (md_begins d0) (md_lengths d0) (md_streams d0) (md_letters d0) (md_letterMany d0) s11_.2.2.2.1 s11_.2.2.2.2 (md_homes d0) (md_dropped d0) (md_madeIn d0) (md_madeAt d0) (md_putMany d0) (md_path d0) (md_store d0) (md_thinOnes d0))) → va_S A s.heap H locs → lv_has ls 5 [(0, .ref h0), (1, .int ((9 * s11_.1) + ((md_letters d0) (Int32.toNatClampNeg s11_.2.2.1)))), (2, .int (s11_.2.1 + 1)), (3, .int s11_.2.2.1)] → W p l e ({ frames := 0, cells := 0, slots := 0, locals := 0 } : Room) s m args below meth c H locs 0 0 (MQ below (kQv D (TY t) ((wmd t h0 a0 ((md_thrown d0), (md_s d0), (md_aside d0), (md_base d0), (md_saved d0), (md_savedMany d0), (md_slots d0), (md_hasSlot d0), (md_text d0), (md_length d0), (md_begins d0), (md_lengths d0), (md_streams d0), (md_letters d0), (md_letterMany d0), r.1, r.2, (md_homes d0), (md_dropped d0), (md_madeIn d0), (md_madeAt d0), (md_putMany d0), (md_path d0), (md_store d0), (md_thinOnes d0)))) A) args s 0 0 A) (F0 m 69 ls [.int j69]) := by
      intro j69 hF H locs ls hP hD hS hl
      refine lv_istore (lv' := [(4, .int j69), (0, .ref h0), (1, .int ((9 * s11_.1) + ((md_letters d0) (Int32.toNatClampNeg s11_.2.2.1)))), (2, .int (s11_.2.1 + 1)), (3, .int s11_.2.2.1)]) hx hb (kd tdlX9_cuts_1 1 rfl) hl (by decide) rfl (fun ls hl => ?_)
      refine lv_iload hx hb (kd tdlX9_cuts_1 2 rfl) (lv_at hl 0 rfl) ?_
      have hJ92 : ∀ j92 : Unit, J_X9_cuts_92 s11_ self11 (md_letters d0) j92 = some r → ∀ (H : Heap) (locs : List Loc) (ls : Array Slot), va_P D vwCl ((wmdF t h0 a0 (md_thrown d0) (md_s d0) (md_aside d0) (md_base d0) (md_saved d0) (md_savedMany d0) (md_slots d0) (md_hasSlot d0) (md_text d0) (md_length d0) (md_begins d0) (md_lengths d0) (md_streams d0) (md_letters d0) (md_letterMany d0) s11_.2.2.2.1 s11_.2.2.2.2 (md_homes d0) (md_dropped d0) (md_madeIn d0) (md_madeAt d0) (md_putMany d0) (md_path d0) (md_store d0) (md_thinOnes d0))) H → va_D A ((wmdF t h0 a0 (md_thrown d0) (md_s d0) (md_aside d0) (md_base d0) (md_saved d0) (md_savedMany d0) (md_slots d0) (md_hasSlot d0) (md_text d0) (md_length d0) (md_begins d0) (md_lengths d0) (md_streams d0) (md_letters d0) (md_letterMany d0) s11_.2.2.2.1 s11_.2.2.2.2 (md_homes d0) (md_dropped d0) (md_madeIn d0) (md_madeAt d0) (md_putMany d0) (md_path d0) (md_store d0) (md_thinOnes d0))) → va_S A s.heap H locs → lv_has ls 5 [(0, .ref h0), (1, .int ((9 * s11_.1) + ((md_letters d0) (Int32.toNatClampNeg s11_.2.2.1)))), (3, .int s11_.2.2.1)] → W p l e ({ frames := 0, cells := 0, slots := 0, locals := 0 } : Room) s m args below meth c H locs 0 0 (MQ below (kQv D (TY t) ((wmd t h0 a0 ((md_thrown d0), (md_s d0), (md_aside d0), (md_base d0), (md_saved d0), (md_savedMany d0), (md_slots d0), (md_hasSlot d0), (md_text d0), (md_length d0), (md_begins d0), (md_lengths d0), (md_streams d0), (md_letters d0), (md_letterMany d0), r.1, r.2, (md_homes d0), (md_dropped d0), (md_madeIn d0), (md_madeAt d0), (md_putMany d0), (md_path d0), (md_store d0), (md_thinOnes d0)))) A) args s 0 0 A) (F0 m 92 ls []) := by
        intro j92 hF H locs ls hP hD hS hl
        refine lv_aload_n hx hb (kd tdlX9_cuts_1 13 rfl) rfl (lv_at hl 0 rfl) ?_
        refine md_g_chunks hx hb hts inX9_ hown hK hP L41 (kd tdlX9_cuts_1 14 rfl) ?_
        refine lv_aload_n hx hb (kd tdlX9_cuts_1 15 rfl) rfl (lv_at hl 0 rfl) ?_
        refine md_g_chunkMany hx hb hts inX9_ hown hK hP L96 (kd tdlX9_cuts_1 16 rfl) ?_
        refine lv_iload_n hx hb (kd tdlX9_cuts_1 17 rfl) rfl (lv_at hl 1 rfl) ?_
        obtain ⟨hi101, hF⟩ := kg hF
        refine md_s_chunks hx hb hK hP hD hS hi101 (kd tdlX9_cuts_1 18 rfl) (fun H locs hP hD hS => ?_)
        refine lv_aload_n hx hb (kd tdlX9_cuts_1 19 rfl) rfl (lv_at hl 0 rfl) ?_
        refine lv_dup hx hb (kd tdlX9_cuts_1 20 rfl) rfl ?_
        refine md_g_chunkMany hx hb hts inX9_ hown hK hP L96 (kd tdlX9_cuts_1 21 rfl) ?_
        refine lv_iconst (v := 1) hx hb (kd tdlX9_cuts_1 22 rfl) (by decide) ?_
        refine lv_iadd hx hb (kd tdlX9_cuts_1 23 rfl) ?_
        refine md_p_chunkMany hx hb hts inX9_ hown hK hP hD hS L96 (kd tdlX9_cuts_1 24 rfl) (fun H locs hP hD hS => ?_)
        refine lv_iconst (v := 0) hx hb (kd tdlX9_cuts_1 25 rfl) (by decide) ?_
        refine lv_istore_n (lv' := [(1, .int 0), (0, .ref h0), (3, .int s11_.2.2.1)]) hx hb (kd tdlX9_cuts_1 26 rfl) rfl hl (by decide) rfl (fun ls hl => ?_)
        refine lv_iconst (v := 0) hx hb (kd tdlX9_cuts_1 27 rfl) (by decide) ?_
        refine lv_istore_n (lv' := [(2, .int 0), (1, .int 0), (0, .ref h0), (3, .int s11_.2.2.1)]) hx hb (kd tdlX9_cuts_1 28 rfl) rfl hl (by decide) rfl (fun ls hl => ?_)
        refine lv_iinc (v := (s11_.2.2.1 + 1)) (lv' := [(3, .int (s11_.2.2.1 + 1)), (2, .int 0), (1, .int 0), (0, .ref h0)]) hx hb (kd tdlX9_cuts_1 29 rfl) hl (k := 3) rfl rfl (by decide) rfl (fun ls hl => ?_)
        refine lv_goto (tgt := 11) hx hb (kd tdlX9_cuts_1 30 rfl) (by decide) ?_
        exact ih11 (0, 0, (s11_.2.2.1 + 1), (upd s11_.2.2.2.1 (Int32.toNatClampNeg s11_.2.2.2.2) ((9 * s11_.1) + ((md_letters d0) (Int32.toNatClampNeg s11_.2.2.1)))), (s11_.2.2.2.2 + 1)) hF _ _ _ hP hD hS (lv_sub hl [3, 2, 1, 0] rfl)
      refine lv_if_ne (tgt := 92) hx hb (kd tdlX9_cuts_1 3 rfl) (by decide) (fun hc73 => ?_) (fun hc73 => ?_)
      · have hF := kf hc73 hF
        exact hJ92 () hF _ _ _ hP hD hS (lv_sub hl [1, 2, 4] rfl)
      · have hF := kt hc73 hF
        refine lv_iload_n hx hb (kd tdlX9_cuts_1 4 rfl) rfl (lv_at hl 3 rfl) ?_
        refine lv_bipush (v := 6) hx hb (kd tdlX9_cuts_1 5 rfl) (by decide) ?_
        refine lv_icmp_eq (tgt := 92) hx hb (kd tdlX9_cuts_1 6 rfl) (by decide) (fun hc79 => ?_) (fun hc79 => ?_)
        · have hF := kt hc79 hF
          exact hJ92 () hF _ _ _ hP hD hS (lv_sub hl [1, 2, 4] rfl)
        · have hF := kf hc79 hF
          refine lv_iload_n hx hb (kd tdlX9_cuts_1 7 rfl) rfl (lv_at hl 4 rfl) ?_
          refine lv_aload_n hx hb (kd tdlX9_cuts_1 8 rfl) rfl (lv_at hl 1 rfl) ?_
          refine md_g_letterMany hx hb hts inX9_ hown hK hP L90 (kd tdlX9_cuts_1 9 rfl) ?_
          refine lv_iconst (v := 1) hx hb (kd tdlX9_cuts_1 10 rfl) (by decide) ?_
          refine lv_isub hx hb (kd tdlX9_cuts_1 11 rfl) ?_
          refine lv_icmp_ne (tgt := 116) hx hb (kd tdlX9_cuts_1 12 rfl) (by decide) (fun hc89 => ?_) (fun hc89 => ?_)
          · have hF := kf hc89 hF
            refine lv_iinc (v := (s11_.2.2.1 + 1)) (lv' := [(3, .int (s11_.2.2.1 + 1)), (4, .int j69), (0, .ref h0), (1, .int ((9 * s11_.1) + ((md_letters d0) (Int32.toNatClampNeg s11_.2.2.1)))), (2, .int (s11_.2.1 + 1))]) hx hb (kd tdlX9_cuts_1 29 rfl) hl (k := 4) rfl rfl (by decide) rfl (fun ls hl => ?_)
            refine lv_goto (tgt := 11) hx hb (kd tdlX9_cuts_1 30 rfl) (by decide) ?_
            exact ih11 (((9 * s11_.1) + ((md_letters d0) (Int32.toNatClampNeg s11_.2.2.1))), (s11_.2.1 + 1), (s11_.2.2.1 + 1), s11_.2.2.2.1, s11_.2.2.2.2) hF _ _ _ hP hD hS (lv_sub hl [2, 3, 4, 0] rfl)
          · have hF := kt hc89 hF
            exact hJ92 () hF _ _ _ hP hD hS (lv_sub hl [1, 2, 4] rfl)
    have hJ68 : ∀ j68 : Unit, J_X9_cuts_68 s11_ self11 (md_letters d0) (md_letterMany d0) j68 = some r → ∀ (H : Heap) (locs : List Loc) (ls : Array Slot), va_P D vwCl ((wmdF t h0 a0 (md_thrown d0) (md_s d0) (md_aside d0) (md_base d0) (md_saved d0) (md_savedMany d0) (md_slots d0) (md_hasSlot d0) (md_text d0) (md_length d0) (md_begins d0) (md_lengths d0) (md_streams d0) (md_letters d0) (md_letterMany d0) s11_.2.2.2.1 s11_.2.2.2.2 (md_homes d0) (md_dropped d0) (md_madeIn d0) (md_madeAt d0) (md_putMany d0) (md_path d0) (md_store d0) (md_thinOnes d0))) H → va_D A ((wmdF t h0 a0 (md_thrown d0) (md_s d0) (md_aside d0) (md_base d0) (md_saved d0) (md_savedMany d0) (md_slots d0) (md_hasSlot d0) (md_text d0) (md_length d0) (md_begins d0) (md_lengths d0) (md_streams d0) (md_letters d0) (md_letterMany d0) s11_.2.2.2.1 s11_.2.2.2.2 (md_homes d0) (md_dropped d0) (md_madeIn d0) (md_madeAt d0) (md_putMany d0) (md_path d0) (md_store d0) (md_thinOnes d0))) → va_S A s.heap H locs → lv_has ls 5 [(0, .ref h0), (1, .int ((9 * s11_.1) + ((md_letters d0) (Int32.toNatClampNeg s11_.2.2.1)))), (2, .int (s11_.2.1 + 1)), (3, .int s11_.2.2.1)] → W p l e ({ frames := 0, cells := 0, slots := 0, locals := 0 } : Room) s m args below meth c H locs 0 0 (MQ below (kQv D (TY t) ((wmd t h0 a0 ((md_thrown d0), (md_s d0), (md_aside d0), (md_base d0), (md_saved d0), (md_savedMany d0), (md_slots d0), (md_hasSlot d0), (md_text d0), (md_length d0), (md_begins d0), (md_lengths d0), (md_streams d0), (md_letters d0), (md_letterMany d0), r.1, r.2, (md_homes d0), (md_dropped d0), (md_madeIn d0), (md_madeAt d0), (md_putMany d0), (md_path d0), (md_store d0), (md_thinOnes d0)))) A) args s 0 0 A) (F0 m 68 ls []) := by
      intro j68 hF H locs ls hP hD hS hl
      refine lv_iconst (v := 0) hx hb (kd tdlX9_cuts_1 0 rfl) (by decide) ?_
      exact hJ69 (0) hF _ _ _ hP hD hS (lv_sub hl [0, 1, 2, 3] rfl)
    refine lv_icmp_le (tgt := 68) hx hb (kd tdlX9_cuts_0 25 rfl) (by decide) (fun hc36 => ?_) (fun hc36 => ?_)
    · have hF := kt hc36 hF
      exact hJ68 () hF _ _ _ hP hD hS (lv_sub hl [2, 1, 0, 3] rfl)
    · have hF := kf hc36 hF
      refine lv_aload_n hx hb (kd tdlX9_cuts_0 26 rfl) rfl (lv_at hl 2 rfl) ?_
      refine md_g_letters hx hb hts inX9_ hown hK hP L38 (kd tdlX9_cuts_0 27 rfl) ?_
      refine lv_iload_n hx hb (kd tdlX9_cuts_0 28 rfl) rfl (lv_at hl 3 rfl) ?_
      refine lv_iconst (v := 1) hx hb (kd tdlX9_cuts_0 29 rfl) (by decide) ?_
      refine lv_isub hx hb (kd tdlX9_cuts_0 30 rfl) ?_
      obtain ⟨hi46, hF⟩ := kg hF
      refine md_l_letters hx hb hK hP hi46 (kd tdlX9_cuts_0 31 rfl) ?_
      refine lv_aload_n hx hb (kd tdlX9_cuts_0 32 rfl) rfl (lv_at hl 2 rfl) ?_
      refine md_g_letters hx hb hts inX9_ hown hK hP L38 (kd tdlX9_cuts_0 33 rfl) ?_
      refine lv_iload_n hx hb (kd tdlX9_cuts_0 34 rfl) rfl (lv_at hl 3 rfl) ?_
      obtain ⟨hi52, hF⟩ := kg hF
      refine md_l_letters hx hb hK hP hi52 (kd tdlX9_cuts_0 35 rfl) ?_
      refine lv_iadd hx hb (kd tdlX9_cuts_0 36 rfl) ?_
      refine lv_aload_n hx hb (kd tdlX9_cuts_0 37 rfl) rfl (lv_at hl 2 rfl) ?_
      refine md_g_s hx hb hts inX9_ hown hK hP L7 (kd tdlX9_cuts_0 38 rfl) ?_
      refine lv_iconst (v := 0) hx hb (kd tdlX9_cuts_0 39 rfl) (by decide) ?_
      obtain ⟨hi59, hF⟩ := kg hF
      refine md_l_s hx hb hK hP hi59 (kd tdlX9_cuts_0 40 rfl) ?_
      obtain ⟨hz60, hF⟩ := kgz hF
      refine lv_irem hx hb (kd tdlX9_cuts_0 41 rfl) hz60 ?_
      refine lv_if_ne (tgt := 68) hx hb (kd tdlX9_cuts_0 42 rfl) (by decide) (fun hc61 => ?_) (fun hc61 => ?_)
      · have hF := kf hc61 hF
        exact hJ68 () hF _ _ _ hP hD hS (lv_sub hl [2, 1, 0, 3] rfl)
      · have hF := kt hc61 hF
        refine lv_iconst (v := 1) hx hb (kd tdlX9_cuts_0 43 rfl) (by decide) ?_
        refine lv_goto (tgt := 69) hx hb (kd tdlX9_cuts_0 44 rfl) (by decide) ?_
        exact hJ69 (1) hF _ _ _ hP hD hS (lv_sub hl [2, 1, 0, 3] rfl)
set_option maxHeartbeats 4000000 in
set_option maxRecDepth 100000 in
theorem c_X9_laysStream (l : Launch) (D : va_G) (t : Nat → ClassId) (h0 : Nat) (a0 : Nat → Nat) (d0 : MDT) (sz : Nat) (p1 : Int32) (r : (Nat → Int32) × Int32 × (Nat → Int32) × Int32) (hF : F_X9_laysStream (md_s d0) (md_text d0) (md_begins d0) (md_lengths d0) (md_letters d0) (md_letterMany d0) (md_chunks d0) (md_chunkMany d0) p1 = some r) : Met l yX9_laysStream wX9_laysStream ({ frames := 1, cells := 0, slots := 0, locals := 24 } : Room) (kPc D (TY t) ((wmd t h0 a0 d0)) [.ref h0, .int p1] sz) (kQv D (TY t) ((wmd t h0 a0 ((md_thrown d0), (md_s d0), (md_aside d0), (md_base d0), (md_saved d0), (md_savedMany d0), (md_slots d0), (md_hasSlot d0), (md_text d0), (md_length d0), (md_begins d0), (md_lengths d0), (md_streams d0), r.1, r.2.1, r.2.2.1, r.2.2.2, (md_homes d0), (md_dropped d0), (md_madeIn d0), (md_madeAt d0), (md_putMany d0), (md_path d0), (md_store d0), (md_thinOnes d0)))) (va_A ((wmd t h0 a0 d0)) sz)) 0 0 (va_A ((wmd t h0 a0 d0)) sz) := by
  refine kE (cc := cX9_laysStream) (maxL := 3) (ret := none) (Qx := fun A => kQv D (TY t) ((wmd t h0 a0 ((md_thrown d0), (md_s d0), (md_aside d0), (md_base d0), (md_saved d0), (md_savedMany d0), (md_slots d0), (md_hasSlot d0), (md_text d0), (md_length d0), (md_begins d0), (md_lengths d0), (md_streams d0), r.1, r.2.1, r.2.2.1, r.2.2.2, (md_homes d0), (md_dropped d0), (md_madeIn d0), (md_madeAt d0), (md_putMany d0), (md_path d0), (md_store d0), (md_thinOnes d0)))) A) (lv0 := [(0, .ref h0), (1, .int p1)]) RX9 rfl (by decide) rfl (Nat.le_of_ble_eq_true rfl) rfl ?_
  intro p e s m args below meth c A ls hx hb hml hr hlocks hown hts hA hK hP hD hS hl
  have L29 := hts (.fieldLink RX9 29 "ChunkCarriersModel" "text" "[I") (List.mem_cons_of_mem _ w_107)
  have L32 := hts (.fieldLink RX9 32 "ChunkCarriersModel" "begins" "[I") (List.mem_cons_of_mem _ w_108)
  have L35 := hts (.fieldLink RX9 35 "ChunkCarriersModel" "lengths" "[I") (List.mem_cons_of_mem _ w_109)
  have L38 := hts (.fieldLink RX9 38 "ChunkCarriersModel" "letters" "[I") (List.mem_cons_of_mem _ w_110)
  have L90 := hts (.fieldLink RX9 90 "ChunkCarriersModel" "letterMany" "I") (List.mem_cons_of_mem _ w_284)
  have inX9_ : ∀ w ∈ wsX90, w ∈ wX9_laysStream := fun w h => List.mem_cons_of_mem _ (inlX9 w h)
  have hP : va_P D vwCl ((wmdF t h0 a0 (md_thrown d0) (md_s d0) (md_aside d0) (md_base d0) (md_saved d0) (md_savedMany d0) (md_slots d0) (md_hasSlot d0) (md_text d0) (md_length d0) (md_begins d0) (md_lengths d0) (md_streams d0) (md_letters d0) (md_letterMany d0) (md_chunks d0) (md_chunkMany d0) (md_homes d0) (md_dropped d0) (md_madeIn d0) (md_madeAt d0) (md_putMany d0) (md_path d0) (md_store d0) (md_thinOnes d0))) s.heap := hP
  have hD : va_D A ((wmdF t h0 a0 (md_thrown d0) (md_s d0) (md_aside d0) (md_base d0) (md_saved d0) (md_savedMany d0) (md_slots d0) (md_hasSlot d0) (md_text d0) (md_length d0) (md_begins d0) (md_lengths d0) (md_streams d0) (md_letters d0) (md_letterMany d0) (md_chunks d0) (md_chunkMany d0) (md_homes d0) (md_dropped d0) (md_madeIn d0) (md_madeAt d0) (md_putMany d0) (md_path d0) (md_store d0) (md_thinOnes d0))) := hD
  refine lv_aload_n hx hb (kd tdlX9_laysStream_0 0 rfl) rfl (lv_at hl 0 rfl) ?_
  refine lv_aload_n hx hb (kd tdlX9_laysStream_0 1 rfl) rfl (lv_at hl 0 rfl) ?_
  refine md_g_lengths hx hb hts inX9_ hown hK hP L35 (kd tdlX9_laysStream_0 2 rfl) ?_
  refine lv_iload_n hx hb (kd tdlX9_laysStream_0 3 rfl) rfl (lv_at hl 1 rfl) ?_
  obtain ⟨hi6, hF⟩ := kg hF
  refine md_l_lengths hx hb hK hP hi6 (kd tdlX9_laysStream_0 4 rfl) ?_
  refine md_p_letterMany hx hb hts inX9_ hown hK hP hD hS L90 (kd tdlX9_laysStream_0 5 rfl) (fun H locs hP hD hS => ?_)
  refine lv_iconst (v := 0) hx hb (kd tdlX9_laysStream_0 6 rfl) (by decide) ?_
  refine lv_istore_n (lv' := [(2, .int 0), (0, .ref h0), (1, .int p1)]) hx hb (kd tdlX9_laysStream_0 7 rfl) rfl hl (by decide) rfl (fun ls hl => ?_)
  have hK50 : ∀ k50 : (Nat → Int32), K_X9_laysStream_50 (md_s d0) (md_lengths d0) p1 (md_chunks d0) (md_chunkMany d0) k50 = some r → ∀ (H : Heap) (locs : List Loc) (ls : Array Slot), va_P D vwCl ((wmdF t h0 a0 (md_thrown d0) (md_s d0) (md_aside d0) (md_base d0) (md_saved d0) (md_savedMany d0) (md_slots d0) (md_hasSlot d0) (md_text d0) (md_length d0) (md_begins d0) (md_lengths d0) (md_streams d0) k50 ((md_lengths d0) (Int32.toNatClampNeg p1)) (md_chunks d0) (md_chunkMany d0) (md_homes d0) (md_dropped d0) (md_madeIn d0) (md_madeAt d0) (md_putMany d0) (md_path d0) (md_store d0) (md_thinOnes d0))) H → va_D A ((wmdF t h0 a0 (md_thrown d0) (md_s d0) (md_aside d0) (md_base d0) (md_saved d0) (md_savedMany d0) (md_slots d0) (md_hasSlot d0) (md_text d0) (md_length d0) (md_begins d0) (md_lengths d0) (md_streams d0) k50 ((md_lengths d0) (Int32.toNatClampNeg p1)) (md_chunks d0) (md_chunkMany d0) (md_homes d0) (md_dropped d0) (md_madeIn d0) (md_madeAt d0) (md_putMany d0) (md_path d0) (md_store d0) (md_thinOnes d0))) → va_S A s.heap H locs → lv_has ls 3 [(0, .ref h0)] → W p l e ({ frames := 1, cells := 0, slots := 0, locals := 24 } : Room) s m args below meth c H locs 0 0 (MQ below (kQv D (TY t) ((wmd t h0 a0 ((md_thrown d0), (md_s d0), (md_aside d0), (md_base d0), (md_saved d0), (md_savedMany d0), (md_slots d0), (md_hasSlot d0), (md_text d0), (md_length d0), (md_begins d0), (md_lengths d0), (md_streams d0), r.1, r.2.1, r.2.2.1, r.2.2.2, (md_homes d0), (md_dropped d0), (md_madeIn d0), (md_madeAt d0), (md_putMany d0), (md_path d0), (md_store d0), (md_thinOnes d0)))) A) args s 0 0 A) (F0 m 50 ls []) := by
    intro k50 hF H locs ls hP hD hS hl
    refine lv_aload_n hx hb (kd tdlX9_laysStream_0 31 rfl) rfl (lv_at hl 0 rfl) ?_
    obtain ⟨v51, e51, hF⟩ := kc hF
    refine kc_v0 (w1 := ((wmdF t h0 a0 (md_thrown d0) (md_s d0) (md_aside d0) (md_base d0) (md_saved d0) (md_savedMany d0) (md_slots d0) (md_hasSlot d0) (md_text d0) (md_length d0) (md_begins d0) (md_lengths d0) (md_streams d0) k50 ((md_lengths d0) (Int32.toNatClampNeg p1)) v51.1 v51.2 (md_homes d0) (md_dropped d0) (md_madeIn d0) (md_madeAt d0) (md_putMany d0) (md_path d0) (md_store d0) (md_thinOnes d0)))) hP hD hS hA (kr_V0 (Qx := (fun A => kQv D (TY t) ((wmdF t h0 a0 (md_thrown d0) (md_s d0) (md_aside d0) (md_base d0) (md_saved d0) (md_savedMany d0) (md_slots d0) (md_hasSlot d0) (md_text d0) (md_length d0) (md_begins d0) (md_lengths d0) (md_streams d0) k50 ((md_lengths d0) (Int32.toNatClampNeg p1)) v51.1 v51.2 (md_homes d0) (md_dropped d0) (md_madeIn d0) (md_madeAt d0) (md_putMany d0) (md_path d0) (md_store d0) (md_thinOnes d0))) A)) (As := []) (rest := []) ⟨hx, hb, hml, hown, hts⟩ hK hP hD (c_X9_cuts l D t h0 a0 ((md_thrown d0), (md_s d0), (md_aside d0), (md_base d0), (md_saved d0), (md_savedMany d0), (md_slots d0), (md_hasSlot d0), (md_text d0), (md_length d0), (md_begins d0), (md_lengths d0), (md_streams d0), k50, ((md_lengths d0) (Int32.toNatClampNeg p1)), (md_chunks d0), (md_chunkMany d0), (md_homes d0), (md_dropped d0), (md_madeIn d0), (md_madeAt d0), (md_putMany d0), (md_path d0), (md_store d0), (md_thinOnes d0)) _  v51 e51) (cwV 0 hts (gcX9_cuts w_285) rfl rfl rfl hdX9_cutsV ⟨Nat.le_of_ble_eq_true rfl, Nat.le_of_ble_eq_true rfl⟩) (ci := 8) (q0 := 0) rfl rfl rfl hl.1 rfl (Nat.le_of_ble_eq_true rfl) (kd tdlX9_laysStream_0 32 rfl) ⟨Nat.zero_le _, Nat.zero_le _⟩) (fun H locs hP hD hS => ?_)
    cases ko hF
    exact ke_v hx hb hr hlocks hK hP hD hS (kd tdlX9_laysStream_0 33 rfl)
  refine lp_ind (f := B_X9_laysStream_12 (md_lengths d0) p1 (md_begins d0) (md_text d0) (K_X9_laysStream_50 (md_s d0) (md_lengths d0) p1 (md_chunks d0) (md_chunkMany d0))) (r := r) (P := fun s12_ => ∀ (H : Heap) (locs : List Loc) (ls : Array Slot), va_P D vwCl ((wmdF t h0 a0 (md_thrown d0) (md_s d0) (md_aside d0) (md_base d0) (md_saved d0) (md_savedMany d0) (md_slots d0) (md_hasSlot d0) (md_text d0) (md_length d0) (md_begins d0) (md_lengths d0) (md_streams d0) s12_.2 ((md_lengths d0) (Int32.toNatClampNeg p1)) (md_chunks d0) (md_chunkMany d0) (md_homes d0) (md_dropped d0) (md_madeIn d0) (md_madeAt d0) (md_putMany d0) (md_path d0) (md_store d0) (md_thinOnes d0))) H → va_D A ((wmdF t h0 a0 (md_thrown d0) (md_s d0) (md_aside d0) (md_base d0) (md_saved d0) (md_savedMany d0) (md_slots d0) (md_hasSlot d0) (md_text d0) (md_length d0) (md_begins d0) (md_lengths d0) (md_streams d0) s12_.2 ((md_lengths d0) (Int32.toNatClampNeg p1)) (md_chunks d0) (md_chunkMany d0) (md_homes d0) (md_dropped d0) (md_madeIn d0) (md_madeAt d0) (md_putMany d0) (md_path d0) (md_store d0) (md_thinOnes d0))) → va_S A s.heap H locs → lv_has ls 3 [(0, .ref h0), (1, .int p1), (2, .int s12_.1)] → W p l e ({ frames := 1, cells := 0, slots := 0, locals := 24 } : Room) s m args below meth c H locs 0 0 (MQ below (kQv D (TY t) ((wmd t h0 a0 ((md_thrown d0), (md_s d0), (md_aside d0), (md_base d0), (md_saved d0), (md_savedMany d0), (md_slots d0), (md_hasSlot d0), (md_text d0), (md_length d0), (md_begins d0), (md_lengths d0), (md_streams d0), r.1, r.2.1, r.2.2.1, r.2.2.2, (md_homes d0), (md_dropped d0), (md_madeIn d0), (md_madeAt d0), (md_putMany d0), (md_path d0), (md_store d0), (md_thinOnes d0)))) A) args s 0 0 A) (F0 m 12 ls [])) ?_ FU (0, (md_letters d0)) hF _ _ _ hP hD hS (lv_sub hl [1, 2, 0] rfl)
  intro self12 ih12 s12_ hF H locs ls hP hD hS hl
  refine lv_iload_n hx hb (kd tdlX9_laysStream_0 8 rfl) rfl (lv_at hl 2 rfl) ?_
  refine lv_aload_n hx hb (kd tdlX9_laysStream_0 9 rfl) rfl (lv_at hl 0 rfl) ?_
  refine md_g_letterMany hx hb hts inX9_ hown hK hP L90 (kd tdlX9_laysStream_0 10 rfl) ?_
  refine lv_icmp_ge (tgt := 50) hx hb (kd tdlX9_laysStream_0 11 rfl) (by decide) (fun hc17 => ?_) (fun hc17 => ?_)
  · have hF := kt hc17 hF
    exact hK50 (s12_.2) hF _ _ _ hP hD hS (lv_sub hl [0] rfl)
  · have hF := kf hc17 hF
    refine lv_aload_n hx hb (kd tdlX9_laysStream_0 12 rfl) rfl (lv_at hl 0 rfl) ?_
    refine md_g_letters hx hb hts inX9_ hown hK hP L38 (kd tdlX9_laysStream_0 13 rfl) ?_
    refine lv_iload_n hx hb (kd tdlX9_laysStream_0 14 rfl) rfl (lv_at hl 2 rfl) ?_
    refine lv_aload_n hx hb (kd tdlX9_laysStream_0 15 rfl) rfl (lv_at hl 0 rfl) ?_
    refine md_g_text hx hb hts inX9_ hown hK hP L29 (kd tdlX9_laysStream_0 16 rfl) ?_
    refine lv_aload_n hx hb (kd tdlX9_laysStream_0 17 rfl) rfl (lv_at hl 0 rfl) ?_
    refine md_g_begins hx hb hts inX9_ hown hK hP L32 (kd tdlX9_laysStream_0 18 rfl) ?_
    refine lv_iload_n hx hb (kd tdlX9_laysStream_0 19 rfl) rfl (lv_at hl 1 rfl) ?_
    obtain ⟨hi34, hF⟩ := kg hF
    refine md_l_begins hx hb hK hP hi34 (kd tdlX9_laysStream_0 20 rfl) ?_
    refine lv_iload_n hx hb (kd tdlX9_laysStream_0 21 rfl) rfl (lv_at hl 2 rfl) ?_
    refine lv_iadd hx hb (kd tdlX9_laysStream_0 22 rfl) ?_
    obtain ⟨hi37, hF⟩ := kg hF
    refine md_l_text hx hb hK hP hi37 (kd tdlX9_laysStream_0 23 rfl) ?_
    refine lv_bipush (v := 97) hx hb (kd tdlX9_laysStream_0 24 rfl) (by decide) ?_
    refine lv_isub hx hb (kd tdlX9_laysStream_0 25 rfl) ?_
    refine lv_iconst (v := 1) hx hb (kd tdlX9_laysStream_0 26 rfl) (by decide) ?_
    refine lv_iadd hx hb (kd tdlX9_laysStream_0 27 rfl) ?_
    obtain ⟨hi43, hF⟩ := kg hF
    refine md_s_letters hx hb hK hP hD hS hi43 (kd tdlX9_laysStream_0 28 rfl) (fun H locs hP hD hS => ?_)
    refine lv_iinc (v := (s12_.1 + 1)) (lv' := [(2, .int (s12_.1 + 1)), (0, .ref h0), (1, .int p1)]) hx hb (kd tdlX9_laysStream_0 29 rfl) hl (k := 2) rfl rfl (by decide) rfl (fun ls hl => ?_)
    refine lv_goto (tgt := 12) hx hb (kd tdlX9_laysStream_0 30 rfl) (by decide) ?_
    exact ih12 ((s12_.1 + 1), (upd s12_.2 (Int32.toNatClampNeg s12_.1) ((((md_text d0) (Int32.toNatClampNeg (((md_begins d0) (Int32.toNatClampNeg p1)) + s12_.1))) - 97) + 1))) hF _ _ _ hP hD hS (lv_sub hl [1, 2, 0] rfl)
set_option maxHeartbeats 4000000 in
set_option maxRecDepth 100000 in
theorem c_X9_lengthOf (l : Launch) (D : va_G) (t : Nat → ClassId)  (sz : Nat) (p0 : Int32) (r : Int32) (hF : F_X9_lengthOf p0 = some r) : Met l yX9_lengthOf wX9_lengthOf ({ frames := 0, cells := 0, slots := 0, locals := 0 } : Room) (kPc D (TY t) ([] : va_W) [.int p0] sz) (kQi D (TY t) ([] : va_W) r (va_A ([] : va_W) sz)) 0 0 (va_A ([] : va_W) sz) := by
  refine kE (cc := cX9_lengthOf) (maxL := 3) (ret := (some .int)) (Qx := fun A => kQi D (TY t) ([] : va_W) r A) (lv0 := [(0, .int p0)]) RX9 rfl (by decide) rfl (Nat.le_of_ble_eq_true rfl) rfl ?_
  intro p e s m args below meth c A ls hx hb hml hr hlocks hown hts hA hK hP hD hS hl
  have hP : va_P D vwCl (([] : va_W)) s.heap := hP
  have hD : va_D A (([] : va_W)) := hD
  refine lv_iconst (v := 0) hx hb (kd tdlX9_lengthOf_0 0 rfl) (by decide) ?_
  refine lv_istore_n (lv' := [(1, .int 0), (0, .int p0)]) hx hb (kd tdlX9_lengthOf_0 1 rfl) rfl hl (by decide) rfl (fun ls hl => ?_)
  refine lv_iload_n hx hb (kd tdlX9_lengthOf_0 2 rfl) rfl (lv_at hl 1 rfl) ?_
  refine lv_istore_n (lv' := [(2, .int p0), (1, .int 0), (0, .int p0)]) hx hb (kd tdlX9_lengthOf_0 3 rfl) rfl hl (by decide) rfl (fun ls hl => ?_)
  refine lp_ind (f := B_X9_lengthOf_4) (r := r) (P := fun s4_ => ∀ (H : Heap) (locs : List Loc) (ls : Array Slot), va_P D vwCl (([] : va_W)) H → va_D A (([] : va_W)) → va_S A s.heap H locs → lv_has ls 3 [(1, .int s4_.1), (2, .int s4_.2)] → W p l e ({ frames := 0, cells := 0, slots := 0, locals := 0 } : Room) s m args below meth c H locs 0 0 (MQ below (kQi D (TY t) ([] : va_W) r A) args s 0 0 A) (F0 m 4 ls [])) ?_ FU (0, p0) hF _ _ _ hP hD hS (lv_sub hl [1, 0] rfl)
  intro self4 ih4 s4_ hF H locs ls hP hD hS hl
  refine lv_iload_n hx hb (kd tdlX9_lengthOf_0 4 rfl) rfl (lv_at hl 1 rfl) ?_
  refine lv_if_le (tgt := 19) hx hb (kd tdlX9_lengthOf_0 5 rfl) (by decide) (fun hc5 => ?_) (fun hc5 => ?_)
  · have hF := kt hc5 hF
    refine lv_iload_n hx hb (kd tdlX9_lengthOf_0 12 rfl) rfl (lv_at hl 0 rfl) ?_
    cases ko hF
    exact ke_i hx hb hr hlocks hK hP hD hS rfl (kd tdlX9_lengthOf_0 13 rfl)
  · have hF := kf hc5 hF
    refine lv_iinc (v := (s4_.1 + 1)) (lv' := [(1, .int (s4_.1 + 1)), (2, .int s4_.2)]) hx hb (kd tdlX9_lengthOf_0 6 rfl) hl (k := 0) rfl rfl (by decide) rfl (fun ls hl => ?_)
    refine lv_iload_n hx hb (kd tdlX9_lengthOf_0 7 rfl) rfl (lv_at hl 1 rfl) ?_
    refine lv_bipush (v := 9) hx hb (kd tdlX9_lengthOf_0 8 rfl) (by decide) ?_
    obtain ⟨hz14, hF⟩ := kgz hF
    refine lv_idiv hx hb (kd tdlX9_lengthOf_0 9 rfl) hz14 ?_
    refine lv_istore_n (lv' := [(2, .int (s4_.2 / 9)), (1, .int (s4_.1 + 1))]) hx hb (kd tdlX9_lengthOf_0 10 rfl) rfl hl (by decide) rfl (fun ls hl => ?_)
    refine lv_goto (tgt := 4) hx hb (kd tdlX9_lengthOf_0 11 rfl) (by decide) ?_
    exact ih4 ((s4_.1 + 1), (s4_.2 / 9)) hF _ _ _ hP hD hS (lv_sub hl [1, 0] rfl)
set_option maxHeartbeats 4000000 in
set_option maxRecDepth 100000 in
theorem c_X9_worthAt (l : Launch) (D : va_G) (t : Nat → ClassId)  (sz : Nat) (p0 : Int32) (p1 : Int32) (r : Int32) (hF : F_X9_worthAt p0 p1 = some r) : Met l yX9_worthAt wX9_worthAt ({ frames := 1, cells := 0, slots := 0, locals := 22 } : Room) (kPc D (TY t) ([] : va_W) [.int p0, .int p1] sz) (kQi D (TY t) ([] : va_W) r (va_A ([] : va_W) sz)) 0 0 (va_A ([] : va_W) sz) := by
  refine kE (cc := cX9_worthAt) (maxL := 4) (ret := (some .int)) (Qx := fun A => kQi D (TY t) ([] : va_W) r A) (lv0 := [(0, .int p0), (1, .int p1)]) RX9 rfl (by decide) rfl (Nat.le_of_ble_eq_true rfl) rfl ?_
  intro p e s m args below meth c A ls hx hb hml hr hlocks hown hts hA hK hP hD hS hl
  have hP : va_P D vwCl (([] : va_W)) s.heap := hP
  have hD : va_D A (([] : va_W)) := hD
  refine lv_iload_n hx hb (kd tdlX9_worthAt_0 0 rfl) rfl (lv_at hl 0 rfl) ?_
  refine lv_istore_n (lv' := [(2, .int p0), (0, .int p0), (1, .int p1)]) hx hb (kd tdlX9_worthAt_0 1 rfl) rfl hl (by decide) rfl (fun ls hl => ?_)
  refine lv_iload_n hx hb (kd tdlX9_worthAt_0 2 rfl) rfl (lv_at hl 1 rfl) ?_
  obtain ⟨v3, e3, hF⟩ := kc hF
  refine kc_i0 (w1 := ([] : va_W)) hP hD hS hA (kr_S0 (Qx := (fun A => kQi D (TY t) ([] : va_W) v3 A)) (As := [.int p0]) (rest := []) ⟨hx, hb, hml, hown, hts⟩ hK hP hD (c_X9_lengthOf l D t  _ p0 v3 e3) (va_cwS 1 hts (gcX9_lengthOf w_289) rfl rfl rfl hdX9_lengthOfS ⟨Nat.le_of_ble_eq_true rfl, Nat.le_of_ble_eq_true rfl⟩) rfl hl.1 rfl (Nat.le_of_ble_eq_true rfl) (kd tdlX9_worthAt_0 3 rfl) ⟨Nat.zero_le _, Nat.zero_le _⟩) (fun H locs hP hD hS => ?_)
  refine lv_iconst (v := 1) hx hb (kd tdlX9_worthAt_0 4 rfl) (by decide) ?_
  refine lv_isub hx hb (kd tdlX9_worthAt_0 5 rfl) ?_
  refine lv_istore_n (lv' := [(3, .int (v3 - 1)), (2, .int p0), (0, .int p0), (1, .int p1)]) hx hb (kd tdlX9_worthAt_0 6 rfl) rfl hl (by decide) rfl (fun ls hl => ?_)
  have hK25 : ∀ k25 : Int32, K_X9_worthAt_25 k25 = some r → ∀ (H : Heap) (locs : List Loc) (ls : Array Slot), va_P D vwCl (([] : va_W)) H → va_D A (([] : va_W)) → va_S A s.heap H locs → lv_has ls 4 [(2, .int k25)] → W p l e ({ frames := 1, cells := 0, slots := 0, locals := 22 } : Room) s m args below meth c H locs 0 0 (MQ below (kQi D (TY t) ([] : va_W) r A) args s 0 0 A) (F0 m 25 ls []) := by
    intro k25 hF H locs ls hP hD hS hl
    refine lv_iload_n hx hb (kd tdlX9_worthAt_0 16 rfl) rfl (lv_at hl 0 rfl) ?_
    refine lv_bipush (v := 9) hx hb (kd tdlX9_worthAt_0 17 rfl) (by decide) ?_
    obtain ⟨hz28, hF⟩ := kgz hF
    refine lv_irem hx hb (kd tdlX9_worthAt_0 18 rfl) hz28 ?_
    cases ko hF
    exact ke_i hx hb hr hlocks hK hP hD hS rfl (kd tdlX9_worthAt_0 19 rfl)
  refine lp_ind (f := B_X9_worthAt_9 p1 (K_X9_worthAt_25)) (r := r) (P := fun s9_ => ∀ (H : Heap) (locs : List Loc) (ls : Array Slot), va_P D vwCl (([] : va_W)) H → va_D A (([] : va_W)) → va_S A s.heap H locs → lv_has ls 4 [(1, .int p1), (2, .int s9_.1), (3, .int s9_.2)] → W p l e ({ frames := 1, cells := 0, slots := 0, locals := 22 } : Room) s m args below meth c H locs 0 0 (MQ below (kQi D (TY t) ([] : va_W) r A) args s 0 0 A) (F0 m 9 ls [])) ?_ FU (p0, (v3 - 1)) hF _ _ _ hP hD hS (lv_sub hl [3, 1, 0] rfl)
  intro self9 ih9 s9_ hF H locs ls hP hD hS hl
  refine lv_iload_n hx hb (kd tdlX9_worthAt_0 7 rfl) rfl (lv_at hl 2 rfl) ?_
  refine lv_iload_n hx hb (kd tdlX9_worthAt_0 8 rfl) rfl (lv_at hl 0 rfl) ?_
  refine lv_icmp_le (tgt := 25) hx hb (kd tdlX9_worthAt_0 9 rfl) (by decide) (fun hc11 => ?_) (fun hc11 => ?_)
  · have hF := kt hc11 hF
    exact hK25 (s9_.1) hF _ _ _ hP hD hS (lv_sub hl [1] rfl)
  · have hF := kf hc11 hF
    refine lv_iload_n hx hb (kd tdlX9_worthAt_0 10 rfl) rfl (lv_at hl 1 rfl) ?_
    refine lv_bipush (v := 9) hx hb (kd tdlX9_worthAt_0 11 rfl) (by decide) ?_
    obtain ⟨hz17, hF⟩ := kgz hF
    refine lv_idiv hx hb (kd tdlX9_worthAt_0 12 rfl) hz17 ?_
    refine lv_istore_n (lv' := [(2, .int (s9_.1 / 9)), (1, .int p1), (3, .int s9_.2)]) hx hb (kd tdlX9_worthAt_0 13 rfl) rfl hl (by decide) rfl (fun ls hl => ?_)
    refine lv_iinc (v := (s9_.2 + (-1))) (lv' := [(3, .int (s9_.2 + (-1))), (2, .int (s9_.1 / 9)), (1, .int p1)]) hx hb (kd tdlX9_worthAt_0 14 rfl) hl (k := 2) rfl rfl (by decide) rfl (fun ls hl => ?_)
    refine lv_goto (tgt := 9) hx hb (kd tdlX9_worthAt_0 15 rfl) (by decide) ?_
    exact ih9 ((s9_.1 / 9), (s9_.2 + (-1))) hF _ _ _ hP hD hS (lv_sub hl [2, 1, 0] rfl)
set_option maxHeartbeats 4000000 in
set_option maxRecDepth 100000 in
theorem c_X9_sumOf (l : Launch) (D : va_G) (t : Nat → ClassId)  (sz : Nat) (p0 : Int32) (r : Int32) (hF : F_X9_sumOf p0 = some r) : Met l yX9_sumOf wX9_sumOf ({ frames := 2, cells := 0, slots := 0, locals := 45 } : Room) (kPc D (TY t) ([] : va_W) [.int p0] sz) (kQi D (TY t) ([] : va_W) r (va_A ([] : va_W) sz)) 0 0 (va_A ([] : va_W) sz) := by
  refine kE (cc := cX9_sumOf) (maxL := 4) (ret := (some .int)) (Qx := fun A => kQi D (TY t) ([] : va_W) r A) (lv0 := [(0, .int p0)]) RX9 rfl (by decide) rfl (Nat.le_of_ble_eq_true rfl) rfl ?_
  intro p e s m args below meth c A ls hx hb hml hr hlocks hown hts hA hK hP hD hS hl
  have hP : va_P D vwCl (([] : va_W)) s.heap := hP
  have hD : va_D A (([] : va_W)) := hD
  refine lv_bipush (v := 7) hx hb (kd tdlX9_sumOf_0 0 rfl) (by decide) ?_
  refine lv_istore_n (lv' := [(1, .int 7), (0, .int p0)]) hx hb (kd tdlX9_sumOf_0 1 rfl) rfl hl (by decide) rfl (fun ls hl => ?_)
  refine lv_iload_n hx hb (kd tdlX9_sumOf_0 2 rfl) rfl (lv_at hl 1 rfl) ?_
  obtain ⟨v4, e4, hF⟩ := kc hF
  refine kc_i0 (w1 := ([] : va_W)) hP hD hS hA (kr_S0 (Qx := (fun A => kQi D (TY t) ([] : va_W) v4 A)) (As := [.int p0]) (rest := []) ⟨hx, hb, hml, hown, hts⟩ hK hP hD (c_X9_lengthOf l D t  _ p0 v4 e4) (va_cwS 1 hts (gcX9_lengthOf w_289) rfl rfl rfl hdX9_lengthOfS ⟨Nat.le_of_ble_eq_true rfl, Nat.le_of_ble_eq_true rfl⟩) rfl hl.1 rfl (Nat.le_of_ble_eq_true rfl) (kd tdlX9_sumOf_0 3 rfl) ⟨Nat.zero_le _, Nat.zero_le _⟩) (fun H locs hP hD hS => ?_)
  refine lv_istore_n (lv' := [(2, .int v4), (1, .int 7), (0, .int p0)]) hx hb (kd tdlX9_sumOf_0 4 rfl) rfl hl (by decide) rfl (fun ls hl => ?_)
  refine lv_iconst (v := 0) hx hb (kd tdlX9_sumOf_0 5 rfl) (by decide) ?_
  refine lv_istore_n (lv' := [(3, .int 0), (2, .int v4), (1, .int 7), (0, .int p0)]) hx hb (kd tdlX9_sumOf_0 6 rfl) rfl hl (by decide) rfl (fun ls hl => ?_)
  refine lp_ind (f := B_X9_sumOf_10 v4 p0) (r := r) (P := fun s10_ => ∀ (H : Heap) (locs : List Loc) (ls : Array Slot), va_P D vwCl (([] : va_W)) H → va_D A (([] : va_W)) → va_S A s.heap H locs → lv_has ls 4 [(0, .int p0), (1, .int s10_.1), (2, .int v4), (3, .int s10_.2)] → W p l e ({ frames := 2, cells := 0, slots := 0, locals := 45 } : Room) s m args below meth c H locs 0 0 (MQ below (kQi D (TY t) ([] : va_W) r A) args s 0 0 A) (F0 m 10 ls [])) ?_ FU (7, 0) hF _ _ _ hP hD hS (lv_sub hl [3, 2, 1, 0] rfl)
  intro self10 ih10 s10_ hF H locs ls hP hD hS hl
  refine lv_iload_n hx hb (kd tdlX9_sumOf_0 7 rfl) rfl (lv_at hl 3 rfl) ?_
  refine lv_iload_n hx hb (kd tdlX9_sumOf_0 8 rfl) rfl (lv_at hl 2 rfl) ?_
  refine lv_icmp_ge (tgt := 36) hx hb (kd tdlX9_sumOf_0 9 rfl) (by decide) (fun hc12 => ?_) (fun hc12 => ?_)
  · have hF := kt hc12 hF
    refine lv_iload_n hx hb (kd tdlX9_sumOf_0 22 rfl) rfl (lv_at hl 1 rfl) ?_
    cases ko hF
    exact ke_i hx hb hr hlocks hK hP hD hS rfl (kd tdlX9_sumOf_0 23 rfl)
  · have hF := kf hc12 hF
    refine lv_bipush (v := 31) hx hb (kd tdlX9_sumOf_0 10 rfl) (by decide) ?_
    refine lv_iload_n hx hb (kd tdlX9_sumOf_0 11 rfl) rfl (lv_at hl 1 rfl) ?_
    refine lv_imul hx hb (kd tdlX9_sumOf_0 12 rfl) ?_
    refine lv_iload_n hx hb (kd tdlX9_sumOf_0 13 rfl) rfl (lv_at hl 0 rfl) ?_
    refine lv_iload_n hx hb (kd tdlX9_sumOf_0 14 rfl) rfl (lv_at hl 3 rfl) ?_
    obtain ⟨v21, e21, hF⟩ := kc hF
    refine kc_i0 (w1 := ([] : va_W)) hP hD hS hA (kr_S0 (Qx := (fun A => kQi D (TY t) ([] : va_W) v21 A)) (As := [.int p0, .int s10_.2]) (rest := [.int (31 * s10_.1)]) ⟨hx, hb, hml, hown, hts⟩ hK hP hD (c_X9_worthAt l D t  _ p0 s10_.2 v21 e21) (va_cwS 2 hts (gcX9_worthAt w_295) rfl rfl rfl hdX9_worthAtS ⟨Nat.le_of_ble_eq_true rfl, Nat.le_of_ble_eq_true rfl⟩) rfl hl.1 rfl (Nat.le_of_ble_eq_true rfl) (kd tdlX9_sumOf_0 15 rfl) ⟨Nat.zero_le _, Nat.zero_le _⟩) (fun H locs hP hD hS => ?_)
    refine lv_iadd hx hb (kd tdlX9_sumOf_0 16 rfl) ?_
    refine lv_sipush (v := 997) hx hb (kd tdlX9_sumOf_0 17 rfl) (by decide) ?_
    obtain ⟨hz28, hF⟩ := kgz hF
    refine lv_irem hx hb (kd tdlX9_sumOf_0 18 rfl) hz28 ?_
    refine lv_istore_n (lv' := [(1, .int (((31 * s10_.1) + v21) - ((31 * s10_.1) + v21) / 997 * 997)), (0, .int p0), (2, .int v4), (3, .int s10_.2)]) hx hb (kd tdlX9_sumOf_0 19 rfl) rfl hl (by decide) rfl (fun ls hl => ?_)
    refine lv_iinc (v := (s10_.2 + 1)) (lv' := [(3, .int (s10_.2 + 1)), (1, .int (((31 * s10_.1) + v21) - ((31 * s10_.1) + v21) / 997 * 997)), (0, .int p0), (2, .int v4)]) hx hb (kd tdlX9_sumOf_0 20 rfl) hl (k := 3) rfl rfl (by decide) rfl (fun ls hl => ?_)
    refine lv_goto (tgt := 10) hx hb (kd tdlX9_sumOf_0 21 rfl) (by decide) ?_
    exact ih10 ((((31 * s10_.1) + v21) - ((31 * s10_.1) + v21) / 997 * 997), (s10_.2 + 1)) hF _ _ _ hP hD hS (lv_sub hl [2, 1, 3, 0] rfl)
set_option maxHeartbeats 4000000 in
set_option maxRecDepth 100000 in
theorem c_X9_at (l : Launch) (D : va_G) (t : Nat → ClassId) (h0 : Nat) (a0 : Nat → Nat) (d0 : MDT) (sz : Nat) (p1 : Int32) (r : Int32) (hF : F_X9_at p1 = some r) : Met l yX9_at wX9_at ({ frames := 0, cells := 0, slots := 0, locals := 0 } : Room) (kPc D (TY t) ((wmd t h0 a0 d0)) [.ref h0, .int p1] sz) (kQi D (TY t) ((wmd t h0 a0 d0)) r (va_A ((wmd t h0 a0 d0)) sz)) 0 0 (va_A ((wmd t h0 a0 d0)) sz) := by
  refine kE (cc := cX9_at) (maxL := 2) (ret := (some .int)) (Qx := fun A => kQi D (TY t) ((wmd t h0 a0 d0)) r A) (lv0 := [(0, .ref h0), (1, .int p1)]) RX9 rfl (by decide) rfl (Nat.le_of_ble_eq_true rfl) rfl ?_
  intro p e s m args below meth c A ls hx hb hml hr hlocks hown hts hA hK hP hD hS hl
  have hP : va_P D vwCl ((wmdF t h0 a0 (md_thrown d0) (md_s d0) (md_aside d0) (md_base d0) (md_saved d0) (md_savedMany d0) (md_slots d0) (md_hasSlot d0) (md_text d0) (md_length d0) (md_begins d0) (md_lengths d0) (md_streams d0) (md_letters d0) (md_letterMany d0) (md_chunks d0) (md_chunkMany d0) (md_homes d0) (md_dropped d0) (md_madeIn d0) (md_madeAt d0) (md_putMany d0) (md_path d0) (md_store d0) (md_thinOnes d0))) s.heap := hP
  have hD : va_D A ((wmdF t h0 a0 (md_thrown d0) (md_s d0) (md_aside d0) (md_base d0) (md_saved d0) (md_savedMany d0) (md_slots d0) (md_hasSlot d0) (md_text d0) (md_length d0) (md_begins d0) (md_lengths d0) (md_streams d0) (md_letters d0) (md_letterMany d0) (md_chunks d0) (md_chunkMany d0) (md_homes d0) (md_dropped d0) (md_madeIn d0) (md_madeAt d0) (md_putMany d0) (md_path d0) (md_store d0) (md_thinOnes d0))) := hD
  refine lv_bipush (v := 8) hx hb (kd tdlX9_at_0 0 rfl) (by decide) ?_
  refine lv_bipush (v := 11) hx hb (kd tdlX9_at_0 1 rfl) (by decide) ?_
  refine lv_iload_n hx hb (kd tdlX9_at_0 2 rfl) rfl (lv_at hl 1 rfl) ?_
  refine lv_imul hx hb (kd tdlX9_at_0 3 rfl) ?_
  refine lv_iadd hx hb (kd tdlX9_at_0 4 rfl) ?_
  cases ko hF
  exact ke_i hx hb hr hlocks hK hP hD hS rfl (kd tdlX9_at_0 5 rfl)
set_option maxHeartbeats 4000000 in
set_option maxRecDepth 100000 in
theorem c_X9_slotOf (l : Launch) (D : va_G) (t : Nat → ClassId) (h0 : Nat) (a0 : Nat → Nat) (d0 : MDT) (sz : Nat) (p1 : Int32) (r : Int32) (hF : F_X9_slotOf (md_s d0) p1 = some r) : Met l yX9_slotOf wX9_slotOf ({ frames := 1, cells := 0, slots := 0, locals := 21 } : Room) (kPc D (TY t) ((wmd t h0 a0 d0)) [.ref h0, .int p1] sz) (kQi D (TY t) ((wmd t h0 a0 d0)) r (va_A ((wmd t h0 a0 d0)) sz)) 0 0 (va_A ((wmd t h0 a0 d0)) sz) := by
  refine kE (cc := cX9_slotOf) (maxL := 3) (ret := (some .int)) (Qx := fun A => kQi D (TY t) ((wmd t h0 a0 d0)) r A) (lv0 := [(0, .ref h0), (1, .int p1)]) RX9 rfl (by decide) rfl (Nat.le_of_ble_eq_true rfl) rfl ?_
  intro p e s m args below meth c A ls hx hb hml hr hlocks hown hts hA hK hP hD hS hl
  have L7 := hts (.fieldLink RX9 7 "ChunkCarriersModel" "s" "[I") (List.mem_cons_of_mem _ w_101)
  have inX9_ : ∀ w ∈ wsX90, w ∈ wX9_slotOf := fun w h => List.mem_cons_of_mem _ (inlX9 w h)
  have hP : va_P D vwCl ((wmdF t h0 a0 (md_thrown d0) (md_s d0) (md_aside d0) (md_base d0) (md_saved d0) (md_savedMany d0) (md_slots d0) (md_hasSlot d0) (md_text d0) (md_length d0) (md_begins d0) (md_lengths d0) (md_streams d0) (md_letters d0) (md_letterMany d0) (md_chunks d0) (md_chunkMany d0) (md_homes d0) (md_dropped d0) (md_madeIn d0) (md_madeAt d0) (md_putMany d0) (md_path d0) (md_store d0) (md_thinOnes d0))) s.heap := hP
  have hD : va_D A ((wmdF t h0 a0 (md_thrown d0) (md_s d0) (md_aside d0) (md_base d0) (md_saved d0) (md_savedMany d0) (md_slots d0) (md_hasSlot d0) (md_text d0) (md_length d0) (md_begins d0) (md_lengths d0) (md_streams d0) (md_letters d0) (md_letterMany d0) (md_chunks d0) (md_chunkMany d0) (md_homes d0) (md_dropped d0) (md_madeIn d0) (md_madeAt d0) (md_putMany d0) (md_path d0) (md_store d0) (md_thinOnes d0))) := hD
  refine lv_iconst (v := 0) hx hb (kd tdlX9_slotOf_0 0 rfl) (by decide) ?_
  refine lv_istore_n (lv' := [(2, .int 0), (0, .ref h0), (1, .int p1)]) hx hb (kd tdlX9_slotOf_0 1 rfl) rfl hl (by decide) rfl (fun ls hl => ?_)
  refine lp_ind (f := B_X9_slotOf_2 (md_s d0) p1) (r := r) (P := fun s2_ => ∀ (H : Heap) (locs : List Loc) (ls : Array Slot), va_P D vwCl ((wmdF t h0 a0 (md_thrown d0) (md_s d0) (md_aside d0) (md_base d0) (md_saved d0) (md_savedMany d0) (md_slots d0) (md_hasSlot d0) (md_text d0) (md_length d0) (md_begins d0) (md_lengths d0) (md_streams d0) (md_letters d0) (md_letterMany d0) (md_chunks d0) (md_chunkMany d0) (md_homes d0) (md_dropped d0) (md_madeIn d0) (md_madeAt d0) (md_putMany d0) (md_path d0) (md_store d0) (md_thinOnes d0))) H → va_D A ((wmdF t h0 a0 (md_thrown d0) (md_s d0) (md_aside d0) (md_base d0) (md_saved d0) (md_savedMany d0) (md_slots d0) (md_hasSlot d0) (md_text d0) (md_length d0) (md_begins d0) (md_lengths d0) (md_streams d0) (md_letters d0) (md_letterMany d0) (md_chunks d0) (md_chunkMany d0) (md_homes d0) (md_dropped d0) (md_madeIn d0) (md_madeAt d0) (md_putMany d0) (md_path d0) (md_store d0) (md_thinOnes d0))) → va_S A s.heap H locs → lv_has ls 3 [(0, .ref h0), (1, .int p1), (2, .int s2_)] → W p l e ({ frames := 1, cells := 0, slots := 0, locals := 21 } : Room) s m args below meth c H locs 0 0 (MQ below (kQi D (TY t) ((wmd t h0 a0 d0)) r A) args s 0 0 A) (F0 m 2 ls [])) ?_ FU (0) hF _ _ _ hP hD hS (lv_sub hl [1, 2, 0] rfl)
  intro self2 ih2 s2_ hF H locs ls hP hD hS hl
  refine lv_iload_n hx hb (kd tdlX9_slotOf_0 2 rfl) rfl (lv_at hl 2 rfl) ?_
  refine lv_aload_n hx hb (kd tdlX9_slotOf_0 3 rfl) rfl (lv_at hl 0 rfl) ?_
  refine md_g_s hx hb hts inX9_ hown hK hP L7 (kd tdlX9_slotOf_0 4 rfl) ?_
  refine lv_bipush (v := 7) hx hb (kd tdlX9_slotOf_0 5 rfl) (by decide) ?_
  obtain ⟨hi9, hF⟩ := kg hF
  refine md_l_s hx hb hK hP hi9 (kd tdlX9_slotOf_0 6 rfl) ?_
  refine lv_icmp_ge (tgt := 37) hx hb (kd tdlX9_slotOf_0 7 rfl) (by decide) (fun hc10 => ?_) (fun hc10 => ?_)
  · have hF := kt hc10 hF
    refine lv_iconst (v := (-1)) hx hb (kd tdlX9_slotOf_0 22 rfl) (by decide) ?_
    cases ko hF
    exact ke_i hx hb hr hlocks hK hP hD hS rfl (kd tdlX9_slotOf_0 23 rfl)
  · have hF := kf hc10 hF
    refine lv_aload_n hx hb (kd tdlX9_slotOf_0 8 rfl) rfl (lv_at hl 0 rfl) ?_
    refine md_g_s hx hb hts inX9_ hown hK hP L7 (kd tdlX9_slotOf_0 9 rfl) ?_
    refine lv_aload_n hx hb (kd tdlX9_slotOf_0 10 rfl) rfl (lv_at hl 0 rfl) ?_
    refine lv_iload_n hx hb (kd tdlX9_slotOf_0 11 rfl) rfl (lv_at hl 2 rfl) ?_
    obtain ⟨v19, e19, hF⟩ := kc hF
    refine kc_i0 (w1 := ((wmdF t h0 a0 (md_thrown d0) (md_s d0) (md_aside d0) (md_base d0) (md_saved d0) (md_savedMany d0) (md_slots d0) (md_hasSlot d0) (md_text d0) (md_length d0) (md_begins d0) (md_lengths d0) (md_streams d0) (md_letters d0) (md_letterMany d0) (md_chunks d0) (md_chunkMany d0) (md_homes d0) (md_dropped d0) (md_madeIn d0) (md_madeAt d0) (md_putMany d0) (md_path d0) (md_store d0) (md_thinOnes d0)))) hP hD hS hA (kr_V0 (Qx := (fun A => kQi D (TY t) ((wmdF t h0 a0 (md_thrown d0) (md_s d0) (md_aside d0) (md_base d0) (md_saved d0) (md_savedMany d0) (md_slots d0) (md_hasSlot d0) (md_text d0) (md_length d0) (md_begins d0) (md_lengths d0) (md_streams d0) (md_letters d0) (md_letterMany d0) (md_chunks d0) (md_chunkMany d0) (md_homes d0) (md_dropped d0) (md_madeIn d0) (md_madeAt d0) (md_putMany d0) (md_path d0) (md_store d0) (md_thinOnes d0))) v19 A)) (As := [.int s2_]) (rest := [.ref (a0 0)]) ⟨hx, hb, hml, hown, hts⟩ hK hP hD (c_X9_at l D t h0 a0 d0 _ s2_ v19 e19) (cwV 1 hts (gcX9_at w_306) rfl rfl rfl hdX9_atV ⟨Nat.le_of_ble_eq_true rfl, Nat.le_of_ble_eq_true rfl⟩) (ci := 8) (q0 := 0) rfl rfl rfl hl.1 rfl (Nat.le_of_ble_eq_true rfl) (kd tdlX9_slotOf_0 12 rfl) ⟨Nat.zero_le _, Nat.zero_le _⟩) (fun H locs hP hD hS => ?_)
    refine lv_iconst (v := 0) hx hb (kd tdlX9_slotOf_0 13 rfl) (by decide) ?_
    refine lv_iadd hx hb (kd tdlX9_slotOf_0 14 rfl) ?_
    obtain ⟨hi24, hF⟩ := kg hF
    refine md_l_s hx hb hK hP hi24 (kd tdlX9_slotOf_0 15 rfl) ?_
    refine lv_iload_n hx hb (kd tdlX9_slotOf_0 16 rfl) rfl (lv_at hl 1 rfl) ?_
    refine lv_icmp_ne (tgt := 31) hx hb (kd tdlX9_slotOf_0 17 rfl) (by decide) (fun hc26 => ?_) (fun hc26 => ?_)
    · have hF := kf hc26 hF
      refine lv_iinc (v := (s2_ + 1)) (lv' := [(2, .int (s2_ + 1)), (0, .ref h0), (1, .int p1)]) hx hb (kd tdlX9_slotOf_0 20 rfl) hl (k := 2) rfl rfl (by decide) rfl (fun ls hl => ?_)
      refine lv_goto (tgt := 2) hx hb (kd tdlX9_slotOf_0 21 rfl) (by decide) ?_
      exact ih2 ((s2_ + 1)) hF _ _ _ hP hD hS (lv_sub hl [1, 2, 0] rfl)
    · have hF := kt hc26 hF
      refine lv_iload_n hx hb (kd tdlX9_slotOf_0 18 rfl) rfl (lv_at hl 2 rfl) ?_
      cases ko hF
      exact ke_i hx hb hr hlocks hK hP hD hS rfl (kd tdlX9_slotOf_0 19 rfl)
set_option maxHeartbeats 4000000 in
set_option maxRecDepth 100000 in
theorem c_X9_backupAt (l : Launch) (D : va_G) (t : Nat → ClassId) (h0 : Nat) (a0 : Nat → Nat) (d0 : MDT) (sz : Nat) (p1 : Int32) (r : Int32) (hF : F_X9_backupAt p1 = some r) : Met l yX9_backupAt wX9_backupAt ({ frames := 0, cells := 0, slots := 0, locals := 0 } : Room) (kPc D (TY t) ((wmd t h0 a0 d0)) [.ref h0, .int p1] sz) (kQi D (TY t) ((wmd t h0 a0 d0)) r (va_A ((wmd t h0 a0 d0)) sz)) 0 0 (va_A ((wmd t h0 a0 d0)) sz) := by
  refine kE (cc := cX9_backupAt) (maxL := 2) (ret := (some .int)) (Qx := fun A => kQi D (TY t) ((wmd t h0 a0 d0)) r A) (lv0 := [(0, .ref h0), (1, .int p1)]) RX9 rfl (by decide) rfl (Nat.le_of_ble_eq_true rfl) rfl ?_
  intro p e s m args below meth c A ls hx hb hml hr hlocks hown hts hA hK hP hD hS hl
  have hP : va_P D vwCl ((wmdF t h0 a0 (md_thrown d0) (md_s d0) (md_aside d0) (md_base d0) (md_saved d0) (md_savedMany d0) (md_slots d0) (md_hasSlot d0) (md_text d0) (md_length d0) (md_begins d0) (md_lengths d0) (md_streams d0) (md_letters d0) (md_letterMany d0) (md_chunks d0) (md_chunkMany d0) (md_homes d0) (md_dropped d0) (md_madeIn d0) (md_madeAt d0) (md_putMany d0) (md_path d0) (md_store d0) (md_thinOnes d0))) s.heap := hP
  have hD : va_D A ((wmdF t h0 a0 (md_thrown d0) (md_s d0) (md_aside d0) (md_base d0) (md_saved d0) (md_savedMany d0) (md_slots d0) (md_hasSlot d0) (md_text d0) (md_length d0) (md_begins d0) (md_lengths d0) (md_streams d0) (md_letters d0) (md_letterMany d0) (md_chunks d0) (md_chunkMany d0) (md_homes d0) (md_dropped d0) (md_madeIn d0) (md_madeAt d0) (md_putMany d0) (md_path d0) (md_store d0) (md_thinOnes d0))) := hD
  refine lv_sipush (v := 998) hx hb (kd tdlX9_backupAt_0 0 rfl) (by decide) ?_
  refine lv_bipush (v := 34) hx hb (kd tdlX9_backupAt_0 1 rfl) (by decide) ?_
  refine lv_iload_n hx hb (kd tdlX9_backupAt_0 2 rfl) rfl (lv_at hl 1 rfl) ?_
  refine lv_imul hx hb (kd tdlX9_backupAt_0 3 rfl) ?_
  refine lv_iadd hx hb (kd tdlX9_backupAt_0 4 rfl) ?_
  cases ko hF
  exact ke_i hx hb hr hlocks hK hP hD hS rfl (kd tdlX9_backupAt_0 5 rfl)
