set_option maxHeartbeats 4000000 in
set_option maxRecDepth 100000 in
theorem c_X9_referencesBut (l : Launch) (D : va_G) (t : Nat → ClassId) (h0 : Nat) (a0 : Nat → Nat) (d0 : MDT) (sz : Nat) (p1 : Int32) (p2 : Int32) (p3 : Int32) (r : Int32) (hF : F_X9_referencesBut (md_s d0) p1 p2 p3 = some r) : Met l yX9_referencesBut wX9_referencesBut ({ frames := 1, cells := 0, slots := 0, locals := 21 } : Room) (kPc D (TY t) ((wmd t h0 a0 d0)) [.ref h0, .int p1, .int p2, .int p3] sz) (kQi D (TY t) ((wmd t h0 a0 d0)) r (va_A ((wmd t h0 a0 d0)) sz)) 0 0 (va_A ((wmd t h0 a0 d0)) sz) := by
  refine kE (cc := cX9_referencesBut) (maxL := 8) (ret := (some .int)) (Qx := fun A => kQi D (TY t) ((wmd t h0 a0 d0)) r A) (lv0 := [(0, .ref h0), (1, .int p1), (2, .int p2), (3, .int p3)]) RX9 rfl (by decide) rfl (Nat.le_of_ble_eq_true rfl) rfl ?_
  intro p e s m args below meth c A ls hx hb hml hr hlocks hown hts hA hK hP hD hS hl
  have L7 := hts (.fieldLink RX9 7 "ChunkCarriersModel" "s" "[I") (List.mem_cons_of_mem _ w_101)
  have inX9_ : ∀ w ∈ wsX90, w ∈ wX9_referencesBut := fun w h => List.mem_cons_of_mem _ (inlX9 w h)
  have hP : va_P D vwCl ((wmdF t h0 a0 (md_thrown d0) (md_s d0) (md_aside d0) (md_base d0) (md_saved d0) (md_savedMany d0) (md_slots d0) (md_hasSlot d0) (md_text d0) (md_length d0) (md_begins d0) (md_lengths d0) (md_streams d0) (md_letters d0) (md_letterMany d0) (md_chunks d0) (md_chunkMany d0) (md_homes d0) (md_dropped d0) (md_madeIn d0) (md_madeAt d0) (md_putMany d0) (md_path d0) (md_store d0) (md_thinOnes d0))) s.heap := hP
  have hD : va_D A ((wmdF t h0 a0 (md_thrown d0) (md_s d0) (md_aside d0) (md_base d0) (md_saved d0) (md_savedMany d0) (md_slots d0) (md_hasSlot d0) (md_text d0) (md_length d0) (md_begins d0) (md_lengths d0) (md_streams d0) (md_letters d0) (md_letterMany d0) (md_chunks d0) (md_chunkMany d0) (md_homes d0) (md_dropped d0) (md_madeIn d0) (md_madeAt d0) (md_putMany d0) (md_path d0) (md_store d0) (md_thinOnes d0))) := hD
  refine lv_iconst (v := 0) hx hb (kd tdlX9_referencesBut_0 0 rfl) (by decide) ?_
  refine lv_istore (lv' := [(4, .int 0), (0, .ref h0), (1, .int p1), (2, .int p2), (3, .int p3)]) hx hb (kd tdlX9_referencesBut_0 1 rfl) hl (by decide) rfl (fun ls hl => ?_)
  refine lv_iconst (v := 0) hx hb (kd tdlX9_referencesBut_0 2 rfl) (by decide) ?_
  refine lv_istore (lv' := [(5, .int 0), (4, .int 0), (0, .ref h0), (1, .int p1), (2, .int p2), (3, .int p3)]) hx hb (kd tdlX9_referencesBut_0 3 rfl) hl (by decide) rfl (fun ls hl => ?_)
  refine lp_ind (f := B_X9_referencesBut_6 (md_s d0) p3 p1 p2) (r := r) (P := fun s6_ => ∀ (H : Heap) (locs : List Loc) (ls : Array Slot), va_P D vwCl ((wmdF t h0 a0 (md_thrown d0) (md_s d0) (md_aside d0) (md_base d0) (md_saved d0) (md_savedMany d0) (md_slots d0) (md_hasSlot d0) (md_text d0) (md_length d0) (md_begins d0) (md_lengths d0) (md_streams d0) (md_letters d0) (md_letterMany d0) (md_chunks d0) (md_chunkMany d0) (md_homes d0) (md_dropped d0) (md_madeIn d0) (md_madeAt d0) (md_putMany d0) (md_path d0) (md_store d0) (md_thinOnes d0))) H → va_D A ((wmdF t h0 a0 (md_thrown d0) (md_s d0) (md_aside d0) (md_base d0) (md_saved d0) (md_savedMany d0) (md_slots d0) (md_hasSlot d0) (md_text d0) (md_length d0) (md_begins d0) (md_lengths d0) (md_streams d0) (md_letters d0) (md_letterMany d0) (md_chunks d0) (md_chunkMany d0) (md_homes d0) (md_dropped d0) (md_madeIn d0) (md_madeAt d0) (md_putMany d0) (md_path d0) (md_store d0) (md_thinOnes d0))) → va_S A s.heap H locs → lv_has ls 8 [(0, .ref h0), (1, .int p1), (2, .int p2), (3, .int p3), (4, .int s6_.1), (5, .int s6_.2)] → W p l e ({ frames := 1, cells := 0, slots := 0, locals := 21 } : Room) s m args below meth c H locs 0 0 (MQ below (kQi D (TY t) ((wmd t h0 a0 d0)) r A) args s 0 0 A) (F0 m 6 ls [])) ?_ FU (0, 0) hF _ _ _ hP hD hS (lv_sub hl [2, 3, 4, 5, 1, 0] rfl)
  intro self6 ih6 s6_ hF H locs ls hP hD hS hl
  refine lv_iload hx hb (kd tdlX9_referencesBut_0 4 rfl) (lv_at hl 5 rfl) ?_
  refine lv_bipush (v := 8) hx hb (kd tdlX9_referencesBut_0 5 rfl) (by decide) ?_
  refine lv_icmp_ge (tgt := 117) hx hb (kd tdlX9_referencesBut_0 6 rfl) (by decide) (fun hc10 => ?_) (fun hc10 => ?_)
  · have hF := kt hc10 hF
    refine lv_iload hx hb (kd tdlX9_referencesBut_1 23 rfl) (lv_at hl 4 rfl) ?_
    cases ko hF
    exact ke_i hx hb hr hlocks hK hP hD hS rfl (kd tdlX9_referencesBut_1 24 rfl)
  · have hF := kf hc10 hF
    refine lv_aload_n hx hb (kd tdlX9_referencesBut_0 7 rfl) rfl (lv_at hl 0 rfl) ?_
    refine lv_iload hx hb (kd tdlX9_referencesBut_0 8 rfl) (lv_at hl 5 rfl) ?_
    obtain ⟨v16, e16, hF⟩ := kc hF
    refine kc_i0 (w1 := ((wmdF t h0 a0 (md_thrown d0) (md_s d0) (md_aside d0) (md_base d0) (md_saved d0) (md_savedMany d0) (md_slots d0) (md_hasSlot d0) (md_text d0) (md_length d0) (md_begins d0) (md_lengths d0) (md_streams d0) (md_letters d0) (md_letterMany d0) (md_chunks d0) (md_chunkMany d0) (md_homes d0) (md_dropped d0) (md_madeIn d0) (md_madeAt d0) (md_putMany d0) (md_path d0) (md_store d0) (md_thinOnes d0)))) hP hD hS hA (kr_V0 (Qx := (fun A => kQi D (TY t) ((wmdF t h0 a0 (md_thrown d0) (md_s d0) (md_aside d0) (md_base d0) (md_saved d0) (md_savedMany d0) (md_slots d0) (md_hasSlot d0) (md_text d0) (md_length d0) (md_begins d0) (md_lengths d0) (md_streams d0) (md_letters d0) (md_letterMany d0) (md_chunks d0) (md_chunkMany d0) (md_homes d0) (md_dropped d0) (md_madeIn d0) (md_madeAt d0) (md_putMany d0) (md_path d0) (md_store d0) (md_thinOnes d0))) v16 A)) (As := [.int s6_.2]) (rest := []) ⟨hx, hb, hml, hown, hts⟩ hK hP hD (c_X9_backupAt l D t h0 a0 d0 _ s6_.2 v16 e16) (cwV 1 hts (gcX9_backupAt w_382) rfl rfl rfl hdX9_backupAtV ⟨Nat.le_of_ble_eq_true rfl, Nat.le_of_ble_eq_true rfl⟩) (ci := 8) (q0 := 0) rfl rfl rfl hl.1 rfl (Nat.le_of_ble_eq_true rfl) (kd tdlX9_referencesBut_0 9 rfl) ⟨Nat.zero_le _, Nat.zero_le _⟩) (fun H locs hP hD hS => ?_)
    refine lv_istore (lv' := [(6, .int v16), (0, .ref h0), (1, .int p1), (2, .int p2), (3, .int p3), (4, .int s6_.1), (5, .int s6_.2)]) hx hb (kd tdlX9_referencesBut_0 10 rfl) hl (by decide) rfl (fun ls hl => ?_)
    refine lv_iconst (v := 0) hx hb (kd tdlX9_referencesBut_0 11 rfl) (by decide) ?_
    refine lv_istore (lv' := [(7, .int 0), (6, .int v16), (0, .ref h0), (1, .int p1), (2, .int p2), (3, .int p3), (4, .int s6_.1), (5, .int s6_.2)]) hx hb (kd tdlX9_referencesBut_0 12 rfl) hl (by decide) rfl (fun ls hl => ?_)
    refine lp_ind (f := B_X9_referencesBut_24 v16 (md_s d0) self6 s6_ p3 p1 p2) (r := r) (P := fun s24_ => ∀ (H : Heap) (locs : List Loc) (ls : Array Slot), va_P D vwCl ((wmdF t h0 a0 (md_thrown d0) (md_s d0) (md_aside d0) (md_base d0) (md_saved d0) (md_savedMany d0) (md_slots d0) (md_hasSlot d0) (md_text d0) (md_length d0) (md_begins d0) (md_lengths d0) (md_streams d0) (md_letters d0) (md_letterMany d0) (md_chunks d0) (md_chunkMany d0) (md_homes d0) (md_dropped d0) (md_madeIn d0) (md_madeAt d0) (md_putMany d0) (md_path d0) (md_store d0) (md_thinOnes d0))) H → va_D A ((wmdF t h0 a0 (md_thrown d0) (md_s d0) (md_aside d0) (md_base d0) (md_saved d0) (md_savedMany d0) (md_slots d0) (md_hasSlot d0) (md_text d0) (md_length d0) (md_begins d0) (md_lengths d0) (md_streams d0) (md_letters d0) (md_letterMany d0) (md_chunks d0) (md_chunkMany d0) (md_homes d0) (md_dropped d0) (md_madeIn d0) (md_madeAt d0) (md_putMany d0) (md_path d0) (md_store d0) (md_thinOnes d0))) → va_S A s.heap H locs → lv_has ls 8 [(0, .ref h0), (1, .int p1), (2, .int p2), (3, .int p3), (4, .int s24_.1), (5, .int s6_.2), (6, .int v16), (7, .int s24_.2)] → W p l e ({ frames := 1, cells := 0, slots := 0, locals := 21 } : Room) s m args below meth c H locs 0 0 (MQ below (kQi D (TY t) ((wmd t h0 a0 d0)) r A) args s 0 0 A) (F0 m 24 ls [])) ?_ FU (s6_.1, 0) hF _ _ _ hP hD hS (lv_sub hl [2, 3, 4, 5, 6, 7, 1, 0] rfl)
    intro self24 ih24 s24_ hF H locs ls hP hD hS hl
    refine lv_iload hx hb (kd tdlX9_referencesBut_0 13 rfl) (lv_at hl 7 rfl) ?_
    refine lv_aload_n hx hb (kd tdlX9_referencesBut_0 14 rfl) rfl (lv_at hl 0 rfl) ?_
    refine md_g_s hx hb hts inX9_ hown hK hP L7 (kd tdlX9_referencesBut_0 15 rfl) ?_
    refine lv_iload hx hb (kd tdlX9_referencesBut_0 16 rfl) (lv_at hl 6 rfl) ?_
    refine lv_iconst (v := 1) hx hb (kd tdlX9_referencesBut_0 17 rfl) (by decide) ?_
    refine lv_iadd hx hb (kd tdlX9_referencesBut_0 18 rfl) ?_
    obtain ⟨hi34, hF⟩ := kg hF
    refine md_l_s hx hb hK hP hi34 (kd tdlX9_referencesBut_0 19 rfl) ?_
    refine lv_icmp_ge (tgt := 111) hx hb (kd tdlX9_referencesBut_0 20 rfl) (by decide) (fun hc35 => ?_) (fun hc35 => ?_)
    · have hF := kt hc35 hF
      refine lv_iinc (v := (s6_.2 + 1)) (lv' := [(5, .int (s6_.2 + 1)), (0, .ref h0), (1, .int p1), (2, .int p2), (3, .int p3), (4, .int s24_.1), (6, .int v16), (7, .int s24_.2)]) hx hb (kd tdlX9_referencesBut_1 21 rfl) hl (k := 5) rfl rfl (by decide) rfl (fun ls hl => ?_)
      refine lv_goto (tgt := 6) hx hb (kd tdlX9_referencesBut_1 22 rfl) (by decide) ?_
      exact ih6 (s24_.1, (s6_.2 + 1)) hF _ _ _ hP hD hS (lv_sub hl [1, 2, 3, 4, 5, 0] rfl)
    · have hF := kf hc35 hF
      refine lv_aload_n hx hb (kd tdlX9_referencesBut_0 21 rfl) rfl (lv_at hl 0 rfl) ?_
      refine md_g_s hx hb hts inX9_ hown hK hP L7 (kd tdlX9_referencesBut_0 22 rfl) ?_
      refine lv_iload hx hb (kd tdlX9_referencesBut_0 23 rfl) (lv_at hl 6 rfl) ?_
      refine lv_iconst (v := 0) hx hb (kd tdlX9_referencesBut_0 24 rfl) (by decide) ?_
      refine lv_iadd hx hb (kd tdlX9_referencesBut_0 25 rfl) ?_
      obtain ⟨hi46, hF⟩ := kg hF
      refine md_l_s hx hb hK hP hi46 (kd tdlX9_referencesBut_0 26 rfl) ?_
      refine lv_iconst (v := 1) hx hb (kd tdlX9_referencesBut_0 27 rfl) (by decide) ?_
      refine lv_icmp_ne (tgt := 111) hx hb (kd tdlX9_referencesBut_0 28 rfl) (by decide) (fun hc48 => ?_) (fun hc48 => ?_)
      · have hF := kf hc48 hF
        refine lv_iinc (v := (s6_.2 + 1)) (lv' := [(5, .int (s6_.2 + 1)), (0, .ref h0), (1, .int p1), (2, .int p2), (3, .int p3), (4, .int s24_.1), (6, .int v16), (7, .int s24_.2)]) hx hb (kd tdlX9_referencesBut_1 21 rfl) hl (k := 5) rfl rfl (by decide) rfl (fun ls hl => ?_)
        refine lv_goto (tgt := 6) hx hb (kd tdlX9_referencesBut_1 22 rfl) (by decide) ?_
        exact ih6 (s24_.1, (s6_.2 + 1)) hF _ _ _ hP hD hS (lv_sub hl [1, 2, 3, 4, 5, 0] rfl)
      · have hF := kt hc48 hF
        refine lv_iload hx hb (kd tdlX9_referencesBut_0 29 rfl) (lv_at hl 5 rfl) ?_
        refine lv_iload_n hx hb (kd tdlX9_referencesBut_0 30 rfl) rfl (lv_at hl 3 rfl) ?_
        refine lv_icmp_eq (tgt := 111) hx hb (kd tdlX9_referencesBut_0 31 rfl) (by decide) (fun hc54 => ?_) (fun hc54 => ?_)
        · have hF := kt hc54 hF
          refine lv_iinc (v := (s6_.2 + 1)) (lv' := [(5, .int (s6_.2 + 1)), (0, .ref h0), (1, .int p1), (2, .int p2), (3, .int p3), (4, .int s24_.1), (6, .int v16), (7, .int s24_.2)]) hx hb (kd tdlX9_referencesBut_1 21 rfl) hl (k := 5) rfl rfl (by decide) rfl (fun ls hl => ?_)
          refine lv_goto (tgt := 6) hx hb (kd tdlX9_referencesBut_1 22 rfl) (by decide) ?_
          exact ih6 (s24_.1, (s6_.2 + 1)) hF _ _ _ hP hD hS (lv_sub hl [1, 2, 3, 4, 5, 0] rfl)
        · have hF := kf hc54 hF
          refine lv_iload hx hb (kd tdlX9_referencesBut_0 32 rfl) (lv_at hl 4 rfl) ?_
          refine lv_aload_n hx hb (kd tdlX9_referencesBut_0 33 rfl) rfl (lv_at hl 0 rfl) ?_
          refine md_g_s hx hb hts inX9_ hown hK hP L7 (kd tdlX9_referencesBut_0 34 rfl) ?_
          refine lv_iload hx hb (kd tdlX9_referencesBut_0 35 rfl) (lv_at hl 6 rfl) ?_
          refine lv_iconst (v := 2) hx hb (kd tdlX9_referencesBut_0 36 rfl) (by decide) ?_
          refine lv_iadd hx hb (kd tdlX9_referencesBut_0 37 rfl) ?_
          refine lv_iconst (v := 2) hx hb (kd tdlX9_referencesBut_0 38 rfl) (by decide) ?_
          refine lv_iload hx hb (kd tdlX9_referencesBut_0 39 rfl) (lv_at hl 7 rfl) ?_
          refine lv_imul hx hb (kd tdlX9_referencesBut_0 40 rfl) ?_
          refine lv_iadd hx hb (kd tdlX9_referencesBut_0 41 rfl) ?_
          obtain ⟨hi72, hF⟩ := kg hF
          refine md_l_s hx hb hK hP hi72 (kd tdlX9_referencesBut_0 42 rfl) ?_
          refine lv_iload_n hx hb (kd tdlX9_referencesBut_0 43 rfl) rfl (lv_at hl 1 rfl) ?_
          refine lv_icmp_ne (tgt := 101) hx hb (kd tdlX9_referencesBut_0 44 rfl) (by decide) (fun hc74 => ?_) (fun hc74 => ?_)
          · have hF := kf hc74 hF
            refine lv_iconst (v := 0) hx hb (kd tdlX9_referencesBut_1 16 rfl) (by decide) ?_
            refine lv_iadd hx hb (kd tdlX9_referencesBut_1 17 rfl) ?_
            refine lv_istore (lv' := [(4, .int (s24_.1 + 0)), (0, .ref h0), (1, .int p1), (2, .int p2), (3, .int p3), (5, .int s6_.2), (6, .int v16), (7, .int s24_.2)]) hx hb (kd tdlX9_referencesBut_1 18 rfl) hl (by decide) rfl (fun ls hl => ?_)
            refine lv_iinc (v := (s24_.2 + 1)) (lv' := [(7, .int (s24_.2 + 1)), (4, .int (s24_.1 + 0)), (0, .ref h0), (1, .int p1), (2, .int p2), (3, .int p3), (5, .int s6_.2), (6, .int v16)]) hx hb (kd tdlX9_referencesBut_1 19 rfl) hl (k := 7) rfl rfl (by decide) rfl (fun ls hl => ?_)
            refine lv_goto (tgt := 24) hx hb (kd tdlX9_referencesBut_1 20 rfl) (by decide) ?_
            exact ih24 ((s24_.1 + 0), (s24_.2 + 1)) hF _ _ _ hP hD hS (lv_sub hl [2, 3, 4, 5, 1, 6, 7, 0] rfl)
          · have hF := kt hc74 hF
            refine lv_aload_n hx hb (kd tdlX9_referencesBut_1 0 rfl) rfl (lv_at hl 0 rfl) ?_
            refine md_g_s hx hb hts inX9_ hown hK hP L7 (kd tdlX9_referencesBut_1 1 rfl) ?_
            refine lv_iload hx hb (kd tdlX9_referencesBut_1 2 rfl) (lv_at hl 6 rfl) ?_
            refine lv_iconst (v := 2) hx hb (kd tdlX9_referencesBut_1 3 rfl) (by decide) ?_
            refine lv_iadd hx hb (kd tdlX9_referencesBut_1 4 rfl) ?_
            refine lv_iconst (v := 2) hx hb (kd tdlX9_referencesBut_1 5 rfl) (by decide) ?_
            refine lv_iload hx hb (kd tdlX9_referencesBut_1 6 rfl) (lv_at hl 7 rfl) ?_
            refine lv_imul hx hb (kd tdlX9_referencesBut_1 7 rfl) ?_
            refine lv_iadd hx hb (kd tdlX9_referencesBut_1 8 rfl) ?_
            refine lv_iconst (v := 1) hx hb (kd tdlX9_referencesBut_1 9 rfl) (by decide) ?_
            refine lv_iadd hx hb (kd tdlX9_referencesBut_1 10 rfl) ?_
            obtain ⟨hi92, hF⟩ := kg hF
            refine md_l_s hx hb hK hP hi92 (kd tdlX9_referencesBut_1 11 rfl) ?_
            refine lv_iload_n hx hb (kd tdlX9_referencesBut_1 12 rfl) rfl (lv_at hl 2 rfl) ?_
            refine lv_icmp_ne (tgt := 101) hx hb (kd tdlX9_referencesBut_1 13 rfl) (by decide) (fun hc94 => ?_) (fun hc94 => ?_)
            · have hF := kf hc94 hF
              refine lv_iconst (v := 0) hx hb (kd tdlX9_referencesBut_1 16 rfl) (by decide) ?_
              refine lv_iadd hx hb (kd tdlX9_referencesBut_1 17 rfl) ?_
              refine lv_istore (lv' := [(4, .int (s24_.1 + 0)), (0, .ref h0), (1, .int p1), (2, .int p2), (3, .int p3), (5, .int s6_.2), (6, .int v16), (7, .int s24_.2)]) hx hb (kd tdlX9_referencesBut_1 18 rfl) hl (by decide) rfl (fun ls hl => ?_)
              refine lv_iinc (v := (s24_.2 + 1)) (lv' := [(7, .int (s24_.2 + 1)), (4, .int (s24_.1 + 0)), (0, .ref h0), (1, .int p1), (2, .int p2), (3, .int p3), (5, .int s6_.2), (6, .int v16)]) hx hb (kd tdlX9_referencesBut_1 19 rfl) hl (k := 7) rfl rfl (by decide) rfl (fun ls hl => ?_)
              refine lv_goto (tgt := 24) hx hb (kd tdlX9_referencesBut_1 20 rfl) (by decide) ?_
              exact ih24 ((s24_.1 + 0), (s24_.2 + 1)) hF _ _ _ hP hD hS (lv_sub hl [2, 3, 4, 5, 1, 6, 7, 0] rfl)
            · have hF := kt hc94 hF
              refine lv_iconst (v := 1) hx hb (kd tdlX9_referencesBut_1 14 rfl) (by decide) ?_
              refine lv_goto (tgt := 102) hx hb (kd tdlX9_referencesBut_1 15 rfl) (by decide) ?_
              refine lv_iadd hx hb (kd tdlX9_referencesBut_1 17 rfl) ?_
              refine lv_istore (lv' := [(4, .int (s24_.1 + 1)), (0, .ref h0), (1, .int p1), (2, .int p2), (3, .int p3), (5, .int s6_.2), (6, .int v16), (7, .int s24_.2)]) hx hb (kd tdlX9_referencesBut_1 18 rfl) hl (by decide) rfl (fun ls hl => ?_)
              refine lv_iinc (v := (s24_.2 + 1)) (lv' := [(7, .int (s24_.2 + 1)), (4, .int (s24_.1 + 1)), (0, .ref h0), (1, .int p1), (2, .int p2), (3, .int p3), (5, .int s6_.2), (6, .int v16)]) hx hb (kd tdlX9_referencesBut_1 19 rfl) hl (k := 7) rfl rfl (by decide) rfl (fun ls hl => ?_)
              refine lv_goto (tgt := 24) hx hb (kd tdlX9_referencesBut_1 20 rfl) (by decide) ?_
              exact ih24 ((s24_.1 + 1), (s24_.2 + 1)) hF _ _ _ hP hD hS (lv_sub hl [2, 3, 4, 5, 1, 6, 7, 0] rfl)
set_option maxHeartbeats 4000000 in
set_option maxRecDepth 100000 in
theorem c_X9_livingIn (l : Launch) (D : va_G) (t : Nat → ClassId) (h0 : Nat) (a0 : Nat → Nat) (d0 : MDT) (sz : Nat) (p1 : Int32) (p2 : Int32) (r : Int32) (hF : F_X9_livingIn (md_s d0) p1 p2 = some r) : Met l yX9_livingIn wX9_livingIn ({ frames := 2, cells := 0, slots := 0, locals := 48 } : Room) (kPc D (TY t) ((wmd t h0 a0 d0)) [.ref h0, .int p1, .int p2] sz) (kQi D (TY t) ((wmd t h0 a0 d0)) r (va_A ((wmd t h0 a0 d0)) sz)) 0 0 (va_A ((wmd t h0 a0 d0)) sz) := by
  refine kE (cc := cX9_livingIn) (maxL := 5) (ret := (some .int)) (Qx := fun A => kQi D (TY t) ((wmd t h0 a0 d0)) r A) (lv0 := [(0, .ref h0), (1, .int p1), (2, .int p2)]) RX9 rfl (by decide) rfl (Nat.le_of_ble_eq_true rfl) rfl ?_
  intro p e s m args below meth c A ls hx hb hml hr hlocks hown hts hA hK hP hD hS hl
  have L7 := hts (.fieldLink RX9 7 "ChunkCarriersModel" "s" "[I") (List.mem_cons_of_mem _ w_101)
  have inX9_ : ∀ w ∈ wsX90, w ∈ wX9_livingIn := fun w h => List.mem_cons_of_mem _ (inlX9 w h)
  have hP : va_P D vwCl ((wmdF t h0 a0 (md_thrown d0) (md_s d0) (md_aside d0) (md_base d0) (md_saved d0) (md_savedMany d0) (md_slots d0) (md_hasSlot d0) (md_text d0) (md_length d0) (md_begins d0) (md_lengths d0) (md_streams d0) (md_letters d0) (md_letterMany d0) (md_chunks d0) (md_chunkMany d0) (md_homes d0) (md_dropped d0) (md_madeIn d0) (md_madeAt d0) (md_putMany d0) (md_path d0) (md_store d0) (md_thinOnes d0))) s.heap := hP
  have hD : va_D A ((wmdF t h0 a0 (md_thrown d0) (md_s d0) (md_aside d0) (md_base d0) (md_saved d0) (md_savedMany d0) (md_slots d0) (md_hasSlot d0) (md_text d0) (md_length d0) (md_begins d0) (md_lengths d0) (md_streams d0) (md_letters d0) (md_letterMany d0) (md_chunks d0) (md_chunkMany d0) (md_homes d0) (md_dropped d0) (md_madeIn d0) (md_madeAt d0) (md_putMany d0) (md_path d0) (md_store d0) (md_thinOnes d0))) := hD
  refine lv_iconst (v := 0) hx hb (kd tdlX9_livingIn_0 0 rfl) (by decide) ?_
  refine lv_istore_n (lv' := [(3, .int 0), (0, .ref h0), (1, .int p1), (2, .int p2)]) hx hb (kd tdlX9_livingIn_0 1 rfl) rfl hl (by decide) rfl (fun ls hl => ?_)
  refine lv_iconst (v := 0) hx hb (kd tdlX9_livingIn_0 2 rfl) (by decide) ?_
  refine lv_istore (lv' := [(4, .int 0), (3, .int 0), (0, .ref h0), (1, .int p1), (2, .int p2)]) hx hb (kd tdlX9_livingIn_0 3 rfl) hl (by decide) rfl (fun ls hl => ?_)
  refine lp_ind (f := B_X9_livingIn_5 p1 (md_s d0) p2) (r := r) (P := fun s5_ => ∀ (H : Heap) (locs : List Loc) (ls : Array Slot), va_P D vwCl ((wmdF t h0 a0 (md_thrown d0) (md_s d0) (md_aside d0) (md_base d0) (md_saved d0) (md_savedMany d0) (md_slots d0) (md_hasSlot d0) (md_text d0) (md_length d0) (md_begins d0) (md_lengths d0) (md_streams d0) (md_letters d0) (md_letterMany d0) (md_chunks d0) (md_chunkMany d0) (md_homes d0) (md_dropped d0) (md_madeIn d0) (md_madeAt d0) (md_putMany d0) (md_path d0) (md_store d0) (md_thinOnes d0))) H → va_D A ((wmdF t h0 a0 (md_thrown d0) (md_s d0) (md_aside d0) (md_base d0) (md_saved d0) (md_savedMany d0) (md_slots d0) (md_hasSlot d0) (md_text d0) (md_length d0) (md_begins d0) (md_lengths d0) (md_streams d0) (md_letters d0) (md_letterMany d0) (md_chunks d0) (md_chunkMany d0) (md_homes d0) (md_dropped d0) (md_madeIn d0) (md_madeAt d0) (md_putMany d0) (md_path d0) (md_store d0) (md_thinOnes d0))) → va_S A s.heap H locs → lv_has ls 5 [(0, .ref h0), (1, .int p1), (2, .int p2), (3, .int s5_.1), (4, .int s5_.2)] → W p l e ({ frames := 2, cells := 0, slots := 0, locals := 48 } : Room) s m args below meth c H locs 0 0 (MQ below (kQi D (TY t) ((wmd t h0 a0 d0)) r A) args s 0 0 A) (F0 m 5 ls [])) ?_ FU (0, 0) hF _ _ _ hP hD hS (lv_sub hl [2, 3, 4, 1, 0] rfl)
  intro self5 ih5 s5_ hF H locs ls hP hD hS hl
  refine lv_iload hx hb (kd tdlX9_livingIn_0 4 rfl) (lv_at hl 4 rfl) ?_
  refine lv_aload_n hx hb (kd tdlX9_livingIn_0 5 rfl) rfl (lv_at hl 0 rfl) ?_
  refine md_g_s hx hb hts inX9_ hown hK hP L7 (kd tdlX9_livingIn_0 6 rfl) ?_
  refine lv_aload_n hx hb (kd tdlX9_livingIn_0 7 rfl) rfl (lv_at hl 0 rfl) ?_
  refine lv_iload_n hx hb (kd tdlX9_livingIn_0 8 rfl) rfl (lv_at hl 1 rfl) ?_
  obtain ⟨v13, e13, hF⟩ := kc hF
  refine kc_i0 (w1 := ((wmdF t h0 a0 (md_thrown d0) (md_s d0) (md_aside d0) (md_base d0) (md_saved d0) (md_savedMany d0) (md_slots d0) (md_hasSlot d0) (md_text d0) (md_length d0) (md_begins d0) (md_lengths d0) (md_streams d0) (md_letters d0) (md_letterMany d0) (md_chunks d0) (md_chunkMany d0) (md_homes d0) (md_dropped d0) (md_madeIn d0) (md_madeAt d0) (md_putMany d0) (md_path d0) (md_store d0) (md_thinOnes d0)))) hP hD hS hA (kr_V0 (Qx := (fun A => kQi D (TY t) ((wmdF t h0 a0 (md_thrown d0) (md_s d0) (md_aside d0) (md_base d0) (md_saved d0) (md_savedMany d0) (md_slots d0) (md_hasSlot d0) (md_text d0) (md_length d0) (md_begins d0) (md_lengths d0) (md_streams d0) (md_letters d0) (md_letterMany d0) (md_chunks d0) (md_chunkMany d0) (md_homes d0) (md_dropped d0) (md_madeIn d0) (md_madeAt d0) (md_putMany d0) (md_path d0) (md_store d0) (md_thinOnes d0))) v13 A)) (As := [.int p1]) (rest := [.ref (a0 0), .int s5_.2]) ⟨hx, hb, hml, hown, hts⟩ hK hP hD (c_X9_at l D t h0 a0 d0 _ p1 v13 e13) (cwV 1 hts (gcX9_at w_306) rfl rfl rfl hdX9_atV ⟨Nat.le_of_ble_eq_true rfl, Nat.le_of_ble_eq_true rfl⟩) (ci := 8) (q0 := 0) rfl rfl rfl hl.1 rfl (Nat.le_of_ble_eq_true rfl) (kd tdlX9_livingIn_0 9 rfl) ⟨Nat.zero_le _, Nat.zero_le _⟩) (fun H locs hP hD hS => ?_)
  refine lv_iconst (v := 2) hx hb (kd tdlX9_livingIn_0 10 rfl) (by decide) ?_
  refine lv_iadd hx hb (kd tdlX9_livingIn_0 11 rfl) ?_
  obtain ⟨hi18, hF⟩ := kg hF
  refine md_l_s hx hb hK hP hi18 (kd tdlX9_livingIn_0 12 rfl) ?_
  refine lv_icmp_ge (tgt := 58) hx hb (kd tdlX9_livingIn_0 13 rfl) (by decide) (fun hc19 => ?_) (fun hc19 => ?_)
  · have hF := kt hc19 hF
    refine lv_iload_n hx hb (kd tdlX9_livingIn_0 35 rfl) rfl (lv_at hl 3 rfl) ?_
    cases ko hF
    exact ke_i hx hb hr hlocks hK hP hD hS rfl (kd tdlX9_livingIn_0 36 rfl)
  · have hF := kf hc19 hF
    refine lv_iload_n hx hb (kd tdlX9_livingIn_0 14 rfl) rfl (lv_at hl 3 rfl) ?_
    refine lv_aload_n hx hb (kd tdlX9_livingIn_0 15 rfl) rfl (lv_at hl 0 rfl) ?_
    refine lv_aload_n hx hb (kd tdlX9_livingIn_0 16 rfl) rfl (lv_at hl 0 rfl) ?_
    refine md_g_s hx hb hts inX9_ hown hK hP L7 (kd tdlX9_livingIn_0 17 rfl) ?_
    refine lv_aload_n hx hb (kd tdlX9_livingIn_0 18 rfl) rfl (lv_at hl 0 rfl) ?_
    refine lv_iload_n hx hb (kd tdlX9_livingIn_0 19 rfl) rfl (lv_at hl 1 rfl) ?_
    obtain ⟨v30, e30, hF⟩ := kc hF
    refine kc_i0 (w1 := ((wmdF t h0 a0 (md_thrown d0) (md_s d0) (md_aside d0) (md_base d0) (md_saved d0) (md_savedMany d0) (md_slots d0) (md_hasSlot d0) (md_text d0) (md_length d0) (md_begins d0) (md_lengths d0) (md_streams d0) (md_letters d0) (md_letterMany d0) (md_chunks d0) (md_chunkMany d0) (md_homes d0) (md_dropped d0) (md_madeIn d0) (md_madeAt d0) (md_putMany d0) (md_path d0) (md_store d0) (md_thinOnes d0)))) hP hD hS hA (kr_V0 (Qx := (fun A => kQi D (TY t) ((wmdF t h0 a0 (md_thrown d0) (md_s d0) (md_aside d0) (md_base d0) (md_saved d0) (md_savedMany d0) (md_slots d0) (md_hasSlot d0) (md_text d0) (md_length d0) (md_begins d0) (md_lengths d0) (md_streams d0) (md_letters d0) (md_letterMany d0) (md_chunks d0) (md_chunkMany d0) (md_homes d0) (md_dropped d0) (md_madeIn d0) (md_madeAt d0) (md_putMany d0) (md_path d0) (md_store d0) (md_thinOnes d0))) v30 A)) (As := [.int p1]) (rest := [.ref (a0 0), .ref h0, .int s5_.1]) ⟨hx, hb, hml, hown, hts⟩ hK hP hD (c_X9_at l D t h0 a0 d0 _ p1 v30 e30) (cwV 1 hts (gcX9_at w_306) rfl rfl rfl hdX9_atV ⟨Nat.le_of_ble_eq_true rfl, Nat.le_of_ble_eq_true rfl⟩) (ci := 8) (q0 := 0) rfl rfl rfl hl.1 rfl (Nat.le_of_ble_eq_true rfl) (kd tdlX9_livingIn_0 20 rfl) ⟨Nat.zero_le _, Nat.zero_le _⟩) (fun H locs hP hD hS => ?_)
    refine lv_iconst (v := 0) hx hb (kd tdlX9_livingIn_0 21 rfl) (by decide) ?_
    refine lv_iadd hx hb (kd tdlX9_livingIn_0 22 rfl) ?_
    obtain ⟨hi35, hF⟩ := kg hF
    refine md_l_s hx hb hK hP hi35 (kd tdlX9_livingIn_0 23 rfl) ?_
    refine lv_iload hx hb (kd tdlX9_livingIn_0 24 rfl) (lv_at hl 4 rfl) ?_
    refine lv_iload_n hx hb (kd tdlX9_livingIn_0 25 rfl) rfl (lv_at hl 2 rfl) ?_
    obtain ⟨v39, e39, hF⟩ := kc hF
    refine kc_i0 (w1 := ((wmdF t h0 a0 (md_thrown d0) (md_s d0) (md_aside d0) (md_base d0) (md_saved d0) (md_savedMany d0) (md_slots d0) (md_hasSlot d0) (md_text d0) (md_length d0) (md_begins d0) (md_lengths d0) (md_streams d0) (md_letters d0) (md_letterMany d0) (md_chunks d0) (md_chunkMany d0) (md_homes d0) (md_dropped d0) (md_madeIn d0) (md_madeAt d0) (md_putMany d0) (md_path d0) (md_store d0) (md_thinOnes d0)))) hP hD hS hA (kr_V0 (Qx := (fun A => kQi D (TY t) ((wmdF t h0 a0 (md_thrown d0) (md_s d0) (md_aside d0) (md_base d0) (md_saved d0) (md_savedMany d0) (md_slots d0) (md_hasSlot d0) (md_text d0) (md_length d0) (md_begins d0) (md_lengths d0) (md_streams d0) (md_letters d0) (md_letterMany d0) (md_chunks d0) (md_chunkMany d0) (md_homes d0) (md_dropped d0) (md_madeIn d0) (md_madeAt d0) (md_putMany d0) (md_path d0) (md_store d0) (md_thinOnes d0))) v39 A)) (As := [.int ((md_s d0) (Int32.toNatClampNeg (v30 + 0))), .int s5_.2, .int p2]) (rest := [.int s5_.1]) ⟨hx, hb, hml, hown, hts⟩ hK hP hD (c_X9_referencesBut l D t h0 a0 d0 _ ((md_s d0) (Int32.toNatClampNeg (v30 + 0))) s5_.2 p2 v39 e39) (cwV 3 hts (gcX9_referencesBut w_402) rfl rfl rfl hdX9_referencesButV ⟨Nat.le_of_ble_eq_true rfl, Nat.le_of_ble_eq_true rfl⟩) (ci := 8) (q0 := 0) rfl rfl rfl hl.1 rfl (Nat.le_of_ble_eq_true rfl) (kd tdlX9_livingIn_0 26 rfl) ⟨Nat.zero_le _, Nat.zero_le _⟩) (fun H locs hP hD hS => ?_)
    refine lv_if_le (tgt := 49) hx hb (kd tdlX9_livingIn_0 27 rfl) (by decide) (fun hc42 => ?_) (fun hc42 => ?_)
    · have hF := kt hc42 hF
      refine lv_iconst (v := 0) hx hb (kd tdlX9_livingIn_0 30 rfl) (by decide) ?_
      refine lv_iadd hx hb (kd tdlX9_livingIn_0 31 rfl) ?_
      refine lv_istore_n (lv' := [(3, .int (s5_.1 + 0)), (0, .ref h0), (1, .int p1), (2, .int p2), (4, .int s5_.2)]) hx hb (kd tdlX9_livingIn_0 32 rfl) rfl hl (by decide) rfl (fun ls hl => ?_)
      refine lv_iinc (v := (s5_.2 + 1)) (lv' := [(4, .int (s5_.2 + 1)), (3, .int (s5_.1 + 0)), (0, .ref h0), (1, .int p1), (2, .int p2)]) hx hb (kd tdlX9_livingIn_0 33 rfl) hl (k := 4) rfl rfl (by decide) rfl (fun ls hl => ?_)
      refine lv_goto (tgt := 5) hx hb (kd tdlX9_livingIn_0 34 rfl) (by decide) ?_
      exact ih5 ((s5_.1 + 0), (s5_.2 + 1)) hF _ _ _ hP hD hS (lv_sub hl [2, 3, 4, 1, 0] rfl)
    · have hF := kf hc42 hF
      refine lv_iconst (v := 1) hx hb (kd tdlX9_livingIn_0 28 rfl) (by decide) ?_
      refine lv_goto (tgt := 50) hx hb (kd tdlX9_livingIn_0 29 rfl) (by decide) ?_
      refine lv_iadd hx hb (kd tdlX9_livingIn_0 31 rfl) ?_
      refine lv_istore_n (lv' := [(3, .int (s5_.1 + 1)), (0, .ref h0), (1, .int p1), (2, .int p2), (4, .int s5_.2)]) hx hb (kd tdlX9_livingIn_0 32 rfl) rfl hl (by decide) rfl (fun ls hl => ?_)
      refine lv_iinc (v := (s5_.2 + 1)) (lv' := [(4, .int (s5_.2 + 1)), (3, .int (s5_.1 + 1)), (0, .ref h0), (1, .int p1), (2, .int p2)]) hx hb (kd tdlX9_livingIn_0 33 rfl) hl (k := 4) rfl rfl (by decide) rfl (fun ls hl => ?_)
      refine lv_goto (tgt := 5) hx hb (kd tdlX9_livingIn_0 34 rfl) (by decide) ?_
      exact ih5 ((s5_.1 + 1), (s5_.2 + 1)) hF _ _ _ hP hD hS (lv_sub hl [2, 3, 4, 1, 0] rfl)
set_option maxHeartbeats 4000000 in
set_option maxRecDepth 100000 in
theorem c_X9_livingBut (l : Launch) (D : va_G) (t : Nat → ClassId) (h0 : Nat) (a0 : Nat → Nat) (d0 : MDT) (sz : Nat) (p1 : Int32) (r : Int32) (hF : F_X9_livingBut (md_s d0) p1 = some r) : Met l yX9_livingBut wX9_livingBut ({ frames := 3, cells := 0, slots := 0, locals := 72 } : Room) (kPc D (TY t) ((wmd t h0 a0 d0)) [.ref h0, .int p1] sz) (kQi D (TY t) ((wmd t h0 a0 d0)) r (va_A ((wmd t h0 a0 d0)) sz)) 0 0 (va_A ((wmd t h0 a0 d0)) sz) := by
  refine kE (cc := cX9_livingBut) (maxL := 4) (ret := (some .int)) (Qx := fun A => kQi D (TY t) ((wmd t h0 a0 d0)) r A) (lv0 := [(0, .ref h0), (1, .int p1)]) RX9 rfl (by decide) rfl (Nat.le_of_ble_eq_true rfl) rfl ?_
  intro p e s m args below meth c A ls hx hb hml hr hlocks hown hts hA hK hP hD hS hl
  have L7 := hts (.fieldLink RX9 7 "ChunkCarriersModel" "s" "[I") (List.mem_cons_of_mem _ w_101)
  have inX9_ : ∀ w ∈ wsX90, w ∈ wX9_livingBut := fun w h => List.mem_cons_of_mem _ (inlX9 w h)
  have hP : va_P D vwCl ((wmdF t h0 a0 (md_thrown d0) (md_s d0) (md_aside d0) (md_base d0) (md_saved d0) (md_savedMany d0) (md_slots d0) (md_hasSlot d0) (md_text d0) (md_length d0) (md_begins d0) (md_lengths d0) (md_streams d0) (md_letters d0) (md_letterMany d0) (md_chunks d0) (md_chunkMany d0) (md_homes d0) (md_dropped d0) (md_madeIn d0) (md_madeAt d0) (md_putMany d0) (md_path d0) (md_store d0) (md_thinOnes d0))) s.heap := hP
  have hD : va_D A ((wmdF t h0 a0 (md_thrown d0) (md_s d0) (md_aside d0) (md_base d0) (md_saved d0) (md_savedMany d0) (md_slots d0) (md_hasSlot d0) (md_text d0) (md_length d0) (md_begins d0) (md_lengths d0) (md_streams d0) (md_letters d0) (md_letterMany d0) (md_chunks d0) (md_chunkMany d0) (md_homes d0) (md_dropped d0) (md_madeIn d0) (md_madeAt d0) (md_putMany d0) (md_path d0) (md_store d0) (md_thinOnes d0))) := hD
  refine lv_iconst (v := 0) hx hb (kd tdlX9_livingBut_0 0 rfl) (by decide) ?_
  refine lv_istore_n (lv' := [(2, .int 0), (0, .ref h0), (1, .int p1)]) hx hb (kd tdlX9_livingBut_0 1 rfl) rfl hl (by decide) rfl (fun ls hl => ?_)
  refine lv_iconst (v := 0) hx hb (kd tdlX9_livingBut_0 2 rfl) (by decide) ?_
  refine lv_istore_n (lv' := [(3, .int 0), (2, .int 0), (0, .ref h0), (1, .int p1)]) hx hb (kd tdlX9_livingBut_0 3 rfl) rfl hl (by decide) rfl (fun ls hl => ?_)
  refine lp_ind (f := B_X9_livingBut_4 (md_s d0) p1) (r := r) (P := fun s4_ => ∀ (H : Heap) (locs : List Loc) (ls : Array Slot), va_P D vwCl ((wmdF t h0 a0 (md_thrown d0) (md_s d0) (md_aside d0) (md_base d0) (md_saved d0) (md_savedMany d0) (md_slots d0) (md_hasSlot d0) (md_text d0) (md_length d0) (md_begins d0) (md_lengths d0) (md_streams d0) (md_letters d0) (md_letterMany d0) (md_chunks d0) (md_chunkMany d0) (md_homes d0) (md_dropped d0) (md_madeIn d0) (md_madeAt d0) (md_putMany d0) (md_path d0) (md_store d0) (md_thinOnes d0))) H → va_D A ((wmdF t h0 a0 (md_thrown d0) (md_s d0) (md_aside d0) (md_base d0) (md_saved d0) (md_savedMany d0) (md_slots d0) (md_hasSlot d0) (md_text d0) (md_length d0) (md_begins d0) (md_lengths d0) (md_streams d0) (md_letters d0) (md_letterMany d0) (md_chunks d0) (md_chunkMany d0) (md_homes d0) (md_dropped d0) (md_madeIn d0) (md_madeAt d0) (md_putMany d0) (md_path d0) (md_store d0) (md_thinOnes d0))) → va_S A s.heap H locs → lv_has ls 4 [(0, .ref h0), (1, .int p1), (2, .int s4_.1), (3, .int s4_.2)] → W p l e ({ frames := 3, cells := 0, slots := 0, locals := 72 } : Room) s m args below meth c H locs 0 0 (MQ below (kQi D (TY t) ((wmd t h0 a0 d0)) r A) args s 0 0 A) (F0 m 4 ls [])) ?_ FU (0, 0) hF _ _ _ hP hD hS (lv_sub hl [2, 3, 1, 0] rfl)
  intro self4 ih4 s4_ hF H locs ls hP hD hS hl
  refine lv_iload_n hx hb (kd tdlX9_livingBut_0 4 rfl) rfl (lv_at hl 3 rfl) ?_
  refine lv_aload_n hx hb (kd tdlX9_livingBut_0 5 rfl) rfl (lv_at hl 0 rfl) ?_
  refine md_g_s hx hb hts inX9_ hown hK hP L7 (kd tdlX9_livingBut_0 6 rfl) ?_
  refine lv_bipush (v := 7) hx hb (kd tdlX9_livingBut_0 7 rfl) (by decide) ?_
  obtain ⟨hi11, hF⟩ := kg hF
  refine md_l_s hx hb hK hP hi11 (kd tdlX9_livingBut_0 8 rfl) ?_
  refine lv_icmp_ge (tgt := 30) hx hb (kd tdlX9_livingBut_0 9 rfl) (by decide) (fun hc12 => ?_) (fun hc12 => ?_)
  · have hF := kt hc12 hF
    refine lv_iload_n hx hb (kd tdlX9_livingBut_0 19 rfl) rfl (lv_at hl 2 rfl) ?_
    cases ko hF
    exact ke_i hx hb hr hlocks hK hP hD hS rfl (kd tdlX9_livingBut_0 20 rfl)
  · have hF := kf hc12 hF
    refine lv_iload_n hx hb (kd tdlX9_livingBut_0 10 rfl) rfl (lv_at hl 2 rfl) ?_
    refine lv_aload_n hx hb (kd tdlX9_livingBut_0 11 rfl) rfl (lv_at hl 0 rfl) ?_
    refine lv_iload_n hx hb (kd tdlX9_livingBut_0 12 rfl) rfl (lv_at hl 3 rfl) ?_
    refine lv_iload_n hx hb (kd tdlX9_livingBut_0 13 rfl) rfl (lv_at hl 1 rfl) ?_
    obtain ⟨v19, e19, hF⟩ := kc hF
    refine kc_i0 (w1 := ((wmdF t h0 a0 (md_thrown d0) (md_s d0) (md_aside d0) (md_base d0) (md_saved d0) (md_savedMany d0) (md_slots d0) (md_hasSlot d0) (md_text d0) (md_length d0) (md_begins d0) (md_lengths d0) (md_streams d0) (md_letters d0) (md_letterMany d0) (md_chunks d0) (md_chunkMany d0) (md_homes d0) (md_dropped d0) (md_madeIn d0) (md_madeAt d0) (md_putMany d0) (md_path d0) (md_store d0) (md_thinOnes d0)))) hP hD hS hA (kr_V0 (Qx := (fun A => kQi D (TY t) ((wmdF t h0 a0 (md_thrown d0) (md_s d0) (md_aside d0) (md_base d0) (md_saved d0) (md_savedMany d0) (md_slots d0) (md_hasSlot d0) (md_text d0) (md_length d0) (md_begins d0) (md_lengths d0) (md_streams d0) (md_letters d0) (md_letterMany d0) (md_chunks d0) (md_chunkMany d0) (md_homes d0) (md_dropped d0) (md_madeIn d0) (md_madeAt d0) (md_putMany d0) (md_path d0) (md_store d0) (md_thinOnes d0))) v19 A)) (As := [.int s4_.2, .int p1]) (rest := [.int s4_.1]) ⟨hx, hb, hml, hown, hts⟩ hK hP hD (c_X9_livingIn l D t h0 a0 d0 _ s4_.2 p1 v19 e19) (cwV 2 hts (gcX9_livingIn w_398) rfl rfl rfl hdX9_livingInV ⟨Nat.le_of_ble_eq_true rfl, Nat.le_of_ble_eq_true rfl⟩) (ci := 8) (q0 := 0) rfl rfl rfl hl.1 rfl (Nat.le_of_ble_eq_true rfl) (kd tdlX9_livingBut_0 14 rfl) ⟨Nat.zero_le _, Nat.zero_le _⟩) (fun H locs hP hD hS => ?_)
    refine lv_iadd hx hb (kd tdlX9_livingBut_0 15 rfl) ?_
    refine lv_istore_n (lv' := [(2, .int (s4_.1 + v19)), (0, .ref h0), (1, .int p1), (3, .int s4_.2)]) hx hb (kd tdlX9_livingBut_0 16 rfl) rfl hl (by decide) rfl (fun ls hl => ?_)
    refine lv_iinc (v := (s4_.2 + 1)) (lv' := [(3, .int (s4_.2 + 1)), (2, .int (s4_.1 + v19)), (0, .ref h0), (1, .int p1)]) hx hb (kd tdlX9_livingBut_0 17 rfl) hl (k := 3) rfl rfl (by decide) rfl (fun ls hl => ?_)
    refine lv_goto (tgt := 4) hx hb (kd tdlX9_livingBut_0 18 rfl) (by decide) ?_
    exact ih4 ((s4_.1 + v19), (s4_.2 + 1)) hF _ _ _ hP hD hS (lv_sub hl [2, 3, 1, 0] rfl)
set_option maxHeartbeats 4000000 in
set_option maxRecDepth 100000 in
theorem c_X9_entries (l : Launch) (D : va_G) (t : Nat → ClassId) (h0 : Nat) (a0 : Nat → Nat) (d0 : MDT) (sz : Nat)  (r : Int32) (hF : F_X9_entries (md_s d0) = some r) : Met l yX9_entries wX9_entries ({ frames := 1, cells := 0, slots := 0, locals := 21 } : Room) (kPc D (TY t) ((wmd t h0 a0 d0)) [.ref h0] sz) (kQi D (TY t) ((wmd t h0 a0 d0)) r (va_A ((wmd t h0 a0 d0)) sz)) 0 0 (va_A ((wmd t h0 a0 d0)) sz) := by
  refine kE (cc := cX9_entries) (maxL := 3) (ret := (some .int)) (Qx := fun A => kQi D (TY t) ((wmd t h0 a0 d0)) r A) (lv0 := [(0, .ref h0)]) RX9 rfl (by decide) rfl (Nat.le_of_ble_eq_true rfl) rfl ?_
  intro p e s m args below meth c A ls hx hb hml hr hlocks hown hts hA hK hP hD hS hl
  have L7 := hts (.fieldLink RX9 7 "ChunkCarriersModel" "s" "[I") (List.mem_cons_of_mem _ w_101)
  have inX9_ : ∀ w ∈ wsX90, w ∈ wX9_entries := fun w h => List.mem_cons_of_mem _ (inlX9 w h)
  have hP : va_P D vwCl ((wmdF t h0 a0 (md_thrown d0) (md_s d0) (md_aside d0) (md_base d0) (md_saved d0) (md_savedMany d0) (md_slots d0) (md_hasSlot d0) (md_text d0) (md_length d0) (md_begins d0) (md_lengths d0) (md_streams d0) (md_letters d0) (md_letterMany d0) (md_chunks d0) (md_chunkMany d0) (md_homes d0) (md_dropped d0) (md_madeIn d0) (md_madeAt d0) (md_putMany d0) (md_path d0) (md_store d0) (md_thinOnes d0))) s.heap := hP
  have hD : va_D A ((wmdF t h0 a0 (md_thrown d0) (md_s d0) (md_aside d0) (md_base d0) (md_saved d0) (md_savedMany d0) (md_slots d0) (md_hasSlot d0) (md_text d0) (md_length d0) (md_begins d0) (md_lengths d0) (md_streams d0) (md_letters d0) (md_letterMany d0) (md_chunks d0) (md_chunkMany d0) (md_homes d0) (md_dropped d0) (md_madeIn d0) (md_madeAt d0) (md_putMany d0) (md_path d0) (md_store d0) (md_thinOnes d0))) := hD
  refine lv_iconst (v := 0) hx hb (kd tdlX9_entries_0 0 rfl) (by decide) ?_
  refine lv_istore_n (lv' := [(1, .int 0), (0, .ref h0)]) hx hb (kd tdlX9_entries_0 1 rfl) rfl hl (by decide) rfl (fun ls hl => ?_)
  refine lv_iconst (v := 0) hx hb (kd tdlX9_entries_0 2 rfl) (by decide) ?_
  refine lv_istore_n (lv' := [(2, .int 0), (1, .int 0), (0, .ref h0)]) hx hb (kd tdlX9_entries_0 3 rfl) rfl hl (by decide) rfl (fun ls hl => ?_)
  refine lp_ind (f := B_X9_entries_4 (md_s d0)) (r := r) (P := fun s4_ => ∀ (H : Heap) (locs : List Loc) (ls : Array Slot), va_P D vwCl ((wmdF t h0 a0 (md_thrown d0) (md_s d0) (md_aside d0) (md_base d0) (md_saved d0) (md_savedMany d0) (md_slots d0) (md_hasSlot d0) (md_text d0) (md_length d0) (md_begins d0) (md_lengths d0) (md_streams d0) (md_letters d0) (md_letterMany d0) (md_chunks d0) (md_chunkMany d0) (md_homes d0) (md_dropped d0) (md_madeIn d0) (md_madeAt d0) (md_putMany d0) (md_path d0) (md_store d0) (md_thinOnes d0))) H → va_D A ((wmdF t h0 a0 (md_thrown d0) (md_s d0) (md_aside d0) (md_base d0) (md_saved d0) (md_savedMany d0) (md_slots d0) (md_hasSlot d0) (md_text d0) (md_length d0) (md_begins d0) (md_lengths d0) (md_streams d0) (md_letters d0) (md_letterMany d0) (md_chunks d0) (md_chunkMany d0) (md_homes d0) (md_dropped d0) (md_madeIn d0) (md_madeAt d0) (md_putMany d0) (md_path d0) (md_store d0) (md_thinOnes d0))) → va_S A s.heap H locs → lv_has ls 3 [(0, .ref h0), (1, .int s4_.1), (2, .int s4_.2)] → W p l e ({ frames := 1, cells := 0, slots := 0, locals := 21 } : Room) s m args below meth c H locs 0 0 (MQ below (kQi D (TY t) ((wmd t h0 a0 d0)) r A) args s 0 0 A) (F0 m 4 ls [])) ?_ FU (0, 0) hF _ _ _ hP hD hS (lv_sub hl [2, 1, 0] rfl)
  intro self4 ih4 s4_ hF H locs ls hP hD hS hl
  refine lv_iload_n hx hb (kd tdlX9_entries_0 4 rfl) rfl (lv_at hl 2 rfl) ?_
  refine lv_aload_n hx hb (kd tdlX9_entries_0 5 rfl) rfl (lv_at hl 0 rfl) ?_
  refine md_g_s hx hb hts inX9_ hown hK hP L7 (kd tdlX9_entries_0 6 rfl) ?_
  refine lv_bipush (v := 7) hx hb (kd tdlX9_entries_0 7 rfl) (by decide) ?_
  obtain ⟨hi11, hF⟩ := kg hF
  refine md_l_s hx hb hK hP hi11 (kd tdlX9_entries_0 8 rfl) ?_
  refine lv_icmp_ge (tgt := 36) hx hb (kd tdlX9_entries_0 9 rfl) (by decide) (fun hc12 => ?_) (fun hc12 => ?_)
  · have hF := kt hc12 hF
    refine lv_iload_n hx hb (kd tdlX9_entries_0 23 rfl) rfl (lv_at hl 1 rfl) ?_
    cases ko hF
    exact ke_i hx hb hr hlocks hK hP hD hS rfl (kd tdlX9_entries_0 24 rfl)
  · have hF := kf hc12 hF
    refine lv_iload_n hx hb (kd tdlX9_entries_0 10 rfl) rfl (lv_at hl 1 rfl) ?_
    refine lv_aload_n hx hb (kd tdlX9_entries_0 11 rfl) rfl (lv_at hl 0 rfl) ?_
    refine md_g_s hx hb hts inX9_ hown hK hP L7 (kd tdlX9_entries_0 12 rfl) ?_
    refine lv_aload_n hx hb (kd tdlX9_entries_0 13 rfl) rfl (lv_at hl 0 rfl) ?_
    refine lv_iload_n hx hb (kd tdlX9_entries_0 14 rfl) rfl (lv_at hl 2 rfl) ?_
    obtain ⟨v22, e22, hF⟩ := kc hF
    refine kc_i0 (w1 := ((wmdF t h0 a0 (md_thrown d0) (md_s d0) (md_aside d0) (md_base d0) (md_saved d0) (md_savedMany d0) (md_slots d0) (md_hasSlot d0) (md_text d0) (md_length d0) (md_begins d0) (md_lengths d0) (md_streams d0) (md_letters d0) (md_letterMany d0) (md_chunks d0) (md_chunkMany d0) (md_homes d0) (md_dropped d0) (md_madeIn d0) (md_madeAt d0) (md_putMany d0) (md_path d0) (md_store d0) (md_thinOnes d0)))) hP hD hS hA (kr_V0 (Qx := (fun A => kQi D (TY t) ((wmdF t h0 a0 (md_thrown d0) (md_s d0) (md_aside d0) (md_base d0) (md_saved d0) (md_savedMany d0) (md_slots d0) (md_hasSlot d0) (md_text d0) (md_length d0) (md_begins d0) (md_lengths d0) (md_streams d0) (md_letters d0) (md_letterMany d0) (md_chunks d0) (md_chunkMany d0) (md_homes d0) (md_dropped d0) (md_madeIn d0) (md_madeAt d0) (md_putMany d0) (md_path d0) (md_store d0) (md_thinOnes d0))) v22 A)) (As := [.int s4_.2]) (rest := [.ref (a0 0), .int s4_.1]) ⟨hx, hb, hml, hown, hts⟩ hK hP hD (c_X9_at l D t h0 a0 d0 _ s4_.2 v22 e22) (cwV 1 hts (gcX9_at w_306) rfl rfl rfl hdX9_atV ⟨Nat.le_of_ble_eq_true rfl, Nat.le_of_ble_eq_true rfl⟩) (ci := 8) (q0 := 0) rfl rfl rfl hl.1 rfl (Nat.le_of_ble_eq_true rfl) (kd tdlX9_entries_0 15 rfl) ⟨Nat.zero_le _, Nat.zero_le _⟩) (fun H locs hP hD hS => ?_)
    refine lv_iconst (v := 2) hx hb (kd tdlX9_entries_0 16 rfl) (by decide) ?_
    refine lv_iadd hx hb (kd tdlX9_entries_0 17 rfl) ?_
    obtain ⟨hi27, hF⟩ := kg hF
    refine md_l_s hx hb hK hP hi27 (kd tdlX9_entries_0 18 rfl) ?_
    refine lv_iadd hx hb (kd tdlX9_entries_0 19 rfl) ?_
    refine lv_istore_n (lv' := [(1, .int (s4_.1 + ((md_s d0) (Int32.toNatClampNeg (v22 + 2))))), (0, .ref h0), (2, .int s4_.2)]) hx hb (kd tdlX9_entries_0 20 rfl) rfl hl (by decide) rfl (fun ls hl => ?_)
    refine lv_iinc (v := (s4_.2 + 1)) (lv' := [(2, .int (s4_.2 + 1)), (1, .int (s4_.1 + ((md_s d0) (Int32.toNatClampNeg (v22 + 2))))), (0, .ref h0)]) hx hb (kd tdlX9_entries_0 21 rfl) hl (k := 2) rfl rfl (by decide) rfl (fun ls hl => ?_)
    refine lv_goto (tgt := 4) hx hb (kd tdlX9_entries_0 22 rfl) (by decide) ?_
    exact ih4 ((s4_.1 + ((md_s d0) (Int32.toNatClampNeg (v22 + 2)))), (s4_.2 + 1)) hF _ _ _ hP hD hS (lv_sub hl [2, 1, 0] rfl)
set_option maxHeartbeats 4000000 in
set_option maxRecDepth 100000 in
theorem c_X9_isThin (l : Launch) (D : va_G) (t : Nat → ClassId) (h0 : Nat) (a0 : Nat → Nat) (d0 : MDT) (sz : Nat) (p1 : Int32) (r : Int32) (hF : F_X9_isThin (md_s d0) p1 = some r) : Met l yX9_isThin wX9_isThin ({ frames := 3, cells := 0, slots := 0, locals := 72 } : Room) (kPc D (TY t) ((wmd t h0 a0 d0)) [.ref h0, .int p1] sz) (kQi D (TY t) ((wmd t h0 a0 d0)) r (va_A ((wmd t h0 a0 d0)) sz)) 0 0 (va_A ((wmd t h0 a0 d0)) sz) := by
  refine kE (cc := cX9_isThin) (maxL := 2) (ret := (some .boolean)) (Qx := fun A => kQi D (TY t) ((wmd t h0 a0 d0)) r A) (lv0 := [(0, .ref h0), (1, .int p1)]) RX9 rfl (by decide) rfl (Nat.le_of_ble_eq_true rfl) rfl ?_
  intro p e s m args below meth c A ls hx hb hml hr hlocks hown hts hA hK hP hD hS hl
  have L7 := hts (.fieldLink RX9 7 "ChunkCarriersModel" "s" "[I") (List.mem_cons_of_mem _ w_101)
  have inX9_ : ∀ w ∈ wsX90, w ∈ wX9_isThin := fun w h => List.mem_cons_of_mem _ (inlX9 w h)
  have hP : va_P D vwCl ((wmdF t h0 a0 (md_thrown d0) (md_s d0) (md_aside d0) (md_base d0) (md_saved d0) (md_savedMany d0) (md_slots d0) (md_hasSlot d0) (md_text d0) (md_length d0) (md_begins d0) (md_lengths d0) (md_streams d0) (md_letters d0) (md_letterMany d0) (md_chunks d0) (md_chunkMany d0) (md_homes d0) (md_dropped d0) (md_madeIn d0) (md_madeAt d0) (md_putMany d0) (md_path d0) (md_store d0) (md_thinOnes d0))) s.heap := hP
  have hD : va_D A ((wmdF t h0 a0 (md_thrown d0) (md_s d0) (md_aside d0) (md_base d0) (md_saved d0) (md_savedMany d0) (md_slots d0) (md_hasSlot d0) (md_text d0) (md_length d0) (md_begins d0) (md_lengths d0) (md_streams d0) (md_letters d0) (md_letterMany d0) (md_chunks d0) (md_chunkMany d0) (md_homes d0) (md_dropped d0) (md_madeIn d0) (md_madeAt d0) (md_putMany d0) (md_path d0) (md_store d0) (md_thinOnes d0))) := hD
  refine lv_iload_n hx hb (kd tdlX9_isThin_0 0 rfl) rfl (lv_at hl 1 rfl) ?_
  refine lv_aload_n hx hb (kd tdlX9_isThin_0 1 rfl) rfl (lv_at hl 0 rfl) ?_
  refine md_g_s hx hb hts inX9_ hown hK hP L7 (kd tdlX9_isThin_0 2 rfl) ?_
  refine lv_bipush (v := 7) hx hb (kd tdlX9_isThin_0 3 rfl) (by decide) ?_
  obtain ⟨hi7, hF⟩ := kg hF
  refine md_l_s hx hb hK hP hi7 (kd tdlX9_isThin_0 4 rfl) ?_
  refine lv_iconst (v := 1) hx hb (kd tdlX9_isThin_0 5 rfl) (by decide) ?_
  refine lv_isub hx hb (kd tdlX9_isThin_0 6 rfl) ?_
  refine lv_icmp_ge (tgt := 48) hx hb (kd tdlX9_isThin_0 7 rfl) (by decide) (fun hc10 => ?_) (fun hc10 => ?_)
  · have hF := kt hc10 hF
    refine lv_iconst (v := 0) hx hb (kd tdlX9_isThin_0 30 rfl) (by decide) ?_
    cases ko hF
    exact ke_z hx hb hr hlocks rfl hK hP hD hS rfl (kd tdlX9_isThin_0 31 rfl)
  · have hF := kf hc10 hF
    refine lv_bipush (v := 100) hx hb (kd tdlX9_isThin_0 8 rfl) (by decide) ?_
    refine lv_aload_n hx hb (kd tdlX9_isThin_0 9 rfl) rfl (lv_at hl 0 rfl) ?_
    refine lv_iload_n hx hb (kd tdlX9_isThin_0 10 rfl) rfl (lv_at hl 1 rfl) ?_
    refine lv_iconst (v := (-1)) hx hb (kd tdlX9_isThin_0 11 rfl) (by decide) ?_
    obtain ⟨v18, e18, hF⟩ := kc hF
    refine kc_i0 (w1 := ((wmdF t h0 a0 (md_thrown d0) (md_s d0) (md_aside d0) (md_base d0) (md_saved d0) (md_savedMany d0) (md_slots d0) (md_hasSlot d0) (md_text d0) (md_length d0) (md_begins d0) (md_lengths d0) (md_streams d0) (md_letters d0) (md_letterMany d0) (md_chunks d0) (md_chunkMany d0) (md_homes d0) (md_dropped d0) (md_madeIn d0) (md_madeAt d0) (md_putMany d0) (md_path d0) (md_store d0) (md_thinOnes d0)))) hP hD hS hA (kr_V0 (Qx := (fun A => kQi D (TY t) ((wmdF t h0 a0 (md_thrown d0) (md_s d0) (md_aside d0) (md_base d0) (md_saved d0) (md_savedMany d0) (md_slots d0) (md_hasSlot d0) (md_text d0) (md_length d0) (md_begins d0) (md_lengths d0) (md_streams d0) (md_letters d0) (md_letterMany d0) (md_chunks d0) (md_chunkMany d0) (md_homes d0) (md_dropped d0) (md_madeIn d0) (md_madeAt d0) (md_putMany d0) (md_path d0) (md_store d0) (md_thinOnes d0))) v18 A)) (As := [.int p1, .int (-1)]) (rest := [.int 100]) ⟨hx, hb, hml, hown, hts⟩ hK hP hD (c_X9_livingIn l D t h0 a0 d0 _ p1 (-1) v18 e18) (cwV 2 hts (gcX9_livingIn w_398) rfl rfl rfl hdX9_livingInV ⟨Nat.le_of_ble_eq_true rfl, Nat.le_of_ble_eq_true rfl⟩) (ci := 8) (q0 := 0) rfl rfl rfl hl.1 rfl (Nat.le_of_ble_eq_true rfl) (kd tdlX9_isThin_0 12 rfl) ⟨Nat.zero_le _, Nat.zero_le _⟩) (fun H locs hP hD hS => ?_)
    refine lv_imul hx hb (kd tdlX9_isThin_0 13 rfl) ?_
    refine lv_aload_n hx hb (kd tdlX9_isThin_0 14 rfl) rfl (lv_at hl 0 rfl) ?_
    refine md_g_s hx hb hts inX9_ hown hK hP L7 (kd tdlX9_isThin_0 15 rfl) ?_
    refine lv_iconst (v := 3) hx hb (kd tdlX9_isThin_0 16 rfl) (by decide) ?_
    obtain ⟨hi27, hF⟩ := kg hF
    refine md_l_s hx hb hK hP hi27 (kd tdlX9_isThin_0 17 rfl) ?_
    refine lv_aload_n hx hb (kd tdlX9_isThin_0 18 rfl) rfl (lv_at hl 0 rfl) ?_
    refine md_g_s hx hb hts inX9_ hown hK hP L7 (kd tdlX9_isThin_0 19 rfl) ?_
    refine lv_aload_n hx hb (kd tdlX9_isThin_0 20 rfl) rfl (lv_at hl 0 rfl) ?_
    refine lv_iload_n hx hb (kd tdlX9_isThin_0 21 rfl) rfl (lv_at hl 1 rfl) ?_
    obtain ⟨v34, e34, hF⟩ := kc hF
    refine kc_i0 (w1 := ((wmdF t h0 a0 (md_thrown d0) (md_s d0) (md_aside d0) (md_base d0) (md_saved d0) (md_savedMany d0) (md_slots d0) (md_hasSlot d0) (md_text d0) (md_length d0) (md_begins d0) (md_lengths d0) (md_streams d0) (md_letters d0) (md_letterMany d0) (md_chunks d0) (md_chunkMany d0) (md_homes d0) (md_dropped d0) (md_madeIn d0) (md_madeAt d0) (md_putMany d0) (md_path d0) (md_store d0) (md_thinOnes d0)))) hP hD hS hA (kr_V0 (Qx := (fun A => kQi D (TY t) ((wmdF t h0 a0 (md_thrown d0) (md_s d0) (md_aside d0) (md_base d0) (md_saved d0) (md_savedMany d0) (md_slots d0) (md_hasSlot d0) (md_text d0) (md_length d0) (md_begins d0) (md_lengths d0) (md_streams d0) (md_letters d0) (md_letterMany d0) (md_chunks d0) (md_chunkMany d0) (md_homes d0) (md_dropped d0) (md_madeIn d0) (md_madeAt d0) (md_putMany d0) (md_path d0) (md_store d0) (md_thinOnes d0))) v34 A)) (As := [.int p1]) (rest := [.ref (a0 0), .int ((md_s d0) (Int32.toNatClampNeg 3)), .int (100 * v18)]) ⟨hx, hb, hml, hown, hts⟩ hK hP hD (c_X9_at l D t h0 a0 d0 _ p1 v34 e34) (cwV 1 hts (gcX9_at w_306) rfl rfl rfl hdX9_atV ⟨Nat.le_of_ble_eq_true rfl, Nat.le_of_ble_eq_true rfl⟩) (ci := 8) (q0 := 0) rfl rfl rfl hl.1 rfl (Nat.le_of_ble_eq_true rfl) (kd tdlX9_isThin_0 22 rfl) ⟨Nat.zero_le _, Nat.zero_le _⟩) (fun H locs hP hD hS => ?_)
    refine lv_iconst (v := 2) hx hb (kd tdlX9_isThin_0 23 rfl) (by decide) ?_
    refine lv_iadd hx hb (kd tdlX9_isThin_0 24 rfl) ?_
    obtain ⟨hi39, hF⟩ := kg hF
    refine md_l_s hx hb hK hP hi39 (kd tdlX9_isThin_0 25 rfl) ?_
    refine lv_imul hx hb (kd tdlX9_isThin_0 26 rfl) ?_
    refine lv_icmp_ge (tgt := 48) hx hb (kd tdlX9_isThin_0 27 rfl) (by decide) (fun hc41 => ?_) (fun hc41 => ?_)
    · have hF := kt hc41 hF
      refine lv_iconst (v := 0) hx hb (kd tdlX9_isThin_0 30 rfl) (by decide) ?_
      cases ko hF
      exact ke_z hx hb hr hlocks rfl hK hP hD hS rfl (kd tdlX9_isThin_0 31 rfl)
    · have hF := kf hc41 hF
      refine lv_iconst (v := 1) hx hb (kd tdlX9_isThin_0 28 rfl) (by decide) ?_
      refine lv_goto (tgt := 49) hx hb (kd tdlX9_isThin_0 29 rfl) (by decide) ?_
      cases ko hF
      exact ke_z hx hb hr hlocks rfl hK hP hD hS rfl (kd tdlX9_isThin_0 31 rfl)
set_option maxHeartbeats 4000000 in
set_option maxRecDepth 100000 in
theorem c_X9_thin (l : Launch) (D : va_G) (t : Nat → ClassId) (h0 : Nat) (a0 : Nat → Nat) (d0 : MDT) (sz : Nat)  (r : Int32) (hF : F_X9_thin (md_s d0) = some r) : Met l yX9_thin wX9_thin ({ frames := 4, cells := 0, slots := 0, locals := 93 } : Room) (kPc D (TY t) ((wmd t h0 a0 d0)) [.ref h0] sz) (kQi D (TY t) ((wmd t h0 a0 d0)) r (va_A ((wmd t h0 a0 d0)) sz)) 0 0 (va_A ((wmd t h0 a0 d0)) sz) := by
  refine kE (cc := cX9_thin) (maxL := 3) (ret := (some .int)) (Qx := fun A => kQi D (TY t) ((wmd t h0 a0 d0)) r A) (lv0 := [(0, .ref h0)]) RX9 rfl (by decide) rfl (Nat.le_of_ble_eq_true rfl) rfl ?_
  intro p e s m args below meth c A ls hx hb hml hr hlocks hown hts hA hK hP hD hS hl
  have L7 := hts (.fieldLink RX9 7 "ChunkCarriersModel" "s" "[I") (List.mem_cons_of_mem _ w_101)
  have inX9_ : ∀ w ∈ wsX90, w ∈ wX9_thin := fun w h => List.mem_cons_of_mem _ (inlX9 w h)
  have hP : va_P D vwCl ((wmdF t h0 a0 (md_thrown d0) (md_s d0) (md_aside d0) (md_base d0) (md_saved d0) (md_savedMany d0) (md_slots d0) (md_hasSlot d0) (md_text d0) (md_length d0) (md_begins d0) (md_lengths d0) (md_streams d0) (md_letters d0) (md_letterMany d0) (md_chunks d0) (md_chunkMany d0) (md_homes d0) (md_dropped d0) (md_madeIn d0) (md_madeAt d0) (md_putMany d0) (md_path d0) (md_store d0) (md_thinOnes d0))) s.heap := hP
  have hD : va_D A ((wmdF t h0 a0 (md_thrown d0) (md_s d0) (md_aside d0) (md_base d0) (md_saved d0) (md_savedMany d0) (md_slots d0) (md_hasSlot d0) (md_text d0) (md_length d0) (md_begins d0) (md_lengths d0) (md_streams d0) (md_letters d0) (md_letterMany d0) (md_chunks d0) (md_chunkMany d0) (md_homes d0) (md_dropped d0) (md_madeIn d0) (md_madeAt d0) (md_putMany d0) (md_path d0) (md_store d0) (md_thinOnes d0))) := hD
  refine lv_iconst (v := 0) hx hb (kd tdlX9_thin_0 0 rfl) (by decide) ?_
  refine lv_istore_n (lv' := [(1, .int 0), (0, .ref h0)]) hx hb (kd tdlX9_thin_0 1 rfl) rfl hl (by decide) rfl (fun ls hl => ?_)
  refine lv_iconst (v := 0) hx hb (kd tdlX9_thin_0 2 rfl) (by decide) ?_
  refine lv_istore_n (lv' := [(2, .int 0), (1, .int 0), (0, .ref h0)]) hx hb (kd tdlX9_thin_0 3 rfl) rfl hl (by decide) rfl (fun ls hl => ?_)
  refine lp_ind (f := B_X9_thin_4 (md_s d0)) (r := r) (P := fun s4_ => ∀ (H : Heap) (locs : List Loc) (ls : Array Slot), va_P D vwCl ((wmdF t h0 a0 (md_thrown d0) (md_s d0) (md_aside d0) (md_base d0) (md_saved d0) (md_savedMany d0) (md_slots d0) (md_hasSlot d0) (md_text d0) (md_length d0) (md_begins d0) (md_lengths d0) (md_streams d0) (md_letters d0) (md_letterMany d0) (md_chunks d0) (md_chunkMany d0) (md_homes d0) (md_dropped d0) (md_madeIn d0) (md_madeAt d0) (md_putMany d0) (md_path d0) (md_store d0) (md_thinOnes d0))) H → va_D A ((wmdF t h0 a0 (md_thrown d0) (md_s d0) (md_aside d0) (md_base d0) (md_saved d0) (md_savedMany d0) (md_slots d0) (md_hasSlot d0) (md_text d0) (md_length d0) (md_begins d0) (md_lengths d0) (md_streams d0) (md_letters d0) (md_letterMany d0) (md_chunks d0) (md_chunkMany d0) (md_homes d0) (md_dropped d0) (md_madeIn d0) (md_madeAt d0) (md_putMany d0) (md_path d0) (md_store d0) (md_thinOnes d0))) → va_S A s.heap H locs → lv_has ls 3 [(0, .ref h0), (1, .int s4_.1), (2, .int s4_.2)] → W p l e ({ frames := 4, cells := 0, slots := 0, locals := 93 } : Room) s m args below meth c H locs 0 0 (MQ below (kQi D (TY t) ((wmd t h0 a0 d0)) r A) args s 0 0 A) (F0 m 4 ls [])) ?_ FU (0, 0) hF _ _ _ hP hD hS (lv_sub hl [2, 1, 0] rfl)
  intro self4 ih4 s4_ hF H locs ls hP hD hS hl
  refine lv_iload_n hx hb (kd tdlX9_thin_0 4 rfl) rfl (lv_at hl 2 rfl) ?_
  refine lv_aload_n hx hb (kd tdlX9_thin_0 5 rfl) rfl (lv_at hl 0 rfl) ?_
  refine md_g_s hx hb hts inX9_ hown hK hP L7 (kd tdlX9_thin_0 6 rfl) ?_
  refine lv_bipush (v := 7) hx hb (kd tdlX9_thin_0 7 rfl) (by decide) ?_
  obtain ⟨hi11, hF⟩ := kg hF
  refine md_l_s hx hb hK hP hi11 (kd tdlX9_thin_0 8 rfl) ?_
  refine lv_icmp_ge (tgt := 37) hx hb (kd tdlX9_thin_0 9 rfl) (by decide) (fun hc12 => ?_) (fun hc12 => ?_)
  · have hF := kt hc12 hF
    refine lv_iload_n hx hb (kd tdlX9_thin_0 22 rfl) rfl (lv_at hl 1 rfl) ?_
    cases ko hF
    exact ke_i hx hb hr hlocks hK hP hD hS rfl (kd tdlX9_thin_0 23 rfl)
  · have hF := kf hc12 hF
    refine lv_iload_n hx hb (kd tdlX9_thin_0 10 rfl) rfl (lv_at hl 1 rfl) ?_
    refine lv_aload_n hx hb (kd tdlX9_thin_0 11 rfl) rfl (lv_at hl 0 rfl) ?_
    refine lv_iload_n hx hb (kd tdlX9_thin_0 12 rfl) rfl (lv_at hl 2 rfl) ?_
    obtain ⟨v18, e18, hF⟩ := kc hF
    refine kc_i0 (w1 := ((wmdF t h0 a0 (md_thrown d0) (md_s d0) (md_aside d0) (md_base d0) (md_saved d0) (md_savedMany d0) (md_slots d0) (md_hasSlot d0) (md_text d0) (md_length d0) (md_begins d0) (md_lengths d0) (md_streams d0) (md_letters d0) (md_letterMany d0) (md_chunks d0) (md_chunkMany d0) (md_homes d0) (md_dropped d0) (md_madeIn d0) (md_madeAt d0) (md_putMany d0) (md_path d0) (md_store d0) (md_thinOnes d0)))) hP hD hS hA (kr_V0 (Qx := (fun A => kQi D (TY t) ((wmdF t h0 a0 (md_thrown d0) (md_s d0) (md_aside d0) (md_base d0) (md_saved d0) (md_savedMany d0) (md_slots d0) (md_hasSlot d0) (md_text d0) (md_length d0) (md_begins d0) (md_lengths d0) (md_streams d0) (md_letters d0) (md_letterMany d0) (md_chunks d0) (md_chunkMany d0) (md_homes d0) (md_dropped d0) (md_madeIn d0) (md_madeAt d0) (md_putMany d0) (md_path d0) (md_store d0) (md_thinOnes d0))) v18 A)) (As := [.int s4_.2]) (rest := [.int s4_.1]) ⟨hx, hb, hml, hown, hts⟩ hK hP hD (c_X9_isThin l D t h0 a0 d0 _ s4_.2 v18 e18) (cwV 1 hts (gcX9_isThin w_414) rfl rfl rfl hdX9_isThinV ⟨Nat.le_of_ble_eq_true rfl, Nat.le_of_ble_eq_true rfl⟩) (ci := 8) (q0 := 0) rfl rfl rfl hl.1 rfl (Nat.le_of_ble_eq_true rfl) (kd tdlX9_thin_0 13 rfl) ⟨Nat.zero_le _, Nat.zero_le _⟩) (fun H locs hP hD hS => ?_)
    refine lv_if_eq (tgt := 28) hx hb (kd tdlX9_thin_0 14 rfl) (by decide) (fun hc21 => ?_) (fun hc21 => ?_)
    · have hF := kt hc21 hF
      refine lv_iconst (v := 0) hx hb (kd tdlX9_thin_0 17 rfl) (by decide) ?_
      refine lv_iadd hx hb (kd tdlX9_thin_0 18 rfl) ?_
      refine lv_istore_n (lv' := [(1, .int (s4_.1 + 0)), (0, .ref h0), (2, .int s4_.2)]) hx hb (kd tdlX9_thin_0 19 rfl) rfl hl (by decide) rfl (fun ls hl => ?_)
      refine lv_iinc (v := (s4_.2 + 1)) (lv' := [(2, .int (s4_.2 + 1)), (1, .int (s4_.1 + 0)), (0, .ref h0)]) hx hb (kd tdlX9_thin_0 20 rfl) hl (k := 2) rfl rfl (by decide) rfl (fun ls hl => ?_)
      refine lv_goto (tgt := 4) hx hb (kd tdlX9_thin_0 21 rfl) (by decide) ?_
      exact ih4 ((s4_.1 + 0), (s4_.2 + 1)) hF _ _ _ hP hD hS (lv_sub hl [2, 1, 0] rfl)
    · have hF := kf hc21 hF
      refine lv_iconst (v := 1) hx hb (kd tdlX9_thin_0 15 rfl) (by decide) ?_
      refine lv_goto (tgt := 29) hx hb (kd tdlX9_thin_0 16 rfl) (by decide) ?_
      refine lv_iadd hx hb (kd tdlX9_thin_0 18 rfl) ?_
      refine lv_istore_n (lv' := [(1, .int (s4_.1 + 1)), (0, .ref h0), (2, .int s4_.2)]) hx hb (kd tdlX9_thin_0 19 rfl) rfl hl (by decide) rfl (fun ls hl => ?_)
      refine lv_iinc (v := (s4_.2 + 1)) (lv' := [(2, .int (s4_.2 + 1)), (1, .int (s4_.1 + 1)), (0, .ref h0)]) hx hb (kd tdlX9_thin_0 20 rfl) hl (k := 2) rfl rfl (by decide) rfl (fun ls hl => ?_)
      refine lv_goto (tgt := 4) hx hb (kd tdlX9_thin_0 21 rfl) (by decide) ?_
      exact ih4 ((s4_.1 + 1), (s4_.2 + 1)) hF _ _ _ hP hD hS (lv_sub hl [2, 1, 0] rfl)
set_option maxHeartbeats 4000000 in
set_option maxRecDepth 100000 in
theorem c_X9_puts (l : Launch) (D : va_G) (t : Nat → ClassId) (h0 : Nat) (a0 : Nat → Nat) (d0 : MDT) (sz : Nat) (p1 : Int32) (r : (Nat → Int32)) (hF : F_X9_puts (md_s d0) p1 = some r) : Met l yX9_puts wX9_puts ({ frames := 1, cells := 0, slots := 0, locals := 21 } : Room) (kPc D (TY t) ((wmd t h0 a0 d0)) [.ref h0, .int p1] sz) (kQv D (TY t) ((wmd t h0 a0 ((md_thrown d0), r, (md_aside d0), (md_base d0), (md_saved d0), (md_savedMany d0), (md_slots d0), (md_hasSlot d0), (md_text d0), (md_length d0), (md_begins d0), (md_lengths d0), (md_streams d0), (md_letters d0), (md_letterMany d0), (md_chunks d0), (md_chunkMany d0), (md_homes d0), (md_dropped d0), (md_madeIn d0), (md_madeAt d0), (md_putMany d0), (md_path d0), (md_store d0), (md_thinOnes d0)))) (va_A ((wmd t h0 a0 d0)) sz)) 0 0 (va_A ((wmd t h0 a0 d0)) sz) := by
  refine kE (cc := cX9_puts) (maxL := 3) (ret := none) (Qx := fun A => kQv D (TY t) ((wmd t h0 a0 ((md_thrown d0), r, (md_aside d0), (md_base d0), (md_saved d0), (md_savedMany d0), (md_slots d0), (md_hasSlot d0), (md_text d0), (md_length d0), (md_begins d0), (md_lengths d0), (md_streams d0), (md_letters d0), (md_letterMany d0), (md_chunks d0), (md_chunkMany d0), (md_homes d0), (md_dropped d0), (md_madeIn d0), (md_madeAt d0), (md_putMany d0), (md_path d0), (md_store d0), (md_thinOnes d0)))) A) (lv0 := [(0, .ref h0), (1, .int p1)]) RX9 rfl (by decide) rfl (Nat.le_of_ble_eq_true rfl) rfl ?_
  intro p e s m args below meth c A ls hx hb hml hr hlocks hown hts hA hK hP hD hS hl
  have L7 := hts (.fieldLink RX9 7 "ChunkCarriersModel" "s" "[I") (List.mem_cons_of_mem _ w_101)
  have inX9_ : ∀ w ∈ wsX90, w ∈ wX9_puts := fun w h => List.mem_cons_of_mem _ (inlX9 w h)
  have hP : va_P D vwCl ((wmdF t h0 a0 (md_thrown d0) (md_s d0) (md_aside d0) (md_base d0) (md_saved d0) (md_savedMany d0) (md_slots d0) (md_hasSlot d0) (md_text d0) (md_length d0) (md_begins d0) (md_lengths d0) (md_streams d0) (md_letters d0) (md_letterMany d0) (md_chunks d0) (md_chunkMany d0) (md_homes d0) (md_dropped d0) (md_madeIn d0) (md_madeAt d0) (md_putMany d0) (md_path d0) (md_store d0) (md_thinOnes d0))) s.heap := hP
  have hD : va_D A ((wmdF t h0 a0 (md_thrown d0) (md_s d0) (md_aside d0) (md_base d0) (md_saved d0) (md_savedMany d0) (md_slots d0) (md_hasSlot d0) (md_text d0) (md_length d0) (md_begins d0) (md_lengths d0) (md_streams d0) (md_letters d0) (md_letterMany d0) (md_chunks d0) (md_chunkMany d0) (md_homes d0) (md_dropped d0) (md_madeIn d0) (md_madeAt d0) (md_putMany d0) (md_path d0) (md_store d0) (md_thinOnes d0))) := hD
  refine lv_aload_n hx hb (kd tdlX9_puts_0 0 rfl) rfl (lv_at hl 0 rfl) ?_
  refine md_g_s hx hb hts inX9_ hown hK hP L7 (kd tdlX9_puts_0 1 rfl) ?_
  refine lv_bipush (v := 7) hx hb (kd tdlX9_puts_0 2 rfl) (by decide) ?_
  obtain ⟨hi6, hF⟩ := kg hF
  refine md_l_s hx hb hK hP hi6 (kd tdlX9_puts_0 3 rfl) ?_
  refine lv_iconst (v := 1) hx hb (kd tdlX9_puts_0 4 rfl) (by decide) ?_
  refine lv_isub hx hb (kd tdlX9_puts_0 5 rfl) ?_
  refine lv_istore_n (lv' := [(2, .int (((md_s d0) (Int32.toNatClampNeg 7)) - 1)), (0, .ref h0), (1, .int p1)]) hx hb (kd tdlX9_puts_0 6 rfl) rfl hl (by decide) rfl (fun ls hl => ?_)
  refine lv_iload_n hx hb (kd tdlX9_puts_0 7 rfl) rfl (lv_at hl 0 rfl) ?_
  have hJ119 : ∀ j119 : Int32 × (Nat → Int32), J_X9_puts_119 p1 j119 = some r → ∀ (H : Heap) (locs : List Loc) (ls : Array Slot), va_P D vwCl ((wmdF t h0 a0 (md_thrown d0) j119.2 (md_aside d0) (md_base d0) (md_saved d0) (md_savedMany d0) (md_slots d0) (md_hasSlot d0) (md_text d0) (md_length d0) (md_begins d0) (md_lengths d0) (md_streams d0) (md_letters d0) (md_letterMany d0) (md_chunks d0) (md_chunkMany d0) (md_homes d0) (md_dropped d0) (md_madeIn d0) (md_madeAt d0) (md_putMany d0) (md_path d0) (md_store d0) (md_thinOnes d0))) H → va_D A ((wmdF t h0 a0 (md_thrown d0) j119.2 (md_aside d0) (md_base d0) (md_saved d0) (md_savedMany d0) (md_slots d0) (md_hasSlot d0) (md_text d0) (md_length d0) (md_begins d0) (md_lengths d0) (md_streams d0) (md_letters d0) (md_letterMany d0) (md_chunks d0) (md_chunkMany d0) (md_homes d0) (md_dropped d0) (md_madeIn d0) (md_madeAt d0) (md_putMany d0) (md_path d0) (md_store d0) (md_thinOnes d0))) → va_S A s.heap H locs → lv_has ls 3 [(0, .ref h0), (1, .int p1), (2, .int j119.1)] → W p l e ({ frames := 1, cells := 0, slots := 0, locals := 21 } : Room) s m args below meth c H locs 0 0 (MQ below (kQv D (TY t) ((wmd t h0 a0 ((md_thrown d0), r, (md_aside d0), (md_base d0), (md_saved d0), (md_savedMany d0), (md_slots d0), (md_hasSlot d0), (md_text d0), (md_length d0), (md_begins d0), (md_lengths d0), (md_streams d0), (md_letters d0), (md_letterMany d0), (md_chunks d0), (md_chunkMany d0), (md_homes d0), (md_dropped d0), (md_madeIn d0), (md_madeAt d0), (md_putMany d0), (md_path d0), (md_store d0), (md_thinOnes d0)))) A) args s 0 0 A) (F0 m 119 ls []) := by
    intro j119 hF H locs ls hP hD hS hl
    refine lv_aload_n hx hb (kd tdlX9_puts_1 35 rfl) rfl (lv_at hl 0 rfl) ?_
    refine md_g_s hx hb hts inX9_ hown hK hP L7 (kd tdlX9_puts_1 36 rfl) ?_
    refine lv_aload_n hx hb (kd tdlX9_puts_1 37 rfl) rfl (lv_at hl 0 rfl) ?_
    refine lv_iload_n hx hb (kd tdlX9_puts_1 38 rfl) rfl (lv_at hl 2 rfl) ?_
    obtain ⟨v125, e125, hF⟩ := kc hF
    refine kc_i0 (w1 := ((wmdF t h0 a0 (md_thrown d0) j119.2 (md_aside d0) (md_base d0) (md_saved d0) (md_savedMany d0) (md_slots d0) (md_hasSlot d0) (md_text d0) (md_length d0) (md_begins d0) (md_lengths d0) (md_streams d0) (md_letters d0) (md_letterMany d0) (md_chunks d0) (md_chunkMany d0) (md_homes d0) (md_dropped d0) (md_madeIn d0) (md_madeAt d0) (md_putMany d0) (md_path d0) (md_store d0) (md_thinOnes d0)))) hP hD hS hA (kr_V0 (Qx := (fun A => kQi D (TY t) ((wmdF t h0 a0 (md_thrown d0) j119.2 (md_aside d0) (md_base d0) (md_saved d0) (md_savedMany d0) (md_slots d0) (md_hasSlot d0) (md_text d0) (md_length d0) (md_begins d0) (md_lengths d0) (md_streams d0) (md_letters d0) (md_letterMany d0) (md_chunks d0) (md_chunkMany d0) (md_homes d0) (md_dropped d0) (md_madeIn d0) (md_madeAt d0) (md_putMany d0) (md_path d0) (md_store d0) (md_thinOnes d0))) v125 A)) (As := [.int j119.1]) (rest := [.ref (a0 0)]) ⟨hx, hb, hml, hown, hts⟩ hK hP hD (c_X9_at l D t h0 a0 ((md_thrown d0), j119.2, (md_aside d0), (md_base d0), (md_saved d0), (md_savedMany d0), (md_slots d0), (md_hasSlot d0), (md_text d0), (md_length d0), (md_begins d0), (md_lengths d0), (md_streams d0), (md_letters d0), (md_letterMany d0), (md_chunks d0), (md_chunkMany d0), (md_homes d0), (md_dropped d0), (md_madeIn d0), (md_madeAt d0), (md_putMany d0), (md_path d0), (md_store d0), (md_thinOnes d0)) _ j119.1 v125 e125) (cwV 1 hts (gcX9_at w_306) rfl rfl rfl hdX9_atV ⟨Nat.le_of_ble_eq_true rfl, Nat.le_of_ble_eq_true rfl⟩) (ci := 8) (q0 := 0) rfl rfl rfl hl.1 rfl (Nat.le_of_ble_eq_true rfl) (kd tdlX9_puts_1 39 rfl) ⟨Nat.zero_le _, Nat.zero_le _⟩) (fun H locs hP hD hS => ?_)
    refine lv_iconst (v := 3) hx hb (kd tdlX9_puts_1 40 rfl) (by decide) ?_
    refine lv_iadd hx hb (kd tdlX9_puts_1 41 rfl) ?_
    refine lv_aload_n hx hb (kd tdlX9_puts_1 42 rfl) rfl (lv_at hl 0 rfl) ?_
    refine md_g_s hx hb hts inX9_ hown hK hP L7 (kd tdlX9_puts_1 43 rfl) ?_
    refine lv_aload_n hx hb (kd tdlX9_puts_1 44 rfl) rfl (lv_at hl 0 rfl) ?_
    refine lv_iload_n hx hb (kd tdlX9_puts_2 0 rfl) rfl (lv_at hl 2 rfl) ?_
    obtain ⟨v136, e136, hF⟩ := kc hF
    refine kc_i0 (w1 := ((wmdF t h0 a0 (md_thrown d0) j119.2 (md_aside d0) (md_base d0) (md_saved d0) (md_savedMany d0) (md_slots d0) (md_hasSlot d0) (md_text d0) (md_length d0) (md_begins d0) (md_lengths d0) (md_streams d0) (md_letters d0) (md_letterMany d0) (md_chunks d0) (md_chunkMany d0) (md_homes d0) (md_dropped d0) (md_madeIn d0) (md_madeAt d0) (md_putMany d0) (md_path d0) (md_store d0) (md_thinOnes d0)))) hP hD hS hA (kr_V0 (Qx := (fun A => kQi D (TY t) ((wmdF t h0 a0 (md_thrown d0) j119.2 (md_aside d0) (md_base d0) (md_saved d0) (md_savedMany d0) (md_slots d0) (md_hasSlot d0) (md_text d0) (md_length d0) (md_begins d0) (md_lengths d0) (md_streams d0) (md_letters d0) (md_letterMany d0) (md_chunks d0) (md_chunkMany d0) (md_homes d0) (md_dropped d0) (md_madeIn d0) (md_madeAt d0) (md_putMany d0) (md_path d0) (md_store d0) (md_thinOnes d0))) v136 A)) (As := [.int j119.1]) (rest := [.ref (a0 0), .int (v125 + 3), .ref (a0 0)]) ⟨hx, hb, hml, hown, hts⟩ hK hP hD (c_X9_at l D t h0 a0 ((md_thrown d0), j119.2, (md_aside d0), (md_base d0), (md_saved d0), (md_savedMany d0), (md_slots d0), (md_hasSlot d0), (md_text d0), (md_length d0), (md_begins d0), (md_lengths d0), (md_streams d0), (md_letters d0), (md_letterMany d0), (md_chunks d0), (md_chunkMany d0), (md_homes d0), (md_dropped d0), (md_madeIn d0), (md_madeAt d0), (md_putMany d0), (md_path d0), (md_store d0), (md_thinOnes d0)) _ j119.1 v136 e136) (cwV 1 hts (gcX9_at w_306) rfl rfl rfl hdX9_atV ⟨Nat.le_of_ble_eq_true rfl, Nat.le_of_ble_eq_true rfl⟩) (ci := 8) (q0 := 0) rfl rfl rfl hl.1 rfl (Nat.le_of_ble_eq_true rfl) (kd tdlX9_puts_2 1 rfl) ⟨Nat.zero_le _, Nat.zero_le _⟩) (fun H locs hP hD hS => ?_)
    refine lv_iconst (v := 2) hx hb (kd tdlX9_puts_2 2 rfl) (by decide) ?_
    refine lv_iadd hx hb (kd tdlX9_puts_2 3 rfl) ?_
    obtain ⟨hi141, hF⟩ := kg hF
    refine md_l_s hx hb hK hP hi141 (kd tdlX9_puts_2 4 rfl) ?_
    refine lv_iadd hx hb (kd tdlX9_puts_2 5 rfl) ?_
    refine lv_iload_n hx hb (kd tdlX9_puts_2 6 rfl) rfl (lv_at hl 1 rfl) ?_
    obtain ⟨hi144, hF⟩ := kg hF
    refine md_s_s hx hb hK hP hD hS hi144 (kd tdlX9_puts_2 7 rfl) (fun H locs hP hD hS => ?_)
    refine lv_aload_n hx hb (kd tdlX9_puts_2 8 rfl) rfl (lv_at hl 0 rfl) ?_
    refine md_g_s hx hb hts inX9_ hown hK hP L7 (kd tdlX9_puts_2 9 rfl) ?_
    refine lv_aload_n hx hb (kd tdlX9_puts_2 10 rfl) rfl (lv_at hl 0 rfl) ?_
    refine lv_iload_n hx hb (kd tdlX9_puts_2 11 rfl) rfl (lv_at hl 2 rfl) ?_
    obtain ⟨v151, e151, hF⟩ := kc hF
    refine kc_i0 (w1 := ((wmdF t h0 a0 (md_thrown d0) (upd j119.2 (Int32.toNatClampNeg ((v125 + 3) + (j119.2 (Int32.toNatClampNeg (v136 + 2))))) p1) (md_aside d0) (md_base d0) (md_saved d0) (md_savedMany d0) (md_slots d0) (md_hasSlot d0) (md_text d0) (md_length d0) (md_begins d0) (md_lengths d0) (md_streams d0) (md_letters d0) (md_letterMany d0) (md_chunks d0) (md_chunkMany d0) (md_homes d0) (md_dropped d0) (md_madeIn d0) (md_madeAt d0) (md_putMany d0) (md_path d0) (md_store d0) (md_thinOnes d0)))) hP hD hS hA (kr_V0 (Qx := (fun A => kQi D (TY t) ((wmdF t h0 a0 (md_thrown d0) (upd j119.2 (Int32.toNatClampNeg ((v125 + 3) + (j119.2 (Int32.toNatClampNeg (v136 + 2))))) p1) (md_aside d0) (md_base d0) (md_saved d0) (md_savedMany d0) (md_slots d0) (md_hasSlot d0) (md_text d0) (md_length d0) (md_begins d0) (md_lengths d0) (md_streams d0) (md_letters d0) (md_letterMany d0) (md_chunks d0) (md_chunkMany d0) (md_homes d0) (md_dropped d0) (md_madeIn d0) (md_madeAt d0) (md_putMany d0) (md_path d0) (md_store d0) (md_thinOnes d0))) v151 A)) (As := [.int j119.1]) (rest := [.ref (a0 0)]) ⟨hx, hb, hml, hown, hts⟩ hK hP hD (c_X9_at l D t h0 a0 ((md_thrown d0), (upd j119.2 (Int32.toNatClampNeg ((v125 + 3) + (j119.2 (Int32.toNatClampNeg (v136 + 2))))) p1), (md_aside d0), (md_base d0), (md_saved d0), (md_savedMany d0), (md_slots d0), (md_hasSlot d0), (md_text d0), (md_length d0), (md_begins d0), (md_lengths d0), (md_streams d0), (md_letters d0), (md_letterMany d0), (md_chunks d0), (md_chunkMany d0), (md_homes d0), (md_dropped d0), (md_madeIn d0), (md_madeAt d0), (md_putMany d0), (md_path d0), (md_store d0), (md_thinOnes d0)) _ j119.1 v151 e151) (cwV 1 hts (gcX9_at w_306) rfl rfl rfl hdX9_atV ⟨Nat.le_of_ble_eq_true rfl, Nat.le_of_ble_eq_true rfl⟩) (ci := 8) (q0 := 0) rfl rfl rfl hl.1 rfl (Nat.le_of_ble_eq_true rfl) (kd tdlX9_puts_2 12 rfl) ⟨Nat.zero_le _, Nat.zero_le _⟩) (fun H locs hP hD hS => ?_)
    refine lv_iconst (v := 2) hx hb (kd tdlX9_puts_2 13 rfl) (by decide) ?_
    refine lv_iadd hx hb (kd tdlX9_puts_2 14 rfl) ?_
    refine lv_dup2_11 hx hb (kd tdlX9_puts_2 15 rfl) rfl rfl ?_
    obtain ⟨hi157, hF⟩ := kg hF
    refine md_l_s hx hb hK hP hi157 (kd tdlX9_puts_2 16 rfl) ?_
    refine lv_iconst (v := 1) hx hb (kd tdlX9_puts_2 17 rfl) (by decide) ?_
    refine lv_iadd hx hb (kd tdlX9_puts_2 18 rfl) ?_
    obtain ⟨hi160, hF⟩ := kg hF
    refine md_s_s hx hb hK hP hD hS hi160 (kd tdlX9_puts_2 19 rfl) (fun H locs hP hD hS => ?_)
    cases ko hF
    exact ke_v hx hb hr hlocks hK hP hD hS (kd tdlX9_puts_2 20 rfl)
  have hJ41 : ∀ j41 : Unit, J_X9_puts_41 (md_s d0) p1 j41 = some r → ∀ (H : Heap) (locs : List Loc) (ls : Array Slot), va_P D vwCl ((wmdF t h0 a0 (md_thrown d0) (md_s d0) (md_aside d0) (md_base d0) (md_saved d0) (md_savedMany d0) (md_slots d0) (md_hasSlot d0) (md_text d0) (md_length d0) (md_begins d0) (md_lengths d0) (md_streams d0) (md_letters d0) (md_letterMany d0) (md_chunks d0) (md_chunkMany d0) (md_homes d0) (md_dropped d0) (md_madeIn d0) (md_madeAt d0) (md_putMany d0) (md_path d0) (md_store d0) (md_thinOnes d0))) H → va_D A ((wmdF t h0 a0 (md_thrown d0) (md_s d0) (md_aside d0) (md_base d0) (md_saved d0) (md_savedMany d0) (md_slots d0) (md_hasSlot d0) (md_text d0) (md_length d0) (md_begins d0) (md_lengths d0) (md_streams d0) (md_letters d0) (md_letterMany d0) (md_chunks d0) (md_chunkMany d0) (md_homes d0) (md_dropped d0) (md_madeIn d0) (md_madeAt d0) (md_putMany d0) (md_path d0) (md_store d0) (md_thinOnes d0))) → va_S A s.heap H locs → lv_has ls 3 [(0, .ref h0), (1, .int p1)] → W p l e ({ frames := 1, cells := 0, slots := 0, locals := 21 } : Room) s m args below meth c H locs 0 0 (MQ below (kQv D (TY t) ((wmd t h0 a0 ((md_thrown d0), r, (md_aside d0), (md_base d0), (md_saved d0), (md_savedMany d0), (md_slots d0), (md_hasSlot d0), (md_text d0), (md_length d0), (md_begins d0), (md_lengths d0), (md_streams d0), (md_letters d0), (md_letterMany d0), (md_chunks d0), (md_chunkMany d0), (md_homes d0), (md_dropped d0), (md_madeIn d0), (md_madeAt d0), (md_putMany d0), (md_path d0), (md_store d0), (md_thinOnes d0)))) A) args s 0 0 A) (F0 m 41 ls []) := by
    intro j41 hF H locs ls hP hD hS hl
    refine lv_aload_n hx hb (kd tdlX9_puts_0 26 rfl) rfl (lv_at hl 0 rfl) ?_
    refine md_g_s hx hb hts inX9_ hown hK hP L7 (kd tdlX9_puts_0 27 rfl) ?_
    refine lv_bipush (v := 7) hx hb (kd tdlX9_puts_0 28 rfl) (by decide) ?_
    obtain ⟨hi47, hF⟩ := kg hF
    refine md_l_s hx hb hK hP hi47 (kd tdlX9_puts_0 29 rfl) ?_
    refine lv_istore_n (lv' := [(2, .int ((md_s d0) (Int32.toNatClampNeg 7))), (0, .ref h0), (1, .int p1)]) hx hb (kd tdlX9_puts_0 30 rfl) rfl hl (by decide) rfl (fun ls hl => ?_)
    refine lv_aload_n hx hb (kd tdlX9_puts_0 31 rfl) rfl (lv_at hl 1 rfl) ?_
    refine md_g_s hx hb hts inX9_ hown hK hP L7 (kd tdlX9_puts_0 32 rfl) ?_
    refine lv_bipush (v := 7) hx hb (kd tdlX9_puts_0 33 rfl) (by decide) ?_
    refine lv_dup2_11 hx hb (kd tdlX9_puts_0 34 rfl) rfl rfl ?_
    obtain ⟨hi56, hF⟩ := kg hF
    refine md_l_s hx hb hK hP hi56 (kd tdlX9_puts_0 35 rfl) ?_
    refine lv_iconst (v := 1) hx hb (kd tdlX9_puts_0 36 rfl) (by decide) ?_
    refine lv_iadd hx hb (kd tdlX9_puts_0 37 rfl) ?_
    obtain ⟨hi59, hF⟩ := kg hF
    refine md_s_s hx hb hK hP hD hS hi59 (kd tdlX9_puts_0 38 rfl) (fun H locs hP hD hS => ?_)
    refine lv_aload_n hx hb (kd tdlX9_puts_0 39 rfl) rfl (lv_at hl 1 rfl) ?_
    refine md_g_s hx hb hts inX9_ hown hK hP L7 (kd tdlX9_puts_0 40 rfl) ?_
    refine lv_aload_n hx hb (kd tdlX9_puts_0 41 rfl) rfl (lv_at hl 1 rfl) ?_
    refine lv_iload_n hx hb (kd tdlX9_puts_0 42 rfl) rfl (lv_at hl 0 rfl) ?_
    obtain ⟨v66, e66, hF⟩ := kc hF
    refine kc_i0 (w1 := ((wmdF t h0 a0 (md_thrown d0) (upd (md_s d0) (Int32.toNatClampNeg 7) (((md_s d0) (Int32.toNatClampNeg 7)) + 1)) (md_aside d0) (md_base d0) (md_saved d0) (md_savedMany d0) (md_slots d0) (md_hasSlot d0) (md_text d0) (md_length d0) (md_begins d0) (md_lengths d0) (md_streams d0) (md_letters d0) (md_letterMany d0) (md_chunks d0) (md_chunkMany d0) (md_homes d0) (md_dropped d0) (md_madeIn d0) (md_madeAt d0) (md_putMany d0) (md_path d0) (md_store d0) (md_thinOnes d0)))) hP hD hS hA (kr_V0 (Qx := (fun A => kQi D (TY t) ((wmdF t h0 a0 (md_thrown d0) (upd (md_s d0) (Int32.toNatClampNeg 7) (((md_s d0) (Int32.toNatClampNeg 7)) + 1)) (md_aside d0) (md_base d0) (md_saved d0) (md_savedMany d0) (md_slots d0) (md_hasSlot d0) (md_text d0) (md_length d0) (md_begins d0) (md_lengths d0) (md_streams d0) (md_letters d0) (md_letterMany d0) (md_chunks d0) (md_chunkMany d0) (md_homes d0) (md_dropped d0) (md_madeIn d0) (md_madeAt d0) (md_putMany d0) (md_path d0) (md_store d0) (md_thinOnes d0))) v66 A)) (As := [.int ((md_s d0) (Int32.toNatClampNeg 7))]) (rest := [.ref (a0 0)]) ⟨hx, hb, hml, hown, hts⟩ hK hP hD (c_X9_at l D t h0 a0 ((md_thrown d0), (upd (md_s d0) (Int32.toNatClampNeg 7) (((md_s d0) (Int32.toNatClampNeg 7)) + 1)), (md_aside d0), (md_base d0), (md_saved d0), (md_savedMany d0), (md_slots d0), (md_hasSlot d0), (md_text d0), (md_length d0), (md_begins d0), (md_lengths d0), (md_streams d0), (md_letters d0), (md_letterMany d0), (md_chunks d0), (md_chunkMany d0), (md_homes d0), (md_dropped d0), (md_madeIn d0), (md_madeAt d0), (md_putMany d0), (md_path d0), (md_store d0), (md_thinOnes d0)) _ ((md_s d0) (Int32.toNatClampNeg 7)) v66 e66) (cwV 1 hts (gcX9_at w_306) rfl rfl rfl hdX9_atV ⟨Nat.le_of_ble_eq_true rfl, Nat.le_of_ble_eq_true rfl⟩) (ci := 8) (q0 := 0) rfl rfl rfl hl.1 rfl (Nat.le_of_ble_eq_true rfl) (kd tdlX9_puts_0 43 rfl) ⟨Nat.zero_le _, Nat.zero_le _⟩) (fun H locs hP hD hS => ?_)
    refine lv_iconst (v := 0) hx hb (kd tdlX9_puts_0 44 rfl) (by decide) ?_
    refine lv_iadd hx hb (kd tdlX9_puts_1 0 rfl) ?_
    refine lv_aload_n hx hb (kd tdlX9_puts_1 1 rfl) rfl (lv_at hl 1 rfl) ?_
    refine md_g_s hx hb hts inX9_ hown hK hP L7 (kd tdlX9_puts_1 2 rfl) ?_
    refine lv_iconst (v := 5) hx hb (kd tdlX9_puts_1 3 rfl) (by decide) ?_
    obtain ⟨hi76, hF⟩ := kg hF
    refine md_l_s hx hb hK hP hi76 (kd tdlX9_puts_1 4 rfl) ?_
    obtain ⟨hi77, hF⟩ := kg hF
    refine md_s_s hx hb hK hP hD hS hi77 (kd tdlX9_puts_1 5 rfl) (fun H locs hP hD hS => ?_)
    refine lv_aload_n hx hb (kd tdlX9_puts_1 6 rfl) rfl (lv_at hl 1 rfl) ?_
    refine md_g_s hx hb hts inX9_ hown hK hP L7 (kd tdlX9_puts_1 7 rfl) ?_
    refine lv_aload_n hx hb (kd tdlX9_puts_1 8 rfl) rfl (lv_at hl 1 rfl) ?_
    refine lv_iload_n hx hb (kd tdlX9_puts_1 9 rfl) rfl (lv_at hl 0 rfl) ?_
    obtain ⟨v84, e84, hF⟩ := kc hF
    refine kc_i0 (w1 := ((wmdF t h0 a0 (md_thrown d0) (upd (upd (md_s d0) (Int32.toNatClampNeg 7) (((md_s d0) (Int32.toNatClampNeg 7)) + 1)) (Int32.toNatClampNeg (v66 + 0)) ((upd (md_s d0) (Int32.toNatClampNeg 7) (((md_s d0) (Int32.toNatClampNeg 7)) + 1)) (Int32.toNatClampNeg 5))) (md_aside d0) (md_base d0) (md_saved d0) (md_savedMany d0) (md_slots d0) (md_hasSlot d0) (md_text d0) (md_length d0) (md_begins d0) (md_lengths d0) (md_streams d0) (md_letters d0) (md_letterMany d0) (md_chunks d0) (md_chunkMany d0) (md_homes d0) (md_dropped d0) (md_madeIn d0) (md_madeAt d0) (md_putMany d0) (md_path d0) (md_store d0) (md_thinOnes d0)))) hP hD hS hA (kr_V0 (Qx := (fun A => kQi D (TY t) ((wmdF t h0 a0 (md_thrown d0) (upd (upd (md_s d0) (Int32.toNatClampNeg 7) (((md_s d0) (Int32.toNatClampNeg 7)) + 1)) (Int32.toNatClampNeg (v66 + 0)) ((upd (md_s d0) (Int32.toNatClampNeg 7) (((md_s d0) (Int32.toNatClampNeg 7)) + 1)) (Int32.toNatClampNeg 5))) (md_aside d0) (md_base d0) (md_saved d0) (md_savedMany d0) (md_slots d0) (md_hasSlot d0) (md_text d0) (md_length d0) (md_begins d0) (md_lengths d0) (md_streams d0) (md_letters d0) (md_letterMany d0) (md_chunks d0) (md_chunkMany d0) (md_homes d0) (md_dropped d0) (md_madeIn d0) (md_madeAt d0) (md_putMany d0) (md_path d0) (md_store d0) (md_thinOnes d0))) v84 A)) (As := [.int ((md_s d0) (Int32.toNatClampNeg 7))]) (rest := [.ref (a0 0)]) ⟨hx, hb, hml, hown, hts⟩ hK hP hD (c_X9_at l D t h0 a0 ((md_thrown d0), (upd (upd (md_s d0) (Int32.toNatClampNeg 7) (((md_s d0) (Int32.toNatClampNeg 7)) + 1)) (Int32.toNatClampNeg (v66 + 0)) ((upd (md_s d0) (Int32.toNatClampNeg 7) (((md_s d0) (Int32.toNatClampNeg 7)) + 1)) (Int32.toNatClampNeg 5))), (md_aside d0), (md_base d0), (md_saved d0), (md_savedMany d0), (md_slots d0), (md_hasSlot d0), (md_text d0), (md_length d0), (md_begins d0), (md_lengths d0), (md_streams d0), (md_letters d0), (md_letterMany d0), (md_chunks d0), (md_chunkMany d0), (md_homes d0), (md_dropped d0), (md_madeIn d0), (md_madeAt d0), (md_putMany d0), (md_path d0), (md_store d0), (md_thinOnes d0)) _ ((md_s d0) (Int32.toNatClampNeg 7)) v84 e84) (cwV 1 hts (gcX9_at w_306) rfl rfl rfl hdX9_atV ⟨Nat.le_of_ble_eq_true rfl, Nat.le_of_ble_eq_true rfl⟩) (ci := 8) (q0 := 0) rfl rfl rfl hl.1 rfl (Nat.le_of_ble_eq_true rfl) (kd tdlX9_puts_1 10 rfl) ⟨Nat.zero_le _, Nat.zero_le _⟩) (fun H locs hP hD hS => ?_)
    refine lv_iconst (v := 1) hx hb (kd tdlX9_puts_1 11 rfl) (by decide) ?_
    refine lv_iadd hx hb (kd tdlX9_puts_1 12 rfl) ?_
    refine lv_aload_n hx hb (kd tdlX9_puts_1 13 rfl) rfl (lv_at hl 1 rfl) ?_
    refine md_g_s hx hb hts inX9_ hown hK hP L7 (kd tdlX9_puts_1 14 rfl) ?_
    refine lv_iconst (v := 1) hx hb (kd tdlX9_puts_1 15 rfl) (by decide) ?_
    obtain ⟨hi94, hF⟩ := kg hF
    refine md_l_s hx hb hK hP hi94 (kd tdlX9_puts_1 16 rfl) ?_
    obtain ⟨hi95, hF⟩ := kg hF
    refine md_s_s hx hb hK hP hD hS hi95 (kd tdlX9_puts_1 17 rfl) (fun H locs hP hD hS => ?_)
    refine lv_aload_n hx hb (kd tdlX9_puts_1 18 rfl) rfl (lv_at hl 1 rfl) ?_
    refine md_g_s hx hb hts inX9_ hown hK hP L7 (kd tdlX9_puts_1 19 rfl) ?_
    refine lv_aload_n hx hb (kd tdlX9_puts_1 20 rfl) rfl (lv_at hl 1 rfl) ?_
    refine lv_iload_n hx hb (kd tdlX9_puts_1 21 rfl) rfl (lv_at hl 0 rfl) ?_
    obtain ⟨v102, e102, hF⟩ := kc hF
    refine kc_i0 (w1 := ((wmdF t h0 a0 (md_thrown d0) (upd (upd (upd (md_s d0) (Int32.toNatClampNeg 7) (((md_s d0) (Int32.toNatClampNeg 7)) + 1)) (Int32.toNatClampNeg (v66 + 0)) ((upd (md_s d0) (Int32.toNatClampNeg 7) (((md_s d0) (Int32.toNatClampNeg 7)) + 1)) (Int32.toNatClampNeg 5))) (Int32.toNatClampNeg (v84 + 1)) ((upd (upd (md_s d0) (Int32.toNatClampNeg 7) (((md_s d0) (Int32.toNatClampNeg 7)) + 1)) (Int32.toNatClampNeg (v66 + 0)) ((upd (md_s d0) (Int32.toNatClampNeg 7) (((md_s d0) (Int32.toNatClampNeg 7)) + 1)) (Int32.toNatClampNeg 5))) (Int32.toNatClampNeg 1))) (md_aside d0) (md_base d0) (md_saved d0) (md_savedMany d0) (md_slots d0) (md_hasSlot d0) (md_text d0) (md_length d0) (md_begins d0) (md_lengths d0) (md_streams d0) (md_letters d0) (md_letterMany d0) (md_chunks d0) (md_chunkMany d0) (md_homes d0) (md_dropped d0) (md_madeIn d0) (md_madeAt d0) (md_putMany d0) (md_path d0) (md_store d0) (md_thinOnes d0)))) hP hD hS hA (kr_V0 (Qx := (fun A => kQi D (TY t) ((wmdF t h0 a0 (md_thrown d0) (upd (upd (upd (md_s d0) (Int32.toNatClampNeg 7) (((md_s d0) (Int32.toNatClampNeg 7)) + 1)) (Int32.toNatClampNeg (v66 + 0)) ((upd (md_s d0) (Int32.toNatClampNeg 7) (((md_s d0) (Int32.toNatClampNeg 7)) + 1)) (Int32.toNatClampNeg 5))) (Int32.toNatClampNeg (v84 + 1)) ((upd (upd (md_s d0) (Int32.toNatClampNeg 7) (((md_s d0) (Int32.toNatClampNeg 7)) + 1)) (Int32.toNatClampNeg (v66 + 0)) ((upd (md_s d0) (Int32.toNatClampNeg 7) (((md_s d0) (Int32.toNatClampNeg 7)) + 1)) (Int32.toNatClampNeg 5))) (Int32.toNatClampNeg 1))) (md_aside d0) (md_base d0) (md_saved d0) (md_savedMany d0) (md_slots d0) (md_hasSlot d0) (md_text d0) (md_length d0) (md_begins d0) (md_lengths d0) (md_streams d0) (md_letters d0) (md_letterMany d0) (md_chunks d0) (md_chunkMany d0) (md_homes d0) (md_dropped d0) (md_madeIn d0) (md_madeAt d0) (md_putMany d0) (md_path d0) (md_store d0) (md_thinOnes d0))) v102 A)) (As := [.int ((md_s d0) (Int32.toNatClampNeg 7))]) (rest := [.ref (a0 0)]) ⟨hx, hb, hml, hown, hts⟩ hK hP hD (c_X9_at l D t h0 a0 ((md_thrown d0), (upd (upd (upd (md_s d0) (Int32.toNatClampNeg 7) (((md_s d0) (Int32.toNatClampNeg 7)) + 1)) (Int32.toNatClampNeg (v66 + 0)) ((upd (md_s d0) (Int32.toNatClampNeg 7) (((md_s d0) (Int32.toNatClampNeg 7)) + 1)) (Int32.toNatClampNeg 5))) (Int32.toNatClampNeg (v84 + 1)) ((upd (upd (md_s d0) (Int32.toNatClampNeg 7) (((md_s d0) (Int32.toNatClampNeg 7)) + 1)) (Int32.toNatClampNeg (v66 + 0)) ((upd (md_s d0) (Int32.toNatClampNeg 7) (((md_s d0) (Int32.toNatClampNeg 7)) + 1)) (Int32.toNatClampNeg 5))) (Int32.toNatClampNeg 1))), (md_aside d0), (md_base d0), (md_saved d0), (md_savedMany d0), (md_slots d0), (md_hasSlot d0), (md_text d0), (md_length d0), (md_begins d0), (md_lengths d0), (md_streams d0), (md_letters d0), (md_letterMany d0), (md_chunks d0), (md_chunkMany d0), (md_homes d0), (md_dropped d0), (md_madeIn d0), (md_madeAt d0), (md_putMany d0), (md_path d0), (md_store d0), (md_thinOnes d0)) _ ((md_s d0) (Int32.toNatClampNeg 7)) v102 e102) (cwV 1 hts (gcX9_at w_306) rfl rfl rfl hdX9_atV ⟨Nat.le_of_ble_eq_true rfl, Nat.le_of_ble_eq_true rfl⟩) (ci := 8) (q0 := 0) rfl rfl rfl hl.1 rfl (Nat.le_of_ble_eq_true rfl) (kd tdlX9_puts_1 22 rfl) ⟨Nat.zero_le _, Nat.zero_le _⟩) (fun H locs hP hD hS => ?_)
    refine lv_iconst (v := 2) hx hb (kd tdlX9_puts_1 23 rfl) (by decide) ?_
    refine lv_iadd hx hb (kd tdlX9_puts_1 24 rfl) ?_
    refine lv_iconst (v := 0) hx hb (kd tdlX9_puts_1 25 rfl) (by decide) ?_
    obtain ⟨hi108, hF⟩ := kg hF
    refine md_s_s hx hb hK hP hD hS hi108 (kd tdlX9_puts_1 26 rfl) (fun H locs hP hD hS => ?_)
    refine lv_aload_n hx hb (kd tdlX9_puts_1 27 rfl) rfl (lv_at hl 1 rfl) ?_
    refine md_g_s hx hb hts inX9_ hown hK hP L7 (kd tdlX9_puts_1 28 rfl) ?_
    refine lv_iconst (v := 5) hx hb (kd tdlX9_puts_1 29 rfl) (by decide) ?_
    refine lv_dup2_11 hx hb (kd tdlX9_puts_1 30 rfl) rfl rfl ?_
    obtain ⟨hi115, hF⟩ := kg hF
    refine md_l_s hx hb hK hP hi115 (kd tdlX9_puts_1 31 rfl) ?_
    refine lv_iconst (v := 1) hx hb (kd tdlX9_puts_1 32 rfl) (by decide) ?_
    refine lv_iadd hx hb (kd tdlX9_puts_1 33 rfl) ?_
    obtain ⟨hi118, hF⟩ := kg hF
    refine md_s_s hx hb hK hP hD hS hi118 (kd tdlX9_puts_1 34 rfl) (fun H locs hP hD hS => ?_)
    exact hJ119 (((md_s d0) (Int32.toNatClampNeg 7)), (upd (upd (upd (upd (upd (md_s d0) (Int32.toNatClampNeg 7) (((md_s d0) (Int32.toNatClampNeg 7)) + 1)) (Int32.toNatClampNeg (v66 + 0)) ((upd (md_s d0) (Int32.toNatClampNeg 7) (((md_s d0) (Int32.toNatClampNeg 7)) + 1)) (Int32.toNatClampNeg 5))) (Int32.toNatClampNeg (v84 + 1)) ((upd (upd (md_s d0) (Int32.toNatClampNeg 7) (((md_s d0) (Int32.toNatClampNeg 7)) + 1)) (Int32.toNatClampNeg (v66 + 0)) ((upd (md_s d0) (Int32.toNatClampNeg 7) (((md_s d0) (Int32.toNatClampNeg 7)) + 1)) (Int32.toNatClampNeg 5))) (Int32.toNatClampNeg 1))) (Int32.toNatClampNeg (v102 + 2)) 0) (Int32.toNatClampNeg 5) (((upd (upd (upd (upd (md_s d0) (Int32.toNatClampNeg 7) (((md_s d0) (Int32.toNatClampNeg 7)) + 1)) (Int32.toNatClampNeg (v66 + 0)) ((upd (md_s d0) (Int32.toNatClampNeg 7) (((md_s d0) (Int32.toNatClampNeg 7)) + 1)) (Int32.toNatClampNeg 5))) (Int32.toNatClampNeg (v84 + 1)) ((upd (upd (md_s d0) (Int32.toNatClampNeg 7) (((md_s d0) (Int32.toNatClampNeg 7)) + 1)) (Int32.toNatClampNeg (v66 + 0)) ((upd (md_s d0) (Int32.toNatClampNeg 7) (((md_s d0) (Int32.toNatClampNeg 7)) + 1)) (Int32.toNatClampNeg 5))) (Int32.toNatClampNeg 1))) (Int32.toNatClampNeg (v102 + 2)) 0) (Int32.toNatClampNeg 5)) + 1))) hF _ _ _ hP hD hS (lv_sub hl [1, 2, 0] rfl)
  refine lv_if_lt (tgt := 41) hx hb (kd tdlX9_puts_0 8 rfl) (by decide) (fun hc11 => ?_) (fun hc11 => ?_)
  · have hF := kt hc11 hF
    exact hJ41 () hF _ _ _ hP hD hS (lv_sub hl [1, 2] rfl)
  · have hF := kf hc11 hF
    refine lv_aload_n hx hb (kd tdlX9_puts_0 9 rfl) rfl (lv_at hl 1 rfl) ?_
    refine md_g_s hx hb hts inX9_ hown hK hP L7 (kd tdlX9_puts_0 10 rfl) ?_
    refine lv_aload_n hx hb (kd tdlX9_puts_0 11 rfl) rfl (lv_at hl 1 rfl) ?_
    refine lv_iload_n hx hb (kd tdlX9_puts_0 12 rfl) rfl (lv_at hl 0 rfl) ?_
    obtain ⟨v20, e20, hF⟩ := kc hF
    refine kc_i0 (w1 := ((wmdF t h0 a0 (md_thrown d0) (md_s d0) (md_aside d0) (md_base d0) (md_saved d0) (md_savedMany d0) (md_slots d0) (md_hasSlot d0) (md_text d0) (md_length d0) (md_begins d0) (md_lengths d0) (md_streams d0) (md_letters d0) (md_letterMany d0) (md_chunks d0) (md_chunkMany d0) (md_homes d0) (md_dropped d0) (md_madeIn d0) (md_madeAt d0) (md_putMany d0) (md_path d0) (md_store d0) (md_thinOnes d0)))) hP hD hS hA (kr_V0 (Qx := (fun A => kQi D (TY t) ((wmdF t h0 a0 (md_thrown d0) (md_s d0) (md_aside d0) (md_base d0) (md_saved d0) (md_savedMany d0) (md_slots d0) (md_hasSlot d0) (md_text d0) (md_length d0) (md_begins d0) (md_lengths d0) (md_streams d0) (md_letters d0) (md_letterMany d0) (md_chunks d0) (md_chunkMany d0) (md_homes d0) (md_dropped d0) (md_madeIn d0) (md_madeAt d0) (md_putMany d0) (md_path d0) (md_store d0) (md_thinOnes d0))) v20 A)) (As := [.int (((md_s d0) (Int32.toNatClampNeg 7)) - 1)]) (rest := [.ref (a0 0)]) ⟨hx, hb, hml, hown, hts⟩ hK hP hD (c_X9_at l D t h0 a0 d0 _ (((md_s d0) (Int32.toNatClampNeg 7)) - 1) v20 e20) (cwV 1 hts (gcX9_at w_306) rfl rfl rfl hdX9_atV ⟨Nat.le_of_ble_eq_true rfl, Nat.le_of_ble_eq_true rfl⟩) (ci := 8) (q0 := 0) rfl rfl rfl hl.1 rfl (Nat.le_of_ble_eq_true rfl) (kd tdlX9_puts_0 13 rfl) ⟨Nat.zero_le _, Nat.zero_le _⟩) (fun H locs hP hD hS => ?_)
    refine lv_iconst (v := 2) hx hb (kd tdlX9_puts_0 14 rfl) (by decide) ?_
    refine lv_iadd hx hb (kd tdlX9_puts_0 15 rfl) ?_
    obtain ⟨hi25, hF⟩ := kg hF
    refine md_l_s hx hb hK hP hi25 (kd tdlX9_puts_0 16 rfl) ?_
    refine lv_aload_n hx hb (kd tdlX9_puts_0 17 rfl) rfl (lv_at hl 1 rfl) ?_
    refine md_g_s hx hb hts inX9_ hown hK hP L7 (kd tdlX9_puts_0 18 rfl) ?_
    refine lv_aload_n hx hb (kd tdlX9_puts_0 19 rfl) rfl (lv_at hl 1 rfl) ?_
    refine lv_iload_n hx hb (kd tdlX9_puts_0 20 rfl) rfl (lv_at hl 0 rfl) ?_
    obtain ⟨v32, e32, hF⟩ := kc hF
    refine kc_i0 (w1 := ((wmdF t h0 a0 (md_thrown d0) (md_s d0) (md_aside d0) (md_base d0) (md_saved d0) (md_savedMany d0) (md_slots d0) (md_hasSlot d0) (md_text d0) (md_length d0) (md_begins d0) (md_lengths d0) (md_streams d0) (md_letters d0) (md_letterMany d0) (md_chunks d0) (md_chunkMany d0) (md_homes d0) (md_dropped d0) (md_madeIn d0) (md_madeAt d0) (md_putMany d0) (md_path d0) (md_store d0) (md_thinOnes d0)))) hP hD hS hA (kr_V0 (Qx := (fun A => kQi D (TY t) ((wmdF t h0 a0 (md_thrown d0) (md_s d0) (md_aside d0) (md_base d0) (md_saved d0) (md_savedMany d0) (md_slots d0) (md_hasSlot d0) (md_text d0) (md_length d0) (md_begins d0) (md_lengths d0) (md_streams d0) (md_letters d0) (md_letterMany d0) (md_chunks d0) (md_chunkMany d0) (md_homes d0) (md_dropped d0) (md_madeIn d0) (md_madeAt d0) (md_putMany d0) (md_path d0) (md_store d0) (md_thinOnes d0))) v32 A)) (As := [.int (((md_s d0) (Int32.toNatClampNeg 7)) - 1)]) (rest := [.ref (a0 0), .int ((md_s d0) (Int32.toNatClampNeg (v20 + 2)))]) ⟨hx, hb, hml, hown, hts⟩ hK hP hD (c_X9_at l D t h0 a0 d0 _ (((md_s d0) (Int32.toNatClampNeg 7)) - 1) v32 e32) (cwV 1 hts (gcX9_at w_306) rfl rfl rfl hdX9_atV ⟨Nat.le_of_ble_eq_true rfl, Nat.le_of_ble_eq_true rfl⟩) (ci := 8) (q0 := 0) rfl rfl rfl hl.1 rfl (Nat.le_of_ble_eq_true rfl) (kd tdlX9_puts_0 21 rfl) ⟨Nat.zero_le _, Nat.zero_le _⟩) (fun H locs hP hD hS => ?_)
    refine lv_iconst (v := 1) hx hb (kd tdlX9_puts_0 22 rfl) (by decide) ?_
    refine lv_iadd hx hb (kd tdlX9_puts_0 23 rfl) ?_
    obtain ⟨hi37, hF⟩ := kg hF
    refine md_l_s hx hb hK hP hi37 (kd tdlX9_puts_0 24 rfl) ?_
    refine lv_icmp_ne (tgt := 119) hx hb (kd tdlX9_puts_0 25 rfl) (by decide) (fun hc38 => ?_) (fun hc38 => ?_)
    · have hF := kf hc38 hF
      exact hJ119 ((((md_s d0) (Int32.toNatClampNeg 7)) - 1), (md_s d0)) hF _ _ _ hP hD hS (lv_sub hl [1, 2, 0] rfl)
    · have hF := kt hc38 hF
      exact hJ41 () hF _ _ _ hP hD hS (lv_sub hl [1, 2] rfl)
set_option maxHeartbeats 4000000 in
set_option maxRecDepth 100000 in
theorem c_X9_entryOf (l : Launch) (D : va_G) (t : Nat → ClassId) (h0 : Nat) (a0 : Nat → Nat) (d0 : MDT) (sz : Nat) (p1 : Int32) (p2 : Int32) (r : Int32) (hF : F_X9_entryOf (md_s d0) p1 p2 = some r) : Met l yX9_entryOf wX9_entryOf ({ frames := 1, cells := 0, slots := 0, locals := 21 } : Room) (kPc D (TY t) ((wmd t h0 a0 d0)) [.ref h0, .int p1, .int p2] sz) (kQi D (TY t) ((wmd t h0 a0 d0)) r (va_A ((wmd t h0 a0 d0)) sz)) 0 0 (va_A ((wmd t h0 a0 d0)) sz) := by
  refine kE (cc := cX9_entryOf) (maxL := 4) (ret := (some .int)) (Qx := fun A => kQi D (TY t) ((wmd t h0 a0 d0)) r A) (lv0 := [(0, .ref h0), (1, .int p1), (2, .int p2)]) RX9 rfl (by decide) rfl (Nat.le_of_ble_eq_true rfl) rfl ?_
  intro p e s m args below meth c A ls hx hb hml hr hlocks hown hts hA hK hP hD hS hl
  have L7 := hts (.fieldLink RX9 7 "ChunkCarriersModel" "s" "[I") (List.mem_cons_of_mem _ w_101)
  have inX9_ : ∀ w ∈ wsX90, w ∈ wX9_entryOf := fun w h => List.mem_cons_of_mem _ (inlX9 w h)
  have hP : va_P D vwCl ((wmdF t h0 a0 (md_thrown d0) (md_s d0) (md_aside d0) (md_base d0) (md_saved d0) (md_savedMany d0) (md_slots d0) (md_hasSlot d0) (md_text d0) (md_length d0) (md_begins d0) (md_lengths d0) (md_streams d0) (md_letters d0) (md_letterMany d0) (md_chunks d0) (md_chunkMany d0) (md_homes d0) (md_dropped d0) (md_madeIn d0) (md_madeAt d0) (md_putMany d0) (md_path d0) (md_store d0) (md_thinOnes d0))) s.heap := hP
  have hD : va_D A ((wmdF t h0 a0 (md_thrown d0) (md_s d0) (md_aside d0) (md_base d0) (md_saved d0) (md_savedMany d0) (md_slots d0) (md_hasSlot d0) (md_text d0) (md_length d0) (md_begins d0) (md_lengths d0) (md_streams d0) (md_letters d0) (md_letterMany d0) (md_chunks d0) (md_chunkMany d0) (md_homes d0) (md_dropped d0) (md_madeIn d0) (md_madeAt d0) (md_putMany d0) (md_path d0) (md_store d0) (md_thinOnes d0))) := hD
  refine lv_iconst (v := 0) hx hb (kd tdlX9_entryOf_0 0 rfl) (by decide) ?_
  refine lv_istore_n (lv' := [(3, .int 0), (0, .ref h0), (1, .int p1), (2, .int p2)]) hx hb (kd tdlX9_entryOf_0 1 rfl) rfl hl (by decide) rfl (fun ls hl => ?_)
  refine lp_ind (f := B_X9_entryOf_2 p1 (md_s d0) p2) (r := r) (P := fun s2_ => ∀ (H : Heap) (locs : List Loc) (ls : Array Slot), va_P D vwCl ((wmdF t h0 a0 (md_thrown d0) (md_s d0) (md_aside d0) (md_base d0) (md_saved d0) (md_savedMany d0) (md_slots d0) (md_hasSlot d0) (md_text d0) (md_length d0) (md_begins d0) (md_lengths d0) (md_streams d0) (md_letters d0) (md_letterMany d0) (md_chunks d0) (md_chunkMany d0) (md_homes d0) (md_dropped d0) (md_madeIn d0) (md_madeAt d0) (md_putMany d0) (md_path d0) (md_store d0) (md_thinOnes d0))) H → va_D A ((wmdF t h0 a0 (md_thrown d0) (md_s d0) (md_aside d0) (md_base d0) (md_saved d0) (md_savedMany d0) (md_slots d0) (md_hasSlot d0) (md_text d0) (md_length d0) (md_begins d0) (md_lengths d0) (md_streams d0) (md_letters d0) (md_letterMany d0) (md_chunks d0) (md_chunkMany d0) (md_homes d0) (md_dropped d0) (md_madeIn d0) (md_madeAt d0) (md_putMany d0) (md_path d0) (md_store d0) (md_thinOnes d0))) → va_S A s.heap H locs → lv_has ls 4 [(0, .ref h0), (1, .int p1), (2, .int p2), (3, .int s2_)] → W p l e ({ frames := 1, cells := 0, slots := 0, locals := 21 } : Room) s m args below meth c H locs 0 0 (MQ below (kQi D (TY t) ((wmd t h0 a0 d0)) r A) args s 0 0 A) (F0 m 2 ls [])) ?_ FU (0) hF _ _ _ hP hD hS (lv_sub hl [1, 2, 3, 0] rfl)
  intro self2 ih2 s2_ hF H locs ls hP hD hS hl
  refine lv_iload_n hx hb (kd tdlX9_entryOf_0 2 rfl) rfl (lv_at hl 3 rfl) ?_
  refine lv_aload_n hx hb (kd tdlX9_entryOf_0 3 rfl) rfl (lv_at hl 0 rfl) ?_
  refine md_g_s hx hb hts inX9_ hown hK hP L7 (kd tdlX9_entryOf_0 4 rfl) ?_
  refine lv_aload_n hx hb (kd tdlX9_entryOf_0 5 rfl) rfl (lv_at hl 0 rfl) ?_
  refine lv_iload_n hx hb (kd tdlX9_entryOf_0 6 rfl) rfl (lv_at hl 1 rfl) ?_
  obtain ⟨v9, e9, hF⟩ := kc hF
  refine kc_i0 (w1 := ((wmdF t h0 a0 (md_thrown d0) (md_s d0) (md_aside d0) (md_base d0) (md_saved d0) (md_savedMany d0) (md_slots d0) (md_hasSlot d0) (md_text d0) (md_length d0) (md_begins d0) (md_lengths d0) (md_streams d0) (md_letters d0) (md_letterMany d0) (md_chunks d0) (md_chunkMany d0) (md_homes d0) (md_dropped d0) (md_madeIn d0) (md_madeAt d0) (md_putMany d0) (md_path d0) (md_store d0) (md_thinOnes d0)))) hP hD hS hA (kr_V0 (Qx := (fun A => kQi D (TY t) ((wmdF t h0 a0 (md_thrown d0) (md_s d0) (md_aside d0) (md_base d0) (md_saved d0) (md_savedMany d0) (md_slots d0) (md_hasSlot d0) (md_text d0) (md_length d0) (md_begins d0) (md_lengths d0) (md_streams d0) (md_letters d0) (md_letterMany d0) (md_chunks d0) (md_chunkMany d0) (md_homes d0) (md_dropped d0) (md_madeIn d0) (md_madeAt d0) (md_putMany d0) (md_path d0) (md_store d0) (md_thinOnes d0))) v9 A)) (As := [.int p1]) (rest := [.ref (a0 0), .int s2_]) ⟨hx, hb, hml, hown, hts⟩ hK hP hD (c_X9_at l D t h0 a0 d0 _ p1 v9 e9) (cwV 1 hts (gcX9_at w_306) rfl rfl rfl hdX9_atV ⟨Nat.le_of_ble_eq_true rfl, Nat.le_of_ble_eq_true rfl⟩) (ci := 8) (q0 := 0) rfl rfl rfl hl.1 rfl (Nat.le_of_ble_eq_true rfl) (kd tdlX9_entryOf_0 7 rfl) ⟨Nat.zero_le _, Nat.zero_le _⟩) (fun H locs hP hD hS => ?_)
  refine lv_iconst (v := 2) hx hb (kd tdlX9_entryOf_0 8 rfl) (by decide) ?_
  refine lv_iadd hx hb (kd tdlX9_entryOf_0 9 rfl) ?_
  obtain ⟨hi14, hF⟩ := kg hF
  refine md_l_s hx hb hK hP hi14 (kd tdlX9_entryOf_0 10 rfl) ?_
  refine lv_icmp_ge (tgt := 44) hx hb (kd tdlX9_entryOf_0 11 rfl) (by decide) (fun hc15 => ?_) (fun hc15 => ?_)
  · have hF := kt hc15 hF
    refine lv_iconst (v := (-1)) hx hb (kd tdlX9_entryOf_0 28 rfl) (by decide) ?_
    cases ko hF
    exact ke_i hx hb hr hlocks hK hP hD hS rfl (kd tdlX9_entryOf_0 29 rfl)
  · have hF := kf hc15 hF
    refine lv_aload_n hx hb (kd tdlX9_entryOf_0 12 rfl) rfl (lv_at hl 0 rfl) ?_
    refine md_g_s hx hb hts inX9_ hown hK hP L7 (kd tdlX9_entryOf_0 13 rfl) ?_
    refine lv_aload_n hx hb (kd tdlX9_entryOf_0 14 rfl) rfl (lv_at hl 0 rfl) ?_
    refine lv_iload_n hx hb (kd tdlX9_entryOf_0 15 rfl) rfl (lv_at hl 1 rfl) ?_
    obtain ⟨v24, e24, hF⟩ := kc hF
    refine kc_i0 (w1 := ((wmdF t h0 a0 (md_thrown d0) (md_s d0) (md_aside d0) (md_base d0) (md_saved d0) (md_savedMany d0) (md_slots d0) (md_hasSlot d0) (md_text d0) (md_length d0) (md_begins d0) (md_lengths d0) (md_streams d0) (md_letters d0) (md_letterMany d0) (md_chunks d0) (md_chunkMany d0) (md_homes d0) (md_dropped d0) (md_madeIn d0) (md_madeAt d0) (md_putMany d0) (md_path d0) (md_store d0) (md_thinOnes d0)))) hP hD hS hA (kr_V0 (Qx := (fun A => kQi D (TY t) ((wmdF t h0 a0 (md_thrown d0) (md_s d0) (md_aside d0) (md_base d0) (md_saved d0) (md_savedMany d0) (md_slots d0) (md_hasSlot d0) (md_text d0) (md_length d0) (md_begins d0) (md_lengths d0) (md_streams d0) (md_letters d0) (md_letterMany d0) (md_chunks d0) (md_chunkMany d0) (md_homes d0) (md_dropped d0) (md_madeIn d0) (md_madeAt d0) (md_putMany d0) (md_path d0) (md_store d0) (md_thinOnes d0))) v24 A)) (As := [.int p1]) (rest := [.ref (a0 0)]) ⟨hx, hb, hml, hown, hts⟩ hK hP hD (c_X9_at l D t h0 a0 d0 _ p1 v24 e24) (cwV 1 hts (gcX9_at w_306) rfl rfl rfl hdX9_atV ⟨Nat.le_of_ble_eq_true rfl, Nat.le_of_ble_eq_true rfl⟩) (ci := 8) (q0 := 0) rfl rfl rfl hl.1 rfl (Nat.le_of_ble_eq_true rfl) (kd tdlX9_entryOf_0 16 rfl) ⟨Nat.zero_le _, Nat.zero_le _⟩) (fun H locs hP hD hS => ?_)
    refine lv_iconst (v := 3) hx hb (kd tdlX9_entryOf_0 17 rfl) (by decide) ?_
    refine lv_iadd hx hb (kd tdlX9_entryOf_0 18 rfl) ?_
    refine lv_iload_n hx hb (kd tdlX9_entryOf_0 19 rfl) rfl (lv_at hl 3 rfl) ?_
    refine lv_iadd hx hb (kd tdlX9_entryOf_0 20 rfl) ?_
    obtain ⟨hi31, hF⟩ := kg hF
    refine md_l_s hx hb hK hP hi31 (kd tdlX9_entryOf_0 21 rfl) ?_
    refine lv_iload_n hx hb (kd tdlX9_entryOf_0 22 rfl) rfl (lv_at hl 2 rfl) ?_
    refine lv_icmp_ne (tgt := 38) hx hb (kd tdlX9_entryOf_0 23 rfl) (by decide) (fun hc33 => ?_) (fun hc33 => ?_)
    · have hF := kf hc33 hF
      refine lv_iinc (v := (s2_ + 1)) (lv' := [(3, .int (s2_ + 1)), (0, .ref h0), (1, .int p1), (2, .int p2)]) hx hb (kd tdlX9_entryOf_0 26 rfl) hl (k := 3) rfl rfl (by decide) rfl (fun ls hl => ?_)
      refine lv_goto (tgt := 2) hx hb (kd tdlX9_entryOf_0 27 rfl) (by decide) ?_
      exact ih2 ((s2_ + 1)) hF _ _ _ hP hD hS (lv_sub hl [1, 2, 3, 0] rfl)
    · have hF := kt hc33 hF
      refine lv_iload_n hx hb (kd tdlX9_entryOf_0 24 rfl) rfl (lv_at hl 3 rfl) ?_
      cases ko hF
      exact ke_i hx hb hr hlocks hK hP hD hS rfl (kd tdlX9_entryOf_0 25 rfl)
set_option maxHeartbeats 4000000 in
set_option maxRecDepth 100000 in
theorem c_X9_homeOf (l : Launch) (D : va_G) (t : Nat → ClassId) (h0 : Nat) (a0 : Nat → Nat) (d0 : MDT) (sz : Nat) (p1 : Int32) (r : Int32) (hF : F_X9_homeOf (md_s d0) p1 = some r) : Met l yX9_homeOf wX9_homeOf ({ frames := 2, cells := 0, slots := 0, locals := 44 } : Room) (kPc D (TY t) ((wmd t h0 a0 d0)) [.ref h0, .int p1] sz) (kQi D (TY t) ((wmd t h0 a0 d0)) r (va_A ((wmd t h0 a0 d0)) sz)) 0 0 (va_A ((wmd t h0 a0 d0)) sz) := by
  refine kE (cc := cX9_homeOf) (maxL := 3) (ret := (some .int)) (Qx := fun A => kQi D (TY t) ((wmd t h0 a0 d0)) r A) (lv0 := [(0, .ref h0), (1, .int p1)]) RX9 rfl (by decide) rfl (Nat.le_of_ble_eq_true rfl) rfl ?_
  intro p e s m args below meth c A ls hx hb hml hr hlocks hown hts hA hK hP hD hS hl
  have L7 := hts (.fieldLink RX9 7 "ChunkCarriersModel" "s" "[I") (List.mem_cons_of_mem _ w_101)
  have inX9_ : ∀ w ∈ wsX90, w ∈ wX9_homeOf := fun w h => List.mem_cons_of_mem _ (inlX9 w h)
  have hP : va_P D vwCl ((wmdF t h0 a0 (md_thrown d0) (md_s d0) (md_aside d0) (md_base d0) (md_saved d0) (md_savedMany d0) (md_slots d0) (md_hasSlot d0) (md_text d0) (md_length d0) (md_begins d0) (md_lengths d0) (md_streams d0) (md_letters d0) (md_letterMany d0) (md_chunks d0) (md_chunkMany d0) (md_homes d0) (md_dropped d0) (md_madeIn d0) (md_madeAt d0) (md_putMany d0) (md_path d0) (md_store d0) (md_thinOnes d0))) s.heap := hP
  have hD : va_D A ((wmdF t h0 a0 (md_thrown d0) (md_s d0) (md_aside d0) (md_base d0) (md_saved d0) (md_savedMany d0) (md_slots d0) (md_hasSlot d0) (md_text d0) (md_length d0) (md_begins d0) (md_lengths d0) (md_streams d0) (md_letters d0) (md_letterMany d0) (md_chunks d0) (md_chunkMany d0) (md_homes d0) (md_dropped d0) (md_madeIn d0) (md_madeAt d0) (md_putMany d0) (md_path d0) (md_store d0) (md_thinOnes d0))) := hD
  refine lv_aload_n hx hb (kd tdlX9_homeOf_0 0 rfl) rfl (lv_at hl 0 rfl) ?_
  refine md_g_s hx hb hts inX9_ hown hK hP L7 (kd tdlX9_homeOf_0 1 rfl) ?_
  refine lv_bipush (v := 7) hx hb (kd tdlX9_homeOf_0 2 rfl) (by decide) ?_
  obtain ⟨hi6, hF⟩ := kg hF
  refine md_l_s hx hb hK hP hi6 (kd tdlX9_homeOf_0 3 rfl) ?_
  refine lv_iconst (v := 1) hx hb (kd tdlX9_homeOf_0 4 rfl) (by decide) ?_
  refine lv_isub hx hb (kd tdlX9_homeOf_0 5 rfl) ?_
  refine lv_istore_n (lv' := [(2, .int (((md_s d0) (Int32.toNatClampNeg 7)) - 1)), (0, .ref h0), (1, .int p1)]) hx hb (kd tdlX9_homeOf_0 6 rfl) rfl hl (by decide) rfl (fun ls hl => ?_)
  have hK24 : ∀ k24 : Int32, K_X9_homeOf_24 (md_s d0) k24 = some r → ∀ (H : Heap) (locs : List Loc) (ls : Array Slot), va_P D vwCl ((wmdF t h0 a0 (md_thrown d0) (md_s d0) (md_aside d0) (md_base d0) (md_saved d0) (md_savedMany d0) (md_slots d0) (md_hasSlot d0) (md_text d0) (md_length d0) (md_begins d0) (md_lengths d0) (md_streams d0) (md_letters d0) (md_letterMany d0) (md_chunks d0) (md_chunkMany d0) (md_homes d0) (md_dropped d0) (md_madeIn d0) (md_madeAt d0) (md_putMany d0) (md_path d0) (md_store d0) (md_thinOnes d0))) H → va_D A ((wmdF t h0 a0 (md_thrown d0) (md_s d0) (md_aside d0) (md_base d0) (md_saved d0) (md_savedMany d0) (md_slots d0) (md_hasSlot d0) (md_text d0) (md_length d0) (md_begins d0) (md_lengths d0) (md_streams d0) (md_letters d0) (md_letterMany d0) (md_chunks d0) (md_chunkMany d0) (md_homes d0) (md_dropped d0) (md_madeIn d0) (md_madeAt d0) (md_putMany d0) (md_path d0) (md_store d0) (md_thinOnes d0))) → va_S A s.heap H locs → lv_has ls 3 [(0, .ref h0), (2, .int k24)] → W p l e ({ frames := 2, cells := 0, slots := 0, locals := 44 } : Room) s m args below meth c H locs 0 0 (MQ below (kQi D (TY t) ((wmd t h0 a0 d0)) r A) args s 0 0 A) (F0 m 24 ls []) := by
    intro k24 hF H locs ls hP hD hS hl
    refine lv_aload_n hx hb (kd tdlX9_homeOf_0 15 rfl) rfl (lv_at hl 0 rfl) ?_
    refine md_g_s hx hb hts inX9_ hown hK hP L7 (kd tdlX9_homeOf_0 16 rfl) ?_
    refine lv_aload_n hx hb (kd tdlX9_homeOf_0 17 rfl) rfl (lv_at hl 0 rfl) ?_
    refine lv_iload_n hx hb (kd tdlX9_homeOf_0 18 rfl) rfl (lv_at hl 1 rfl) ?_
    obtain ⟨v30, e30, hF⟩ := kc hF
    refine kc_i0 (w1 := ((wmdF t h0 a0 (md_thrown d0) (md_s d0) (md_aside d0) (md_base d0) (md_saved d0) (md_savedMany d0) (md_slots d0) (md_hasSlot d0) (md_text d0) (md_length d0) (md_begins d0) (md_lengths d0) (md_streams d0) (md_letters d0) (md_letterMany d0) (md_chunks d0) (md_chunkMany d0) (md_homes d0) (md_dropped d0) (md_madeIn d0) (md_madeAt d0) (md_putMany d0) (md_path d0) (md_store d0) (md_thinOnes d0)))) hP hD hS hA (kr_V0 (Qx := (fun A => kQi D (TY t) ((wmdF t h0 a0 (md_thrown d0) (md_s d0) (md_aside d0) (md_base d0) (md_saved d0) (md_savedMany d0) (md_slots d0) (md_hasSlot d0) (md_text d0) (md_length d0) (md_begins d0) (md_lengths d0) (md_streams d0) (md_letters d0) (md_letterMany d0) (md_chunks d0) (md_chunkMany d0) (md_homes d0) (md_dropped d0) (md_madeIn d0) (md_madeAt d0) (md_putMany d0) (md_path d0) (md_store d0) (md_thinOnes d0))) v30 A)) (As := [.int k24]) (rest := [.ref (a0 0)]) ⟨hx, hb, hml, hown, hts⟩ hK hP hD (c_X9_at l D t h0 a0 d0 _ k24 v30 e30) (cwV 1 hts (gcX9_at w_306) rfl rfl rfl hdX9_atV ⟨Nat.le_of_ble_eq_true rfl, Nat.le_of_ble_eq_true rfl⟩) (ci := 8) (q0 := 0) rfl rfl rfl hl.1 rfl (Nat.le_of_ble_eq_true rfl) (kd tdlX9_homeOf_0 19 rfl) ⟨Nat.zero_le _, Nat.zero_le _⟩) (fun H locs hP hD hS => ?_)
    refine lv_iconst (v := 0) hx hb (kd tdlX9_homeOf_0 20 rfl) (by decide) ?_
    refine lv_iadd hx hb (kd tdlX9_homeOf_0 21 rfl) ?_
    obtain ⟨hi35, hF⟩ := kg hF
    refine md_l_s hx hb hK hP hi35 (kd tdlX9_homeOf_0 22 rfl) ?_
    cases ko hF
    exact ke_i hx hb hr hlocks hK hP hD hS rfl (kd tdlX9_homeOf_0 23 rfl)
  refine lp_ind (f := B_X9_homeOf_10 (md_s d0) p1 (K_X9_homeOf_24 (md_s d0))) (r := r) (P := fun s10_ => ∀ (H : Heap) (locs : List Loc) (ls : Array Slot), va_P D vwCl ((wmdF t h0 a0 (md_thrown d0) (md_s d0) (md_aside d0) (md_base d0) (md_saved d0) (md_savedMany d0) (md_slots d0) (md_hasSlot d0) (md_text d0) (md_length d0) (md_begins d0) (md_lengths d0) (md_streams d0) (md_letters d0) (md_letterMany d0) (md_chunks d0) (md_chunkMany d0) (md_homes d0) (md_dropped d0) (md_madeIn d0) (md_madeAt d0) (md_putMany d0) (md_path d0) (md_store d0) (md_thinOnes d0))) H → va_D A ((wmdF t h0 a0 (md_thrown d0) (md_s d0) (md_aside d0) (md_base d0) (md_saved d0) (md_savedMany d0) (md_slots d0) (md_hasSlot d0) (md_text d0) (md_length d0) (md_begins d0) (md_lengths d0) (md_streams d0) (md_letters d0) (md_letterMany d0) (md_chunks d0) (md_chunkMany d0) (md_homes d0) (md_dropped d0) (md_madeIn d0) (md_madeAt d0) (md_putMany d0) (md_path d0) (md_store d0) (md_thinOnes d0))) → va_S A s.heap H locs → lv_has ls 3 [(0, .ref h0), (1, .int p1), (2, .int s10_)] → W p l e ({ frames := 2, cells := 0, slots := 0, locals := 44 } : Room) s m args below meth c H locs 0 0 (MQ below (kQi D (TY t) ((wmd t h0 a0 d0)) r A) args s 0 0 A) (F0 m 10 ls [])) ?_ FU ((((md_s d0) (Int32.toNatClampNeg 7)) - 1)) hF _ _ _ hP hD hS (lv_sub hl [1, 2, 0] rfl)
  intro self10 ih10 s10_ hF H locs ls hP hD hS hl
  refine lv_iload_n hx hb (kd tdlX9_homeOf_0 7 rfl) rfl (lv_at hl 2 rfl) ?_
  refine lv_if_lt (tgt := 43) hx hb (kd tdlX9_homeOf_0 8 rfl) (by decide) (fun hc11 => ?_) (fun hc11 => ?_)
  · have hF := kt hc11 hF
    refine lv_iconst (v := (-1)) hx hb (kd tdlX9_homeOf_0 26 rfl) (by decide) ?_
    cases ko hF
    exact ke_i hx hb hr hlocks hK hP hD hS rfl (kd tdlX9_homeOf_0 27 rfl)
  · have hF := kf hc11 hF
    refine lv_aload_n hx hb (kd tdlX9_homeOf_0 9 rfl) rfl (lv_at hl 0 rfl) ?_
    refine lv_iload_n hx hb (kd tdlX9_homeOf_0 10 rfl) rfl (lv_at hl 2 rfl) ?_
    refine lv_iload_n hx hb (kd tdlX9_homeOf_0 11 rfl) rfl (lv_at hl 1 rfl) ?_
    obtain ⟨v17, e17, hF⟩ := kc hF
    refine kc_i0 (w1 := ((wmdF t h0 a0 (md_thrown d0) (md_s d0) (md_aside d0) (md_base d0) (md_saved d0) (md_savedMany d0) (md_slots d0) (md_hasSlot d0) (md_text d0) (md_length d0) (md_begins d0) (md_lengths d0) (md_streams d0) (md_letters d0) (md_letterMany d0) (md_chunks d0) (md_chunkMany d0) (md_homes d0) (md_dropped d0) (md_madeIn d0) (md_madeAt d0) (md_putMany d0) (md_path d0) (md_store d0) (md_thinOnes d0)))) hP hD hS hA (kr_V0 (Qx := (fun A => kQi D (TY t) ((wmdF t h0 a0 (md_thrown d0) (md_s d0) (md_aside d0) (md_base d0) (md_saved d0) (md_savedMany d0) (md_slots d0) (md_hasSlot d0) (md_text d0) (md_length d0) (md_begins d0) (md_lengths d0) (md_streams d0) (md_letters d0) (md_letterMany d0) (md_chunks d0) (md_chunkMany d0) (md_homes d0) (md_dropped d0) (md_madeIn d0) (md_madeAt d0) (md_putMany d0) (md_path d0) (md_store d0) (md_thinOnes d0))) v17 A)) (As := [.int s10_, .int p1]) (rest := []) ⟨hx, hb, hml, hown, hts⟩ hK hP hD (c_X9_entryOf l D t h0 a0 d0 _ s10_ p1 v17 e17) (cwV 2 hts (gcX9_entryOf w_302) rfl rfl rfl hdX9_entryOfV ⟨Nat.le_of_ble_eq_true rfl, Nat.le_of_ble_eq_true rfl⟩) (ci := 8) (q0 := 0) rfl rfl rfl hl.1 rfl (Nat.le_of_ble_eq_true rfl) (kd tdlX9_homeOf_0 12 rfl) ⟨Nat.zero_le _, Nat.zero_le _⟩) (fun H locs hP hD hS => ?_)
    refine lv_iconst (v := (-1)) hx hb (kd tdlX9_homeOf_0 13 rfl) (by decide) ?_
    refine lv_icmp_eq (tgt := 37) hx hb (kd tdlX9_homeOf_0 14 rfl) (by decide) (fun hc21 => ?_) (fun hc21 => ?_)
    · have hF := kt hc21 hF
      refine lv_iinc (v := (s10_ + (-1))) (lv' := [(2, .int (s10_ + (-1))), (0, .ref h0), (1, .int p1)]) hx hb (kd tdlX9_homeOf_0 24 rfl) hl (k := 2) rfl rfl (by decide) rfl (fun ls hl => ?_)
      refine lv_goto (tgt := 10) hx hb (kd tdlX9_homeOf_0 25 rfl) (by decide) ?_
      exact ih10 ((s10_ + (-1))) hF _ _ _ hP hD hS (lv_sub hl [1, 2, 0] rfl)
    · have hF := kf hc21 hF
      exact hK24 (s10_) hF _ _ _ hP hD hS (lv_sub hl [0, 2] rfl)
set_option maxHeartbeats 4000000 in
set_option maxRecDepth 100000 in
theorem c_X9_livesAt (l : Launch) (D : va_G) (t : Nat → ClassId) (h0 : Nat) (a0 : Nat → Nat) (d0 : MDT) (sz : Nat) (p1 : Int32) (r : Int32) (hF : F_X9_livesAt (md_chunkMany d0) (md_homes d0) p1 = some r) : Met l yX9_livesAt wX9_livesAt ({ frames := 0, cells := 0, slots := 0, locals := 0 } : Room) (kPc D (TY t) ((wmd t h0 a0 d0)) [.ref h0, .int p1] sz) (kQi D (TY t) ((wmd t h0 a0 d0)) r (va_A ((wmd t h0 a0 d0)) sz)) 0 0 (va_A ((wmd t h0 a0 d0)) sz) := by
  refine kE (cc := cX9_livesAt) (maxL := 4) (ret := (some .int)) (Qx := fun A => kQi D (TY t) ((wmd t h0 a0 d0)) r A) (lv0 := [(0, .ref h0), (1, .int p1)]) RX9 rfl (by decide) rfl (Nat.le_of_ble_eq_true rfl) rfl ?_
  intro p e s m args below meth c A ls hx hb hml hr hlocks hown hts hA hK hP hD hS hl
  have L44 := hts (.fieldLink RX9 44 "ChunkCarriersModel" "homes" "[I") (List.mem_cons_of_mem _ w_112)
  have L96 := hts (.fieldLink RX9 96 "ChunkCarriersModel" "chunkMany" "I") (List.mem_cons_of_mem _ w_275)
  have inX9_ : ∀ w ∈ wsX90, w ∈ wX9_livesAt := fun w h => List.mem_cons_of_mem _ (inlX9 w h)
  have hP : va_P D vwCl ((wmdF t h0 a0 (md_thrown d0) (md_s d0) (md_aside d0) (md_base d0) (md_saved d0) (md_savedMany d0) (md_slots d0) (md_hasSlot d0) (md_text d0) (md_length d0) (md_begins d0) (md_lengths d0) (md_streams d0) (md_letters d0) (md_letterMany d0) (md_chunks d0) (md_chunkMany d0) (md_homes d0) (md_dropped d0) (md_madeIn d0) (md_madeAt d0) (md_putMany d0) (md_path d0) (md_store d0) (md_thinOnes d0))) s.heap := hP
  have hD : va_D A ((wmdF t h0 a0 (md_thrown d0) (md_s d0) (md_aside d0) (md_base d0) (md_saved d0) (md_savedMany d0) (md_slots d0) (md_hasSlot d0) (md_text d0) (md_length d0) (md_begins d0) (md_lengths d0) (md_streams d0) (md_letters d0) (md_letterMany d0) (md_chunks d0) (md_chunkMany d0) (md_homes d0) (md_dropped d0) (md_madeIn d0) (md_madeAt d0) (md_putMany d0) (md_path d0) (md_store d0) (md_thinOnes d0))) := hD
  refine lv_iconst (v := 0) hx hb (kd tdlX9_livesAt_0 0 rfl) (by decide) ?_
  refine lv_istore_n (lv' := [(2, .int 0), (0, .ref h0), (1, .int p1)]) hx hb (kd tdlX9_livesAt_0 1 rfl) rfl hl (by decide) rfl (fun ls hl => ?_)
  refine lv_iconst (v := 0) hx hb (kd tdlX9_livesAt_0 2 rfl) (by decide) ?_
  refine lv_istore_n (lv' := [(3, .int 0), (2, .int 0), (0, .ref h0), (1, .int p1)]) hx hb (kd tdlX9_livesAt_0 3 rfl) rfl hl (by decide) rfl (fun ls hl => ?_)
  refine lp_ind (f := B_X9_livesAt_4 (md_chunkMany d0) (md_homes d0) p1) (r := r) (P := fun s4_ => ∀ (H : Heap) (locs : List Loc) (ls : Array Slot), va_P D vwCl ((wmdF t h0 a0 (md_thrown d0) (md_s d0) (md_aside d0) (md_base d0) (md_saved d0) (md_savedMany d0) (md_slots d0) (md_hasSlot d0) (md_text d0) (md_length d0) (md_begins d0) (md_lengths d0) (md_streams d0) (md_letters d0) (md_letterMany d0) (md_chunks d0) (md_chunkMany d0) (md_homes d0) (md_dropped d0) (md_madeIn d0) (md_madeAt d0) (md_putMany d0) (md_path d0) (md_store d0) (md_thinOnes d0))) H → va_D A ((wmdF t h0 a0 (md_thrown d0) (md_s d0) (md_aside d0) (md_base d0) (md_saved d0) (md_savedMany d0) (md_slots d0) (md_hasSlot d0) (md_text d0) (md_length d0) (md_begins d0) (md_lengths d0) (md_streams d0) (md_letters d0) (md_letterMany d0) (md_chunks d0) (md_chunkMany d0) (md_homes d0) (md_dropped d0) (md_madeIn d0) (md_madeAt d0) (md_putMany d0) (md_path d0) (md_store d0) (md_thinOnes d0))) → va_S A s.heap H locs → lv_has ls 4 [(0, .ref h0), (1, .int p1), (2, .int s4_.1), (3, .int s4_.2)] → W p l e ({ frames := 0, cells := 0, slots := 0, locals := 0 } : Room) s m args below meth c H locs 0 0 (MQ below (kQi D (TY t) ((wmd t h0 a0 d0)) r A) args s 0 0 A) (F0 m 4 ls [])) ?_ FU (0, 0) hF _ _ _ hP hD hS (lv_sub hl [2, 3, 1, 0] rfl)
  intro self4 ih4 s4_ hF H locs ls hP hD hS hl
  refine lv_iload_n hx hb (kd tdlX9_livesAt_0 4 rfl) rfl (lv_at hl 3 rfl) ?_
  refine lv_aload_n hx hb (kd tdlX9_livesAt_0 5 rfl) rfl (lv_at hl 0 rfl) ?_
  refine md_g_chunkMany hx hb hts inX9_ hown hK hP L96 (kd tdlX9_livesAt_0 6 rfl) ?_
  refine lv_icmp_ge (tgt := 36) hx hb (kd tdlX9_livesAt_0 7 rfl) (by decide) (fun hc9 => ?_) (fun hc9 => ?_)
  · have hF := kt hc9 hF
    refine lv_iload_n hx hb (kd tdlX9_livesAt_0 22 rfl) rfl (lv_at hl 2 rfl) ?_
    cases ko hF
    exact ke_i hx hb hr hlocks hK hP hD hS rfl (kd tdlX9_livesAt_0 23 rfl)
  · have hF := kf hc9 hF
    refine lv_iload_n hx hb (kd tdlX9_livesAt_0 8 rfl) rfl (lv_at hl 2 rfl) ?_
    refine lv_aload_n hx hb (kd tdlX9_livesAt_0 9 rfl) rfl (lv_at hl 0 rfl) ?_
    refine md_g_homes hx hb hts inX9_ hown hK hP L44 (kd tdlX9_livesAt_0 10 rfl) ?_
    refine lv_iload_n hx hb (kd tdlX9_livesAt_0 11 rfl) rfl (lv_at hl 3 rfl) ?_
    obtain ⟨hi18, hF⟩ := kg hF
    refine md_l_homes hx hb hK hP hi18 (kd tdlX9_livesAt_0 12 rfl) ?_
    refine lv_iload_n hx hb (kd tdlX9_livesAt_0 13 rfl) rfl (lv_at hl 1 rfl) ?_
    refine lv_icmp_ne (tgt := 27) hx hb (kd tdlX9_livesAt_0 14 rfl) (by decide) (fun hc20 => ?_) (fun hc20 => ?_)
    · have hF := kf hc20 hF
      refine lv_iconst (v := 0) hx hb (kd tdlX9_livesAt_0 17 rfl) (by decide) ?_
      refine lv_iadd hx hb (kd tdlX9_livesAt_0 18 rfl) ?_
      refine lv_istore_n (lv' := [(2, .int (s4_.1 + 0)), (0, .ref h0), (1, .int p1), (3, .int s4_.2)]) hx hb (kd tdlX9_livesAt_0 19 rfl) rfl hl (by decide) rfl (fun ls hl => ?_)
      refine lv_iinc (v := (s4_.2 + 1)) (lv' := [(3, .int (s4_.2 + 1)), (2, .int (s4_.1 + 0)), (0, .ref h0), (1, .int p1)]) hx hb (kd tdlX9_livesAt_0 20 rfl) hl (k := 3) rfl rfl (by decide) rfl (fun ls hl => ?_)
      refine lv_goto (tgt := 4) hx hb (kd tdlX9_livesAt_0 21 rfl) (by decide) ?_
      exact ih4 ((s4_.1 + 0), (s4_.2 + 1)) hF _ _ _ hP hD hS (lv_sub hl [2, 3, 1, 0] rfl)
    · have hF := kt hc20 hF
      refine lv_iconst (v := 1) hx hb (kd tdlX9_livesAt_0 15 rfl) (by decide) ?_
      refine lv_goto (tgt := 28) hx hb (kd tdlX9_livesAt_0 16 rfl) (by decide) ?_
      refine lv_iadd hx hb (kd tdlX9_livesAt_0 18 rfl) ?_
      refine lv_istore_n (lv' := [(2, .int (s4_.1 + 1)), (0, .ref h0), (1, .int p1), (3, .int s4_.2)]) hx hb (kd tdlX9_livesAt_0 19 rfl) rfl hl (by decide) rfl (fun ls hl => ?_)
      refine lv_iinc (v := (s4_.2 + 1)) (lv' := [(3, .int (s4_.2 + 1)), (2, .int (s4_.1 + 1)), (0, .ref h0), (1, .int p1)]) hx hb (kd tdlX9_livesAt_0 20 rfl) hl (k := 3) rfl rfl (by decide) rfl (fun ls hl => ?_)
      refine lv_goto (tgt := 4) hx hb (kd tdlX9_livesAt_0 21 rfl) (by decide) ?_
      exact ih4 ((s4_.1 + 1), (s4_.2 + 1)) hF _ _ _ hP hD hS (lv_sub hl [2, 3, 1, 0] rfl)
