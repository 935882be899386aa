set_option maxHeartbeats 4000000 in
set_option maxRecDepth 100000 in
theorem c_X9_leads (l : Launch) (D : va_G) (t : Nat → ClassId) (h0 : Nat) (a0 : Nat → Nat) (d0 : MDT) (sz : Nat) (p1 : Int32) (p2 : Int32) (p3 : Int32) (p4 : Int32) (r : (Nat → Int32)) (hF : F_X9_leads (md_s d0) p1 p2 p3 p4 = some r) : Met l yX9_leads wX9_leads ({ frames := 1, cells := 0, slots := 0, locals := 21 } : Room) (kPc D (TY t) ((wmd t h0 a0 d0)) [.ref h0, .int p1, .int p2, .int p3, .int p4] sz) (kQv D (TY t) ((wmd t h0 a0 ((md_thrown d0), r, (md_aside d0), (md_base d0), (md_saved d0), (md_savedMany d0), (md_slots d0), (md_hasSlot d0), (md_text d0), (md_length d0), (md_begins d0), (md_lengths d0), (md_streams d0), (md_letters d0), (md_letterMany d0), (md_chunks d0), (md_chunkMany d0), (md_homes d0), (md_dropped d0), (md_madeIn d0), (md_madeAt d0), (md_putMany d0), (md_path d0), (md_store d0), (md_thinOnes d0)))) (va_A ((wmd t h0 a0 d0)) sz)) 0 0 (va_A ((wmd t h0 a0 d0)) sz) := by
  refine kE (cc := cX9_leads) (maxL := 8) (ret := none) (Qx := fun A => kQv D (TY t) ((wmd t h0 a0 ((md_thrown d0), r, (md_aside d0), (md_base d0), (md_saved d0), (md_savedMany d0), (md_slots d0), (md_hasSlot d0), (md_text d0), (md_length d0), (md_begins d0), (md_lengths d0), (md_streams d0), (md_letters d0), (md_letterMany d0), (md_chunks d0), (md_chunkMany d0), (md_homes d0), (md_dropped d0), (md_madeIn d0), (md_madeAt d0), (md_putMany d0), (md_path d0), (md_store d0), (md_thinOnes d0)))) A) (lv0 := [(0, .ref h0), (1, .int p1), (2, .int p2), (3, .int p3), (4, .int p4)]) RX9 rfl (by decide) rfl (Nat.le_of_ble_eq_true rfl) rfl ?_
  intro p e s m args below meth c A ls hx hb hml hr hlocks hown hts hA hK hP hD hS hl
  have L7 := hts (.fieldLink RX9 7 "ChunkCarriersModel" "s" "[I") (List.mem_cons_of_mem _ w_101)
  have inX9_ : ∀ w ∈ wsX90, w ∈ wX9_leads := fun w h => List.mem_cons_of_mem _ (inlX9 w h)
  have hP : va_P D vwCl ((wmdF t h0 a0 (md_thrown d0) (md_s d0) (md_aside d0) (md_base d0) (md_saved d0) (md_savedMany d0) (md_slots d0) (md_hasSlot d0) (md_text d0) (md_length d0) (md_begins d0) (md_lengths d0) (md_streams d0) (md_letters d0) (md_letterMany d0) (md_chunks d0) (md_chunkMany d0) (md_homes d0) (md_dropped d0) (md_madeIn d0) (md_madeAt d0) (md_putMany d0) (md_path d0) (md_store d0) (md_thinOnes d0))) s.heap := hP
  have hD : va_D A ((wmdF t h0 a0 (md_thrown d0) (md_s d0) (md_aside d0) (md_base d0) (md_saved d0) (md_savedMany d0) (md_slots d0) (md_hasSlot d0) (md_text d0) (md_length d0) (md_begins d0) (md_lengths d0) (md_streams d0) (md_letters d0) (md_letterMany d0) (md_chunks d0) (md_chunkMany d0) (md_homes d0) (md_dropped d0) (md_madeIn d0) (md_madeAt d0) (md_putMany d0) (md_path d0) (md_store d0) (md_thinOnes d0))) := hD
  refine lv_iconst (v := 0) hx hb (kd tdlX9_leads_0 0 rfl) (by decide) ?_
  refine lv_istore (lv' := [(5, .int 0), (0, .ref h0), (1, .int p1), (2, .int p2), (3, .int p3), (4, .int p4)]) hx hb (kd tdlX9_leads_0 1 rfl) hl (by decide) rfl (fun ls hl => ?_)
  refine lp_ind (f := B_X9_leads_3 p1 p2 p3 p4) (r := r) (P := fun s3_ => ∀ (H : Heap) (locs : List Loc) (ls : Array Slot), va_P D vwCl ((wmdF t h0 a0 (md_thrown d0) s3_.2 (md_aside d0) (md_base d0) (md_saved d0) (md_savedMany d0) (md_slots d0) (md_hasSlot d0) (md_text d0) (md_length d0) (md_begins d0) (md_lengths d0) (md_streams d0) (md_letters d0) (md_letterMany d0) (md_chunks d0) (md_chunkMany d0) (md_homes d0) (md_dropped d0) (md_madeIn d0) (md_madeAt d0) (md_putMany d0) (md_path d0) (md_store d0) (md_thinOnes d0))) H → va_D A ((wmdF t h0 a0 (md_thrown d0) s3_.2 (md_aside d0) (md_base d0) (md_saved d0) (md_savedMany d0) (md_slots d0) (md_hasSlot d0) (md_text d0) (md_length d0) (md_begins d0) (md_lengths d0) (md_streams d0) (md_letters d0) (md_letterMany d0) (md_chunks d0) (md_chunkMany d0) (md_homes d0) (md_dropped d0) (md_madeIn d0) (md_madeAt d0) (md_putMany d0) (md_path d0) (md_store d0) (md_thinOnes d0))) → va_S A s.heap H locs → lv_has ls 8 [(0, .ref h0), (1, .int p1), (2, .int p2), (3, .int p3), (4, .int p4), (5, .int s3_.1)] → W p l e ({ frames := 1, cells := 0, slots := 0, locals := 21 } : Room) s m args below meth c H locs 0 0 (MQ below (kQv D (TY t) ((wmd t h0 a0 ((md_thrown d0), r, (md_aside d0), (md_base d0), (md_saved d0), (md_savedMany d0), (md_slots d0), (md_hasSlot d0), (md_text d0), (md_length d0), (md_begins d0), (md_lengths d0), (md_streams d0), (md_letters d0), (md_letterMany d0), (md_chunks d0), (md_chunkMany d0), (md_homes d0), (md_dropped d0), (md_madeIn d0), (md_madeAt d0), (md_putMany d0), (md_path d0), (md_store d0), (md_thinOnes d0)))) A) args s 0 0 A) (F0 m 3 ls [])) ?_ FU (0, (md_s d0)) hF _ _ _ hP hD hS (lv_sub hl [1, 2, 3, 4, 5, 0] rfl)
  intro self3 ih3 s3_ hF H locs ls hP hD hS hl
  refine lv_iload hx hb (kd tdlX9_leads_0 2 rfl) (lv_at hl 5 rfl) ?_
  refine lv_bipush (v := 8) hx hb (kd tdlX9_leads_0 3 rfl) (by decide) ?_
  refine lv_icmp_ge (tgt := 118) hx hb (kd tdlX9_leads_0 4 rfl) (by decide) (fun hc7 => ?_) (fun hc7 => ?_)
  · have hF := kt hc7 hF
    cases ko hF
    exact ke_v hx hb hr hlocks hK hP hD hS (kd tdlX9_leads_1 28 rfl)
  · have hF := kf hc7 hF
    refine lv_aload_n hx hb (kd tdlX9_leads_0 5 rfl) rfl (lv_at hl 0 rfl) ?_
    refine lv_iload hx hb (kd tdlX9_leads_0 6 rfl) (lv_at hl 5 rfl) ?_
    obtain ⟨v13, e13, hF⟩ := kc hF
    refine kc_i0 (w1 := ((wmdF t h0 a0 (md_thrown d0) s3_.2 (md_aside d0) (md_base d0) (md_saved d0) (md_savedMany d0) (md_slots d0) (md_hasSlot d0) (md_text d0) (md_length d0) (md_begins d0) (md_lengths d0) (md_streams d0) (md_letters d0) (md_letterMany d0) (md_chunks d0) (md_chunkMany d0) (md_homes d0) (md_dropped d0) (md_madeIn d0) (md_madeAt d0) (md_putMany d0) (md_path d0) (md_store d0) (md_thinOnes d0)))) hP hD hS hA (kr_V0 (Qx := (fun A => kQi D (TY t) ((wmdF t h0 a0 (md_thrown d0) s3_.2 (md_aside d0) (md_base d0) (md_saved d0) (md_savedMany d0) (md_slots d0) (md_hasSlot d0) (md_text d0) (md_length d0) (md_begins d0) (md_lengths d0) (md_streams d0) (md_letters d0) (md_letterMany d0) (md_chunks d0) (md_chunkMany d0) (md_homes d0) (md_dropped d0) (md_madeIn d0) (md_madeAt d0) (md_putMany d0) (md_path d0) (md_store d0) (md_thinOnes d0))) v13 A)) (As := [.int s3_.1]) (rest := []) ⟨hx, hb, hml, hown, hts⟩ hK hP hD (c_X9_backupAt l D t h0 a0 ((md_thrown d0), s3_.2, (md_aside d0), (md_base d0), (md_saved d0), (md_savedMany d0), (md_slots d0), (md_hasSlot d0), (md_text d0), (md_length d0), (md_begins d0), (md_lengths d0), (md_streams d0), (md_letters d0), (md_letterMany d0), (md_chunks d0), (md_chunkMany d0), (md_homes d0), (md_dropped d0), (md_madeIn d0), (md_madeAt d0), (md_putMany d0), (md_path d0), (md_store d0), (md_thinOnes d0)) _ s3_.1 v13 e13) (cwV 1 hts (gcX9_backupAt w_382) rfl rfl rfl hdX9_backupAtV ⟨Nat.le_of_ble_eq_true rfl, Nat.le_of_ble_eq_true rfl⟩) (ci := 8) (q0 := 0) rfl rfl rfl hl.1 rfl (Nat.le_of_ble_eq_true rfl) (kd tdlX9_leads_0 7 rfl) ⟨Nat.zero_le _, Nat.zero_le _⟩) (fun H locs hP hD hS => ?_)
    refine lv_istore (lv' := [(6, .int v13), (0, .ref h0), (1, .int p1), (2, .int p2), (3, .int p3), (4, .int p4), (5, .int s3_.1)]) hx hb (kd tdlX9_leads_0 8 rfl) hl (by decide) rfl (fun ls hl => ?_)
    refine lv_iconst (v := 0) hx hb (kd tdlX9_leads_0 9 rfl) (by decide) ?_
    refine lv_istore (lv' := [(7, .int 0), (6, .int v13), (0, .ref h0), (1, .int p1), (2, .int p2), (3, .int p3), (4, .int p4), (5, .int s3_.1)]) hx hb (kd tdlX9_leads_0 10 rfl) hl (by decide) rfl (fun ls hl => ?_)
    refine lp_ind (f := B_X9_leads_21 v13 self3 s3_ p1 p2 p3 p4) (r := r) (P := fun s21_ => ∀ (H : Heap) (locs : List Loc) (ls : Array Slot), va_P D vwCl ((wmdF t h0 a0 (md_thrown d0) s21_.2 (md_aside d0) (md_base d0) (md_saved d0) (md_savedMany d0) (md_slots d0) (md_hasSlot d0) (md_text d0) (md_length d0) (md_begins d0) (md_lengths d0) (md_streams d0) (md_letters d0) (md_letterMany d0) (md_chunks d0) (md_chunkMany d0) (md_homes d0) (md_dropped d0) (md_madeIn d0) (md_madeAt d0) (md_putMany d0) (md_path d0) (md_store d0) (md_thinOnes d0))) H → va_D A ((wmdF t h0 a0 (md_thrown d0) s21_.2 (md_aside d0) (md_base d0) (md_saved d0) (md_savedMany d0) (md_slots d0) (md_hasSlot d0) (md_text d0) (md_length d0) (md_begins d0) (md_lengths d0) (md_streams d0) (md_letters d0) (md_letterMany d0) (md_chunks d0) (md_chunkMany d0) (md_homes d0) (md_dropped d0) (md_madeIn d0) (md_madeAt d0) (md_putMany d0) (md_path d0) (md_store d0) (md_thinOnes d0))) → va_S A s.heap H locs → lv_has ls 8 [(0, .ref h0), (1, .int p1), (2, .int p2), (3, .int p3), (4, .int p4), (5, .int s3_.1), (6, .int v13), (7, .int s21_.1)] → W p l e ({ frames := 1, cells := 0, slots := 0, locals := 21 } : Room) s m args below meth c H locs 0 0 (MQ below (kQv D (TY t) ((wmd t h0 a0 ((md_thrown d0), r, (md_aside d0), (md_base d0), (md_saved d0), (md_savedMany d0), (md_slots d0), (md_hasSlot d0), (md_text d0), (md_length d0), (md_begins d0), (md_lengths d0), (md_streams d0), (md_letters d0), (md_letterMany d0), (md_chunks d0), (md_chunkMany d0), (md_homes d0), (md_dropped d0), (md_madeIn d0), (md_madeAt d0), (md_putMany d0), (md_path d0), (md_store d0), (md_thinOnes d0)))) A) args s 0 0 A) (F0 m 21 ls [])) ?_ FU (0, s3_.2) hF _ _ _ hP hD hS (lv_sub hl [2, 3, 4, 5, 6, 7, 1, 0] rfl)
    intro self21 ih21 s21_ hF H locs ls hP hD hS hl
    refine lv_iload hx hb (kd tdlX9_leads_0 11 rfl) (lv_at hl 7 rfl) ?_
    refine lv_aload_n hx hb (kd tdlX9_leads_0 12 rfl) rfl (lv_at hl 0 rfl) ?_
    refine md_g_s hx hb hts inX9_ hown hK hP L7 (kd tdlX9_leads_0 13 rfl) ?_
    refine lv_iload hx hb (kd tdlX9_leads_0 14 rfl) (lv_at hl 6 rfl) ?_
    refine lv_iconst (v := 1) hx hb (kd tdlX9_leads_0 15 rfl) (by decide) ?_
    refine lv_iadd hx hb (kd tdlX9_leads_0 16 rfl) ?_
    obtain ⟨hi31, hF⟩ := kg hF
    refine md_l_s hx hb hK hP hi31 (kd tdlX9_leads_0 17 rfl) ?_
    refine lv_icmp_ge (tgt := 112) hx hb (kd tdlX9_leads_0 18 rfl) (by decide) (fun hc32 => ?_) (fun hc32 => ?_)
    · have hF := kt hc32 hF
      refine lv_iinc (v := (s3_.1 + 1)) (lv' := [(5, .int (s3_.1 + 1)), (0, .ref h0), (1, .int p1), (2, .int p2), (3, .int p3), (4, .int p4), (6, .int v13), (7, .int s21_.1)]) hx hb (kd tdlX9_leads_1 26 rfl) hl (k := 5) rfl rfl (by decide) rfl (fun ls hl => ?_)
      refine lv_goto (tgt := 3) hx hb (kd tdlX9_leads_1 27 rfl) (by decide) ?_
      exact ih3 ((s3_.1 + 1), s21_.2) hF _ _ _ hP hD hS (lv_sub hl [1, 2, 3, 4, 5, 0] rfl)
    · have hF := kf hc32 hF
      refine lv_aload_n hx hb (kd tdlX9_leads_0 19 rfl) rfl (lv_at hl 0 rfl) ?_
      refine md_g_s hx hb hts inX9_ hown hK hP L7 (kd tdlX9_leads_0 20 rfl) ?_
      refine lv_iload hx hb (kd tdlX9_leads_0 21 rfl) (lv_at hl 6 rfl) ?_
      refine lv_iconst (v := 2) hx hb (kd tdlX9_leads_0 22 rfl) (by decide) ?_
      refine lv_iadd hx hb (kd tdlX9_leads_0 23 rfl) ?_
      refine lv_iconst (v := 2) hx hb (kd tdlX9_leads_0 24 rfl) (by decide) ?_
      refine lv_iload hx hb (kd tdlX9_leads_0 25 rfl) (lv_at hl 7 rfl) ?_
      refine lv_imul hx hb (kd tdlX9_leads_0 26 rfl) ?_
      refine lv_iadd hx hb (kd tdlX9_leads_0 27 rfl) ?_
      obtain ⟨hi48, hF⟩ := kg hF
      refine md_l_s hx hb hK hP hi48 (kd tdlX9_leads_0 28 rfl) ?_
      refine lv_iload_n hx hb (kd tdlX9_leads_0 29 rfl) rfl (lv_at hl 1 rfl) ?_
      refine lv_icmp_ne (tgt := 106) hx hb (kd tdlX9_leads_0 30 rfl) (by decide) (fun hc50 => ?_) (fun hc50 => ?_)
      · have hF := kf hc50 hF
        refine lv_iinc (v := (s21_.1 + 1)) (lv' := [(7, .int (s21_.1 + 1)), (0, .ref h0), (1, .int p1), (2, .int p2), (3, .int p3), (4, .int p4), (5, .int s3_.1), (6, .int v13)]) hx hb (kd tdlX9_leads_1 24 rfl) hl (k := 7) rfl rfl (by decide) rfl (fun ls hl => ?_)
        refine lv_goto (tgt := 21) hx hb (kd tdlX9_leads_1 25 rfl) (by decide) ?_
        exact ih21 ((s21_.1 + 1), s21_.2) hF _ _ _ hP hD hS (lv_sub hl [1, 2, 3, 4, 5, 6, 7, 0] rfl)
      · have hF := kt hc50 hF
        refine lv_aload_n hx hb (kd tdlX9_leads_0 31 rfl) rfl (lv_at hl 0 rfl) ?_
        refine md_g_s hx hb hts inX9_ hown hK hP L7 (kd tdlX9_leads_0 32 rfl) ?_
        refine lv_iload hx hb (kd tdlX9_leads_0 33 rfl) (lv_at hl 6 rfl) ?_
        refine lv_iconst (v := 2) hx hb (kd tdlX9_leads_0 34 rfl) (by decide) ?_
        refine lv_iadd hx hb (kd tdlX9_leads_0 35 rfl) ?_
        refine lv_iconst (v := 2) hx hb (kd tdlX9_leads_0 36 rfl) (by decide) ?_
        refine lv_iload hx hb (kd tdlX9_leads_0 37 rfl) (lv_at hl 7 rfl) ?_
        refine lv_imul hx hb (kd tdlX9_leads_0 38 rfl) ?_
        refine lv_iadd hx hb (kd tdlX9_leads_0 39 rfl) ?_
        refine lv_iconst (v := 1) hx hb (kd tdlX9_leads_0 40 rfl) (by decide) ?_
        refine lv_iadd hx hb (kd tdlX9_leads_0 41 rfl) ?_
        obtain ⟨hi68, hF⟩ := kg hF
        refine md_l_s hx hb hK hP hi68 (kd tdlX9_leads_0 42 rfl) ?_
        refine lv_iload_n hx hb (kd tdlX9_leads_0 43 rfl) rfl (lv_at hl 2 rfl) ?_
        refine lv_icmp_ne (tgt := 106) hx hb (kd tdlX9_leads_0 44 rfl) (by decide) (fun hc70 => ?_) (fun hc70 => ?_)
        · have hF := kf hc70 hF
          refine lv_iinc (v := (s21_.1 + 1)) (lv' := [(7, .int (s21_.1 + 1)), (0, .ref h0), (1, .int p1), (2, .int p2), (3, .int p3), (4, .int p4), (5, .int s3_.1), (6, .int v13)]) hx hb (kd tdlX9_leads_1 24 rfl) hl (k := 7) rfl rfl (by decide) rfl (fun ls hl => ?_)
          refine lv_goto (tgt := 21) hx hb (kd tdlX9_leads_1 25 rfl) (by decide) ?_
          exact ih21 ((s21_.1 + 1), s21_.2) hF _ _ _ hP hD hS (lv_sub hl [1, 2, 3, 4, 5, 6, 7, 0] rfl)
        · have hF := kt hc70 hF
          refine lv_aload_n hx hb (kd tdlX9_leads_1 0 rfl) rfl (lv_at hl 0 rfl) ?_
          refine md_g_s hx hb hts inX9_ hown hK hP L7 (kd tdlX9_leads_1 1 rfl) ?_
          refine lv_iload hx hb (kd tdlX9_leads_1 2 rfl) (lv_at hl 6 rfl) ?_
          refine lv_iconst (v := 2) hx hb (kd tdlX9_leads_1 3 rfl) (by decide) ?_
          refine lv_iadd hx hb (kd tdlX9_leads_1 4 rfl) ?_
          refine lv_iconst (v := 2) hx hb (kd tdlX9_leads_1 5 rfl) (by decide) ?_
          refine lv_iload hx hb (kd tdlX9_leads_1 6 rfl) (lv_at hl 7 rfl) ?_
          refine lv_imul hx hb (kd tdlX9_leads_1 7 rfl) ?_
          refine lv_iadd hx hb (kd tdlX9_leads_1 8 rfl) ?_
          refine lv_iload_n hx hb (kd tdlX9_leads_1 9 rfl) rfl (lv_at hl 3 rfl) ?_
          obtain ⟨hi87, hF⟩ := kg hF
          refine md_s_s hx hb hK hP hD hS hi87 (kd tdlX9_leads_1 10 rfl) (fun H locs hP hD hS => ?_)
          refine lv_aload_n hx hb (kd tdlX9_leads_1 11 rfl) rfl (lv_at hl 0 rfl) ?_
          refine md_g_s hx hb hts inX9_ hown hK hP L7 (kd tdlX9_leads_1 12 rfl) ?_
          refine lv_iload hx hb (kd tdlX9_leads_1 13 rfl) (lv_at hl 6 rfl) ?_
          refine lv_iconst (v := 2) hx hb (kd tdlX9_leads_1 14 rfl) (by decide) ?_
          refine lv_iadd hx hb (kd tdlX9_leads_1 15 rfl) ?_
          refine lv_iconst (v := 2) hx hb (kd tdlX9_leads_1 16 rfl) (by decide) ?_
          refine lv_iload hx hb (kd tdlX9_leads_1 17 rfl) (lv_at hl 7 rfl) ?_
          refine lv_imul hx hb (kd tdlX9_leads_1 18 rfl) ?_
          refine lv_iadd hx hb (kd tdlX9_leads_1 19 rfl) ?_
          refine lv_iconst (v := 1) hx hb (kd tdlX9_leads_1 20 rfl) (by decide) ?_
          refine lv_iadd hx hb (kd tdlX9_leads_1 21 rfl) ?_
          refine lv_iload hx hb (kd tdlX9_leads_1 22 rfl) (lv_at hl 4 rfl) ?_
          obtain ⟨hi105, hF⟩ := kg hF
          refine md_s_s hx hb hK hP hD hS hi105 (kd tdlX9_leads_1 23 rfl) (fun H locs hP hD hS => ?_)
          refine lv_iinc (v := (s21_.1 + 1)) (lv' := [(7, .int (s21_.1 + 1)), (0, .ref h0), (1, .int p1), (2, .int p2), (3, .int p3), (4, .int p4), (5, .int s3_.1), (6, .int v13)]) hx hb (kd tdlX9_leads_1 24 rfl) hl (k := 7) rfl rfl (by decide) rfl (fun ls hl => ?_)
          refine lv_goto (tgt := 21) hx hb (kd tdlX9_leads_1 25 rfl) (by decide) ?_
          exact ih21 ((s21_.1 + 1), (upd (upd s21_.2 (Int32.toNatClampNeg ((v13 + 2) + (2 * s21_.1))) p3) (Int32.toNatClampNeg (((v13 + 2) + (2 * s21_.1)) + 1)) p4)) hF _ _ _ hP hD hS (lv_sub hl [1, 2, 3, 4, 5, 6, 7, 0] rfl)
set_option maxHeartbeats 4000000 in
set_option maxRecDepth 100000 in
theorem c_X9_drops (l : Launch) (D : va_G) (t : Nat → ClassId) (h0 : Nat) (a0 : Nat → Nat) (d0 : MDT) (sz : Nat) (p1 : Int32) (r : (Nat → Int32)) (hF : F_X9_drops (md_s d0) p1 = some r) : Met l yX9_drops wX9_drops ({ frames := 1, cells := 0, slots := 0, locals := 21 } : Room) (kPc D (TY t) ((wmd t h0 a0 d0)) [.ref h0, .int p1] sz) (kQv D (TY t) ((wmd t h0 a0 ((md_thrown d0), r, (md_aside d0), (md_base d0), (md_saved d0), (md_savedMany d0), (md_slots d0), (md_hasSlot d0), (md_text d0), (md_length d0), (md_begins d0), (md_lengths d0), (md_streams d0), (md_letters d0), (md_letterMany d0), (md_chunks d0), (md_chunkMany d0), (md_homes d0), (md_dropped d0), (md_madeIn d0), (md_madeAt d0), (md_putMany d0), (md_path d0), (md_store d0), (md_thinOnes d0)))) (va_A ((wmd t h0 a0 d0)) sz)) 0 0 (va_A ((wmd t h0 a0 d0)) sz) := by
  refine kE (cc := cX9_drops) (maxL := 3) (ret := none) (Qx := fun A => kQv D (TY t) ((wmd t h0 a0 ((md_thrown d0), r, (md_aside d0), (md_base d0), (md_saved d0), (md_savedMany d0), (md_slots d0), (md_hasSlot d0), (md_text d0), (md_length d0), (md_begins d0), (md_lengths d0), (md_streams d0), (md_letters d0), (md_letterMany d0), (md_chunks d0), (md_chunkMany d0), (md_homes d0), (md_dropped d0), (md_madeIn d0), (md_madeAt d0), (md_putMany d0), (md_path d0), (md_store d0), (md_thinOnes d0)))) A) (lv0 := [(0, .ref h0), (1, .int p1)]) RX9 rfl (by decide) rfl (Nat.le_of_ble_eq_true rfl) rfl ?_
  intro p e s m args below meth c A ls hx hb hml hr hlocks hown hts hA hK hP hD hS hl
  have L7 := hts (.fieldLink RX9 7 "ChunkCarriersModel" "s" "[I") (List.mem_cons_of_mem _ w_101)
  have inX9_ : ∀ w ∈ wsX90, w ∈ wX9_drops := fun w h => List.mem_cons_of_mem _ (inlX9 w h)
  have hP : va_P D vwCl ((wmdF t h0 a0 (md_thrown d0) (md_s d0) (md_aside d0) (md_base d0) (md_saved d0) (md_savedMany d0) (md_slots d0) (md_hasSlot d0) (md_text d0) (md_length d0) (md_begins d0) (md_lengths d0) (md_streams d0) (md_letters d0) (md_letterMany d0) (md_chunks d0) (md_chunkMany d0) (md_homes d0) (md_dropped d0) (md_madeIn d0) (md_madeAt d0) (md_putMany d0) (md_path d0) (md_store d0) (md_thinOnes d0))) s.heap := hP
  have hD : va_D A ((wmdF t h0 a0 (md_thrown d0) (md_s d0) (md_aside d0) (md_base d0) (md_saved d0) (md_savedMany d0) (md_slots d0) (md_hasSlot d0) (md_text d0) (md_length d0) (md_begins d0) (md_lengths d0) (md_streams d0) (md_letters d0) (md_letterMany d0) (md_chunks d0) (md_chunkMany d0) (md_homes d0) (md_dropped d0) (md_madeIn d0) (md_madeAt d0) (md_putMany d0) (md_path d0) (md_store d0) (md_thinOnes d0))) := hD
  refine lv_aload_n hx hb (kd tdlX9_drops_0 0 rfl) rfl (lv_at hl 0 rfl) ?_
  refine lv_iload_n hx hb (kd tdlX9_drops_0 1 rfl) rfl (lv_at hl 1 rfl) ?_
  obtain ⟨v2, e2, hF⟩ := kc hF
  refine kc_i0 (w1 := ((wmdF t h0 a0 (md_thrown d0) (md_s d0) (md_aside d0) (md_base d0) (md_saved d0) (md_savedMany d0) (md_slots d0) (md_hasSlot d0) (md_text d0) (md_length d0) (md_begins d0) (md_lengths d0) (md_streams d0) (md_letters d0) (md_letterMany d0) (md_chunks d0) (md_chunkMany d0) (md_homes d0) (md_dropped d0) (md_madeIn d0) (md_madeAt d0) (md_putMany d0) (md_path d0) (md_store d0) (md_thinOnes d0)))) hP hD hS hA (kr_V0 (Qx := (fun A => kQi D (TY t) ((wmdF t h0 a0 (md_thrown d0) (md_s d0) (md_aside d0) (md_base d0) (md_saved d0) (md_savedMany d0) (md_slots d0) (md_hasSlot d0) (md_text d0) (md_length d0) (md_begins d0) (md_lengths d0) (md_streams d0) (md_letters d0) (md_letterMany d0) (md_chunks d0) (md_chunkMany d0) (md_homes d0) (md_dropped d0) (md_madeIn d0) (md_madeAt d0) (md_putMany d0) (md_path d0) (md_store d0) (md_thinOnes d0))) v2 A)) (As := [.int p1]) (rest := []) ⟨hx, hb, hml, hown, hts⟩ hK hP hD (c_X9_at l D t h0 a0 d0 _ p1 v2 e2) (cwV 1 hts (gcX9_at w_306) rfl rfl rfl hdX9_atV ⟨Nat.le_of_ble_eq_true rfl, Nat.le_of_ble_eq_true rfl⟩) (ci := 8) (q0 := 0) rfl rfl rfl hl.1 rfl (Nat.le_of_ble_eq_true rfl) (kd tdlX9_drops_0 2 rfl) ⟨Nat.zero_le _, Nat.zero_le _⟩) (fun H locs hP hD hS => ?_)
  refine lv_istore_n (lv' := [(2, .int v2), (0, .ref h0), (1, .int p1)]) hx hb (kd tdlX9_drops_0 3 rfl) rfl hl (by decide) rfl (fun ls hl => ?_)
  have hK44 : ∀ k44 : (Nat → Int32), K_X9_drops_44 k44 = some r → ∀ (H : Heap) (locs : List Loc) (ls : Array Slot), va_P D vwCl ((wmdF t h0 a0 (md_thrown d0) k44 (md_aside d0) (md_base d0) (md_saved d0) (md_savedMany d0) (md_slots d0) (md_hasSlot d0) (md_text d0) (md_length d0) (md_begins d0) (md_lengths d0) (md_streams d0) (md_letters d0) (md_letterMany d0) (md_chunks d0) (md_chunkMany d0) (md_homes d0) (md_dropped d0) (md_madeIn d0) (md_madeAt d0) (md_putMany d0) (md_path d0) (md_store d0) (md_thinOnes d0))) H → va_D A ((wmdF t h0 a0 (md_thrown d0) k44 (md_aside d0) (md_base d0) (md_saved d0) (md_savedMany d0) (md_slots d0) (md_hasSlot d0) (md_text d0) (md_length d0) (md_begins d0) (md_lengths d0) (md_streams d0) (md_letters d0) (md_letterMany d0) (md_chunks d0) (md_chunkMany d0) (md_homes d0) (md_dropped d0) (md_madeIn d0) (md_madeAt d0) (md_putMany d0) (md_path d0) (md_store d0) (md_thinOnes d0))) → va_S A s.heap H locs → lv_has ls 3 [(0, .ref h0)] → W p l e ({ frames := 1, cells := 0, slots := 0, locals := 21 } : Room) s m args below meth c H locs 0 0 (MQ below (kQv D (TY t) ((wmd t h0 a0 ((md_thrown d0), r, (md_aside d0), (md_base d0), (md_saved d0), (md_savedMany d0), (md_slots d0), (md_hasSlot d0), (md_text d0), (md_length d0), (md_begins d0), (md_lengths d0), (md_streams d0), (md_letters d0), (md_letterMany d0), (md_chunks d0), (md_chunkMany d0), (md_homes d0), (md_dropped d0), (md_madeIn d0), (md_madeAt d0), (md_putMany d0), (md_path d0), (md_store d0), (md_thinOnes d0)))) A) args s 0 0 A) (F0 m 44 ls []) := by
    intro k44 hF H locs ls hP hD hS hl
    refine lv_aload_n hx hb (kd tdlX9_drops_0 26 rfl) rfl (lv_at hl 0 rfl) ?_
    refine md_g_s hx hb hts inX9_ hown hK hP L7 (kd tdlX9_drops_0 27 rfl) ?_
    refine lv_bipush (v := 7) hx hb (kd tdlX9_drops_0 28 rfl) (by decide) ?_
    refine lv_dup2_11 hx hb (kd tdlX9_drops_0 29 rfl) rfl rfl ?_
    obtain ⟨hi51, hF⟩ := kg hF
    refine md_l_s hx hb hK hP hi51 (kd tdlX9_drops_0 30 rfl) ?_
    refine lv_iconst (v := 1) hx hb (kd tdlX9_drops_0 31 rfl) (by decide) ?_
    refine lv_isub hx hb (kd tdlX9_drops_0 32 rfl) ?_
    obtain ⟨hi54, hF⟩ := kg hF
    refine md_s_s hx hb hK hP hD hS hi54 (kd tdlX9_drops_0 33 rfl) (fun H locs hP hD hS => ?_)
    refine lv_iconst (v := 0) hx hb (kd tdlX9_drops_0 34 rfl) (by decide) ?_
    refine lv_istore_n (lv' := [(2, .int 0), (0, .ref h0)]) hx hb (kd tdlX9_drops_0 35 rfl) rfl hl (by decide) rfl (fun ls hl => ?_)
    refine lp_ind (f := B_X9_drops_57) (r := r) (P := fun s57_ => ∀ (H : Heap) (locs : List Loc) (ls : Array Slot), va_P D vwCl ((wmdF t h0 a0 (md_thrown d0) s57_.2 (md_aside d0) (md_base d0) (md_saved d0) (md_savedMany d0) (md_slots d0) (md_hasSlot d0) (md_text d0) (md_length d0) (md_begins d0) (md_lengths d0) (md_streams d0) (md_letters d0) (md_letterMany d0) (md_chunks d0) (md_chunkMany d0) (md_homes d0) (md_dropped d0) (md_madeIn d0) (md_madeAt d0) (md_putMany d0) (md_path d0) (md_store d0) (md_thinOnes d0))) H → va_D A ((wmdF t h0 a0 (md_thrown d0) s57_.2 (md_aside d0) (md_base d0) (md_saved d0) (md_savedMany d0) (md_slots d0) (md_hasSlot d0) (md_text d0) (md_length d0) (md_begins d0) (md_lengths d0) (md_streams d0) (md_letters d0) (md_letterMany d0) (md_chunks d0) (md_chunkMany d0) (md_homes d0) (md_dropped d0) (md_madeIn d0) (md_madeAt d0) (md_putMany d0) (md_path d0) (md_store d0) (md_thinOnes d0))) → va_S A s.heap H locs → lv_has ls 3 [(0, .ref h0), (2, .int s57_.1)] → W p l e ({ frames := 1, cells := 0, slots := 0, locals := 21 } : Room) s m args below meth c H locs 0 0 (MQ below (kQv D (TY t) ((wmd t h0 a0 ((md_thrown d0), r, (md_aside d0), (md_base d0), (md_saved d0), (md_savedMany d0), (md_slots d0), (md_hasSlot d0), (md_text d0), (md_length d0), (md_begins d0), (md_lengths d0), (md_streams d0), (md_letters d0), (md_letterMany d0), (md_chunks d0), (md_chunkMany d0), (md_homes d0), (md_dropped d0), (md_madeIn d0), (md_madeAt d0), (md_putMany d0), (md_path d0), (md_store d0), (md_thinOnes d0)))) A) args s 0 0 A) (F0 m 57 ls [])) ?_ FU (0, (upd k44 (Int32.toNatClampNeg 7) ((k44 (Int32.toNatClampNeg 7)) - 1))) hF _ _ _ hP hD hS (lv_sub hl [1, 0] rfl)
    intro self57 ih57 s57_ hF H locs ls hP hD hS hl
    refine lv_iload_n hx hb (kd tdlX9_drops_0 36 rfl) rfl (lv_at hl 1 rfl) ?_
    refine lv_bipush (v := 11) hx hb (kd tdlX9_drops_0 37 rfl) (by decide) ?_
    refine lv_icmp_ge (tgt := 88) hx hb (kd tdlX9_drops_0 38 rfl) (by decide) (fun hc60 => ?_) (fun hc60 => ?_)
    · have hF := kt hc60 hF
      cases ko hF
      exact ke_v hx hb hr hlocks hK hP hD hS (kd tdlX9_drops_1 8 rfl)
    · have hF := kf hc60 hF
      refine lv_aload_n hx hb (kd tdlX9_drops_0 39 rfl) rfl (lv_at hl 0 rfl) ?_
      refine md_g_s hx hb hts inX9_ hown hK hP L7 (kd tdlX9_drops_0 40 rfl) ?_
      refine lv_aload_n hx hb (kd tdlX9_drops_0 41 rfl) rfl (lv_at hl 0 rfl) ?_
      refine lv_aload_n hx hb (kd tdlX9_drops_0 42 rfl) rfl (lv_at hl 0 rfl) ?_
      refine md_g_s hx hb hts inX9_ hown hK hP L7 (kd tdlX9_drops_0 43 rfl) ?_
      refine lv_bipush (v := 7) hx hb (kd tdlX9_drops_0 44 rfl) (by decide) ?_
      obtain ⟨hi74, hF⟩ := kg hF
      refine md_l_s hx hb hK hP hi74 (kd tdlX9_drops_1 0 rfl) ?_
      obtain ⟨v75, e75, hF⟩ := kc hF
      refine kc_i0 (w1 := ((wmdF t h0 a0 (md_thrown d0) s57_.2 (md_aside d0) (md_base d0) (md_saved d0) (md_savedMany d0) (md_slots d0) (md_hasSlot d0) (md_text d0) (md_length d0) (md_begins d0) (md_lengths d0) (md_streams d0) (md_letters d0) (md_letterMany d0) (md_chunks d0) (md_chunkMany d0) (md_homes d0) (md_dropped d0) (md_madeIn d0) (md_madeAt d0) (md_putMany d0) (md_path d0) (md_store d0) (md_thinOnes d0)))) hP hD hS hA (kr_V0 (Qx := (fun A => kQi D (TY t) ((wmdF t h0 a0 (md_thrown d0) s57_.2 (md_aside d0) (md_base d0) (md_saved d0) (md_savedMany d0) (md_slots d0) (md_hasSlot d0) (md_text d0) (md_length d0) (md_begins d0) (md_lengths d0) (md_streams d0) (md_letters d0) (md_letterMany d0) (md_chunks d0) (md_chunkMany d0) (md_homes d0) (md_dropped d0) (md_madeIn d0) (md_madeAt d0) (md_putMany d0) (md_path d0) (md_store d0) (md_thinOnes d0))) v75 A)) (As := [.int (s57_.2 (Int32.toNatClampNeg 7))]) (rest := [.ref (a0 0)]) ⟨hx, hb, hml, hown, hts⟩ hK hP hD (c_X9_at l D t h0 a0 ((md_thrown d0), s57_.2, (md_aside d0), (md_base d0), (md_saved d0), (md_savedMany d0), (md_slots d0), (md_hasSlot d0), (md_text d0), (md_length d0), (md_begins d0), (md_lengths d0), (md_streams d0), (md_letters d0), (md_letterMany d0), (md_chunks d0), (md_chunkMany d0), (md_homes d0), (md_dropped d0), (md_madeIn d0), (md_madeAt d0), (md_putMany d0), (md_path d0), (md_store d0), (md_thinOnes d0)) _ (s57_.2 (Int32.toNatClampNeg 7)) v75 e75) (cwV 1 hts (gcX9_at w_306) rfl rfl rfl hdX9_atV ⟨Nat.le_of_ble_eq_true rfl, Nat.le_of_ble_eq_true rfl⟩) (ci := 8) (q0 := 0) rfl rfl rfl hl.1 rfl (Nat.le_of_ble_eq_true rfl) (kd tdlX9_drops_1 1 rfl) ⟨Nat.zero_le _, Nat.zero_le _⟩) (fun H locs hP hD hS => ?_)
      refine lv_iload_n hx hb (kd tdlX9_drops_1 2 rfl) rfl (lv_at hl 1 rfl) ?_
      refine lv_iadd hx hb (kd tdlX9_drops_1 3 rfl) ?_
      refine lv_iconst (v := 0) hx hb (kd tdlX9_drops_1 4 rfl) (by decide) ?_
      obtain ⟨hi81, hF⟩ := kg hF
      refine md_s_s hx hb hK hP hD hS hi81 (kd tdlX9_drops_1 5 rfl) (fun H locs hP hD hS => ?_)
      refine lv_iinc (v := (s57_.1 + 1)) (lv' := [(2, .int (s57_.1 + 1)), (0, .ref h0)]) hx hb (kd tdlX9_drops_1 6 rfl) hl (k := 1) rfl rfl (by decide) rfl (fun ls hl => ?_)
      refine lv_goto (tgt := 57) hx hb (kd tdlX9_drops_1 7 rfl) (by decide) ?_
      exact ih57 ((s57_.1 + 1), (upd s57_.2 (Int32.toNatClampNeg (v75 + s57_.1)) 0)) hF _ _ _ hP hD hS (lv_sub hl [1, 0] rfl)
  refine lp_ind (f := B_X9_drops_6 (K_X9_drops_44)) (r := r) (P := fun s6_ => ∀ (H : Heap) (locs : List Loc) (ls : Array Slot), va_P D vwCl ((wmdF t h0 a0 (md_thrown d0) s6_.2 (md_aside d0) (md_base d0) (md_saved d0) (md_savedMany d0) (md_slots d0) (md_hasSlot d0) (md_text d0) (md_length d0) (md_begins d0) (md_lengths d0) (md_streams d0) (md_letters d0) (md_letterMany d0) (md_chunks d0) (md_chunkMany d0) (md_homes d0) (md_dropped d0) (md_madeIn d0) (md_madeAt d0) (md_putMany d0) (md_path d0) (md_store d0) (md_thinOnes d0))) H → va_D A ((wmdF t h0 a0 (md_thrown d0) s6_.2 (md_aside d0) (md_base d0) (md_saved d0) (md_savedMany d0) (md_slots d0) (md_hasSlot d0) (md_text d0) (md_length d0) (md_begins d0) (md_lengths d0) (md_streams d0) (md_letters d0) (md_letterMany d0) (md_chunks d0) (md_chunkMany d0) (md_homes d0) (md_dropped d0) (md_madeIn d0) (md_madeAt d0) (md_putMany d0) (md_path d0) (md_store d0) (md_thinOnes d0))) → va_S A s.heap H locs → lv_has ls 3 [(0, .ref h0), (2, .int s6_.1)] → W p l e ({ frames := 1, cells := 0, slots := 0, locals := 21 } : Room) s m args below meth c H locs 0 0 (MQ below (kQv D (TY t) ((wmd t h0 a0 ((md_thrown d0), r, (md_aside d0), (md_base d0), (md_saved d0), (md_savedMany d0), (md_slots d0), (md_hasSlot d0), (md_text d0), (md_length d0), (md_begins d0), (md_lengths d0), (md_streams d0), (md_letters d0), (md_letterMany d0), (md_chunks d0), (md_chunkMany d0), (md_homes d0), (md_dropped d0), (md_madeIn d0), (md_madeAt d0), (md_putMany d0), (md_path d0), (md_store d0), (md_thinOnes d0)))) A) args s 0 0 A) (F0 m 6 ls [])) ?_ FU (v2, (md_s d0)) hF _ _ _ hP hD hS (lv_sub hl [1, 0] rfl)
  intro self6 ih6 s6_ hF H locs ls hP hD hS hl
  refine lv_iload_n hx hb (kd tdlX9_drops_0 4 rfl) rfl (lv_at hl 1 rfl) ?_
  refine lv_aload_n hx hb (kd tdlX9_drops_0 5 rfl) rfl (lv_at hl 0 rfl) ?_
  refine lv_aload_n hx hb (kd tdlX9_drops_0 6 rfl) rfl (lv_at hl 0 rfl) ?_
  refine md_g_s hx hb hts inX9_ hown hK hP L7 (kd tdlX9_drops_0 7 rfl) ?_
  refine lv_bipush (v := 7) hx hb (kd tdlX9_drops_0 8 rfl) (by decide) ?_
  obtain ⟨hi14, hF⟩ := kg hF
  refine md_l_s hx hb hK hP hi14 (kd tdlX9_drops_0 9 rfl) ?_
  refine lv_iconst (v := 1) hx hb (kd tdlX9_drops_0 10 rfl) (by decide) ?_
  refine lv_isub hx hb (kd tdlX9_drops_0 11 rfl) ?_
  obtain ⟨v17, e17, hF⟩ := kc hF
  refine kc_i0 (w1 := ((wmdF t h0 a0 (md_thrown d0) s6_.2 (md_aside d0) (md_base d0) (md_saved d0) (md_savedMany d0) (md_slots d0) (md_hasSlot d0) (md_text d0) (md_length d0) (md_begins d0) (md_lengths d0) (md_streams d0) (md_letters d0) (md_letterMany d0) (md_chunks d0) (md_chunkMany d0) (md_homes d0) (md_dropped d0) (md_madeIn d0) (md_madeAt d0) (md_putMany d0) (md_path d0) (md_store d0) (md_thinOnes d0)))) hP hD hS hA (kr_V0 (Qx := (fun A => kQi D (TY t) ((wmdF t h0 a0 (md_thrown d0) s6_.2 (md_aside d0) (md_base d0) (md_saved d0) (md_savedMany d0) (md_slots d0) (md_hasSlot d0) (md_text d0) (md_length d0) (md_begins d0) (md_lengths d0) (md_streams d0) (md_letters d0) (md_letterMany d0) (md_chunks d0) (md_chunkMany d0) (md_homes d0) (md_dropped d0) (md_madeIn d0) (md_madeAt d0) (md_putMany d0) (md_path d0) (md_store d0) (md_thinOnes d0))) v17 A)) (As := [.int ((s6_.2 (Int32.toNatClampNeg 7)) - 1)]) (rest := [.int s6_.1]) ⟨hx, hb, hml, hown, hts⟩ hK hP hD (c_X9_at l D t h0 a0 ((md_thrown d0), s6_.2, (md_aside d0), (md_base d0), (md_saved d0), (md_savedMany d0), (md_slots d0), (md_hasSlot d0), (md_text d0), (md_length d0), (md_begins d0), (md_lengths d0), (md_streams d0), (md_letters d0), (md_letterMany d0), (md_chunks d0), (md_chunkMany d0), (md_homes d0), (md_dropped d0), (md_madeIn d0), (md_madeAt d0), (md_putMany d0), (md_path d0), (md_store d0), (md_thinOnes d0)) _ ((s6_.2 (Int32.toNatClampNeg 7)) - 1) v17 e17) (cwV 1 hts (gcX9_at w_306) rfl rfl rfl hdX9_atV ⟨Nat.le_of_ble_eq_true rfl, Nat.le_of_ble_eq_true rfl⟩) (ci := 8) (q0 := 0) rfl rfl rfl hl.1 rfl (Nat.le_of_ble_eq_true rfl) (kd tdlX9_drops_0 12 rfl) ⟨Nat.zero_le _, Nat.zero_le _⟩) (fun H locs hP hD hS => ?_)
  refine lv_icmp_ge (tgt := 44) hx hb (kd tdlX9_drops_0 13 rfl) (by decide) (fun hc20 => ?_) (fun hc20 => ?_)
  · have hF := kt hc20 hF
    exact hK44 (s6_.2) hF _ _ _ hP hD hS (lv_sub hl [0] rfl)
  · have hF := kf hc20 hF
    refine lv_aload_n hx hb (kd tdlX9_drops_0 14 rfl) rfl (lv_at hl 0 rfl) ?_
    refine md_g_s hx hb hts inX9_ hown hK hP L7 (kd tdlX9_drops_0 15 rfl) ?_
    refine lv_iload_n hx hb (kd tdlX9_drops_0 16 rfl) rfl (lv_at hl 1 rfl) ?_
    refine lv_aload_n hx hb (kd tdlX9_drops_0 17 rfl) rfl (lv_at hl 0 rfl) ?_
    refine md_g_s hx hb hts inX9_ hown hK hP L7 (kd tdlX9_drops_0 18 rfl) ?_
    refine lv_iload_n hx hb (kd tdlX9_drops_0 19 rfl) rfl (lv_at hl 1 rfl) ?_
    refine lv_bipush (v := 11) hx hb (kd tdlX9_drops_0 20 rfl) (by decide) ?_
    refine lv_iadd hx hb (kd tdlX9_drops_0 21 rfl) ?_
    obtain ⟨hi36, hF⟩ := kg hF
    refine md_l_s hx hb hK hP hi36 (kd tdlX9_drops_0 22 rfl) ?_
    obtain ⟨hi37, hF⟩ := kg hF
    refine md_s_s hx hb hK hP hD hS hi37 (kd tdlX9_drops_0 23 rfl) (fun H locs hP hD hS => ?_)
    refine lv_iinc (v := (s6_.1 + 1)) (lv' := [(2, .int (s6_.1 + 1)), (0, .ref h0)]) hx hb (kd tdlX9_drops_0 24 rfl) hl (k := 1) rfl rfl (by decide) rfl (fun ls hl => ?_)
    refine lv_goto (tgt := 6) hx hb (kd tdlX9_drops_0 25 rfl) (by decide) ?_
    exact ih6 ((s6_.1 + 1), (upd s6_.2 (Int32.toNatClampNeg s6_.1) (s6_.2 (Int32.toNatClampNeg (s6_.1 + 11))))) hF _ _ _ hP hD hS (lv_sub hl [1, 0] rfl)
set_option maxHeartbeats 4000000 in
set_option maxRecDepth 100000 in
theorem c_X9_carries (l : Launch) (D : va_G) (t : Nat → ClassId) (h0 : Nat) (a0 : Nat → Nat) (d0 : MDT) (sz : Nat)  (r : Int32 × (Nat → Int32) × (Nat → Int32)) (hF : F_X9_carries (md_s d0) (md_thinOnes d0) = some r) : Met l yX9_carries wX9_carries ({ frames := 4, cells := 0, slots := 0, locals := 93 } : Room) (kPc D (TY t) ((wmd t h0 a0 d0)) [.ref h0] sz) (kQi D (TY t) ((wmd t h0 a0 ((md_thrown d0), r.2.1, (md_aside d0), (md_base d0), (md_saved d0), (md_savedMany d0), (md_slots d0), (md_hasSlot d0), (md_text d0), (md_length d0), (md_begins d0), (md_lengths d0), (md_streams d0), (md_letters d0), (md_letterMany d0), (md_chunks d0), (md_chunkMany d0), (md_homes d0), (md_dropped d0), (md_madeIn d0), (md_madeAt d0), (md_putMany d0), (md_path d0), (md_store d0), r.2.2))) r.1 (va_A ((wmd t h0 a0 d0)) sz)) 0 0 (va_A ((wmd t h0 a0 d0)) sz) := by
  refine kE (cc := cX9_carries) (maxL := 8) (ret := (some .int)) (Qx := fun A => kQi D (TY t) ((wmd t h0 a0 ((md_thrown d0), r.2.1, (md_aside d0), (md_base d0), (md_saved d0), (md_savedMany d0), (md_slots d0), (md_hasSlot d0), (md_text d0), (md_length d0), (md_begins d0), (md_lengths d0), (md_streams d0), (md_letters d0), (md_letterMany d0), (md_chunks d0), (md_chunkMany d0), (md_homes d0), (md_dropped d0), (md_madeIn d0), (md_madeAt d0), (md_putMany d0), (md_path d0), (md_store d0), r.2.2))) r.1 A) (lv0 := [(0, .ref h0)]) RX9 rfl (by decide) rfl (Nat.le_of_ble_eq_true rfl) rfl ?_
  intro p e s m args below meth c A ls hx hb hml hr hlocks hown hts hA hK hP hD hS hl
  have L62 := hts (.fieldLink RX9 62 "ChunkCarriersModel" "thinOnes" "[I") (List.mem_cons_of_mem _ w_118)
  have L7 := hts (.fieldLink RX9 7 "ChunkCarriersModel" "s" "[I") (List.mem_cons_of_mem _ w_101)
  have inX9_ : ∀ w ∈ wsX90, w ∈ wX9_carries := fun w h => List.mem_cons_of_mem _ (inlX9 w h)
  have hP : va_P D vwCl ((wmdF t h0 a0 (md_thrown d0) (md_s d0) (md_aside d0) (md_base d0) (md_saved d0) (md_savedMany d0) (md_slots d0) (md_hasSlot d0) (md_text d0) (md_length d0) (md_begins d0) (md_lengths d0) (md_streams d0) (md_letters d0) (md_letterMany d0) (md_chunks d0) (md_chunkMany d0) (md_homes d0) (md_dropped d0) (md_madeIn d0) (md_madeAt d0) (md_putMany d0) (md_path d0) (md_store d0) (md_thinOnes d0))) s.heap := hP
  have hD : va_D A ((wmdF t h0 a0 (md_thrown d0) (md_s d0) (md_aside d0) (md_base d0) (md_saved d0) (md_savedMany d0) (md_slots d0) (md_hasSlot d0) (md_text d0) (md_length d0) (md_begins d0) (md_lengths d0) (md_streams d0) (md_letters d0) (md_letterMany d0) (md_chunks d0) (md_chunkMany d0) (md_homes d0) (md_dropped d0) (md_madeIn d0) (md_madeAt d0) (md_putMany d0) (md_path d0) (md_store d0) (md_thinOnes d0))) := hD
  refine lv_iconst (v := 0) hx hb (kd tdlX9_carries_0 0 rfl) (by decide) ?_
  refine lv_istore_n (lv' := [(1, .int 0), (0, .ref h0)]) hx hb (kd tdlX9_carries_0 1 rfl) rfl hl (by decide) rfl (fun ls hl => ?_)
  refine lv_iconst (v := 0) hx hb (kd tdlX9_carries_0 2 rfl) (by decide) ?_
  refine lv_istore_n (lv' := [(2, .int 0), (1, .int 0), (0, .ref h0)]) hx hb (kd tdlX9_carries_0 3 rfl) rfl hl (by decide) rfl (fun ls hl => ?_)
  have hK50 : ∀ k50 : Int32 × (Nat → Int32), K_X9_carries_50 (md_s d0) k50 = some r → ∀ (H : Heap) (locs : List Loc) (ls : Array Slot), va_P D vwCl ((wmdF t h0 a0 (md_thrown d0) (md_s d0) (md_aside d0) (md_base d0) (md_saved d0) (md_savedMany d0) (md_slots d0) (md_hasSlot d0) (md_text d0) (md_length d0) (md_begins d0) (md_lengths d0) (md_streams d0) (md_letters d0) (md_letterMany d0) (md_chunks d0) (md_chunkMany d0) (md_homes d0) (md_dropped d0) (md_madeIn d0) (md_madeAt d0) (md_putMany d0) (md_path d0) (md_store d0) k50.2)) H → va_D A ((wmdF t h0 a0 (md_thrown d0) (md_s d0) (md_aside d0) (md_base d0) (md_saved d0) (md_savedMany d0) (md_slots d0) (md_hasSlot d0) (md_text d0) (md_length d0) (md_begins d0) (md_lengths d0) (md_streams d0) (md_letters d0) (md_letterMany d0) (md_chunks d0) (md_chunkMany d0) (md_homes d0) (md_dropped d0) (md_madeIn d0) (md_madeAt d0) (md_putMany d0) (md_path d0) (md_store d0) k50.2)) → va_S A s.heap H locs → lv_has ls 8 [(0, .ref h0), (1, .int k50.1)] → W p l e ({ frames := 4, cells := 0, slots := 0, locals := 93 } : Room) s m args below meth c H locs 0 0 (MQ below (kQi D (TY t) ((wmd t h0 a0 ((md_thrown d0), r.2.1, (md_aside d0), (md_base d0), (md_saved d0), (md_savedMany d0), (md_slots d0), (md_hasSlot d0), (md_text d0), (md_length d0), (md_begins d0), (md_lengths d0), (md_streams d0), (md_letters d0), (md_letterMany d0), (md_chunks d0), (md_chunkMany d0), (md_homes d0), (md_dropped d0), (md_madeIn d0), (md_madeAt d0), (md_putMany d0), (md_path d0), (md_store d0), r.2.2))) r.1 A) args s 0 0 A) (F0 m 50 ls []) := by
    intro k50 hF H locs ls hP hD hS hl
    refine lv_iconst (v := 0) hx hb (kd tdlX9_carries_0 29 rfl) (by decide) ?_
    refine lv_istore_n (lv' := [(2, .int 0), (0, .ref h0), (1, .int k50.1)]) hx hb (kd tdlX9_carries_0 30 rfl) rfl hl (by decide) rfl (fun ls hl => ?_)
    refine lv_iconst (v := 0) hx hb (kd tdlX9_carries_0 31 rfl) (by decide) ?_
    refine lv_istore_n (lv' := [(3, .int 0), (2, .int 0), (0, .ref h0), (1, .int k50.1)]) hx hb (kd tdlX9_carries_0 32 rfl) rfl hl (by decide) rfl (fun ls hl => ?_)
    have hK192 : ∀ k192 : Int32 × (Nat → Int32), K_X9_carries_192 k50 k192 = some r → ∀ (H : Heap) (locs : List Loc) (ls : Array Slot), va_P D vwCl ((wmdF t h0 a0 (md_thrown d0) k192.2 (md_aside d0) (md_base d0) (md_saved d0) (md_savedMany d0) (md_slots d0) (md_hasSlot d0) (md_text d0) (md_length d0) (md_begins d0) (md_lengths d0) (md_streams d0) (md_letters d0) (md_letterMany d0) (md_chunks d0) (md_chunkMany d0) (md_homes d0) (md_dropped d0) (md_madeIn d0) (md_madeAt d0) (md_putMany d0) (md_path d0) (md_store d0) k50.2)) H → va_D A ((wmdF t h0 a0 (md_thrown d0) k192.2 (md_aside d0) (md_base d0) (md_saved d0) (md_savedMany d0) (md_slots d0) (md_hasSlot d0) (md_text d0) (md_length d0) (md_begins d0) (md_lengths d0) (md_streams d0) (md_letters d0) (md_letterMany d0) (md_chunks d0) (md_chunkMany d0) (md_homes d0) (md_dropped d0) (md_madeIn d0) (md_madeAt d0) (md_putMany d0) (md_path d0) (md_store d0) k50.2)) → va_S A s.heap H locs → lv_has ls 8 [(0, .ref h0), (2, .int k192.1)] → W p l e ({ frames := 4, cells := 0, slots := 0, locals := 93 } : Room) s m args below meth c H locs 0 0 (MQ below (kQi D (TY t) ((wmd t h0 a0 ((md_thrown d0), r.2.1, (md_aside d0), (md_base d0), (md_saved d0), (md_savedMany d0), (md_slots d0), (md_hasSlot d0), (md_text d0), (md_length d0), (md_begins d0), (md_lengths d0), (md_streams d0), (md_letters d0), (md_letterMany d0), (md_chunks d0), (md_chunkMany d0), (md_homes d0), (md_dropped d0), (md_madeIn d0), (md_madeAt d0), (md_putMany d0), (md_path d0), (md_store d0), r.2.2))) r.1 A) args s 0 0 A) (F0 m 192 ls []) := by
      intro k192 hF H locs ls hP hD hS hl
      refine lv_aload_n hx hb (kd tdlX9_carries_2 20 rfl) rfl (lv_at hl 0 rfl) ?_
      refine md_g_s hx hb hts inX9_ hown hK hP L7 (kd tdlX9_carries_2 21 rfl) ?_
      refine lv_bipush (v := 6) hx hb (kd tdlX9_carries_2 22 rfl) (by decide) ?_
      refine lv_dup2_11 hx hb (kd tdlX9_carries_2 23 rfl) rfl rfl ?_
      obtain ⟨hi199, hF⟩ := kg hF
      refine md_l_s hx hb hK hP hi199 (kd tdlX9_carries_2 24 rfl) ?_
      refine lv_iload_n hx hb (kd tdlX9_carries_2 25 rfl) rfl (lv_at hl 1 rfl) ?_
      refine lv_iadd hx hb (kd tdlX9_carries_2 26 rfl) ?_
      obtain ⟨hi202, hF⟩ := kg hF
      refine md_s_s hx hb hK hP hD hS hi202 (kd tdlX9_carries_2 27 rfl) (fun H locs hP hD hS => ?_)
      refine lv_iload_n hx hb (kd tdlX9_carries_2 28 rfl) rfl (lv_at hl 1 rfl) ?_
      cases ko hF
      exact ke_i hx hb hr hlocks hK hP hD hS rfl (kd tdlX9_carries_2 29 rfl)
    refine lp_ind (f := B_X9_carries_54 k50 (K_X9_carries_192 k50)) (r := r) (P := fun s54_ => ∀ (H : Heap) (locs : List Loc) (ls : Array Slot), va_P D vwCl ((wmdF t h0 a0 (md_thrown d0) s54_.2.2 (md_aside d0) (md_base d0) (md_saved d0) (md_savedMany d0) (md_slots d0) (md_hasSlot d0) (md_text d0) (md_length d0) (md_begins d0) (md_lengths d0) (md_streams d0) (md_letters d0) (md_letterMany d0) (md_chunks d0) (md_chunkMany d0) (md_homes d0) (md_dropped d0) (md_madeIn d0) (md_madeAt d0) (md_putMany d0) (md_path d0) (md_store d0) k50.2)) H → va_D A ((wmdF t h0 a0 (md_thrown d0) s54_.2.2 (md_aside d0) (md_base d0) (md_saved d0) (md_savedMany d0) (md_slots d0) (md_hasSlot d0) (md_text d0) (md_length d0) (md_begins d0) (md_lengths d0) (md_streams d0) (md_letters d0) (md_letterMany d0) (md_chunks d0) (md_chunkMany d0) (md_homes d0) (md_dropped d0) (md_madeIn d0) (md_madeAt d0) (md_putMany d0) (md_path d0) (md_store d0) k50.2)) → va_S A s.heap H locs → lv_has ls 8 [(0, .ref h0), (1, .int k50.1), (2, .int s54_.1), (3, .int s54_.2.1)] → W p l e ({ frames := 4, cells := 0, slots := 0, locals := 93 } : Room) s m args below meth c H locs 0 0 (MQ below (kQi D (TY t) ((wmd t h0 a0 ((md_thrown d0), r.2.1, (md_aside d0), (md_base d0), (md_saved d0), (md_savedMany d0), (md_slots d0), (md_hasSlot d0), (md_text d0), (md_length d0), (md_begins d0), (md_lengths d0), (md_streams d0), (md_letters d0), (md_letterMany d0), (md_chunks d0), (md_chunkMany d0), (md_homes d0), (md_dropped d0), (md_madeIn d0), (md_madeAt d0), (md_putMany d0), (md_path d0), (md_store d0), r.2.2))) r.1 A) args s 0 0 A) (F0 m 54 ls [])) ?_ FU (0, 0, (md_s d0)) hF _ _ _ hP hD hS (lv_sub hl [2, 3, 1, 0] rfl)
    intro self54 ih54 s54_ hF H locs ls hP hD hS hl
    refine lv_iload_n hx hb (kd tdlX9_carries_0 33 rfl) rfl (lv_at hl 3 rfl) ?_
    refine lv_iload_n hx hb (kd tdlX9_carries_0 34 rfl) rfl (lv_at hl 1 rfl) ?_
    refine lv_icmp_ge (tgt := 192) hx hb (kd tdlX9_carries_0 35 rfl) (by decide) (fun hc56 => ?_) (fun hc56 => ?_)
    · have hF := kt hc56 hF
      exact hK192 (s54_.1, s54_.2.2) hF _ _ _ hP hD hS (lv_sub hl [0, 2] rfl)
    · have hF := kf hc56 hF
      refine lv_aload_n hx hb (kd tdlX9_carries_0 36 rfl) rfl (lv_at hl 0 rfl) ?_
      refine md_g_thinOnes hx hb hts inX9_ hown hK hP L62 (kd tdlX9_carries_0 37 rfl) ?_
      refine lv_iload_n hx hb (kd tdlX9_carries_0 38 rfl) rfl (lv_at hl 3 rfl) ?_
      obtain ⟨hi64, hF⟩ := kg hF
      refine md_l_thinOnes hx hb hK hP hi64 (kd tdlX9_carries_0 39 rfl) ?_
      refine lv_istore (lv' := [(4, .int (k50.2 (Int32.toNatClampNeg s54_.2.1))), (0, .ref h0), (1, .int k50.1), (2, .int s54_.1), (3, .int s54_.2.1)]) hx hb (kd tdlX9_carries_0 40 rfl) hl (by decide) rfl (fun ls hl => ?_)
      refine lv_aload_n hx hb (kd tdlX9_carries_0 41 rfl) rfl (lv_at hl 1 rfl) ?_
      refine lv_iload hx hb (kd tdlX9_carries_0 42 rfl) (lv_at hl 0 rfl) ?_
      obtain ⟨v70, e70, hF⟩ := kc hF
      refine kc_i0 (w1 := ((wmdF t h0 a0 (md_thrown d0) s54_.2.2 (md_aside d0) (md_base d0) (md_saved d0) (md_savedMany d0) (md_slots d0) (md_hasSlot d0) (md_text d0) (md_length d0) (md_begins d0) (md_lengths d0) (md_streams d0) (md_letters d0) (md_letterMany d0) (md_chunks d0) (md_chunkMany d0) (md_homes d0) (md_dropped d0) (md_madeIn d0) (md_madeAt d0) (md_putMany d0) (md_path d0) (md_store d0) k50.2))) hP hD hS hA (kr_V0 (Qx := (fun A => kQi D (TY t) ((wmdF t h0 a0 (md_thrown d0) s54_.2.2 (md_aside d0) (md_base d0) (md_saved d0) (md_savedMany d0) (md_slots d0) (md_hasSlot d0) (md_text d0) (md_length d0) (md_begins d0) (md_lengths d0) (md_streams d0) (md_letters d0) (md_letterMany d0) (md_chunks d0) (md_chunkMany d0) (md_homes d0) (md_dropped d0) (md_madeIn d0) (md_madeAt d0) (md_putMany d0) (md_path d0) (md_store d0) k50.2)) v70 A)) (As := [.int (k50.2 (Int32.toNatClampNeg s54_.2.1))]) (rest := []) ⟨hx, hb, hml, hown, hts⟩ hK hP hD (c_X9_slotOf l D t h0 a0 ((md_thrown d0), s54_.2.2, (md_aside d0), (md_base d0), (md_saved d0), (md_savedMany d0), (md_slots d0), (md_hasSlot d0), (md_text d0), (md_length d0), (md_begins d0), (md_lengths d0), (md_streams d0), (md_letters d0), (md_letterMany d0), (md_chunks d0), (md_chunkMany d0), (md_homes d0), (md_dropped d0), (md_madeIn d0), (md_madeAt d0), (md_putMany d0), (md_path d0), (md_store d0), k50.2) _ (k50.2 (Int32.toNatClampNeg s54_.2.1)) v70 e70) (cwV 1 hts (gcX9_slotOf w_479) rfl rfl rfl hdX9_slotOfV ⟨Nat.le_of_ble_eq_true rfl, Nat.le_of_ble_eq_true rfl⟩) (ci := 8) (q0 := 0) rfl rfl rfl hl.1 rfl (Nat.le_of_ble_eq_true rfl) (kd tdlX9_carries_0 43 rfl) ⟨Nat.zero_le _, Nat.zero_le _⟩) (fun H locs hP hD hS => ?_)
      refine lv_istore (lv' := [(5, .int v70), (4, .int (k50.2 (Int32.toNatClampNeg s54_.2.1))), (0, .ref h0), (1, .int k50.1), (2, .int s54_.1), (3, .int s54_.2.1)]) hx hb (kd tdlX9_carries_0 44 rfl) hl (by decide) rfl (fun ls hl => ?_)
      refine lv_iconst (v := 0) hx hb (kd tdlX9_carries_1 0 rfl) (by decide) ?_
      refine lv_istore (lv' := [(6, .int 0), (5, .int v70), (4, .int (k50.2 (Int32.toNatClampNeg s54_.2.1))), (0, .ref h0), (1, .int k50.1), (2, .int s54_.1), (3, .int s54_.2.1)]) hx hb (kd tdlX9_carries_1 1 rfl) hl (by decide) rfl (fun ls hl => ?_)
      have hK180 : ∀ k180 : Int32 × (Nat → Int32), K_X9_carries_180 v70 self54 s54_ k180 = some r → ∀ (H : Heap) (locs : List Loc) (ls : Array Slot), va_P D vwCl ((wmdF t h0 a0 (md_thrown d0) k180.2 (md_aside d0) (md_base d0) (md_saved d0) (md_savedMany d0) (md_slots d0) (md_hasSlot d0) (md_text d0) (md_length d0) (md_begins d0) (md_lengths d0) (md_streams d0) (md_letters d0) (md_letterMany d0) (md_chunks d0) (md_chunkMany d0) (md_homes d0) (md_dropped d0) (md_madeIn d0) (md_madeAt d0) (md_putMany d0) (md_path d0) (md_store d0) k50.2)) H → va_D A ((wmdF t h0 a0 (md_thrown d0) k180.2 (md_aside d0) (md_base d0) (md_saved d0) (md_savedMany d0) (md_slots d0) (md_hasSlot d0) (md_text d0) (md_length d0) (md_begins d0) (md_lengths d0) (md_streams d0) (md_letters d0) (md_letterMany d0) (md_chunks d0) (md_chunkMany d0) (md_homes d0) (md_dropped d0) (md_madeIn d0) (md_madeAt d0) (md_putMany d0) (md_path d0) (md_store d0) k50.2)) → va_S A s.heap H locs → lv_has ls 8 [(0, .ref h0), (1, .int k50.1), (2, .int k180.1), (3, .int s54_.2.1), (5, .int v70)] → W p l e ({ frames := 4, cells := 0, slots := 0, locals := 93 } : Room) s m args below meth c H locs 0 0 (MQ below (kQi D (TY t) ((wmd t h0 a0 ((md_thrown d0), r.2.1, (md_aside d0), (md_base d0), (md_saved d0), (md_savedMany d0), (md_slots d0), (md_hasSlot d0), (md_text d0), (md_length d0), (md_begins d0), (md_lengths d0), (md_streams d0), (md_letters d0), (md_letterMany d0), (md_chunks d0), (md_chunkMany d0), (md_homes d0), (md_dropped d0), (md_madeIn d0), (md_madeAt d0), (md_putMany d0), (md_path d0), (md_store d0), r.2.2))) r.1 A) args s 0 0 A) (F0 m 180 ls []) := by
        intro k180 hF H locs ls hP hD hS hl
        refine lv_aload_n hx hb (kd tdlX9_carries_2 15 rfl) rfl (lv_at hl 0 rfl) ?_
        refine lv_iload hx hb (kd tdlX9_carries_2 16 rfl) (lv_at hl 4 rfl) ?_
        obtain ⟨v183, e183, hF⟩ := kc hF
        refine kc_v0 (w1 := ((wmdF t h0 a0 (md_thrown d0) v183 (md_aside d0) (md_base d0) (md_saved d0) (md_savedMany d0) (md_slots d0) (md_hasSlot d0) (md_text d0) (md_length d0) (md_begins d0) (md_lengths d0) (md_streams d0) (md_letters d0) (md_letterMany d0) (md_chunks d0) (md_chunkMany d0) (md_homes d0) (md_dropped d0) (md_madeIn d0) (md_madeAt d0) (md_putMany d0) (md_path d0) (md_store d0) k50.2))) hP hD hS hA (kr_V0 (Qx := (fun A => kQv D (TY t) ((wmdF t h0 a0 (md_thrown d0) v183 (md_aside d0) (md_base d0) (md_saved d0) (md_savedMany d0) (md_slots d0) (md_hasSlot d0) (md_text d0) (md_length d0) (md_begins d0) (md_lengths d0) (md_streams d0) (md_letters d0) (md_letterMany d0) (md_chunks d0) (md_chunkMany d0) (md_homes d0) (md_dropped d0) (md_madeIn d0) (md_madeAt d0) (md_putMany d0) (md_path d0) (md_store d0) k50.2)) A)) (As := [.int v70]) (rest := []) ⟨hx, hb, hml, hown, hts⟩ hK hP hD (c_X9_drops l D t h0 a0 ((md_thrown d0), k180.2, (md_aside d0), (md_base d0), (md_saved d0), (md_savedMany d0), (md_slots d0), (md_hasSlot d0), (md_text d0), (md_length d0), (md_begins d0), (md_lengths d0), (md_streams d0), (md_letters d0), (md_letterMany d0), (md_chunks d0), (md_chunkMany d0), (md_homes d0), (md_dropped d0), (md_madeIn d0), (md_madeAt d0), (md_putMany d0), (md_path d0), (md_store d0), k50.2) _ v70 v183 e183) (cwV 1 hts (gcX9_drops w_845) rfl rfl rfl hdX9_dropsV ⟨Nat.le_of_ble_eq_true rfl, Nat.le_of_ble_eq_true rfl⟩) (ci := 8) (q0 := 0) rfl rfl rfl hl.1 rfl (Nat.le_of_ble_eq_true rfl) (kd tdlX9_carries_2 17 rfl) ⟨Nat.zero_le _, Nat.zero_le _⟩) (fun H locs hP hD hS => ?_)
        refine lv_iinc (v := (s54_.2.1 + 1)) (lv' := [(3, .int (s54_.2.1 + 1)), (0, .ref h0), (1, .int k50.1), (2, .int k180.1), (5, .int v70)]) hx hb (kd tdlX9_carries_2 18 rfl) hl (k := 3) rfl rfl (by decide) rfl (fun ls hl => ?_)
        refine lv_goto (tgt := 54) hx hb (kd tdlX9_carries_2 19 rfl) (by decide) ?_
        exact ih54 (k180.1, (s54_.2.1 + 1), v183) hF _ _ _ hP hD hS (lv_sub hl [1, 2, 3, 0] rfl)
      refine lp_ind (f := B_X9_carries_78 v70 k50 s54_ (K_X9_carries_180 v70 self54 s54_)) (r := r) (P := fun s78_ => ∀ (H : Heap) (locs : List Loc) (ls : Array Slot), va_P D vwCl ((wmdF t h0 a0 (md_thrown d0) s78_.2.2 (md_aside d0) (md_base d0) (md_saved d0) (md_savedMany d0) (md_slots d0) (md_hasSlot d0) (md_text d0) (md_length d0) (md_begins d0) (md_lengths d0) (md_streams d0) (md_letters d0) (md_letterMany d0) (md_chunks d0) (md_chunkMany d0) (md_homes d0) (md_dropped d0) (md_madeIn d0) (md_madeAt d0) (md_putMany d0) (md_path d0) (md_store d0) k50.2)) H → va_D A ((wmdF t h0 a0 (md_thrown d0) s78_.2.2 (md_aside d0) (md_base d0) (md_saved d0) (md_savedMany d0) (md_slots d0) (md_hasSlot d0) (md_text d0) (md_length d0) (md_begins d0) (md_lengths d0) (md_streams d0) (md_letters d0) (md_letterMany d0) (md_chunks d0) (md_chunkMany d0) (md_homes d0) (md_dropped d0) (md_madeIn d0) (md_madeAt d0) (md_putMany d0) (md_path d0) (md_store d0) k50.2)) → va_S A s.heap H locs → lv_has ls 8 [(0, .ref h0), (1, .int k50.1), (2, .int s78_.1), (3, .int s54_.2.1), (4, .int (k50.2 (Int32.toNatClampNeg s54_.2.1))), (5, .int v70), (6, .int s78_.2.1)] → W p l e ({ frames := 4, cells := 0, slots := 0, locals := 93 } : Room) s m args below meth c H locs 0 0 (MQ below (kQi D (TY t) ((wmd t h0 a0 ((md_thrown d0), r.2.1, (md_aside d0), (md_base d0), (md_saved d0), (md_savedMany d0), (md_slots d0), (md_hasSlot d0), (md_text d0), (md_length d0), (md_begins d0), (md_lengths d0), (md_streams d0), (md_letters d0), (md_letterMany d0), (md_chunks d0), (md_chunkMany d0), (md_homes d0), (md_dropped d0), (md_madeIn d0), (md_madeAt d0), (md_putMany d0), (md_path d0), (md_store d0), r.2.2))) r.1 A) args s 0 0 A) (F0 m 78 ls [])) ?_ FU (s54_.1, 0, s54_.2.2) hF _ _ _ hP hD hS (lv_sub hl [3, 4, 5, 6, 2, 1, 0] rfl)
      intro self78 ih78 s78_ hF H locs ls hP hD hS hl
      refine lv_iload hx hb (kd tdlX9_carries_1 2 rfl) (lv_at hl 6 rfl) ?_
      refine lv_aload_n hx hb (kd tdlX9_carries_1 3 rfl) rfl (lv_at hl 0 rfl) ?_
      refine md_g_s hx hb hts inX9_ hown hK hP L7 (kd tdlX9_carries_1 4 rfl) ?_
      refine lv_aload_n hx hb (kd tdlX9_carries_1 5 rfl) rfl (lv_at hl 0 rfl) ?_
      refine lv_iload hx hb (kd tdlX9_carries_1 6 rfl) (lv_at hl 5 rfl) ?_
      obtain ⟨v87, e87, hF⟩ := kc hF
      refine kc_i0 (w1 := ((wmdF t h0 a0 (md_thrown d0) s78_.2.2 (md_aside d0) (md_base d0) (md_saved d0) (md_savedMany d0) (md_slots d0) (md_hasSlot d0) (md_text d0) (md_length d0) (md_begins d0) (md_lengths d0) (md_streams d0) (md_letters d0) (md_letterMany d0) (md_chunks d0) (md_chunkMany d0) (md_homes d0) (md_dropped d0) (md_madeIn d0) (md_madeAt d0) (md_putMany d0) (md_path d0) (md_store d0) k50.2))) hP hD hS hA (kr_V0 (Qx := (fun A => kQi D (TY t) ((wmdF t h0 a0 (md_thrown d0) s78_.2.2 (md_aside d0) (md_base d0) (md_saved d0) (md_savedMany d0) (md_slots d0) (md_hasSlot d0) (md_text d0) (md_length d0) (md_begins d0) (md_lengths d0) (md_streams d0) (md_letters d0) (md_letterMany d0) (md_chunks d0) (md_chunkMany d0) (md_homes d0) (md_dropped d0) (md_madeIn d0) (md_madeAt d0) (md_putMany d0) (md_path d0) (md_store d0) k50.2)) v87 A)) (As := [.int v70]) (rest := [.ref (a0 0), .int s78_.2.1]) ⟨hx, hb, hml, hown, hts⟩ hK hP hD (c_X9_at l D t h0 a0 ((md_thrown d0), s78_.2.2, (md_aside d0), (md_base d0), (md_saved d0), (md_savedMany d0), (md_slots d0), (md_hasSlot d0), (md_text d0), (md_length d0), (md_begins d0), (md_lengths d0), (md_streams d0), (md_letters d0), (md_letterMany d0), (md_chunks d0), (md_chunkMany d0), (md_homes d0), (md_dropped d0), (md_madeIn d0), (md_madeAt d0), (md_putMany d0), (md_path d0), (md_store d0), k50.2) _ v70 v87 e87) (cwV 1 hts (gcX9_at w_306) rfl rfl rfl hdX9_atV ⟨Nat.le_of_ble_eq_true rfl, Nat.le_of_ble_eq_true rfl⟩) (ci := 8) (q0 := 0) rfl rfl rfl hl.1 rfl (Nat.le_of_ble_eq_true rfl) (kd tdlX9_carries_1 7 rfl) ⟨Nat.zero_le _, Nat.zero_le _⟩) (fun H locs hP hD hS => ?_)
      refine lv_iconst (v := 2) hx hb (kd tdlX9_carries_1 8 rfl) (by decide) ?_
      refine lv_iadd hx hb (kd tdlX9_carries_1 9 rfl) ?_
      obtain ⟨hi92, hF⟩ := kg hF
      refine md_l_s hx hb hK hP hi92 (kd tdlX9_carries_1 10 rfl) ?_
      refine lv_icmp_ge (tgt := 180) hx hb (kd tdlX9_carries_1 11 rfl) (by decide) (fun hc93 => ?_) (fun hc93 => ?_)
      · have hF := kt hc93 hF
        exact hK180 (s78_.1, s78_.2.2) hF _ _ _ hP hD hS (lv_sub hl [0, 1, 2, 3, 5] rfl)
      · have hF := kf hc93 hF
        refine lv_aload_n hx hb (kd tdlX9_carries_1 12 rfl) rfl (lv_at hl 0 rfl) ?_
        refine lv_iload hx hb (kd tdlX9_carries_1 13 rfl) (lv_at hl 4 rfl) ?_
        refine lv_iload hx hb (kd tdlX9_carries_1 14 rfl) (lv_at hl 6 rfl) ?_
        refine lv_iconst (v := (-1)) hx hb (kd tdlX9_carries_1 15 rfl) (by decide) ?_
        obtain ⟨v102, e102, hF⟩ := kc hF
        refine kc_i0 (w1 := ((wmdF t h0 a0 (md_thrown d0) s78_.2.2 (md_aside d0) (md_base d0) (md_saved d0) (md_savedMany d0) (md_slots d0) (md_hasSlot d0) (md_text d0) (md_length d0) (md_begins d0) (md_lengths d0) (md_streams d0) (md_letters d0) (md_letterMany d0) (md_chunks d0) (md_chunkMany d0) (md_homes d0) (md_dropped d0) (md_madeIn d0) (md_madeAt d0) (md_putMany d0) (md_path d0) (md_store d0) k50.2))) hP hD hS hA (kr_V0 (Qx := (fun A => kQi D (TY t) ((wmdF t h0 a0 (md_thrown d0) s78_.2.2 (md_aside d0) (md_base d0) (md_saved d0) (md_savedMany d0) (md_slots d0) (md_hasSlot d0) (md_text d0) (md_length d0) (md_begins d0) (md_lengths d0) (md_streams d0) (md_letters d0) (md_letterMany d0) (md_chunks d0) (md_chunkMany d0) (md_homes d0) (md_dropped d0) (md_madeIn d0) (md_madeAt d0) (md_putMany d0) (md_path d0) (md_store d0) k50.2)) v102 A)) (As := [.int (k50.2 (Int32.toNatClampNeg s54_.2.1)), .int s78_.2.1, .int (-1)]) (rest := []) ⟨hx, hb, hml, hown, hts⟩ hK hP hD (c_X9_referencesBut l D t h0 a0 ((md_thrown d0), s78_.2.2, (md_aside d0), (md_base d0), (md_saved d0), (md_savedMany d0), (md_slots d0), (md_hasSlot d0), (md_text d0), (md_length d0), (md_begins d0), (md_lengths d0), (md_streams d0), (md_letters d0), (md_letterMany d0), (md_chunks d0), (md_chunkMany d0), (md_homes d0), (md_dropped d0), (md_madeIn d0), (md_madeAt d0), (md_putMany d0), (md_path d0), (md_store d0), k50.2) _ (k50.2 (Int32.toNatClampNeg s54_.2.1)) s78_.2.1 (-1) v102 e102) (cwV 3 hts (gcX9_referencesBut w_402) rfl rfl rfl hdX9_referencesButV ⟨Nat.le_of_ble_eq_true rfl, Nat.le_of_ble_eq_true rfl⟩) (ci := 8) (q0 := 0) rfl rfl rfl hl.1 rfl (Nat.le_of_ble_eq_true rfl) (kd tdlX9_carries_1 16 rfl) ⟨Nat.zero_le _, Nat.zero_le _⟩) (fun H locs hP hD hS => ?_)
        refine lv_if_le (tgt := 174) hx hb (kd tdlX9_carries_1 17 rfl) (by decide) (fun hc105 => ?_) (fun hc105 => ?_)
        · have hF := kt hc105 hF
          refine lv_iinc (v := (s78_.2.1 + 1)) (lv' := [(6, .int (s78_.2.1 + 1)), (0, .ref h0), (1, .int k50.1), (2, .int s78_.1), (3, .int s54_.2.1), (4, .int (k50.2 (Int32.toNatClampNeg s54_.2.1))), (5, .int v70)]) hx hb (kd tdlX9_carries_2 13 rfl) hl (k := 6) rfl rfl (by decide) rfl (fun ls hl => ?_)
          refine lv_goto (tgt := 78) hx hb (kd tdlX9_carries_2 14 rfl) (by decide) ?_
          exact ih78 (s78_.1, (s78_.2.1 + 1), s78_.2.2) hF _ _ _ hP hD hS (lv_sub hl [1, 2, 3, 4, 5, 6, 0] rfl)
        · have hF := kf hc105 hF
          refine lv_aload_n hx hb (kd tdlX9_carries_1 18 rfl) rfl (lv_at hl 0 rfl) ?_
          refine lv_aload_n hx hb (kd tdlX9_carries_1 19 rfl) rfl (lv_at hl 0 rfl) ?_
          refine md_g_s hx hb hts inX9_ hown hK hP L7 (kd tdlX9_carries_1 20 rfl) ?_
          refine lv_aload_n hx hb (kd tdlX9_carries_1 21 rfl) rfl (lv_at hl 0 rfl) ?_
          refine lv_iload hx hb (kd tdlX9_carries_1 22 rfl) (lv_at hl 5 rfl) ?_
          obtain ⟨v116, e116, hF⟩ := kc hF
          refine kc_i0 (w1 := ((wmdF t h0 a0 (md_thrown d0) s78_.2.2 (md_aside d0) (md_base d0) (md_saved d0) (md_savedMany d0) (md_slots d0) (md_hasSlot d0) (md_text d0) (md_length d0) (md_begins d0) (md_lengths d0) (md_streams d0) (md_letters d0) (md_letterMany d0) (md_chunks d0) (md_chunkMany d0) (md_homes d0) (md_dropped d0) (md_madeIn d0) (md_madeAt d0) (md_putMany d0) (md_path d0) (md_store d0) k50.2))) hP hD hS hA (kr_V0 (Qx := (fun A => kQi D (TY t) ((wmdF t h0 a0 (md_thrown d0) s78_.2.2 (md_aside d0) (md_base d0) (md_saved d0) (md_savedMany d0) (md_slots d0) (md_hasSlot d0) (md_text d0) (md_length d0) (md_begins d0) (md_lengths d0) (md_streams d0) (md_letters d0) (md_letterMany d0) (md_chunks d0) (md_chunkMany d0) (md_homes d0) (md_dropped d0) (md_madeIn d0) (md_madeAt d0) (md_putMany d0) (md_path d0) (md_store d0) k50.2)) v116 A)) (As := [.int v70]) (rest := [.ref (a0 0), .ref h0]) ⟨hx, hb, hml, hown, hts⟩ hK hP hD (c_X9_at l D t h0 a0 ((md_thrown d0), s78_.2.2, (md_aside d0), (md_base d0), (md_saved d0), (md_savedMany d0), (md_slots d0), (md_hasSlot d0), (md_text d0), (md_length d0), (md_begins d0), (md_lengths d0), (md_streams d0), (md_letters d0), (md_letterMany d0), (md_chunks d0), (md_chunkMany d0), (md_homes d0), (md_dropped d0), (md_madeIn d0), (md_madeAt d0), (md_putMany d0), (md_path d0), (md_store d0), k50.2) _ v70 v116 e116) (cwV 1 hts (gcX9_at w_306) rfl rfl rfl hdX9_atV ⟨Nat.le_of_ble_eq_true rfl, Nat.le_of_ble_eq_true rfl⟩) (ci := 8) (q0 := 0) rfl rfl rfl hl.1 rfl (Nat.le_of_ble_eq_true rfl) (kd tdlX9_carries_1 23 rfl) ⟨Nat.zero_le _, Nat.zero_le _⟩) (fun H locs hP hD hS => ?_)
          refine lv_iconst (v := 3) hx hb (kd tdlX9_carries_1 24 rfl) (by decide) ?_
          refine lv_iadd hx hb (kd tdlX9_carries_1 25 rfl) ?_
          refine lv_iload hx hb (kd tdlX9_carries_1 26 rfl) (lv_at hl 6 rfl) ?_
          refine lv_iadd hx hb (kd tdlX9_carries_1 27 rfl) ?_
          obtain ⟨hi124, hF⟩ := kg hF
          refine md_l_s hx hb hK hP hi124 (kd tdlX9_carries_1 28 rfl) ?_
          obtain ⟨v125, e125, hF⟩ := kc hF
          refine kc_v0 (w1 := ((wmdF t h0 a0 (md_thrown d0) v125 (md_aside d0) (md_base d0) (md_saved d0) (md_savedMany d0) (md_slots d0) (md_hasSlot d0) (md_text d0) (md_length d0) (md_begins d0) (md_lengths d0) (md_streams d0) (md_letters d0) (md_letterMany d0) (md_chunks d0) (md_chunkMany d0) (md_homes d0) (md_dropped d0) (md_madeIn d0) (md_madeAt d0) (md_putMany d0) (md_path d0) (md_store d0) k50.2))) hP hD hS hA (kr_V0 (Qx := (fun A => kQv D (TY t) ((wmdF t h0 a0 (md_thrown d0) v125 (md_aside d0) (md_base d0) (md_saved d0) (md_savedMany d0) (md_slots d0) (md_hasSlot d0) (md_text d0) (md_length d0) (md_begins d0) (md_lengths d0) (md_streams d0) (md_letters d0) (md_letterMany d0) (md_chunks d0) (md_chunkMany d0) (md_homes d0) (md_dropped d0) (md_madeIn d0) (md_madeAt d0) (md_putMany d0) (md_path d0) (md_store d0) k50.2)) A)) (As := [.int (s78_.2.2 (Int32.toNatClampNeg ((v116 + 3) + s78_.2.1)))]) (rest := []) ⟨hx, hb, hml, hown, hts⟩ hK hP hD (c_X9_puts l D t h0 a0 ((md_thrown d0), s78_.2.2, (md_aside d0), (md_base d0), (md_saved d0), (md_savedMany d0), (md_slots d0), (md_hasSlot d0), (md_text d0), (md_length d0), (md_begins d0), (md_lengths d0), (md_streams d0), (md_letters d0), (md_letterMany d0), (md_chunks d0), (md_chunkMany d0), (md_homes d0), (md_dropped d0), (md_madeIn d0), (md_madeAt d0), (md_putMany d0), (md_path d0), (md_store d0), k50.2) _ (s78_.2.2 (Int32.toNatClampNeg ((v116 + 3) + s78_.2.1))) v125 e125) (cwV 1 hts (gcX9_puts w_755) rfl rfl rfl hdX9_putsV ⟨Nat.le_of_ble_eq_true rfl, Nat.le_of_ble_eq_true rfl⟩) (ci := 8) (q0 := 0) rfl rfl rfl hl.1 rfl (Nat.le_of_ble_eq_true rfl) (kd tdlX9_carries_1 29 rfl) ⟨Nat.zero_le _, Nat.zero_le _⟩) (fun H locs hP hD hS => ?_)
          refine lv_aload_n hx hb (kd tdlX9_carries_1 30 rfl) rfl (lv_at hl 0 rfl) ?_
          refine lv_aload_n hx hb (kd tdlX9_carries_1 31 rfl) rfl (lv_at hl 0 rfl) ?_
          refine md_g_s hx hb hts inX9_ hown hK hP L7 (kd tdlX9_carries_1 32 rfl) ?_
          refine lv_bipush (v := 7) hx hb (kd tdlX9_carries_1 33 rfl) (by decide) ?_
          obtain ⟨hi135, hF⟩ := kg hF
          refine md_l_s hx hb hK hP hi135 (kd tdlX9_carries_1 34 rfl) ?_
          refine lv_iconst (v := 1) hx hb (kd tdlX9_carries_1 35 rfl) (by decide) ?_
          refine lv_isub hx hb (kd tdlX9_carries_1 36 rfl) ?_
          obtain ⟨v138, e138, hF⟩ := kc hF
          refine kc_i0 (w1 := ((wmdF t h0 a0 (md_thrown d0) v125 (md_aside d0) (md_base d0) (md_saved d0) (md_savedMany d0) (md_slots d0) (md_hasSlot d0) (md_text d0) (md_length d0) (md_begins d0) (md_lengths d0) (md_streams d0) (md_letters d0) (md_letterMany d0) (md_chunks d0) (md_chunkMany d0) (md_homes d0) (md_dropped d0) (md_madeIn d0) (md_madeAt d0) (md_putMany d0) (md_path d0) (md_store d0) k50.2))) hP hD hS hA (kr_V0 (Qx := (fun A => kQi D (TY t) ((wmdF t h0 a0 (md_thrown d0) v125 (md_aside d0) (md_base d0) (md_saved d0) (md_savedMany d0) (md_slots d0) (md_hasSlot d0) (md_text d0) (md_length d0) (md_begins d0) (md_lengths d0) (md_streams d0) (md_letters d0) (md_letterMany d0) (md_chunks d0) (md_chunkMany d0) (md_homes d0) (md_dropped d0) (md_madeIn d0) (md_madeAt d0) (md_putMany d0) (md_path d0) (md_store d0) k50.2)) v138 A)) (As := [.int ((v125 (Int32.toNatClampNeg 7)) - 1)]) (rest := []) ⟨hx, hb, hml, hown, hts⟩ hK hP hD (c_X9_at l D t h0 a0 ((md_thrown d0), v125, (md_aside d0), (md_base d0), (md_saved d0), (md_savedMany d0), (md_slots d0), (md_hasSlot d0), (md_text d0), (md_length d0), (md_begins d0), (md_lengths d0), (md_streams d0), (md_letters d0), (md_letterMany d0), (md_chunks d0), (md_chunkMany d0), (md_homes d0), (md_dropped d0), (md_madeIn d0), (md_madeAt d0), (md_putMany d0), (md_path d0), (md_store d0), k50.2) _ ((v125 (Int32.toNatClampNeg 7)) - 1) v138 e138) (cwV 1 hts (gcX9_at w_306) rfl rfl rfl hdX9_atV ⟨Nat.le_of_ble_eq_true rfl, Nat.le_of_ble_eq_true rfl⟩) (ci := 8) (q0 := 0) rfl rfl rfl hl.1 rfl (Nat.le_of_ble_eq_true rfl) (kd tdlX9_carries_1 37 rfl) ⟨Nat.zero_le _, Nat.zero_le _⟩) (fun H locs hP hD hS => ?_)
          refine lv_istore (lv' := [(7, .int v138), (0, .ref h0), (1, .int k50.1), (2, .int s78_.1), (3, .int s54_.2.1), (4, .int (k50.2 (Int32.toNatClampNeg s54_.2.1))), (5, .int v70), (6, .int s78_.2.1)]) hx hb (kd tdlX9_carries_1 38 rfl) hl (by decide) rfl (fun ls hl => ?_)
          refine lv_aload_n hx hb (kd tdlX9_carries_1 39 rfl) rfl (lv_at hl 1 rfl) ?_
          refine lv_iload hx hb (kd tdlX9_carries_1 40 rfl) (lv_at hl 5 rfl) ?_
          refine lv_iload hx hb (kd tdlX9_carries_1 41 rfl) (lv_at hl 7 rfl) ?_
          refine lv_aload_n hx hb (kd tdlX9_carries_1 42 rfl) rfl (lv_at hl 1 rfl) ?_
          refine md_g_s hx hb hts inX9_ hown hK hP L7 (kd tdlX9_carries_1 43 rfl) ?_
          refine lv_iload hx hb (kd tdlX9_carries_1 44 rfl) (lv_at hl 0 rfl) ?_
          refine lv_iconst (v := 0) hx hb (kd tdlX9_carries_2 0 rfl) (by decide) ?_
          refine lv_iadd hx hb (kd tdlX9_carries_2 1 rfl) ?_
          obtain ⟨hi156, hF⟩ := kg hF
          refine md_l_s hx hb hK hP hi156 (kd tdlX9_carries_2 2 rfl) ?_
          refine lv_aload_n hx hb (kd tdlX9_carries_2 3 rfl) rfl (lv_at hl 1 rfl) ?_
          refine md_g_s hx hb hts inX9_ hown hK hP L7 (kd tdlX9_carries_2 4 rfl) ?_
          refine lv_iload hx hb (kd tdlX9_carries_2 5 rfl) (lv_at hl 0 rfl) ?_
          refine lv_iconst (v := 2) hx hb (kd tdlX9_carries_2 6 rfl) (by decide) ?_
          refine lv_iadd hx hb (kd tdlX9_carries_2 7 rfl) ?_
          obtain ⟨hi165, hF⟩ := kg hF
          refine md_l_s hx hb hK hP hi165 (kd tdlX9_carries_2 8 rfl) ?_
          refine lv_iconst (v := 1) hx hb (kd tdlX9_carries_2 9 rfl) (by decide) ?_
          refine lv_isub hx hb (kd tdlX9_carries_2 10 rfl) ?_
          obtain ⟨v168, e168, hF⟩ := kc hF
          refine kc_v0 (w1 := ((wmdF t h0 a0 (md_thrown d0) v168 (md_aside d0) (md_base d0) (md_saved d0) (md_savedMany d0) (md_slots d0) (md_hasSlot d0) (md_text d0) (md_length d0) (md_begins d0) (md_lengths d0) (md_streams d0) (md_letters d0) (md_letterMany d0) (md_chunks d0) (md_chunkMany d0) (md_homes d0) (md_dropped d0) (md_madeIn d0) (md_madeAt d0) (md_putMany d0) (md_path d0) (md_store d0) k50.2))) hP hD hS hA (kr_V0 (Qx := (fun A => kQv D (TY t) ((wmdF t h0 a0 (md_thrown d0) v168 (md_aside d0) (md_base d0) (md_saved d0) (md_savedMany d0) (md_slots d0) (md_hasSlot d0) (md_text d0) (md_length d0) (md_begins d0) (md_lengths d0) (md_streams d0) (md_letters d0) (md_letterMany d0) (md_chunks d0) (md_chunkMany d0) (md_homes d0) (md_dropped d0) (md_madeIn d0) (md_madeAt d0) (md_putMany d0) (md_path d0) (md_store d0) k50.2)) A)) (As := [.int (k50.2 (Int32.toNatClampNeg s54_.2.1)), .int s78_.2.1, .int (v125 (Int32.toNatClampNeg (v138 + 0))), .int ((v125 (Int32.toNatClampNeg (v138 + 2))) - 1)]) (rest := []) ⟨hx, hb, hml, hown, hts⟩ hK hP hD (c_X9_leads l D t h0 a0 ((md_thrown d0), v125, (md_aside d0), (md_base d0), (md_saved d0), (md_savedMany d0), (md_slots d0), (md_hasSlot d0), (md_text d0), (md_length d0), (md_begins d0), (md_lengths d0), (md_streams d0), (md_letters d0), (md_letterMany d0), (md_chunks d0), (md_chunkMany d0), (md_homes d0), (md_dropped d0), (md_madeIn d0), (md_madeAt d0), (md_putMany d0), (md_path d0), (md_store d0), k50.2) _ (k50.2 (Int32.toNatClampNeg s54_.2.1)) s78_.2.1 (v125 (Int32.toNatClampNeg (v138 + 0))) ((v125 (Int32.toNatClampNeg (v138 + 2))) - 1) v168 e168) (cwV 4 hts (gcX9_leads w_841) rfl rfl rfl hdX9_leadsV ⟨Nat.le_of_ble_eq_true rfl, Nat.le_of_ble_eq_true rfl⟩) (ci := 8) (q0 := 0) rfl rfl rfl hl.1 rfl (Nat.le_of_ble_eq_true rfl) (kd tdlX9_carries_2 11 rfl) ⟨Nat.zero_le _, Nat.zero_le _⟩) (fun H locs hP hD hS => ?_)
          refine lv_iinc (v := (s78_.1 + 1)) (lv' := [(2, .int (s78_.1 + 1)), (7, .int v138), (0, .ref h0), (1, .int k50.1), (3, .int s54_.2.1), (4, .int (k50.2 (Int32.toNatClampNeg s54_.2.1))), (5, .int v70), (6, .int s78_.2.1)]) hx hb (kd tdlX9_carries_2 12 rfl) hl (k := 3) rfl rfl (by decide) rfl (fun ls hl => ?_)
          refine lv_iinc (v := (s78_.2.1 + 1)) (lv' := [(6, .int (s78_.2.1 + 1)), (2, .int (s78_.1 + 1)), (7, .int v138), (0, .ref h0), (1, .int k50.1), (3, .int s54_.2.1), (4, .int (k50.2 (Int32.toNatClampNeg s54_.2.1))), (5, .int v70)]) hx hb (kd tdlX9_carries_2 13 rfl) hl (k := 7) rfl rfl (by decide) rfl (fun ls hl => ?_)
          refine lv_goto (tgt := 78) hx hb (kd tdlX9_carries_2 14 rfl) (by decide) ?_
          exact ih78 ((s78_.1 + 1), (s78_.2.1 + 1), v168) hF _ _ _ hP hD hS (lv_sub hl [3, 4, 1, 5, 6, 7, 0] rfl)
  refine lp_ind (f := B_X9_carries_4 (md_s d0) (K_X9_carries_50 (md_s d0))) (r := r) (P := fun s4_ => ∀ (H : Heap) (locs : List Loc) (ls : Array Slot), va_P D vwCl ((wmdF t h0 a0 (md_thrown d0) (md_s d0) (md_aside d0) (md_base d0) (md_saved d0) (md_savedMany d0) (md_slots d0) (md_hasSlot d0) (md_text d0) (md_length d0) (md_begins d0) (md_lengths d0) (md_streams d0) (md_letters d0) (md_letterMany d0) (md_chunks d0) (md_chunkMany d0) (md_homes d0) (md_dropped d0) (md_madeIn d0) (md_madeAt d0) (md_putMany d0) (md_path d0) (md_store d0) s4_.2.2)) H → va_D A ((wmdF t h0 a0 (md_thrown d0) (md_s d0) (md_aside d0) (md_base d0) (md_saved d0) (md_savedMany d0) (md_slots d0) (md_hasSlot d0) (md_text d0) (md_length d0) (md_begins d0) (md_lengths d0) (md_streams d0) (md_letters d0) (md_letterMany d0) (md_chunks d0) (md_chunkMany d0) (md_homes d0) (md_dropped d0) (md_madeIn d0) (md_madeAt d0) (md_putMany d0) (md_path d0) (md_store d0) s4_.2.2)) → va_S A s.heap H locs → lv_has ls 8 [(0, .ref h0), (1, .int s4_.1), (2, .int s4_.2.1)] → W p l e ({ frames := 4, cells := 0, slots := 0, locals := 93 } : Room) s m args below meth c H locs 0 0 (MQ below (kQi D (TY t) ((wmd t h0 a0 ((md_thrown d0), r.2.1, (md_aside d0), (md_base d0), (md_saved d0), (md_savedMany d0), (md_slots d0), (md_hasSlot d0), (md_text d0), (md_length d0), (md_begins d0), (md_lengths d0), (md_streams d0), (md_letters d0), (md_letterMany d0), (md_chunks d0), (md_chunkMany d0), (md_homes d0), (md_dropped d0), (md_madeIn d0), (md_madeAt d0), (md_putMany d0), (md_path d0), (md_store d0), r.2.2))) r.1 A) args s 0 0 A) (F0 m 4 ls [])) ?_ FU (0, 0, (md_thinOnes d0)) hF _ _ _ hP hD hS (lv_sub hl [2, 1, 0] rfl)
  intro self4 ih4 s4_ hF H locs ls hP hD hS hl
  refine lv_iload_n hx hb (kd tdlX9_carries_0 4 rfl) rfl (lv_at hl 2 rfl) ?_
  refine lv_aload_n hx hb (kd tdlX9_carries_0 5 rfl) rfl (lv_at hl 0 rfl) ?_
  refine md_g_s hx hb hts inX9_ hown hK hP L7 (kd tdlX9_carries_0 6 rfl) ?_
  refine lv_bipush (v := 7) hx hb (kd tdlX9_carries_0 7 rfl) (by decide) ?_
  obtain ⟨hi11, hF⟩ := kg hF
  refine md_l_s hx hb hK hP hi11 (kd tdlX9_carries_0 8 rfl) ?_
  refine lv_icmp_ge (tgt := 50) hx hb (kd tdlX9_carries_0 9 rfl) (by decide) (fun hc12 => ?_) (fun hc12 => ?_)
  · have hF := kt hc12 hF
    exact hK50 (s4_.1, s4_.2.2) hF _ _ _ hP hD hS (lv_sub hl [0, 1] rfl)
  · have hF := kf hc12 hF
    refine lv_aload_n hx hb (kd tdlX9_carries_0 10 rfl) rfl (lv_at hl 0 rfl) ?_
    refine lv_iload_n hx hb (kd tdlX9_carries_0 11 rfl) rfl (lv_at hl 2 rfl) ?_
    obtain ⟨v17, e17, hF⟩ := kc hF
    refine kc_i0 (w1 := ((wmdF t h0 a0 (md_thrown d0) (md_s d0) (md_aside d0) (md_base d0) (md_saved d0) (md_savedMany d0) (md_slots d0) (md_hasSlot d0) (md_text d0) (md_length d0) (md_begins d0) (md_lengths d0) (md_streams d0) (md_letters d0) (md_letterMany d0) (md_chunks d0) (md_chunkMany d0) (md_homes d0) (md_dropped d0) (md_madeIn d0) (md_madeAt d0) (md_putMany d0) (md_path d0) (md_store d0) s4_.2.2))) hP hD hS hA (kr_V0 (Qx := (fun A => kQi D (TY t) ((wmdF t h0 a0 (md_thrown d0) (md_s d0) (md_aside d0) (md_base d0) (md_saved d0) (md_savedMany d0) (md_slots d0) (md_hasSlot d0) (md_text d0) (md_length d0) (md_begins d0) (md_lengths d0) (md_streams d0) (md_letters d0) (md_letterMany d0) (md_chunks d0) (md_chunkMany d0) (md_homes d0) (md_dropped d0) (md_madeIn d0) (md_madeAt d0) (md_putMany d0) (md_path d0) (md_store d0) s4_.2.2)) v17 A)) (As := [.int s4_.2.1]) (rest := []) ⟨hx, hb, hml, hown, hts⟩ hK hP hD (c_X9_isThin l D t h0 a0 ((md_thrown d0), (md_s d0), (md_aside d0), (md_base d0), (md_saved d0), (md_savedMany d0), (md_slots d0), (md_hasSlot d0), (md_text d0), (md_length d0), (md_begins d0), (md_lengths d0), (md_streams d0), (md_letters d0), (md_letterMany d0), (md_chunks d0), (md_chunkMany d0), (md_homes d0), (md_dropped d0), (md_madeIn d0), (md_madeAt d0), (md_putMany d0), (md_path d0), (md_store d0), s4_.2.2) _ s4_.2.1 v17 e17) (cwV 1 hts (gcX9_isThin w_414) rfl rfl rfl hdX9_isThinV ⟨Nat.le_of_ble_eq_true rfl, Nat.le_of_ble_eq_true rfl⟩) (ci := 8) (q0 := 0) rfl rfl rfl hl.1 rfl (Nat.le_of_ble_eq_true rfl) (kd tdlX9_carries_0 12 rfl) ⟨Nat.zero_le _, Nat.zero_le _⟩) (fun H locs hP hD hS => ?_)
    refine lv_if_eq (tgt := 44) hx hb (kd tdlX9_carries_0 13 rfl) (by decide) (fun hc20 => ?_) (fun hc20 => ?_)
    · have hF := kt hc20 hF
      refine lv_iinc (v := (s4_.2.1 + 1)) (lv' := [(2, .int (s4_.2.1 + 1)), (0, .ref h0), (1, .int s4_.1)]) hx hb (kd tdlX9_carries_0 27 rfl) hl (k := 2) rfl rfl (by decide) rfl (fun ls hl => ?_)
      refine lv_goto (tgt := 4) hx hb (kd tdlX9_carries_0 28 rfl) (by decide) ?_
      exact ih4 (s4_.1, (s4_.2.1 + 1), s4_.2.2) hF _ _ _ hP hD hS (lv_sub hl [1, 2, 0] rfl)
    · have hF := kf hc20 hF
      refine lv_aload_n hx hb (kd tdlX9_carries_0 14 rfl) rfl (lv_at hl 0 rfl) ?_
      refine md_g_thinOnes hx hb hts inX9_ hown hK hP L62 (kd tdlX9_carries_0 15 rfl) ?_
      refine lv_iload_n hx hb (kd tdlX9_carries_0 16 rfl) rfl (lv_at hl 1 rfl) ?_
      refine lv_aload_n hx hb (kd tdlX9_carries_0 17 rfl) rfl (lv_at hl 0 rfl) ?_
      refine md_g_s hx hb hts inX9_ hown hK hP L7 (kd tdlX9_carries_0 18 rfl) ?_
      refine lv_aload_n hx hb (kd tdlX9_carries_0 19 rfl) rfl (lv_at hl 0 rfl) ?_
      refine lv_iload_n hx hb (kd tdlX9_carries_0 20 rfl) rfl (lv_at hl 2 rfl) ?_
      obtain ⟨v34, e34, hF⟩ := kc hF
      refine kc_i0 (w1 := ((wmdF t h0 a0 (md_thrown d0) (md_s d0) (md_aside d0) (md_base d0) (md_saved d0) (md_savedMany d0) (md_slots d0) (md_hasSlot d0) (md_text d0) (md_length d0) (md_begins d0) (md_lengths d0) (md_streams d0) (md_letters d0) (md_letterMany d0) (md_chunks d0) (md_chunkMany d0) (md_homes d0) (md_dropped d0) (md_madeIn d0) (md_madeAt d0) (md_putMany d0) (md_path d0) (md_store d0) s4_.2.2))) hP hD hS hA (kr_V0 (Qx := (fun A => kQi D (TY t) ((wmdF t h0 a0 (md_thrown d0) (md_s d0) (md_aside d0) (md_base d0) (md_saved d0) (md_savedMany d0) (md_slots d0) (md_hasSlot d0) (md_text d0) (md_length d0) (md_begins d0) (md_lengths d0) (md_streams d0) (md_letters d0) (md_letterMany d0) (md_chunks d0) (md_chunkMany d0) (md_homes d0) (md_dropped d0) (md_madeIn d0) (md_madeAt d0) (md_putMany d0) (md_path d0) (md_store d0) s4_.2.2)) v34 A)) (As := [.int s4_.2.1]) (rest := [.ref (a0 0), .int s4_.1, .ref (a0 17)]) ⟨hx, hb, hml, hown, hts⟩ hK hP hD (c_X9_at l D t h0 a0 ((md_thrown d0), (md_s d0), (md_aside d0), (md_base d0), (md_saved d0), (md_savedMany d0), (md_slots d0), (md_hasSlot d0), (md_text d0), (md_length d0), (md_begins d0), (md_lengths d0), (md_streams d0), (md_letters d0), (md_letterMany d0), (md_chunks d0), (md_chunkMany d0), (md_homes d0), (md_dropped d0), (md_madeIn d0), (md_madeAt d0), (md_putMany d0), (md_path d0), (md_store d0), s4_.2.2) _ s4_.2.1 v34 e34) (cwV 1 hts (gcX9_at w_306) rfl rfl rfl hdX9_atV ⟨Nat.le_of_ble_eq_true rfl, Nat.le_of_ble_eq_true rfl⟩) (ci := 8) (q0 := 0) rfl rfl rfl hl.1 rfl (Nat.le_of_ble_eq_true rfl) (kd tdlX9_carries_0 21 rfl) ⟨Nat.zero_le _, Nat.zero_le _⟩) (fun H locs hP hD hS => ?_)
      refine lv_iconst (v := 0) hx hb (kd tdlX9_carries_0 22 rfl) (by decide) ?_
      refine lv_iadd hx hb (kd tdlX9_carries_0 23 rfl) ?_
      obtain ⟨hi39, hF⟩ := kg hF
      refine md_l_s hx hb hK hP hi39 (kd tdlX9_carries_0 24 rfl) ?_
      obtain ⟨hi40, hF⟩ := kg hF
      refine md_s_thinOnes hx hb hK hP hD hS hi40 (kd tdlX9_carries_0 25 rfl) (fun H locs hP hD hS => ?_)
      refine lv_iinc (v := (s4_.1 + 1)) (lv' := [(1, .int (s4_.1 + 1)), (0, .ref h0), (2, .int s4_.2.1)]) hx hb (kd tdlX9_carries_0 26 rfl) hl (k := 1) rfl rfl (by decide) rfl (fun ls hl => ?_)
      refine lv_iinc (v := (s4_.2.1 + 1)) (lv' := [(2, .int (s4_.2.1 + 1)), (1, .int (s4_.1 + 1)), (0, .ref h0)]) hx hb (kd tdlX9_carries_0 27 rfl) hl (k := 2) rfl rfl (by decide) rfl (fun ls hl => ?_)
      refine lv_goto (tgt := 4) hx hb (kd tdlX9_carries_0 28 rfl) (by decide) ?_
      exact ih4 ((s4_.1 + 1), (s4_.2.1 + 1), (upd s4_.2.2 (Int32.toNatClampNeg s4_.1) ((md_s d0) (Int32.toNatClampNeg (v34 + 0))))) hF _ _ _ hP hD hS (lv_sub hl [2, 1, 0] rfl)
set_option maxHeartbeats 4000000 in
set_option maxRecDepth 100000 in
theorem c_X9_loadsBy (l : Launch) (D : va_G) (t : Nat → ClassId) (h0 : Nat) (a0 : Nat → Nat) (d0 : MDT) (sz : Nat) (p1 : Int32) (r : Int32 × (Nat → Int32)) (hF : F_X9_loadsBy (md_s d0) (md_path d0) (md_store d0) p1 = some r) : Met l yX9_loadsBy wX9_loadsBy ({ frames := 0, cells := 0, slots := 0, locals := 0 } : Room) (kPc D (TY t) ((wmd t h0 a0 d0)) [.ref h0, .int p1] sz) (kQi D (TY t) ((wmd t h0 a0 ((md_thrown d0), (md_s d0), (md_aside d0), (md_base d0), (md_saved d0), (md_savedMany d0), (md_slots d0), (md_hasSlot d0), (md_text d0), (md_length d0), (md_begins d0), (md_lengths d0), (md_streams d0), (md_letters d0), (md_letterMany d0), (md_chunks d0), (md_chunkMany d0), (md_homes d0), (md_dropped d0), (md_madeIn d0), (md_madeAt d0), (md_putMany d0), (md_path d0), r.2, (md_thinOnes d0)))) r.1 (va_A ((wmd t h0 a0 d0)) sz)) 0 0 (va_A ((wmd t h0 a0 d0)) sz) := by
  refine kE (cc := cX9_loadsBy) (maxL := 7) (ret := (some .int)) (Qx := fun A => kQi D (TY t) ((wmd t h0 a0 ((md_thrown d0), (md_s d0), (md_aside d0), (md_base d0), (md_saved d0), (md_savedMany d0), (md_slots d0), (md_hasSlot d0), (md_text d0), (md_length d0), (md_begins d0), (md_lengths d0), (md_streams d0), (md_letters d0), (md_letterMany d0), (md_chunks d0), (md_chunkMany d0), (md_homes d0), (md_dropped d0), (md_madeIn d0), (md_madeAt d0), (md_putMany d0), (md_path d0), r.2, (md_thinOnes d0)))) r.1 A) (lv0 := [(0, .ref h0), (1, .int p1)]) RX9 rfl (by decide) rfl (Nat.le_of_ble_eq_true rfl) rfl ?_
  intro p e s m args below meth c A ls hx hb hml hr hlocks hown hts hA hK hP hD hS hl
  have L56 := hts (.fieldLink RX9 56 "ChunkCarriersModel" "path" "[I") (List.mem_cons_of_mem _ w_116)
  have L59 := hts (.fieldLink RX9 59 "ChunkCarriersModel" "store" "[I") (List.mem_cons_of_mem _ w_117)
  have L7 := hts (.fieldLink RX9 7 "ChunkCarriersModel" "s" "[I") (List.mem_cons_of_mem _ w_101)
  have inX9_ : ∀ w ∈ wsX90, w ∈ wX9_loadsBy := fun w h => List.mem_cons_of_mem _ (inlX9 w h)
  have hP : va_P D vwCl ((wmdF t h0 a0 (md_thrown d0) (md_s d0) (md_aside d0) (md_base d0) (md_saved d0) (md_savedMany d0) (md_slots d0) (md_hasSlot d0) (md_text d0) (md_length d0) (md_begins d0) (md_lengths d0) (md_streams d0) (md_letters d0) (md_letterMany d0) (md_chunks d0) (md_chunkMany d0) (md_homes d0) (md_dropped d0) (md_madeIn d0) (md_madeAt d0) (md_putMany d0) (md_path d0) (md_store d0) (md_thinOnes d0))) s.heap := hP
  have hD : va_D A ((wmdF t h0 a0 (md_thrown d0) (md_s d0) (md_aside d0) (md_base d0) (md_saved d0) (md_savedMany d0) (md_slots d0) (md_hasSlot d0) (md_text d0) (md_length d0) (md_begins d0) (md_lengths d0) (md_streams d0) (md_letters d0) (md_letterMany d0) (md_chunks d0) (md_chunkMany d0) (md_homes d0) (md_dropped d0) (md_madeIn d0) (md_madeAt d0) (md_putMany d0) (md_path d0) (md_store d0) (md_thinOnes d0))) := hD
  refine lv_iconst (v := 0) hx hb (kd tdlX9_loadsBy_0 0 rfl) (by decide) ?_
  refine lv_istore_n (lv' := [(2, .int 0), (0, .ref h0), (1, .int p1)]) hx hb (kd tdlX9_loadsBy_0 1 rfl) rfl hl (by decide) rfl (fun ls hl => ?_)
  refine lv_iconst (v := 0) hx hb (kd tdlX9_loadsBy_0 2 rfl) (by decide) ?_
  refine lv_istore_n (lv' := [(3, .int 0), (2, .int 0), (0, .ref h0), (1, .int p1)]) hx hb (kd tdlX9_loadsBy_0 3 rfl) rfl hl (by decide) rfl (fun ls hl => ?_)
  refine lv_iconst (v := 0) hx hb (kd tdlX9_loadsBy_0 4 rfl) (by decide) ?_
  refine lv_istore (lv' := [(4, .int 0), (3, .int 0), (2, .int 0), (0, .ref h0), (1, .int p1)]) hx hb (kd tdlX9_loadsBy_0 5 rfl) hl (by decide) rfl (fun ls hl => ?_)
  refine lp_ind (f := B_X9_loadsBy_7 p1 (md_path d0) (md_s d0)) (r := r) (P := fun s7_ => ∀ (H : Heap) (locs : List Loc) (ls : Array Slot), va_P D vwCl ((wmdF t h0 a0 (md_thrown d0) (md_s d0) (md_aside d0) (md_base d0) (md_saved d0) (md_savedMany d0) (md_slots d0) (md_hasSlot d0) (md_text d0) (md_length d0) (md_begins d0) (md_lengths d0) (md_streams d0) (md_letters d0) (md_letterMany d0) (md_chunks d0) (md_chunkMany d0) (md_homes d0) (md_dropped d0) (md_madeIn d0) (md_madeAt d0) (md_putMany d0) (md_path d0) s7_.2.2.2 (md_thinOnes d0))) H → va_D A ((wmdF t h0 a0 (md_thrown d0) (md_s d0) (md_aside d0) (md_base d0) (md_saved d0) (md_savedMany d0) (md_slots d0) (md_hasSlot d0) (md_text d0) (md_length d0) (md_begins d0) (md_lengths d0) (md_streams d0) (md_letters d0) (md_letterMany d0) (md_chunks d0) (md_chunkMany d0) (md_homes d0) (md_dropped d0) (md_madeIn d0) (md_madeAt d0) (md_putMany d0) (md_path d0) s7_.2.2.2 (md_thinOnes d0))) → va_S A s.heap H locs → lv_has ls 7 [(0, .ref h0), (1, .int p1), (2, .int s7_.1), (3, .int s7_.2.1), (4, .int s7_.2.2.1)] → W p l e ({ frames := 0, cells := 0, slots := 0, locals := 0 } : Room) s m args below meth c H locs 0 0 (MQ below (kQi D (TY t) ((wmd t h0 a0 ((md_thrown d0), (md_s d0), (md_aside d0), (md_base d0), (md_saved d0), (md_savedMany d0), (md_slots d0), (md_hasSlot d0), (md_text d0), (md_length d0), (md_begins d0), (md_lengths d0), (md_streams d0), (md_letters d0), (md_letterMany d0), (md_chunks d0), (md_chunkMany d0), (md_homes d0), (md_dropped d0), (md_madeIn d0), (md_madeAt d0), (md_putMany d0), (md_path d0), r.2, (md_thinOnes d0)))) r.1 A) args s 0 0 A) (F0 m 7 ls [])) ?_ FU (0, 0, 0, (md_store d0)) hF _ _ _ hP hD hS (lv_sub hl [3, 4, 2, 1, 0] rfl)
  intro self7 ih7 s7_ hF H locs ls hP hD hS hl
  refine lv_iload hx hb (kd tdlX9_loadsBy_0 6 rfl) (lv_at hl 4 rfl) ?_
  refine lv_iload_n hx hb (kd tdlX9_loadsBy_0 7 rfl) rfl (lv_at hl 1 rfl) ?_
  refine lv_icmp_ge (tgt := 156) hx hb (kd tdlX9_loadsBy_0 8 rfl) (by decide) (fun hc10 => ?_) (fun hc10 => ?_)
  · have hF := kt hc10 hF
    refine lv_iload_n hx hb (kd tdlX9_loadsBy_1 43 rfl) rfl (lv_at hl 3 rfl) ?_
    cases ko hF
    exact ke_i hx hb hr hlocks hK hP hD hS rfl (kd tdlX9_loadsBy_1 44 rfl)
  · have hF := kf hc10 hF
    refine lv_iconst (v := (-1)) hx hb (kd tdlX9_loadsBy_0 9 rfl) (by decide) ?_
    refine lv_istore (lv' := [(5, .int (-1)), (0, .ref h0), (1, .int p1), (2, .int s7_.1), (3, .int s7_.2.1), (4, .int s7_.2.2.1)]) hx hb (kd tdlX9_loadsBy_0 10 rfl) hl (by decide) rfl (fun ls hl => ?_)
    refine lv_iconst (v := 0) hx hb (kd tdlX9_loadsBy_0 11 rfl) (by decide) ?_
    refine lv_istore (lv' := [(6, .int 0), (5, .int (-1)), (0, .ref h0), (1, .int p1), (2, .int s7_.1), (3, .int s7_.2.1), (4, .int s7_.2.2.1)]) hx hb (kd tdlX9_loadsBy_0 12 rfl) hl (by decide) rfl (fun ls hl => ?_)
    have hK57 : ∀ k57 : Int32, K_X9_loadsBy_57 s7_ (md_s d0) self7 (md_path d0) k57 = some r → ∀ (H : Heap) (locs : List Loc) (ls : Array Slot), va_P D vwCl ((wmdF t h0 a0 (md_thrown d0) (md_s d0) (md_aside d0) (md_base d0) (md_saved d0) (md_savedMany d0) (md_slots d0) (md_hasSlot d0) (md_text d0) (md_length d0) (md_begins d0) (md_lengths d0) (md_streams d0) (md_letters d0) (md_letterMany d0) (md_chunks d0) (md_chunkMany d0) (md_homes d0) (md_dropped d0) (md_madeIn d0) (md_madeAt d0) (md_putMany d0) (md_path d0) s7_.2.2.2 (md_thinOnes d0))) H → va_D A ((wmdF t h0 a0 (md_thrown d0) (md_s d0) (md_aside d0) (md_base d0) (md_saved d0) (md_savedMany d0) (md_slots d0) (md_hasSlot d0) (md_text d0) (md_length d0) (md_begins d0) (md_lengths d0) (md_streams d0) (md_letters d0) (md_letterMany d0) (md_chunks d0) (md_chunkMany d0) (md_homes d0) (md_dropped d0) (md_madeIn d0) (md_madeAt d0) (md_putMany d0) (md_path d0) s7_.2.2.2 (md_thinOnes d0))) → va_S A s.heap H locs → lv_has ls 7 [(0, .ref h0), (1, .int p1), (2, .int s7_.1), (3, .int s7_.2.1), (4, .int s7_.2.2.1), (5, .int k57)] → W p l e ({ frames := 0, cells := 0, slots := 0, locals := 0 } : Room) s m args below meth c H locs 0 0 (MQ below (kQi D (TY t) ((wmd t h0 a0 ((md_thrown d0), (md_s d0), (md_aside d0), (md_base d0), (md_saved d0), (md_savedMany d0), (md_slots d0), (md_hasSlot d0), (md_text d0), (md_length d0), (md_begins d0), (md_lengths d0), (md_streams d0), (md_letters d0), (md_letterMany d0), (md_chunks d0), (md_chunkMany d0), (md_homes d0), (md_dropped d0), (md_madeIn d0), (md_madeAt d0), (md_putMany d0), (md_path d0), r.2, (md_thinOnes d0)))) r.1 A) args s 0 0 A) (F0 m 57 ls []) := by
      intro k57 hF H locs ls hP hD hS hl
      refine lv_iload hx hb (kd tdlX9_loadsBy_0 31 rfl) (lv_at hl 5 rfl) ?_
      refine lv_iconst (v := (-1)) hx hb (kd tdlX9_loadsBy_0 32 rfl) (by decide) ?_
      have hJ101 : ∀ j101 : Int32 × Int32 × Int32, J_X9_loadsBy_101 s7_ self7 (md_path d0) j101 = some r → ∀ (H : Heap) (locs : List Loc) (ls : Array Slot), va_P D vwCl ((wmdF t h0 a0 (md_thrown d0) (md_s d0) (md_aside d0) (md_base d0) (md_saved d0) (md_savedMany d0) (md_slots d0) (md_hasSlot d0) (md_text d0) (md_length d0) (md_begins d0) (md_lengths d0) (md_streams d0) (md_letters d0) (md_letterMany d0) (md_chunks d0) (md_chunkMany d0) (md_homes d0) (md_dropped d0) (md_madeIn d0) (md_madeAt d0) (md_putMany d0) (md_path d0) s7_.2.2.2 (md_thinOnes d0))) H → va_D A ((wmdF t h0 a0 (md_thrown d0) (md_s d0) (md_aside d0) (md_base d0) (md_saved d0) (md_savedMany d0) (md_slots d0) (md_hasSlot d0) (md_text d0) (md_length d0) (md_begins d0) (md_lengths d0) (md_streams d0) (md_letters d0) (md_letterMany d0) (md_chunks d0) (md_chunkMany d0) (md_homes d0) (md_dropped d0) (md_madeIn d0) (md_madeAt d0) (md_putMany d0) (md_path d0) s7_.2.2.2 (md_thinOnes d0))) → va_S A s.heap H locs → lv_has ls 7 [(0, .ref h0), (1, .int p1), (2, .int j101.1), (3, .int j101.2.1), (4, .int s7_.2.2.1), (5, .int j101.2.2)] → W p l e ({ frames := 0, cells := 0, slots := 0, locals := 0 } : Room) s m args below meth c H locs 0 0 (MQ below (kQi D (TY t) ((wmd t h0 a0 ((md_thrown d0), (md_s d0), (md_aside d0), (md_base d0), (md_saved d0), (md_savedMany d0), (md_slots d0), (md_hasSlot d0), (md_text d0), (md_length d0), (md_begins d0), (md_lengths d0), (md_streams d0), (md_letters d0), (md_letterMany d0), (md_chunks d0), (md_chunkMany d0), (md_homes d0), (md_dropped d0), (md_madeIn d0), (md_madeAt d0), (md_putMany d0), (md_path d0), r.2, (md_thinOnes d0)))) r.1 A) args s 0 0 A) (F0 m 101 ls []) := by
        intro j101 hF H locs ls hP hD hS hl
        refine lv_iload hx hb (kd tdlX9_loadsBy_1 12 rfl) (lv_at hl 5 rfl) ?_
        refine lv_istore (lv' := [(6, .int j101.2.2), (0, .ref h0), (1, .int p1), (2, .int j101.1), (3, .int j101.2.1), (4, .int s7_.2.2.1), (5, .int j101.2.2)]) hx hb (kd tdlX9_loadsBy_1 13 rfl) hl (by decide) rfl (fun ls hl => ?_)
        have hK135 : ∀ k135 : (Nat → Int32), K_X9_loadsBy_135 s7_ j101 self7 (md_path d0) k135 = some r → ∀ (H : Heap) (locs : List Loc) (ls : Array Slot), va_P D vwCl ((wmdF t h0 a0 (md_thrown d0) (md_s d0) (md_aside d0) (md_base d0) (md_saved d0) (md_savedMany d0) (md_slots d0) (md_hasSlot d0) (md_text d0) (md_length d0) (md_begins d0) (md_lengths d0) (md_streams d0) (md_letters d0) (md_letterMany d0) (md_chunks d0) (md_chunkMany d0) (md_homes d0) (md_dropped d0) (md_madeIn d0) (md_madeAt d0) (md_putMany d0) (md_path d0) k135 (md_thinOnes d0))) H → va_D A ((wmdF t h0 a0 (md_thrown d0) (md_s d0) (md_aside d0) (md_base d0) (md_saved d0) (md_savedMany d0) (md_slots d0) (md_hasSlot d0) (md_text d0) (md_length d0) (md_begins d0) (md_lengths d0) (md_streams d0) (md_letters d0) (md_letterMany d0) (md_chunks d0) (md_chunkMany d0) (md_homes d0) (md_dropped d0) (md_madeIn d0) (md_madeAt d0) (md_putMany d0) (md_path d0) k135 (md_thinOnes d0))) → va_S A s.heap H locs → lv_has ls 7 [(0, .ref h0), (1, .int p1), (2, .int j101.1), (3, .int j101.2.1), (4, .int s7_.2.2.1)] → W p l e ({ frames := 0, cells := 0, slots := 0, locals := 0 } : Room) s m args below meth c H locs 0 0 (MQ below (kQi D (TY t) ((wmd t h0 a0 ((md_thrown d0), (md_s d0), (md_aside d0), (md_base d0), (md_saved d0), (md_savedMany d0), (md_slots d0), (md_hasSlot d0), (md_text d0), (md_length d0), (md_begins d0), (md_lengths d0), (md_streams d0), (md_letters d0), (md_letterMany d0), (md_chunks d0), (md_chunkMany d0), (md_homes d0), (md_dropped d0), (md_madeIn d0), (md_madeAt d0), (md_putMany d0), (md_path d0), r.2, (md_thinOnes d0)))) r.1 A) args s 0 0 A) (F0 m 135 ls []) := by
          intro k135 hF H locs ls hP hD hS hl
          refine lv_aload_n hx hb (kd tdlX9_loadsBy_1 31 rfl) rfl (lv_at hl 0 rfl) ?_
          refine md_g_store hx hb hts inX9_ hown hK hP L59 (kd tdlX9_loadsBy_1 32 rfl) ?_
          refine lv_iload_n hx hb (kd tdlX9_loadsBy_1 33 rfl) rfl (lv_at hl 2 rfl) ?_
          refine lv_iconst (v := 1) hx hb (kd tdlX9_loadsBy_1 34 rfl) (by decide) ?_
          refine lv_isub hx hb (kd tdlX9_loadsBy_1 35 rfl) ?_
          refine lv_aload_n hx hb (kd tdlX9_loadsBy_1 36 rfl) rfl (lv_at hl 0 rfl) ?_
          refine md_g_path hx hb hts inX9_ hown hK hP L56 (kd tdlX9_loadsBy_1 37 rfl) ?_
          refine lv_iload hx hb (kd tdlX9_loadsBy_1 38 rfl) (lv_at hl 4 rfl) ?_
          obtain ⟨hi148, hF⟩ := kg hF
          refine md_l_path hx hb hK hP hi148 (kd tdlX9_loadsBy_1 39 rfl) ?_
          obtain ⟨hi149, hF⟩ := kg hF
          refine md_s_store hx hb hK hP hD hS hi149 (kd tdlX9_loadsBy_1 40 rfl) (fun H locs hP hD hS => ?_)
          refine lv_iinc (v := (s7_.2.2.1 + 1)) (lv' := [(4, .int (s7_.2.2.1 + 1)), (0, .ref h0), (1, .int p1), (2, .int j101.1), (3, .int j101.2.1)]) hx hb (kd tdlX9_loadsBy_1 41 rfl) hl (k := 4) rfl rfl (by decide) rfl (fun ls hl => ?_)
          refine lv_goto (tgt := 7) hx hb (kd tdlX9_loadsBy_1 42 rfl) (by decide) ?_
          exact ih7 (j101.1, j101.2.1, (s7_.2.2.1 + 1), (upd k135 (Int32.toNatClampNeg (j101.1 - 1)) ((md_path d0) (Int32.toNatClampNeg s7_.2.2.1)))) hF _ _ _ hP hD hS (lv_sub hl [1, 2, 3, 4, 0] rfl)
        refine lp_ind (f := B_X9_loadsBy_105 j101 (K_X9_loadsBy_135 s7_ j101 self7 (md_path d0))) (r := r) (P := fun s105_ => ∀ (H : Heap) (locs : List Loc) (ls : Array Slot), va_P D vwCl ((wmdF t h0 a0 (md_thrown d0) (md_s d0) (md_aside d0) (md_base d0) (md_saved d0) (md_savedMany d0) (md_slots d0) (md_hasSlot d0) (md_text d0) (md_length d0) (md_begins d0) (md_lengths d0) (md_streams d0) (md_letters d0) (md_letterMany d0) (md_chunks d0) (md_chunkMany d0) (md_homes d0) (md_dropped d0) (md_madeIn d0) (md_madeAt d0) (md_putMany d0) (md_path d0) s105_.2 (md_thinOnes d0))) H → va_D A ((wmdF t h0 a0 (md_thrown d0) (md_s d0) (md_aside d0) (md_base d0) (md_saved d0) (md_savedMany d0) (md_slots d0) (md_hasSlot d0) (md_text d0) (md_length d0) (md_begins d0) (md_lengths d0) (md_streams d0) (md_letters d0) (md_letterMany d0) (md_chunks d0) (md_chunkMany d0) (md_homes d0) (md_dropped d0) (md_madeIn d0) (md_madeAt d0) (md_putMany d0) (md_path d0) s105_.2 (md_thinOnes d0))) → va_S A s.heap H locs → lv_has ls 7 [(0, .ref h0), (1, .int p1), (2, .int j101.1), (3, .int j101.2.1), (4, .int s7_.2.2.1), (6, .int s105_.1)] → W p l e ({ frames := 0, cells := 0, slots := 0, locals := 0 } : Room) s m args below meth c H locs 0 0 (MQ below (kQi D (TY t) ((wmd t h0 a0 ((md_thrown d0), (md_s d0), (md_aside d0), (md_base d0), (md_saved d0), (md_savedMany d0), (md_slots d0), (md_hasSlot d0), (md_text d0), (md_length d0), (md_begins d0), (md_lengths d0), (md_streams d0), (md_letters d0), (md_letterMany d0), (md_chunks d0), (md_chunkMany d0), (md_homes d0), (md_dropped d0), (md_madeIn d0), (md_madeAt d0), (md_putMany d0), (md_path d0), r.2, (md_thinOnes d0)))) r.1 A) args s 0 0 A) (F0 m 105 ls [])) ?_ FU (j101.2.2, s7_.2.2.2) hF _ _ _ hP hD hS (lv_sub hl [1, 2, 3, 4, 5, 0] rfl)
        intro self105 ih105 s105_ hF H locs ls hP hD hS hl
        refine lv_iload hx hb (kd tdlX9_loadsBy_1 14 rfl) (lv_at hl 5 rfl) ?_
        refine lv_iload_n hx hb (kd tdlX9_loadsBy_1 15 rfl) rfl (lv_at hl 2 rfl) ?_
        refine lv_iconst (v := 1) hx hb (kd tdlX9_loadsBy_1 16 rfl) (by decide) ?_
        refine lv_isub hx hb (kd tdlX9_loadsBy_1 17 rfl) ?_
        refine lv_icmp_ge (tgt := 135) hx hb (kd tdlX9_loadsBy_1 18 rfl) (by decide) (fun hc110 => ?_) (fun hc110 => ?_)
        · have hF := kt hc110 hF
          exact hK135 (s105_.2) hF _ _ _ hP hD hS (lv_sub hl [0, 1, 2, 3, 4] rfl)
        · have hF := kf hc110 hF
          refine lv_aload_n hx hb (kd tdlX9_loadsBy_1 19 rfl) rfl (lv_at hl 0 rfl) ?_
          refine md_g_store hx hb hts inX9_ hown hK hP L59 (kd tdlX9_loadsBy_1 20 rfl) ?_
          refine lv_iload hx hb (kd tdlX9_loadsBy_1 21 rfl) (lv_at hl 5 rfl) ?_
          refine lv_aload_n hx hb (kd tdlX9_loadsBy_1 22 rfl) rfl (lv_at hl 0 rfl) ?_
          refine md_g_store hx hb hts inX9_ hown hK hP L59 (kd tdlX9_loadsBy_1 23 rfl) ?_
          refine lv_iload hx hb (kd tdlX9_loadsBy_1 24 rfl) (lv_at hl 5 rfl) ?_
          refine lv_iconst (v := 1) hx hb (kd tdlX9_loadsBy_1 25 rfl) (by decide) ?_
          refine lv_iadd hx hb (kd tdlX9_loadsBy_1 26 rfl) ?_
          obtain ⟨hi127, hF⟩ := kg hF
          refine md_l_store hx hb hK hP hi127 (kd tdlX9_loadsBy_1 27 rfl) ?_
          obtain ⟨hi128, hF⟩ := kg hF
          refine md_s_store hx hb hK hP hD hS hi128 (kd tdlX9_loadsBy_1 28 rfl) (fun H locs hP hD hS => ?_)
          refine lv_iinc (v := (s105_.1 + 1)) (lv' := [(6, .int (s105_.1 + 1)), (0, .ref h0), (1, .int p1), (2, .int j101.1), (3, .int j101.2.1), (4, .int s7_.2.2.1)]) hx hb (kd tdlX9_loadsBy_1 29 rfl) hl (k := 5) rfl rfl (by decide) rfl (fun ls hl => ?_)
          refine lv_goto (tgt := 105) hx hb (kd tdlX9_loadsBy_1 30 rfl) (by decide) ?_
          exact ih105 ((s105_.1 + 1), (upd s105_.2 (Int32.toNatClampNeg s105_.1) (s105_.2 (Int32.toNatClampNeg (s105_.1 + 1))))) hF _ _ _ hP hD hS (lv_sub hl [1, 2, 3, 4, 5, 0] rfl)
      refine lv_icmp_ne (tgt := 101) hx hb (kd tdlX9_loadsBy_0 33 rfl) (by decide) (fun hc60 => ?_) (fun hc60 => ?_)
      · have hF := kf hc60 hF
        exact hJ101 (s7_.1, s7_.2.1, k57) hF _ _ _ hP hD hS (lv_sub hl [0, 1, 2, 3, 4, 5] rfl)
      · have hF := kt hc60 hF
        refine lv_iinc (v := (s7_.2.1 + 1)) (lv' := [(3, .int (s7_.2.1 + 1)), (0, .ref h0), (1, .int p1), (2, .int s7_.1), (4, .int s7_.2.2.1), (5, .int k57)]) hx hb (kd tdlX9_loadsBy_0 34 rfl) hl (k := 3) rfl rfl (by decide) rfl (fun ls hl => ?_)
        refine lv_iload_n hx hb (kd tdlX9_loadsBy_0 35 rfl) rfl (lv_at hl 3 rfl) ?_
        refine lv_aload_n hx hb (kd tdlX9_loadsBy_0 36 rfl) rfl (lv_at hl 1 rfl) ?_
        refine md_g_s hx hb hts inX9_ hown hK hP L7 (kd tdlX9_loadsBy_0 37 rfl) ?_
        refine lv_iconst (v := 4) hx hb (kd tdlX9_loadsBy_0 38 rfl) (by decide) ?_
        obtain ⟨hi72, hF⟩ := kg hF
        refine md_l_s hx hb hK hP hi72 (kd tdlX9_loadsBy_0 39 rfl) ?_
        have hJ81 : ∀ j81 : Int32, J_X9_loadsBy_81 s7_ (md_s d0) self7 (md_path d0) j81 = some r → ∀ (H : Heap) (locs : List Loc) (ls : Array Slot), va_P D vwCl ((wmdF t h0 a0 (md_thrown d0) (md_s d0) (md_aside d0) (md_base d0) (md_saved d0) (md_savedMany d0) (md_slots d0) (md_hasSlot d0) (md_text d0) (md_length d0) (md_begins d0) (md_lengths d0) (md_streams d0) (md_letters d0) (md_letterMany d0) (md_chunks d0) (md_chunkMany d0) (md_homes d0) (md_dropped d0) (md_madeIn d0) (md_madeAt d0) (md_putMany d0) (md_path d0) s7_.2.2.2 (md_thinOnes d0))) H → va_D A ((wmdF t h0 a0 (md_thrown d0) (md_s d0) (md_aside d0) (md_base d0) (md_saved d0) (md_savedMany d0) (md_slots d0) (md_hasSlot d0) (md_text d0) (md_length d0) (md_begins d0) (md_lengths d0) (md_streams d0) (md_letters d0) (md_letterMany d0) (md_chunks d0) (md_chunkMany d0) (md_homes d0) (md_dropped d0) (md_madeIn d0) (md_madeAt d0) (md_putMany d0) (md_path d0) s7_.2.2.2 (md_thinOnes d0))) → va_S A s.heap H locs → lv_has ls 7 [(0, .ref h0), (1, .int p1), (2, .int s7_.1), (3, .int (s7_.2.1 + 1)), (4, .int s7_.2.2.1)] → W p l e ({ frames := 0, cells := 0, slots := 0, locals := 0 } : Room) s m args below meth c H locs 0 0 (MQ below (kQi D (TY t) ((wmd t h0 a0 ((md_thrown d0), (md_s d0), (md_aside d0), (md_base d0), (md_saved d0), (md_savedMany d0), (md_slots d0), (md_hasSlot d0), (md_text d0), (md_length d0), (md_begins d0), (md_lengths d0), (md_streams d0), (md_letters d0), (md_letterMany d0), (md_chunks d0), (md_chunkMany d0), (md_homes d0), (md_dropped d0), (md_madeIn d0), (md_madeAt d0), (md_putMany d0), (md_path d0), r.2, (md_thinOnes d0)))) r.1 A) args s 0 0 A) (F0 m 81 ls [.int j81]) := by
          intro j81 hF H locs ls hP hD hS hl
          refine lv_istore (lv' := [(5, .int j81), (0, .ref h0), (1, .int p1), (2, .int s7_.1), (3, .int (s7_.2.1 + 1)), (4, .int s7_.2.2.1)]) hx hb (kd tdlX9_loadsBy_0 44 rfl) hl (by decide) rfl (fun ls hl => ?_)
          refine lv_iload_n hx hb (kd tdlX9_loadsBy_1 0 rfl) rfl (lv_at hl 3 rfl) ?_
          refine lv_aload_n hx hb (kd tdlX9_loadsBy_1 1 rfl) rfl (lv_at hl 1 rfl) ?_
          refine md_g_s hx hb hts inX9_ hown hK hP L7 (kd tdlX9_loadsBy_1 2 rfl) ?_
          refine lv_iconst (v := 4) hx hb (kd tdlX9_loadsBy_1 3 rfl) (by decide) ?_
          obtain ⟨hi89, hF⟩ := kg hF
          refine md_l_s hx hb hK hP hi89 (kd tdlX9_loadsBy_1 4 rfl) ?_
          have hJ100 : ∀ j100 : Int32, J_X9_loadsBy_100 s7_ self7 (md_path d0) j81 j100 = some r → ∀ (H : Heap) (locs : List Loc) (ls : Array Slot), va_P D vwCl ((wmdF t h0 a0 (md_thrown d0) (md_s d0) (md_aside d0) (md_base d0) (md_saved d0) (md_savedMany d0) (md_slots d0) (md_hasSlot d0) (md_text d0) (md_length d0) (md_begins d0) (md_lengths d0) (md_streams d0) (md_letters d0) (md_letterMany d0) (md_chunks d0) (md_chunkMany d0) (md_homes d0) (md_dropped d0) (md_madeIn d0) (md_madeAt d0) (md_putMany d0) (md_path d0) s7_.2.2.2 (md_thinOnes d0))) H → va_D A ((wmdF t h0 a0 (md_thrown d0) (md_s d0) (md_aside d0) (md_base d0) (md_saved d0) (md_savedMany d0) (md_slots d0) (md_hasSlot d0) (md_text d0) (md_length d0) (md_begins d0) (md_lengths d0) (md_streams d0) (md_letters d0) (md_letterMany d0) (md_chunks d0) (md_chunkMany d0) (md_homes d0) (md_dropped d0) (md_madeIn d0) (md_madeAt d0) (md_putMany d0) (md_path d0) s7_.2.2.2 (md_thinOnes d0))) → va_S A s.heap H locs → lv_has ls 7 [(0, .ref h0), (1, .int p1), (3, .int (s7_.2.1 + 1)), (4, .int s7_.2.2.1), (5, .int j81)] → W p l e ({ frames := 0, cells := 0, slots := 0, locals := 0 } : Room) s m args below meth c H locs 0 0 (MQ below (kQi D (TY t) ((wmd t h0 a0 ((md_thrown d0), (md_s d0), (md_aside d0), (md_base d0), (md_saved d0), (md_savedMany d0), (md_slots d0), (md_hasSlot d0), (md_text d0), (md_length d0), (md_begins d0), (md_lengths d0), (md_streams d0), (md_letters d0), (md_letterMany d0), (md_chunks d0), (md_chunkMany d0), (md_homes d0), (md_dropped d0), (md_madeIn d0), (md_madeAt d0), (md_putMany d0), (md_path d0), r.2, (md_thinOnes d0)))) r.1 A) args s 0 0 A) (F0 m 100 ls [.int j100]) := by
            intro j100 hF H locs ls hP hD hS hl
            refine lv_istore_n (lv' := [(2, .int j100), (0, .ref h0), (1, .int p1), (3, .int (s7_.2.1 + 1)), (4, .int s7_.2.2.1), (5, .int j81)]) hx hb (kd tdlX9_loadsBy_1 11 rfl) rfl hl (by decide) rfl (fun ls hl => ?_)
            exact hJ101 (j100, (s7_.2.1 + 1), j81) hF _ _ _ hP hD hS (lv_sub hl [1, 2, 0, 3, 4, 5] rfl)
          refine lv_icmp_ne (tgt := 97) hx hb (kd tdlX9_loadsBy_1 5 rfl) (by decide) (fun hc90 => ?_) (fun hc90 => ?_)
          · have hF := kf hc90 hF
            refine lv_iload_n hx hb (kd tdlX9_loadsBy_1 8 rfl) rfl (lv_at hl 3 rfl) ?_
            refine lv_iconst (v := 1) hx hb (kd tdlX9_loadsBy_1 9 rfl) (by decide) ?_
            refine lv_iadd hx hb (kd tdlX9_loadsBy_1 10 rfl) ?_
            exact hJ100 ((s7_.1 + 1)) hF _ _ _ hP hD hS (lv_sub hl [1, 2, 4, 5, 0] rfl)
          · have hF := kt hc90 hF
            refine lv_iload_n hx hb (kd tdlX9_loadsBy_1 6 rfl) rfl (lv_at hl 3 rfl) ?_
            refine lv_goto (tgt := 100) hx hb (kd tdlX9_loadsBy_1 7 rfl) (by decide) ?_
            exact hJ100 (s7_.1) hF _ _ _ hP hD hS (lv_sub hl [1, 2, 4, 5, 0] rfl)
        refine lv_icmp_ne (tgt := 80) hx hb (kd tdlX9_loadsBy_0 40 rfl) (by decide) (fun hc73 => ?_) (fun hc73 => ?_)
        · have hF := kf hc73 hF
          refine lv_iload_n hx hb (kd tdlX9_loadsBy_0 43 rfl) rfl (lv_at hl 3 rfl) ?_
          exact hJ81 (s7_.1) hF _ _ _ hP hD hS (lv_sub hl [1, 2, 3, 0, 4] rfl)
        · have hF := kt hc73 hF
          refine lv_iconst (v := 0) hx hb (kd tdlX9_loadsBy_0 41 rfl) (by decide) ?_
          refine lv_goto (tgt := 81) hx hb (kd tdlX9_loadsBy_0 42 rfl) (by decide) ?_
          exact hJ81 (0) hF _ _ _ hP hD hS (lv_sub hl [1, 2, 3, 0, 4] rfl)
    refine lp_ind (f := B_X9_loadsBy_19 s7_ (md_path d0) (K_X9_loadsBy_57 s7_ (md_s d0) self7 (md_path d0))) (r := r) (P := fun s19_ => ∀ (H : Heap) (locs : List Loc) (ls : Array Slot), va_P D vwCl ((wmdF t h0 a0 (md_thrown d0) (md_s d0) (md_aside d0) (md_base d0) (md_saved d0) (md_savedMany d0) (md_slots d0) (md_hasSlot d0) (md_text d0) (md_length d0) (md_begins d0) (md_lengths d0) (md_streams d0) (md_letters d0) (md_letterMany d0) (md_chunks d0) (md_chunkMany d0) (md_homes d0) (md_dropped d0) (md_madeIn d0) (md_madeAt d0) (md_putMany d0) (md_path d0) s7_.2.2.2 (md_thinOnes d0))) H → va_D A ((wmdF t h0 a0 (md_thrown d0) (md_s d0) (md_aside d0) (md_base d0) (md_saved d0) (md_savedMany d0) (md_slots d0) (md_hasSlot d0) (md_text d0) (md_length d0) (md_begins d0) (md_lengths d0) (md_streams d0) (md_letters d0) (md_letterMany d0) (md_chunks d0) (md_chunkMany d0) (md_homes d0) (md_dropped d0) (md_madeIn d0) (md_madeAt d0) (md_putMany d0) (md_path d0) s7_.2.2.2 (md_thinOnes d0))) → va_S A s.heap H locs → lv_has ls 7 [(0, .ref h0), (1, .int p1), (2, .int s7_.1), (3, .int s7_.2.1), (4, .int s7_.2.2.1), (5, .int s19_.1), (6, .int s19_.2)] → W p l e ({ frames := 0, cells := 0, slots := 0, locals := 0 } : Room) s m args below meth c H locs 0 0 (MQ below (kQi D (TY t) ((wmd t h0 a0 ((md_thrown d0), (md_s d0), (md_aside d0), (md_base d0), (md_saved d0), (md_savedMany d0), (md_slots d0), (md_hasSlot d0), (md_text d0), (md_length d0), (md_begins d0), (md_lengths d0), (md_streams d0), (md_letters d0), (md_letterMany d0), (md_chunks d0), (md_chunkMany d0), (md_homes d0), (md_dropped d0), (md_madeIn d0), (md_madeAt d0), (md_putMany d0), (md_path d0), r.2, (md_thinOnes d0)))) r.1 A) args s 0 0 A) (F0 m 19 ls [])) ?_ FU ((-1), 0) hF _ _ _ hP hD hS (lv_sub hl [2, 3, 4, 5, 6, 1, 0] rfl)
    intro self19 ih19 s19_ hF H locs ls hP hD hS hl
    refine lv_iload hx hb (kd tdlX9_loadsBy_0 13 rfl) (lv_at hl 6 rfl) ?_
    refine lv_iload_n hx hb (kd tdlX9_loadsBy_0 14 rfl) rfl (lv_at hl 2 rfl) ?_
    refine lv_icmp_ge (tgt := 57) hx hb (kd tdlX9_loadsBy_0 15 rfl) (by decide) (fun hc22 => ?_) (fun hc22 => ?_)
    · have hF := kt hc22 hF
      exact hK57 (s19_.1) hF _ _ _ hP hD hS (lv_sub hl [0, 1, 2, 3, 4, 5] rfl)
    · have hF := kf hc22 hF
      refine lv_aload_n hx hb (kd tdlX9_loadsBy_0 16 rfl) rfl (lv_at hl 0 rfl) ?_
      refine md_g_store hx hb hts inX9_ hown hK hP L59 (kd tdlX9_loadsBy_0 17 rfl) ?_
      refine lv_iload hx hb (kd tdlX9_loadsBy_0 18 rfl) (lv_at hl 6 rfl) ?_
      obtain ⟨hi31, hF⟩ := kg hF
      refine md_l_store hx hb hK hP hi31 (kd tdlX9_loadsBy_0 19 rfl) ?_
      refine lv_aload_n hx hb (kd tdlX9_loadsBy_0 20 rfl) rfl (lv_at hl 0 rfl) ?_
      refine md_g_path hx hb hts inX9_ hown hK hP L56 (kd tdlX9_loadsBy_0 21 rfl) ?_
      refine lv_iload hx hb (kd tdlX9_loadsBy_0 22 rfl) (lv_at hl 4 rfl) ?_
      obtain ⟨hi38, hF⟩ := kg hF
      refine md_l_path hx hb hK hP hi38 (kd tdlX9_loadsBy_0 23 rfl) ?_
      refine lv_icmp_ne (tgt := 47) hx hb (kd tdlX9_loadsBy_0 24 rfl) (by decide) (fun hc39 => ?_) (fun hc39 => ?_)
      · have hF := kf hc39 hF
        refine lv_iload hx hb (kd tdlX9_loadsBy_0 27 rfl) (lv_at hl 5 rfl) ?_
        refine lv_istore (lv' := [(5, .int s19_.1), (0, .ref h0), (1, .int p1), (2, .int s7_.1), (3, .int s7_.2.1), (4, .int s7_.2.2.1), (6, .int s19_.2)]) hx hb (kd tdlX9_loadsBy_0 28 rfl) hl (by decide) rfl (fun ls hl => ?_)
        refine lv_iinc (v := (s19_.2 + 1)) (lv' := [(6, .int (s19_.2 + 1)), (5, .int s19_.1), (0, .ref h0), (1, .int p1), (2, .int s7_.1), (3, .int s7_.2.1), (4, .int s7_.2.2.1)]) hx hb (kd tdlX9_loadsBy_0 29 rfl) hl (k := 6) rfl rfl (by decide) rfl (fun ls hl => ?_)
        refine lv_goto (tgt := 19) hx hb (kd tdlX9_loadsBy_0 30 rfl) (by decide) ?_
        exact ih19 (s19_.1, (s19_.2 + 1)) hF _ _ _ hP hD hS (lv_sub hl [2, 3, 4, 5, 6, 1, 0] rfl)
      · have hF := kt hc39 hF
        refine lv_iload hx hb (kd tdlX9_loadsBy_0 25 rfl) (lv_at hl 6 rfl) ?_
        refine lv_goto (tgt := 49) hx hb (kd tdlX9_loadsBy_0 26 rfl) (by decide) ?_
        refine lv_istore (lv' := [(5, .int s19_.2), (0, .ref h0), (1, .int p1), (2, .int s7_.1), (3, .int s7_.2.1), (4, .int s7_.2.2.1), (6, .int s19_.2)]) hx hb (kd tdlX9_loadsBy_0 28 rfl) hl (by decide) rfl (fun ls hl => ?_)
        refine lv_iinc (v := (s19_.2 + 1)) (lv' := [(6, .int (s19_.2 + 1)), (5, .int s19_.2), (0, .ref h0), (1, .int p1), (2, .int s7_.1), (3, .int s7_.2.1), (4, .int s7_.2.2.1)]) hx hb (kd tdlX9_loadsBy_0 29 rfl) hl (k := 6) rfl rfl (by decide) rfl (fun ls hl => ?_)
        refine lv_goto (tgt := 19) hx hb (kd tdlX9_loadsBy_0 30 rfl) (by decide) ?_
        exact ih19 (s19_.2, (s19_.2 + 1)) hF _ _ _ hP hD hS (lv_sub hl [2, 3, 4, 5, 6, 1, 0] rfl)
set_option maxHeartbeats 4000000 in
set_option maxRecDepth 100000 in
theorem c_X9_loadsOf (l : Launch) (D : va_G) (t : Nat → ClassId) (h0 : Nat) (a0 : Nat → Nat) (d0 : MDT) (sz : Nat) (p1 : Int32) (r : Int32 × (Nat → Int32) × (Nat → Int32)) (hF : F_X9_loadsOf (md_s d0) (md_path d0) (md_store d0) p1 = some r) : Met l yX9_loadsOf wX9_loadsOf ({ frames := 1, cells := 0, slots := 0, locals := 26 } : Room) (kPc D (TY t) ((wmd t h0 a0 d0)) [.ref h0, .int p1] sz) (kQi D (TY t) ((wmd t h0 a0 ((md_thrown d0), (md_s d0), (md_aside d0), (md_base d0), (md_saved d0), (md_savedMany d0), (md_slots d0), (md_hasSlot d0), (md_text d0), (md_length d0), (md_begins d0), (md_lengths d0), (md_streams d0), (md_letters d0), (md_letterMany d0), (md_chunks d0), (md_chunkMany d0), (md_homes d0), (md_dropped d0), (md_madeIn d0), (md_madeAt d0), (md_putMany d0), r.2.1, r.2.2, (md_thinOnes d0)))) r.1 (va_A ((wmd t h0 a0 d0)) sz)) 0 0 (va_A ((wmd t h0 a0 d0)) sz) := by
  refine kE (cc := cX9_loadsOf) (maxL := 4) (ret := (some .int)) (Qx := fun A => kQi D (TY t) ((wmd t h0 a0 ((md_thrown d0), (md_s d0), (md_aside d0), (md_base d0), (md_saved d0), (md_savedMany d0), (md_slots d0), (md_hasSlot d0), (md_text d0), (md_length d0), (md_begins d0), (md_lengths d0), (md_streams d0), (md_letters d0), (md_letterMany d0), (md_chunks d0), (md_chunkMany d0), (md_homes d0), (md_dropped d0), (md_madeIn d0), (md_madeAt d0), (md_putMany d0), r.2.1, r.2.2, (md_thinOnes d0)))) r.1 A) (lv0 := [(0, .ref h0), (1, .int p1)]) RX9 rfl (by decide) rfl (Nat.le_of_ble_eq_true rfl) rfl ?_
  intro p e s m args below meth c A ls hx hb hml hr hlocks hown hts hA hK hP hD hS hl
  have L56 := hts (.fieldLink RX9 56 "ChunkCarriersModel" "path" "[I") (List.mem_cons_of_mem _ w_116)
  have L7 := hts (.fieldLink RX9 7 "ChunkCarriersModel" "s" "[I") (List.mem_cons_of_mem _ w_101)
  have inX9_ : ∀ w ∈ wsX90, w ∈ wX9_loadsOf := fun w h => List.mem_cons_of_mem _ (inlX9 w h)
  have hP : va_P D vwCl ((wmdF t h0 a0 (md_thrown d0) (md_s d0) (md_aside d0) (md_base d0) (md_saved d0) (md_savedMany d0) (md_slots d0) (md_hasSlot d0) (md_text d0) (md_length d0) (md_begins d0) (md_lengths d0) (md_streams d0) (md_letters d0) (md_letterMany d0) (md_chunks d0) (md_chunkMany d0) (md_homes d0) (md_dropped d0) (md_madeIn d0) (md_madeAt d0) (md_putMany d0) (md_path d0) (md_store d0) (md_thinOnes d0))) s.heap := hP
  have hD : va_D A ((wmdF t h0 a0 (md_thrown d0) (md_s d0) (md_aside d0) (md_base d0) (md_saved d0) (md_savedMany d0) (md_slots d0) (md_hasSlot d0) (md_text d0) (md_length d0) (md_begins d0) (md_lengths d0) (md_streams d0) (md_letters d0) (md_letterMany d0) (md_chunks d0) (md_chunkMany d0) (md_homes d0) (md_dropped d0) (md_madeIn d0) (md_madeAt d0) (md_putMany d0) (md_path d0) (md_store d0) (md_thinOnes d0))) := hD
  refine lv_aload_n hx hb (kd tdlX9_loadsOf_0 0 rfl) rfl (lv_at hl 0 rfl) ?_
  refine lv_iload_n hx hb (kd tdlX9_loadsOf_0 1 rfl) rfl (lv_at hl 1 rfl) ?_
  obtain ⟨v2, e2, hF⟩ := kc hF
  refine kc_i0 (w1 := ((wmdF t h0 a0 (md_thrown d0) (md_s d0) (md_aside d0) (md_base d0) (md_saved d0) (md_savedMany d0) (md_slots d0) (md_hasSlot d0) (md_text d0) (md_length d0) (md_begins d0) (md_lengths d0) (md_streams d0) (md_letters d0) (md_letterMany d0) (md_chunks d0) (md_chunkMany d0) (md_homes d0) (md_dropped d0) (md_madeIn d0) (md_madeAt d0) (md_putMany d0) (md_path d0) (md_store d0) (md_thinOnes d0)))) hP hD hS hA (kr_V0 (Qx := (fun A => kQi D (TY t) ((wmdF t h0 a0 (md_thrown d0) (md_s d0) (md_aside d0) (md_base d0) (md_saved d0) (md_savedMany d0) (md_slots d0) (md_hasSlot d0) (md_text d0) (md_length d0) (md_begins d0) (md_lengths d0) (md_streams d0) (md_letters d0) (md_letterMany d0) (md_chunks d0) (md_chunkMany d0) (md_homes d0) (md_dropped d0) (md_madeIn d0) (md_madeAt d0) (md_putMany d0) (md_path d0) (md_store d0) (md_thinOnes d0))) v2 A)) (As := [.int p1]) (rest := []) ⟨hx, hb, hml, hown, hts⟩ hK hP hD (c_X9_backupAt l D t h0 a0 d0 _ p1 v2 e2) (cwV 1 hts (gcX9_backupAt w_382) rfl rfl rfl hdX9_backupAtV ⟨Nat.le_of_ble_eq_true rfl, Nat.le_of_ble_eq_true rfl⟩) (ci := 8) (q0 := 0) rfl rfl rfl hl.1 rfl (Nat.le_of_ble_eq_true rfl) (kd tdlX9_loadsOf_0 2 rfl) ⟨Nat.zero_le _, Nat.zero_le _⟩) (fun H locs hP hD hS => ?_)
  refine lv_istore_n (lv' := [(2, .int v2), (0, .ref h0), (1, .int p1)]) hx hb (kd tdlX9_loadsOf_0 3 rfl) rfl hl (by decide) rfl (fun ls hl => ?_)
  refine lv_iconst (v := 0) hx hb (kd tdlX9_loadsOf_0 4 rfl) (by decide) ?_
  refine lv_istore_n (lv' := [(3, .int 0), (2, .int v2), (0, .ref h0), (1, .int p1)]) hx hb (kd tdlX9_loadsOf_0 5 rfl) rfl hl (by decide) rfl (fun ls hl => ?_)
  have hK44 : ∀ k44 : (Nat → Int32), K_X9_loadsOf_44 v2 (md_s d0) (md_store d0) k44 = some r → ∀ (H : Heap) (locs : List Loc) (ls : Array Slot), va_P D vwCl ((wmdF t h0 a0 (md_thrown d0) (md_s d0) (md_aside d0) (md_base d0) (md_saved d0) (md_savedMany d0) (md_slots d0) (md_hasSlot d0) (md_text d0) (md_length d0) (md_begins d0) (md_lengths d0) (md_streams d0) (md_letters d0) (md_letterMany d0) (md_chunks d0) (md_chunkMany d0) (md_homes d0) (md_dropped d0) (md_madeIn d0) (md_madeAt d0) (md_putMany d0) k44 (md_store d0) (md_thinOnes d0))) H → va_D A ((wmdF t h0 a0 (md_thrown d0) (md_s d0) (md_aside d0) (md_base d0) (md_saved d0) (md_savedMany d0) (md_slots d0) (md_hasSlot d0) (md_text d0) (md_length d0) (md_begins d0) (md_lengths d0) (md_streams d0) (md_letters d0) (md_letterMany d0) (md_chunks d0) (md_chunkMany d0) (md_homes d0) (md_dropped d0) (md_madeIn d0) (md_madeAt d0) (md_putMany d0) k44 (md_store d0) (md_thinOnes d0))) → va_S A s.heap H locs → lv_has ls 4 [(0, .ref h0), (2, .int v2)] → W p l e ({ frames := 1, cells := 0, slots := 0, locals := 26 } : Room) s m args below meth c H locs 0 0 (MQ below (kQi D (TY t) ((wmd t h0 a0 ((md_thrown d0), (md_s d0), (md_aside d0), (md_base d0), (md_saved d0), (md_savedMany d0), (md_slots d0), (md_hasSlot d0), (md_text d0), (md_length d0), (md_begins d0), (md_lengths d0), (md_streams d0), (md_letters d0), (md_letterMany d0), (md_chunks d0), (md_chunkMany d0), (md_homes d0), (md_dropped d0), (md_madeIn d0), (md_madeAt d0), (md_putMany d0), r.2.1, r.2.2, (md_thinOnes d0)))) r.1 A) args s 0 0 A) (F0 m 44 ls []) := by
    intro k44 hF H locs ls hP hD hS hl
    refine lv_aload_n hx hb (kd tdlX9_loadsOf_0 30 rfl) rfl (lv_at hl 0 rfl) ?_
    refine lv_aload_n hx hb (kd tdlX9_loadsOf_0 31 rfl) rfl (lv_at hl 0 rfl) ?_
    refine md_g_s hx hb hts inX9_ hown hK hP L7 (kd tdlX9_loadsOf_0 32 rfl) ?_
    refine lv_iload_n hx hb (kd tdlX9_loadsOf_0 33 rfl) rfl (lv_at hl 1 rfl) ?_
    refine lv_iconst (v := 1) hx hb (kd tdlX9_loadsOf_0 34 rfl) (by decide) ?_
    refine lv_iadd hx hb (kd tdlX9_loadsOf_0 35 rfl) ?_
    obtain ⟨hi52, hF⟩ := kg hF
    refine md_l_s hx hb hK hP hi52 (kd tdlX9_loadsOf_0 36 rfl) ?_
    obtain ⟨v53, e53, hF⟩ := kc hF
    refine kc_i0 (w1 := ((wmdF t h0 a0 (md_thrown d0) (md_s d0) (md_aside d0) (md_base d0) (md_saved d0) (md_savedMany d0) (md_slots d0) (md_hasSlot d0) (md_text d0) (md_length d0) (md_begins d0) (md_lengths d0) (md_streams d0) (md_letters d0) (md_letterMany d0) (md_chunks d0) (md_chunkMany d0) (md_homes d0) (md_dropped d0) (md_madeIn d0) (md_madeAt d0) (md_putMany d0) k44 v53.2 (md_thinOnes d0)))) hP hD hS hA (kr_V0 (Qx := (fun A => kQi D (TY t) ((wmdF t h0 a0 (md_thrown d0) (md_s d0) (md_aside d0) (md_base d0) (md_saved d0) (md_savedMany d0) (md_slots d0) (md_hasSlot d0) (md_text d0) (md_length d0) (md_begins d0) (md_lengths d0) (md_streams d0) (md_letters d0) (md_letterMany d0) (md_chunks d0) (md_chunkMany d0) (md_homes d0) (md_dropped d0) (md_madeIn d0) (md_madeAt d0) (md_putMany d0) k44 v53.2 (md_thinOnes d0))) v53.1 A)) (As := [.int ((md_s d0) (Int32.toNatClampNeg (v2 + 1)))]) (rest := []) ⟨hx, hb, hml, hown, hts⟩ hK hP hD (c_X9_loadsBy l D t h0 a0 ((md_thrown d0), (md_s d0), (md_aside d0), (md_base d0), (md_saved d0), (md_savedMany d0), (md_slots d0), (md_hasSlot d0), (md_text d0), (md_length d0), (md_begins d0), (md_lengths d0), (md_streams d0), (md_letters d0), (md_letterMany d0), (md_chunks d0), (md_chunkMany d0), (md_homes d0), (md_dropped d0), (md_madeIn d0), (md_madeAt d0), (md_putMany d0), k44, (md_store d0), (md_thinOnes d0)) _ ((md_s d0) (Int32.toNatClampNeg (v2 + 1))) v53 e53) (cwV 1 hts (gcX9_loadsBy w_580) rfl rfl rfl hdX9_loadsByV ⟨Nat.le_of_ble_eq_true rfl, Nat.le_of_ble_eq_true rfl⟩) (ci := 8) (q0 := 0) rfl rfl rfl hl.1 rfl (Nat.le_of_ble_eq_true rfl) (kd tdlX9_loadsOf_0 37 rfl) ⟨Nat.zero_le _, Nat.zero_le _⟩) (fun H locs hP hD hS => ?_)
    cases ko hF
    exact ke_i hx hb hr hlocks hK hP hD hS rfl (kd tdlX9_loadsOf_0 38 rfl)
  refine lp_ind (f := B_X9_loadsOf_8 v2 (md_s d0) (K_X9_loadsOf_44 v2 (md_s d0) (md_store d0))) (r := r) (P := fun s8_ => ∀ (H : Heap) (locs : List Loc) (ls : Array Slot), va_P D vwCl ((wmdF t h0 a0 (md_thrown d0) (md_s d0) (md_aside d0) (md_base d0) (md_saved d0) (md_savedMany d0) (md_slots d0) (md_hasSlot d0) (md_text d0) (md_length d0) (md_begins d0) (md_lengths d0) (md_streams d0) (md_letters d0) (md_letterMany d0) (md_chunks d0) (md_chunkMany d0) (md_homes d0) (md_dropped d0) (md_madeIn d0) (md_madeAt d0) (md_putMany d0) s8_.2 (md_store d0) (md_thinOnes d0))) H → va_D A ((wmdF t h0 a0 (md_thrown d0) (md_s d0) (md_aside d0) (md_base d0) (md_saved d0) (md_savedMany d0) (md_slots d0) (md_hasSlot d0) (md_text d0) (md_length d0) (md_begins d0) (md_lengths d0) (md_streams d0) (md_letters d0) (md_letterMany d0) (md_chunks d0) (md_chunkMany d0) (md_homes d0) (md_dropped d0) (md_madeIn d0) (md_madeAt d0) (md_putMany d0) s8_.2 (md_store d0) (md_thinOnes d0))) → va_S A s.heap H locs → lv_has ls 4 [(0, .ref h0), (2, .int v2), (3, .int s8_.1)] → W p l e ({ frames := 1, cells := 0, slots := 0, locals := 26 } : Room) s m args below meth c H locs 0 0 (MQ below (kQi D (TY t) ((wmd t h0 a0 ((md_thrown d0), (md_s d0), (md_aside d0), (md_base d0), (md_saved d0), (md_savedMany d0), (md_slots d0), (md_hasSlot d0), (md_text d0), (md_length d0), (md_begins d0), (md_lengths d0), (md_streams d0), (md_letters d0), (md_letterMany d0), (md_chunks d0), (md_chunkMany d0), (md_homes d0), (md_dropped d0), (md_madeIn d0), (md_madeAt d0), (md_putMany d0), r.2.1, r.2.2, (md_thinOnes d0)))) r.1 A) args s 0 0 A) (F0 m 8 ls [])) ?_ FU (0, (md_path d0)) hF _ _ _ hP hD hS (lv_sub hl [2, 1, 0] rfl)
  intro self8 ih8 s8_ hF H locs ls hP hD hS hl
  refine lv_iload_n hx hb (kd tdlX9_loadsOf_0 6 rfl) rfl (lv_at hl 2 rfl) ?_
  refine lv_aload_n hx hb (kd tdlX9_loadsOf_0 7 rfl) rfl (lv_at hl 0 rfl) ?_
  refine md_g_s hx hb hts inX9_ hown hK hP L7 (kd tdlX9_loadsOf_0 8 rfl) ?_
  refine lv_iload_n hx hb (kd tdlX9_loadsOf_0 9 rfl) rfl (lv_at hl 1 rfl) ?_
  refine lv_iconst (v := 1) hx hb (kd tdlX9_loadsOf_0 10 rfl) (by decide) ?_
  refine lv_iadd hx hb (kd tdlX9_loadsOf_0 11 rfl) ?_
  obtain ⟨hi16, hF⟩ := kg hF
  refine md_l_s hx hb hK hP hi16 (kd tdlX9_loadsOf_0 12 rfl) ?_
  refine lv_icmp_ge (tgt := 44) hx hb (kd tdlX9_loadsOf_0 13 rfl) (by decide) (fun hc17 => ?_) (fun hc17 => ?_)
  · have hF := kt hc17 hF
    exact hK44 (s8_.2) hF _ _ _ hP hD hS (lv_sub hl [0, 1] rfl)
  · have hF := kf hc17 hF
    refine lv_aload_n hx hb (kd tdlX9_loadsOf_0 14 rfl) rfl (lv_at hl 0 rfl) ?_
    refine md_g_path hx hb hts inX9_ hown hK hP L56 (kd tdlX9_loadsOf_0 15 rfl) ?_
    refine lv_iload_n hx hb (kd tdlX9_loadsOf_0 16 rfl) rfl (lv_at hl 2 rfl) ?_
    refine lv_aload_n hx hb (kd tdlX9_loadsOf_0 17 rfl) rfl (lv_at hl 0 rfl) ?_
    refine md_g_s hx hb hts inX9_ hown hK hP L7 (kd tdlX9_loadsOf_0 18 rfl) ?_
    refine lv_iload_n hx hb (kd tdlX9_loadsOf_0 19 rfl) rfl (lv_at hl 1 rfl) ?_
    refine lv_iconst (v := 2) hx hb (kd tdlX9_loadsOf_0 20 rfl) (by decide) ?_
    refine lv_iadd hx hb (kd tdlX9_loadsOf_0 21 rfl) ?_
    refine lv_iconst (v := 2) hx hb (kd tdlX9_loadsOf_0 22 rfl) (by decide) ?_
    refine lv_iload_n hx hb (kd tdlX9_loadsOf_0 23 rfl) rfl (lv_at hl 2 rfl) ?_
    refine lv_imul hx hb (kd tdlX9_loadsOf_0 24 rfl) ?_
    refine lv_iadd hx hb (kd tdlX9_loadsOf_0 25 rfl) ?_
    obtain ⟨hi36, hF⟩ := kg hF
    refine md_l_s hx hb hK hP hi36 (kd tdlX9_loadsOf_0 26 rfl) ?_
    obtain ⟨hi37, hF⟩ := kg hF
    refine md_s_path hx hb hK hP hD hS hi37 (kd tdlX9_loadsOf_0 27 rfl) (fun H locs hP hD hS => ?_)
    refine lv_iinc (v := (s8_.1 + 1)) (lv' := [(3, .int (s8_.1 + 1)), (0, .ref h0), (2, .int v2)]) hx hb (kd tdlX9_loadsOf_0 28 rfl) hl (k := 2) rfl rfl (by decide) rfl (fun ls hl => ?_)
    refine lv_goto (tgt := 8) hx hb (kd tdlX9_loadsOf_0 29 rfl) (by decide) ?_
    exact ih8 ((s8_.1 + 1), (upd s8_.2 (Int32.toNatClampNeg s8_.1) ((md_s d0) (Int32.toNatClampNeg ((v2 + 2) + (2 * s8_.1)))))) hF _ _ _ hP hD hS (lv_sub hl [1, 2, 0] rfl)
set_option maxHeartbeats 4000000 in
set_option maxRecDepth 100000 in
theorem c_X9_allLoads (l : Launch) (D : va_G) (t : Nat → ClassId) (h0 : Nat) (a0 : Nat → Nat) (d0 : MDT) (sz : Nat)  (r : Int32 × (Nat → Int32) × (Nat → Int32)) (hF : F_X9_allLoads (md_s d0) (md_path d0) (md_store d0) = some r) : Met l yX9_allLoads wX9_allLoads ({ frames := 2, cells := 0, slots := 0, locals := 49 } : Room) (kPc D (TY t) ((wmd t h0 a0 d0)) [.ref h0] sz) (kQi D (TY t) ((wmd t h0 a0 ((md_thrown d0), (md_s d0), (md_aside d0), (md_base d0), (md_saved d0), (md_savedMany d0), (md_slots d0), (md_hasSlot d0), (md_text d0), (md_length d0), (md_begins d0), (md_lengths d0), (md_streams d0), (md_letters d0), (md_letterMany d0), (md_chunks d0), (md_chunkMany d0), (md_homes d0), (md_dropped d0), (md_madeIn d0), (md_madeAt d0), (md_putMany d0), r.2.1, r.2.2, (md_thinOnes d0)))) r.1 (va_A ((wmd t h0 a0 d0)) sz)) 0 0 (va_A ((wmd t h0 a0 d0)) sz) := by
  refine kE (cc := cX9_allLoads) (maxL := 3) (ret := (some .int)) (Qx := fun A => kQi D (TY t) ((wmd t h0 a0 ((md_thrown d0), (md_s d0), (md_aside d0), (md_base d0), (md_saved d0), (md_savedMany d0), (md_slots d0), (md_hasSlot d0), (md_text d0), (md_length d0), (md_begins d0), (md_lengths d0), (md_streams d0), (md_letters d0), (md_letterMany d0), (md_chunks d0), (md_chunkMany d0), (md_homes d0), (md_dropped d0), (md_madeIn d0), (md_madeAt d0), (md_putMany d0), r.2.1, r.2.2, (md_thinOnes d0)))) r.1 A) (lv0 := [(0, .ref h0)]) RX9 rfl (by decide) rfl (Nat.le_of_ble_eq_true rfl) rfl ?_
  intro p e s m args below meth c A ls hx hb hml hr hlocks hown hts hA hK hP hD hS hl
  have L7 := hts (.fieldLink RX9 7 "ChunkCarriersModel" "s" "[I") (List.mem_cons_of_mem _ w_101)
  have inX9_ : ∀ w ∈ wsX90, w ∈ wX9_allLoads := fun w h => List.mem_cons_of_mem _ (inlX9 w h)
  have hP : va_P D vwCl ((wmdF t h0 a0 (md_thrown d0) (md_s d0) (md_aside d0) (md_base d0) (md_saved d0) (md_savedMany d0) (md_slots d0) (md_hasSlot d0) (md_text d0) (md_length d0) (md_begins d0) (md_lengths d0) (md_streams d0) (md_letters d0) (md_letterMany d0) (md_chunks d0) (md_chunkMany d0) (md_homes d0) (md_dropped d0) (md_madeIn d0) (md_madeAt d0) (md_putMany d0) (md_path d0) (md_store d0) (md_thinOnes d0))) s.heap := hP
  have hD : va_D A ((wmdF t h0 a0 (md_thrown d0) (md_s d0) (md_aside d0) (md_base d0) (md_saved d0) (md_savedMany d0) (md_slots d0) (md_hasSlot d0) (md_text d0) (md_length d0) (md_begins d0) (md_lengths d0) (md_streams d0) (md_letters d0) (md_letterMany d0) (md_chunks d0) (md_chunkMany d0) (md_homes d0) (md_dropped d0) (md_madeIn d0) (md_madeAt d0) (md_putMany d0) (md_path d0) (md_store d0) (md_thinOnes d0))) := hD
  refine lv_iconst (v := 0) hx hb (kd tdlX9_allLoads_0 0 rfl) (by decide) ?_
  refine lv_istore_n (lv' := [(1, .int 0), (0, .ref h0)]) hx hb (kd tdlX9_allLoads_0 1 rfl) rfl hl (by decide) rfl (fun ls hl => ?_)
  refine lv_iconst (v := 0) hx hb (kd tdlX9_allLoads_0 2 rfl) (by decide) ?_
  refine lv_istore_n (lv' := [(2, .int 0), (1, .int 0), (0, .ref h0)]) hx hb (kd tdlX9_allLoads_0 3 rfl) rfl hl (by decide) rfl (fun ls hl => ?_)
  refine lp_ind (f := B_X9_allLoads_4 (md_s d0)) (r := r) (P := fun s4_ => ∀ (H : Heap) (locs : List Loc) (ls : Array Slot), va_P D vwCl ((wmdF t h0 a0 (md_thrown d0) (md_s d0) (md_aside d0) (md_base d0) (md_saved d0) (md_savedMany d0) (md_slots d0) (md_hasSlot d0) (md_text d0) (md_length d0) (md_begins d0) (md_lengths d0) (md_streams d0) (md_letters d0) (md_letterMany d0) (md_chunks d0) (md_chunkMany d0) (md_homes d0) (md_dropped d0) (md_madeIn d0) (md_madeAt d0) (md_putMany d0) s4_.2.2.1 s4_.2.2.2 (md_thinOnes d0))) H → va_D A ((wmdF t h0 a0 (md_thrown d0) (md_s d0) (md_aside d0) (md_base d0) (md_saved d0) (md_savedMany d0) (md_slots d0) (md_hasSlot d0) (md_text d0) (md_length d0) (md_begins d0) (md_lengths d0) (md_streams d0) (md_letters d0) (md_letterMany d0) (md_chunks d0) (md_chunkMany d0) (md_homes d0) (md_dropped d0) (md_madeIn d0) (md_madeAt d0) (md_putMany d0) s4_.2.2.1 s4_.2.2.2 (md_thinOnes d0))) → va_S A s.heap H locs → lv_has ls 3 [(0, .ref h0), (1, .int s4_.1), (2, .int s4_.2.1)] → W p l e ({ frames := 2, cells := 0, slots := 0, locals := 49 } : Room) s m args below meth c H locs 0 0 (MQ below (kQi D (TY t) ((wmd t h0 a0 ((md_thrown d0), (md_s d0), (md_aside d0), (md_base d0), (md_saved d0), (md_savedMany d0), (md_slots d0), (md_hasSlot d0), (md_text d0), (md_length d0), (md_begins d0), (md_lengths d0), (md_streams d0), (md_letters d0), (md_letterMany d0), (md_chunks d0), (md_chunkMany d0), (md_homes d0), (md_dropped d0), (md_madeIn d0), (md_madeAt d0), (md_putMany d0), r.2.1, r.2.2, (md_thinOnes d0)))) r.1 A) args s 0 0 A) (F0 m 4 ls [])) ?_ FU (0, 0, (md_path d0), (md_store d0)) hF _ _ _ hP hD hS (lv_sub hl [2, 1, 0] rfl)
  intro self4 ih4 s4_ hF H locs ls hP hD hS hl
  refine lv_iload_n hx hb (kd tdlX9_allLoads_0 4 rfl) rfl (lv_at hl 2 rfl) ?_
  refine lv_bipush (v := 8) hx hb (kd tdlX9_allLoads_0 5 rfl) (by decide) ?_
  refine lv_icmp_ge (tgt := 44) hx hb (kd tdlX9_allLoads_0 6 rfl) (by decide) (fun hc7 => ?_) (fun hc7 => ?_)
  · have hF := kt hc7 hF
    refine lv_iload_n hx hb (kd tdlX9_allLoads_0 27 rfl) rfl (lv_at hl 1 rfl) ?_
    cases ko hF
    exact ke_i hx hb hr hlocks hK hP hD hS rfl (kd tdlX9_allLoads_0 28 rfl)
  · have hF := kf hc7 hF
    refine lv_iload_n hx hb (kd tdlX9_allLoads_0 7 rfl) rfl (lv_at hl 1 rfl) ?_
    refine lv_aload_n hx hb (kd tdlX9_allLoads_0 8 rfl) rfl (lv_at hl 0 rfl) ?_
    refine md_g_s hx hb hts inX9_ hown hK hP L7 (kd tdlX9_allLoads_0 9 rfl) ?_
    refine lv_aload_n hx hb (kd tdlX9_allLoads_0 10 rfl) rfl (lv_at hl 0 rfl) ?_
    refine lv_iload_n hx hb (kd tdlX9_allLoads_0 11 rfl) rfl (lv_at hl 2 rfl) ?_
    obtain ⟨v17, e17, hF⟩ := kc hF
    refine kc_i0 (w1 := ((wmdF t h0 a0 (md_thrown d0) (md_s d0) (md_aside d0) (md_base d0) (md_saved d0) (md_savedMany d0) (md_slots d0) (md_hasSlot d0) (md_text d0) (md_length d0) (md_begins d0) (md_lengths d0) (md_streams d0) (md_letters d0) (md_letterMany d0) (md_chunks d0) (md_chunkMany d0) (md_homes d0) (md_dropped d0) (md_madeIn d0) (md_madeAt d0) (md_putMany d0) s4_.2.2.1 s4_.2.2.2 (md_thinOnes d0)))) hP hD hS hA (kr_V0 (Qx := (fun A => kQi D (TY t) ((wmdF t h0 a0 (md_thrown d0) (md_s d0) (md_aside d0) (md_base d0) (md_saved d0) (md_savedMany d0) (md_slots d0) (md_hasSlot d0) (md_text d0) (md_length d0) (md_begins d0) (md_lengths d0) (md_streams d0) (md_letters d0) (md_letterMany d0) (md_chunks d0) (md_chunkMany d0) (md_homes d0) (md_dropped d0) (md_madeIn d0) (md_madeAt d0) (md_putMany d0) s4_.2.2.1 s4_.2.2.2 (md_thinOnes d0))) v17 A)) (As := [.int s4_.2.1]) (rest := [.ref (a0 0), .int s4_.1]) ⟨hx, hb, hml, hown, hts⟩ hK hP hD (c_X9_backupAt l D t h0 a0 ((md_thrown d0), (md_s d0), (md_aside d0), (md_base d0), (md_saved d0), (md_savedMany d0), (md_slots d0), (md_hasSlot d0), (md_text d0), (md_length d0), (md_begins d0), (md_lengths d0), (md_streams d0), (md_letters d0), (md_letterMany d0), (md_chunks d0), (md_chunkMany d0), (md_homes d0), (md_dropped d0), (md_madeIn d0), (md_madeAt d0), (md_putMany d0), s4_.2.2.1, s4_.2.2.2, (md_thinOnes d0)) _ s4_.2.1 v17 e17) (cwV 1 hts (gcX9_backupAt w_382) rfl rfl rfl hdX9_backupAtV ⟨Nat.le_of_ble_eq_true rfl, Nat.le_of_ble_eq_true rfl⟩) (ci := 8) (q0 := 0) rfl rfl rfl hl.1 rfl (Nat.le_of_ble_eq_true rfl) (kd tdlX9_allLoads_0 12 rfl) ⟨Nat.zero_le _, Nat.zero_le _⟩) (fun H locs hP hD hS => ?_)
    refine lv_iconst (v := 0) hx hb (kd tdlX9_allLoads_0 13 rfl) (by decide) ?_
    refine lv_iadd hx hb (kd tdlX9_allLoads_0 14 rfl) ?_
    obtain ⟨hi22, hF⟩ := kg hF
    refine md_l_s hx hb hK hP hi22 (kd tdlX9_allLoads_0 15 rfl) ?_
    refine lv_iconst (v := 1) hx hb (kd tdlX9_allLoads_0 16 rfl) (by decide) ?_
    refine lv_icmp_ne (tgt := 35) hx hb (kd tdlX9_allLoads_0 17 rfl) (by decide) (fun hc24 => ?_) (fun hc24 => ?_)
    · have hF := kf hc24 hF
      refine lv_iconst (v := 0) hx hb (kd tdlX9_allLoads_0 22 rfl) (by decide) ?_
      refine lv_iadd hx hb (kd tdlX9_allLoads_0 23 rfl) ?_
      refine lv_istore_n (lv' := [(1, .int (s4_.1 + 0)), (0, .ref h0), (2, .int s4_.2.1)]) hx hb (kd tdlX9_allLoads_0 24 rfl) rfl hl (by decide) rfl (fun ls hl => ?_)
      refine lv_iinc (v := (s4_.2.1 + 1)) (lv' := [(2, .int (s4_.2.1 + 1)), (1, .int (s4_.1 + 0)), (0, .ref h0)]) hx hb (kd tdlX9_allLoads_0 25 rfl) hl (k := 2) rfl rfl (by decide) rfl (fun ls hl => ?_)
      refine lv_goto (tgt := 4) hx hb (kd tdlX9_allLoads_0 26 rfl) (by decide) ?_
      exact ih4 ((s4_.1 + 0), (s4_.2.1 + 1), s4_.2.2.1, s4_.2.2.2) hF _ _ _ hP hD hS (lv_sub hl [2, 1, 0] rfl)
    · have hF := kt hc24 hF
      refine lv_aload_n hx hb (kd tdlX9_allLoads_0 18 rfl) rfl (lv_at hl 0 rfl) ?_
      refine lv_iload_n hx hb (kd tdlX9_allLoads_0 19 rfl) rfl (lv_at hl 2 rfl) ?_
      obtain ⟨v29, e29, hF⟩ := kc hF
      refine kc_i0 (w1 := ((wmdF t h0 a0 (md_thrown d0) (md_s d0) (md_aside d0) (md_base d0) (md_saved d0) (md_savedMany d0) (md_slots d0) (md_hasSlot d0) (md_text d0) (md_length d0) (md_begins d0) (md_lengths d0) (md_streams d0) (md_letters d0) (md_letterMany d0) (md_chunks d0) (md_chunkMany d0) (md_homes d0) (md_dropped d0) (md_madeIn d0) (md_madeAt d0) (md_putMany d0) v29.2.1 v29.2.2 (md_thinOnes d0)))) hP hD hS hA (kr_V0 (Qx := (fun A => kQi D (TY t) ((wmdF t h0 a0 (md_thrown d0) (md_s d0) (md_aside d0) (md_base d0) (md_saved d0) (md_savedMany d0) (md_slots d0) (md_hasSlot d0) (md_text d0) (md_length d0) (md_begins d0) (md_lengths d0) (md_streams d0) (md_letters d0) (md_letterMany d0) (md_chunks d0) (md_chunkMany d0) (md_homes d0) (md_dropped d0) (md_madeIn d0) (md_madeAt d0) (md_putMany d0) v29.2.1 v29.2.2 (md_thinOnes d0))) v29.1 A)) (As := [.int s4_.2.1]) (rest := [.int s4_.1]) ⟨hx, hb, hml, hown, hts⟩ hK hP hD (c_X9_loadsOf l D t h0 a0 ((md_thrown d0), (md_s d0), (md_aside d0), (md_base d0), (md_saved d0), (md_savedMany d0), (md_slots d0), (md_hasSlot d0), (md_text d0), (md_length d0), (md_begins d0), (md_lengths d0), (md_streams d0), (md_letters d0), (md_letterMany d0), (md_chunks d0), (md_chunkMany d0), (md_homes d0), (md_dropped d0), (md_madeIn d0), (md_madeAt d0), (md_putMany d0), s4_.2.2.1, s4_.2.2.2, (md_thinOnes d0)) _ s4_.2.1 v29 e29) (cwV 1 hts (gcX9_loadsOf w_576) rfl rfl rfl hdX9_loadsOfV ⟨Nat.le_of_ble_eq_true rfl, Nat.le_of_ble_eq_true rfl⟩) (ci := 8) (q0 := 0) rfl rfl rfl hl.1 rfl (Nat.le_of_ble_eq_true rfl) (kd tdlX9_allLoads_0 20 rfl) ⟨Nat.zero_le _, Nat.zero_le _⟩) (fun H locs hP hD hS => ?_)
      refine lv_goto (tgt := 36) hx hb (kd tdlX9_allLoads_0 21 rfl) (by decide) ?_
      refine lv_iadd hx hb (kd tdlX9_allLoads_0 23 rfl) ?_
      refine lv_istore_n (lv' := [(1, .int (s4_.1 + v29.1)), (0, .ref h0), (2, .int s4_.2.1)]) hx hb (kd tdlX9_allLoads_0 24 rfl) rfl hl (by decide) rfl (fun ls hl => ?_)
      refine lv_iinc (v := (s4_.2.1 + 1)) (lv' := [(2, .int (s4_.2.1 + 1)), (1, .int (s4_.1 + v29.1)), (0, .ref h0)]) hx hb (kd tdlX9_allLoads_0 25 rfl) hl (k := 2) rfl rfl (by decide) rfl (fun ls hl => ?_)
      refine lv_goto (tgt := 4) hx hb (kd tdlX9_allLoads_0 26 rfl) (by decide) ?_
      exact ih4 ((s4_.1 + v29.1), (s4_.2.1 + 1), v29.2.1, v29.2.2) hF _ _ _ hP hD hS (lv_sub hl [2, 1, 0] rfl)
