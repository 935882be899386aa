set_option maxHeartbeats 4000000 in
set_option maxRecDepth 100000 in
theorem c_X9_aheadOf (l : Launch) (D : va_G) (t : Nat → ClassId) (h0 : Nat) (a0 : Nat → Nat) (d0 : MDT) (sz : Nat) (p1 : Int32) (r : Int32) (hF : F_X9_aheadOf (md_chunkMany d0) (md_homes d0) p1 = some r) : Met l yX9_aheadOf wX9_aheadOf ({ frames := 1, cells := 0, slots := 0, locals := 23 } : Room) (kPc D (TY t) ((wmd t h0 a0 d0)) [.ref h0, .int p1] sz) (kQi D (TY t) ((wmd t h0 a0 d0)) r (va_A ((wmd t h0 a0 d0)) sz)) 0 0 (va_A ((wmd t h0 a0 d0)) sz) := by
  refine kE (cc := cX9_aheadOf) (maxL := 6) (ret := (some .int)) (Qx := fun A => kQi D (TY t) ((wmd t h0 a0 d0)) r A) (lv0 := [(0, .ref h0), (1, .int p1)]) RX9 rfl (by decide) rfl (Nat.le_of_ble_eq_true rfl) rfl ?_
  intro p e s m args below meth c A ls hx hb hml hr hlocks hown hts hA hK hP hD hS hl
  have L44 := hts (.fieldLink RX9 44 "ChunkCarriersModel" "homes" "[I") (List.mem_cons_of_mem _ w_112)
  have L96 := hts (.fieldLink RX9 96 "ChunkCarriersModel" "chunkMany" "I") (List.mem_cons_of_mem _ w_275)
  have inX9_ : ∀ w ∈ wsX90, w ∈ wX9_aheadOf := fun w h => List.mem_cons_of_mem _ (inlX9 w h)
  have hP : va_P D vwCl ((wmdF t h0 a0 (md_thrown d0) (md_s d0) (md_aside d0) (md_base d0) (md_saved d0) (md_savedMany d0) (md_slots d0) (md_hasSlot d0) (md_text d0) (md_length d0) (md_begins d0) (md_lengths d0) (md_streams d0) (md_letters d0) (md_letterMany d0) (md_chunks d0) (md_chunkMany d0) (md_homes d0) (md_dropped d0) (md_madeIn d0) (md_madeAt d0) (md_putMany d0) (md_path d0) (md_store d0) (md_thinOnes d0))) s.heap := hP
  have hD : va_D A ((wmdF t h0 a0 (md_thrown d0) (md_s d0) (md_aside d0) (md_base d0) (md_saved d0) (md_savedMany d0) (md_slots d0) (md_hasSlot d0) (md_text d0) (md_length d0) (md_begins d0) (md_lengths d0) (md_streams d0) (md_letters d0) (md_letterMany d0) (md_chunks d0) (md_chunkMany d0) (md_homes d0) (md_dropped d0) (md_madeIn d0) (md_madeAt d0) (md_putMany d0) (md_path d0) (md_store d0) (md_thinOnes d0))) := hD
  refine lv_iconst (v := 0) hx hb (kd tdlX9_aheadOf_0 0 rfl) (by decide) ?_
  refine lv_istore_n (lv' := [(2, .int 0), (0, .ref h0), (1, .int p1)]) hx hb (kd tdlX9_aheadOf_0 1 rfl) rfl hl (by decide) rfl (fun ls hl => ?_)
  refine lv_iconst (v := 0) hx hb (kd tdlX9_aheadOf_0 2 rfl) (by decide) ?_
  refine lv_istore_n (lv' := [(3, .int 0), (2, .int 0), (0, .ref h0), (1, .int p1)]) hx hb (kd tdlX9_aheadOf_0 3 rfl) rfl hl (by decide) rfl (fun ls hl => ?_)
  refine lp_ind (f := B_X9_aheadOf_4 (md_chunkMany d0) (md_homes d0) p1) (r := r) (P := fun s4_ => ∀ (H : Heap) (locs : List Loc) (ls : Array Slot), va_P D vwCl ((wmdF t h0 a0 (md_thrown d0) (md_s d0) (md_aside d0) (md_base d0) (md_saved d0) (md_savedMany d0) (md_slots d0) (md_hasSlot d0) (md_text d0) (md_length d0) (md_begins d0) (md_lengths d0) (md_streams d0) (md_letters d0) (md_letterMany d0) (md_chunks d0) (md_chunkMany d0) (md_homes d0) (md_dropped d0) (md_madeIn d0) (md_madeAt d0) (md_putMany d0) (md_path d0) (md_store d0) (md_thinOnes d0))) H → va_D A ((wmdF t h0 a0 (md_thrown d0) (md_s d0) (md_aside d0) (md_base d0) (md_saved d0) (md_savedMany d0) (md_slots d0) (md_hasSlot d0) (md_text d0) (md_length d0) (md_begins d0) (md_lengths d0) (md_streams d0) (md_letters d0) (md_letterMany d0) (md_chunks d0) (md_chunkMany d0) (md_homes d0) (md_dropped d0) (md_madeIn d0) (md_madeAt d0) (md_putMany d0) (md_path d0) (md_store d0) (md_thinOnes d0))) → va_S A s.heap H locs → lv_has ls 6 [(0, .ref h0), (1, .int p1), (2, .int s4_.1), (3, .int s4_.2)] → W p l e ({ frames := 1, cells := 0, slots := 0, locals := 23 } : Room) s m args below meth c H locs 0 0 (MQ below (kQi D (TY t) ((wmd t h0 a0 d0)) r A) args s 0 0 A) (F0 m 4 ls [])) ?_ FU (0, 0) hF _ _ _ hP hD hS (lv_sub hl [2, 3, 1, 0] rfl)
  intro self4 ih4 s4_ hF H locs ls hP hD hS hl
  refine lv_iload_n hx hb (kd tdlX9_aheadOf_0 4 rfl) rfl (lv_at hl 3 rfl) ?_
  refine lv_aload_n hx hb (kd tdlX9_aheadOf_0 5 rfl) rfl (lv_at hl 0 rfl) ?_
  refine md_g_chunkMany hx hb hts inX9_ hown hK hP L96 (kd tdlX9_aheadOf_0 6 rfl) ?_
  refine lv_icmp_ge (tgt := 138) hx hb (kd tdlX9_aheadOf_0 7 rfl) (by decide) (fun hc9 => ?_) (fun hc9 => ?_)
  · have hF := kt hc9 hF
    refine lv_iload_n hx hb (kd tdlX9_aheadOf_1 30 rfl) rfl (lv_at hl 2 rfl) ?_
    cases ko hF
    exact ke_i hx hb hr hlocks hK hP hD hS rfl (kd tdlX9_aheadOf_1 31 rfl)
  · have hF := kf hc9 hF
    refine lv_aload_n hx hb (kd tdlX9_aheadOf_0 8 rfl) rfl (lv_at hl 0 rfl) ?_
    refine md_g_homes hx hb hts inX9_ hown hK hP L44 (kd tdlX9_aheadOf_0 9 rfl) ?_
    refine lv_iload_n hx hb (kd tdlX9_aheadOf_0 10 rfl) rfl (lv_at hl 3 rfl) ?_
    obtain ⟨hi17, hF⟩ := kg hF
    refine md_l_homes hx hb hK hP hi17 (kd tdlX9_aheadOf_0 11 rfl) ?_
    refine lv_iconst (v := (-1)) hx hb (kd tdlX9_aheadOf_0 12 rfl) (by decide) ?_
    have hJ27 : ∀ j27 : Int32, J_X9_aheadOf_27 s4_ (md_homes d0) self4 p1 (md_chunkMany d0) j27 = some r → ∀ (H : Heap) (locs : List Loc) (ls : Array Slot), va_P D vwCl ((wmdF t h0 a0 (md_thrown d0) (md_s d0) (md_aside d0) (md_base d0) (md_saved d0) (md_savedMany d0) (md_slots d0) (md_hasSlot d0) (md_text d0) (md_length d0) (md_begins d0) (md_lengths d0) (md_streams d0) (md_letters d0) (md_letterMany d0) (md_chunks d0) (md_chunkMany d0) (md_homes d0) (md_dropped d0) (md_madeIn d0) (md_madeAt d0) (md_putMany d0) (md_path d0) (md_store d0) (md_thinOnes d0))) H → va_D A ((wmdF t h0 a0 (md_thrown d0) (md_s d0) (md_aside d0) (md_base d0) (md_saved d0) (md_savedMany d0) (md_slots d0) (md_hasSlot d0) (md_text d0) (md_length d0) (md_begins d0) (md_lengths d0) (md_streams d0) (md_letters d0) (md_letterMany d0) (md_chunks d0) (md_chunkMany d0) (md_homes d0) (md_dropped d0) (md_madeIn d0) (md_madeAt d0) (md_putMany d0) (md_path d0) (md_store d0) (md_thinOnes d0))) → va_S A s.heap H locs → lv_has ls 6 [(0, .ref h0), (1, .int p1), (2, .int s4_.1), (3, .int s4_.2)] → W p l e ({ frames := 1, cells := 0, slots := 0, locals := 23 } : Room) s m args below meth c H locs 0 0 (MQ below (kQi D (TY t) ((wmd t h0 a0 d0)) r A) args s 0 0 A) (F0 m 27 ls [.int j27]) := by
      intro j27 hF H locs ls hP hD hS hl
      refine lv_istore (lv' := [(4, .int j27), (0, .ref h0), (1, .int p1), (2, .int s4_.1), (3, .int s4_.2)]) hx hb (kd tdlX9_aheadOf_0 17 rfl) hl (by decide) rfl (fun ls hl => ?_)
      refine lv_iconst (v := 0) hx hb (kd tdlX9_aheadOf_0 18 rfl) (by decide) ?_
      refine lv_istore (lv' := [(5, .int 0), (4, .int j27), (0, .ref h0), (1, .int p1), (2, .int s4_.1), (3, .int s4_.2)]) hx hb (kd tdlX9_aheadOf_0 19 rfl) hl (by decide) rfl (fun ls hl => ?_)
      have hK72 : ∀ k72 : Int32, K_X9_aheadOf_72 self4 s4_ (md_homes d0) p1 (md_chunkMany d0) k72 = some r → ∀ (H : Heap) (locs : List Loc) (ls : Array Slot), va_P D vwCl ((wmdF t h0 a0 (md_thrown d0) (md_s d0) (md_aside d0) (md_base d0) (md_saved d0) (md_savedMany d0) (md_slots d0) (md_hasSlot d0) (md_text d0) (md_length d0) (md_begins d0) (md_lengths d0) (md_streams d0) (md_letters d0) (md_letterMany d0) (md_chunks d0) (md_chunkMany d0) (md_homes d0) (md_dropped d0) (md_madeIn d0) (md_madeAt d0) (md_putMany d0) (md_path d0) (md_store d0) (md_thinOnes d0))) H → va_D A ((wmdF t h0 a0 (md_thrown d0) (md_s d0) (md_aside d0) (md_base d0) (md_saved d0) (md_savedMany d0) (md_slots d0) (md_hasSlot d0) (md_text d0) (md_length d0) (md_begins d0) (md_lengths d0) (md_streams d0) (md_letters d0) (md_letterMany d0) (md_chunks d0) (md_chunkMany d0) (md_homes d0) (md_dropped d0) (md_madeIn d0) (md_madeAt d0) (md_putMany d0) (md_path d0) (md_store d0) (md_thinOnes d0))) → va_S A s.heap H locs → lv_has ls 6 [(0, .ref h0), (1, .int p1), (2, .int s4_.1), (3, .int s4_.2), (4, .int k72)] → W p l e ({ frames := 1, cells := 0, slots := 0, locals := 23 } : Room) s m args below meth c H locs 0 0 (MQ below (kQi D (TY t) ((wmd t h0 a0 d0)) r A) args s 0 0 A) (F0 m 72 ls []) := by
        intro k72 hF H locs ls hP hD hS hl
        refine lv_iload hx hb (kd tdlX9_aheadOf_0 40 rfl) (lv_at hl 4 rfl) ?_
        have hJ97 : ∀ j97 : Int32, J_X9_aheadOf_97 k72 self4 s4_ (md_homes d0) p1 j97 = some r → ∀ (H : Heap) (locs : List Loc) (ls : Array Slot), va_P D vwCl ((wmdF t h0 a0 (md_thrown d0) (md_s d0) (md_aside d0) (md_base d0) (md_saved d0) (md_savedMany d0) (md_slots d0) (md_hasSlot d0) (md_text d0) (md_length d0) (md_begins d0) (md_lengths d0) (md_streams d0) (md_letters d0) (md_letterMany d0) (md_chunks d0) (md_chunkMany d0) (md_homes d0) (md_dropped d0) (md_madeIn d0) (md_madeAt d0) (md_putMany d0) (md_path d0) (md_store d0) (md_thinOnes d0))) H → va_D A ((wmdF t h0 a0 (md_thrown d0) (md_s d0) (md_aside d0) (md_base d0) (md_saved d0) (md_savedMany d0) (md_slots d0) (md_hasSlot d0) (md_text d0) (md_length d0) (md_begins d0) (md_lengths d0) (md_streams d0) (md_letters d0) (md_letterMany d0) (md_chunks d0) (md_chunkMany d0) (md_homes d0) (md_dropped d0) (md_madeIn d0) (md_madeAt d0) (md_putMany d0) (md_path d0) (md_store d0) (md_thinOnes d0))) → va_S A s.heap H locs → lv_has ls 6 [(0, .ref h0), (1, .int p1), (2, .int s4_.1), (3, .int s4_.2), (4, .int k72)] → W p l e ({ frames := 1, cells := 0, slots := 0, locals := 23 } : Room) s m args below meth c H locs 0 0 (MQ below (kQi D (TY t) ((wmd t h0 a0 d0)) r A) args s 0 0 A) (F0 m 97 ls [.int j97]) := by
          intro j97 hF H locs ls hP hD hS hl
          refine lv_istore (lv' := [(5, .int j97), (0, .ref h0), (1, .int p1), (2, .int s4_.1), (3, .int s4_.2), (4, .int k72)]) hx hb (kd tdlX9_aheadOf_1 9 rfl) hl (by decide) rfl (fun ls hl => ?_)
          refine lv_iload_n hx hb (kd tdlX9_aheadOf_1 10 rfl) rfl (lv_at hl 3 rfl) ?_
          refine lv_iload hx hb (kd tdlX9_aheadOf_1 11 rfl) (lv_at hl 5 rfl) ?_
          refine lv_if_eq (tgt := 129) hx hb (kd tdlX9_aheadOf_1 12 rfl) (by decide) (fun hc102 => ?_) (fun hc102 => ?_)
          · have hF := kt hc102 hF
            refine lv_iconst (v := 0) hx hb (kd tdlX9_aheadOf_1 25 rfl) (by decide) ?_
            refine lv_iadd hx hb (kd tdlX9_aheadOf_1 26 rfl) ?_
            refine lv_istore_n (lv' := [(2, .int (s4_.1 + 0)), (5, .int j97), (0, .ref h0), (1, .int p1), (3, .int s4_.2), (4, .int k72)]) hx hb (kd tdlX9_aheadOf_1 27 rfl) rfl hl (by decide) rfl (fun ls hl => ?_)
            refine lv_iinc (v := (s4_.2 + 1)) (lv' := [(3, .int (s4_.2 + 1)), (2, .int (s4_.1 + 0)), (5, .int j97), (0, .ref h0), (1, .int p1), (4, .int k72)]) hx hb (kd tdlX9_aheadOf_1 28 rfl) hl (k := 4) rfl rfl (by decide) rfl (fun ls hl => ?_)
            refine lv_goto (tgt := 4) hx hb (kd tdlX9_aheadOf_1 29 rfl) (by decide) ?_
            exact ih4 ((s4_.1 + 0), (s4_.2 + 1)) hF _ _ _ hP hD hS (lv_sub hl [3, 4, 1, 0] rfl)
          · have hF := kf hc102 hF
            refine lv_iload hx hb (kd tdlX9_aheadOf_1 13 rfl) (lv_at hl 0 rfl) ?_
            refine lv_if_gt (tgt := 125) hx hb (kd tdlX9_aheadOf_1 14 rfl) (by decide) (fun hc107 => ?_) (fun hc107 => ?_)
            · have hF := kt hc107 hF
              refine lv_iconst (v := 1) hx hb (kd tdlX9_aheadOf_1 23 rfl) (by decide) ?_
              refine lv_goto (tgt := 130) hx hb (kd tdlX9_aheadOf_1 24 rfl) (by decide) ?_
              refine lv_iadd hx hb (kd tdlX9_aheadOf_1 26 rfl) ?_
              refine lv_istore_n (lv' := [(2, .int (s4_.1 + 1)), (5, .int j97), (0, .ref h0), (1, .int p1), (3, .int s4_.2), (4, .int k72)]) hx hb (kd tdlX9_aheadOf_1 27 rfl) rfl hl (by decide) rfl (fun ls hl => ?_)
              refine lv_iinc (v := (s4_.2 + 1)) (lv' := [(3, .int (s4_.2 + 1)), (2, .int (s4_.1 + 1)), (5, .int j97), (0, .ref h0), (1, .int p1), (4, .int k72)]) hx hb (kd tdlX9_aheadOf_1 28 rfl) hl (k := 4) rfl rfl (by decide) rfl (fun ls hl => ?_)
              refine lv_goto (tgt := 4) hx hb (kd tdlX9_aheadOf_1 29 rfl) (by decide) ?_
              exact ih4 ((s4_.1 + 1), (s4_.2 + 1)) hF _ _ _ hP hD hS (lv_sub hl [3, 4, 1, 0] rfl)
            · have hF := kf hc107 hF
              refine lv_iload hx hb (kd tdlX9_aheadOf_1 15 rfl) (lv_at hl 0 rfl) ?_
              refine lv_if_ne (tgt := 129) hx hb (kd tdlX9_aheadOf_1 16 rfl) (by decide) (fun hc112 => ?_) (fun hc112 => ?_)
              · have hF := kf hc112 hF
                refine lv_iconst (v := 0) hx hb (kd tdlX9_aheadOf_1 25 rfl) (by decide) ?_
                refine lv_iadd hx hb (kd tdlX9_aheadOf_1 26 rfl) ?_
                refine lv_istore_n (lv' := [(2, .int (s4_.1 + 0)), (5, .int j97), (0, .ref h0), (1, .int p1), (3, .int s4_.2), (4, .int k72)]) hx hb (kd tdlX9_aheadOf_1 27 rfl) rfl hl (by decide) rfl (fun ls hl => ?_)
                refine lv_iinc (v := (s4_.2 + 1)) (lv' := [(3, .int (s4_.2 + 1)), (2, .int (s4_.1 + 0)), (5, .int j97), (0, .ref h0), (1, .int p1), (4, .int k72)]) hx hb (kd tdlX9_aheadOf_1 28 rfl) hl (k := 4) rfl rfl (by decide) rfl (fun ls hl => ?_)
                refine lv_goto (tgt := 4) hx hb (kd tdlX9_aheadOf_1 29 rfl) (by decide) ?_
                exact ih4 ((s4_.1 + 0), (s4_.2 + 1)) hF _ _ _ hP hD hS (lv_sub hl [3, 4, 1, 0] rfl)
              · have hF := kt hc112 hF
                refine lv_aload_n hx hb (kd tdlX9_aheadOf_1 17 rfl) rfl (lv_at hl 1 rfl) ?_
                refine md_g_homes hx hb hts inX9_ hown hK hP L44 (kd tdlX9_aheadOf_1 18 rfl) ?_
                refine lv_iload_n hx hb (kd tdlX9_aheadOf_1 19 rfl) rfl (lv_at hl 4 rfl) ?_
                obtain ⟨hi120, hF⟩ := kg hF
                refine md_l_homes hx hb hK hP hi120 (kd tdlX9_aheadOf_1 20 rfl) ?_
                refine lv_iload_n hx hb (kd tdlX9_aheadOf_1 21 rfl) rfl (lv_at hl 2 rfl) ?_
                refine lv_icmp_le (tgt := 129) hx hb (kd tdlX9_aheadOf_1 22 rfl) (by decide) (fun hc122 => ?_) (fun hc122 => ?_)
                · have hF := kt hc122 hF
                  refine lv_iconst (v := 0) hx hb (kd tdlX9_aheadOf_1 25 rfl) (by decide) ?_
                  refine lv_iadd hx hb (kd tdlX9_aheadOf_1 26 rfl) ?_
                  refine lv_istore_n (lv' := [(2, .int (s4_.1 + 0)), (5, .int j97), (0, .ref h0), (1, .int p1), (3, .int s4_.2), (4, .int k72)]) hx hb (kd tdlX9_aheadOf_1 27 rfl) rfl hl (by decide) rfl (fun ls hl => ?_)
                  refine lv_iinc (v := (s4_.2 + 1)) (lv' := [(3, .int (s4_.2 + 1)), (2, .int (s4_.1 + 0)), (5, .int j97), (0, .ref h0), (1, .int p1), (4, .int k72)]) hx hb (kd tdlX9_aheadOf_1 28 rfl) hl (k := 4) rfl rfl (by decide) rfl (fun ls hl => ?_)
                  refine lv_goto (tgt := 4) hx hb (kd tdlX9_aheadOf_1 29 rfl) (by decide) ?_
                  exact ih4 ((s4_.1 + 0), (s4_.2 + 1)) hF _ _ _ hP hD hS (lv_sub hl [3, 4, 1, 0] rfl)
                · have hF := kf hc122 hF
                  refine lv_iconst (v := 1) hx hb (kd tdlX9_aheadOf_1 23 rfl) (by decide) ?_
                  refine lv_goto (tgt := 130) hx hb (kd tdlX9_aheadOf_1 24 rfl) (by decide) ?_
                  refine lv_iadd hx hb (kd tdlX9_aheadOf_1 26 rfl) ?_
                  refine lv_istore_n (lv' := [(2, .int (s4_.1 + 1)), (5, .int j97), (0, .ref h0), (1, .int p1), (3, .int s4_.2), (4, .int k72)]) hx hb (kd tdlX9_aheadOf_1 27 rfl) rfl hl (by decide) rfl (fun ls hl => ?_)
                  refine lv_iinc (v := (s4_.2 + 1)) (lv' := [(3, .int (s4_.2 + 1)), (2, .int (s4_.1 + 1)), (5, .int j97), (0, .ref h0), (1, .int p1), (4, .int k72)]) hx hb (kd tdlX9_aheadOf_1 28 rfl) hl (k := 4) rfl rfl (by decide) rfl (fun ls hl => ?_)
                  refine lv_goto (tgt := 4) hx hb (kd tdlX9_aheadOf_1 29 rfl) (by decide) ?_
                  exact ih4 ((s4_.1 + 1), (s4_.2 + 1)) hF _ _ _ hP hD hS (lv_sub hl [3, 4, 1, 0] rfl)
        refine lv_if_eq (tgt := 96) hx hb (kd tdlX9_aheadOf_0 41 rfl) (by decide) (fun hc74 => ?_) (fun hc74 => ?_)
        · have hF := kt hc74 hF
          refine lv_iconst (v := (-1)) hx hb (kd tdlX9_aheadOf_1 8 rfl) (by decide) ?_
          exact hJ97 ((-1)) hF _ _ _ hP hD hS (lv_sub hl [0, 1, 2, 3, 4] rfl)
        · have hF := kf hc74 hF
          refine lv_aload_n hx hb (kd tdlX9_aheadOf_0 42 rfl) rfl (lv_at hl 0 rfl) ?_
          refine lv_aload_n hx hb (kd tdlX9_aheadOf_0 43 rfl) rfl (lv_at hl 0 rfl) ?_
          refine md_g_homes hx hb hts inX9_ hown hK hP L44 (kd tdlX9_aheadOf_0 44 rfl) ?_
          refine lv_iload_n hx hb (kd tdlX9_aheadOf_1 0 rfl) rfl (lv_at hl 3 rfl) ?_
          obtain ⟨hi83, hF⟩ := kg hF
          refine md_l_homes hx hb hK hP hi83 (kd tdlX9_aheadOf_1 1 rfl) ?_
          obtain ⟨v84, e84, hF⟩ := kc hF
          refine kc_i0 (w1 := ((wmdF t h0 a0 (md_thrown d0) (md_s d0) (md_aside d0) (md_base d0) (md_saved d0) (md_savedMany d0) (md_slots d0) (md_hasSlot d0) (md_text d0) (md_length d0) (md_begins d0) (md_lengths d0) (md_streams d0) (md_letters d0) (md_letterMany d0) (md_chunks d0) (md_chunkMany d0) (md_homes d0) (md_dropped d0) (md_madeIn d0) (md_madeAt d0) (md_putMany d0) (md_path d0) (md_store d0) (md_thinOnes d0)))) hP hD hS hA (kr_V0 (Qx := (fun A => kQi D (TY t) ((wmdF t h0 a0 (md_thrown d0) (md_s d0) (md_aside d0) (md_base d0) (md_saved d0) (md_savedMany d0) (md_slots d0) (md_hasSlot d0) (md_text d0) (md_length d0) (md_begins d0) (md_lengths d0) (md_streams d0) (md_letters d0) (md_letterMany d0) (md_chunks d0) (md_chunkMany d0) (md_homes d0) (md_dropped d0) (md_madeIn d0) (md_madeAt d0) (md_putMany d0) (md_path d0) (md_store d0) (md_thinOnes d0))) v84 A)) (As := [.int ((md_homes d0) (Int32.toNatClampNeg s4_.2))]) (rest := []) ⟨hx, hb, hml, hown, hts⟩ hK hP hD (c_X9_livesAt l D t h0 a0 d0 _ ((md_homes d0) (Int32.toNatClampNeg s4_.2)) v84 e84) (cwV 1 hts (gcX9_livesAt w_751) rfl rfl rfl hdX9_livesAtV ⟨Nat.le_of_ble_eq_true rfl, Nat.le_of_ble_eq_true rfl⟩) (ci := 8) (q0 := 0) rfl rfl rfl hl.1 rfl (Nat.le_of_ble_eq_true rfl) (kd tdlX9_aheadOf_1 2 rfl) ⟨Nat.zero_le _, Nat.zero_le _⟩) (fun H locs hP hD hS => ?_)
          refine lv_aload_n hx hb (kd tdlX9_aheadOf_1 3 rfl) rfl (lv_at hl 0 rfl) ?_
          refine lv_iload_n hx hb (kd tdlX9_aheadOf_1 4 rfl) rfl (lv_at hl 1 rfl) ?_
          obtain ⟨v89, e89, hF⟩ := kc hF
          refine kc_i0 (w1 := ((wmdF t h0 a0 (md_thrown d0) (md_s d0) (md_aside d0) (md_base d0) (md_saved d0) (md_savedMany d0) (md_slots d0) (md_hasSlot d0) (md_text d0) (md_length d0) (md_begins d0) (md_lengths d0) (md_streams d0) (md_letters d0) (md_letterMany d0) (md_chunks d0) (md_chunkMany d0) (md_homes d0) (md_dropped d0) (md_madeIn d0) (md_madeAt d0) (md_putMany d0) (md_path d0) (md_store d0) (md_thinOnes d0)))) hP hD hS hA (kr_V0 (Qx := (fun A => kQi D (TY t) ((wmdF t h0 a0 (md_thrown d0) (md_s d0) (md_aside d0) (md_base d0) (md_saved d0) (md_savedMany d0) (md_slots d0) (md_hasSlot d0) (md_text d0) (md_length d0) (md_begins d0) (md_lengths d0) (md_streams d0) (md_letters d0) (md_letterMany d0) (md_chunks d0) (md_chunkMany d0) (md_homes d0) (md_dropped d0) (md_madeIn d0) (md_madeAt d0) (md_putMany d0) (md_path d0) (md_store d0) (md_thinOnes d0))) v89 A)) (As := [.int p1]) (rest := [.int v84]) ⟨hx, hb, hml, hown, hts⟩ hK hP hD (c_X9_livesAt l D t h0 a0 d0 _ p1 v89 e89) (cwV 1 hts (gcX9_livesAt w_751) rfl rfl rfl hdX9_livesAtV ⟨Nat.le_of_ble_eq_true rfl, Nat.le_of_ble_eq_true rfl⟩) (ci := 8) (q0 := 0) rfl rfl rfl hl.1 rfl (Nat.le_of_ble_eq_true rfl) (kd tdlX9_aheadOf_1 5 rfl) ⟨Nat.zero_le _, Nat.zero_le _⟩) (fun H locs hP hD hS => ?_)
          refine lv_isub hx hb (kd tdlX9_aheadOf_1 6 rfl) ?_
          refine lv_goto (tgt := 97) hx hb (kd tdlX9_aheadOf_1 7 rfl) (by decide) ?_
          exact hJ97 ((v84 - v89)) hF _ _ _ hP hD hS (lv_sub hl [0, 1, 2, 3, 4] rfl)
      refine lp_ind (f := B_X9_aheadOf_32 s4_ (md_homes d0) (K_X9_aheadOf_72 self4 s4_ (md_homes d0) p1 (md_chunkMany d0))) (r := r) (P := fun s32_ => ∀ (H : Heap) (locs : List Loc) (ls : Array Slot), va_P D vwCl ((wmdF t h0 a0 (md_thrown d0) (md_s d0) (md_aside d0) (md_base d0) (md_saved d0) (md_savedMany d0) (md_slots d0) (md_hasSlot d0) (md_text d0) (md_length d0) (md_begins d0) (md_lengths d0) (md_streams d0) (md_letters d0) (md_letterMany d0) (md_chunks d0) (md_chunkMany d0) (md_homes d0) (md_dropped d0) (md_madeIn d0) (md_madeAt d0) (md_putMany d0) (md_path d0) (md_store d0) (md_thinOnes d0))) H → va_D A ((wmdF t h0 a0 (md_thrown d0) (md_s d0) (md_aside d0) (md_base d0) (md_saved d0) (md_savedMany d0) (md_slots d0) (md_hasSlot d0) (md_text d0) (md_length d0) (md_begins d0) (md_lengths d0) (md_streams d0) (md_letters d0) (md_letterMany d0) (md_chunks d0) (md_chunkMany d0) (md_homes d0) (md_dropped d0) (md_madeIn d0) (md_madeAt d0) (md_putMany d0) (md_path d0) (md_store d0) (md_thinOnes d0))) → va_S A s.heap H locs → lv_has ls 6 [(0, .ref h0), (1, .int p1), (2, .int s4_.1), (3, .int s4_.2), (4, .int s32_.1), (5, .int s32_.2)] → W p l e ({ frames := 1, cells := 0, slots := 0, locals := 23 } : Room) s m args below meth c H locs 0 0 (MQ below (kQi D (TY t) ((wmd t h0 a0 d0)) r A) args s 0 0 A) (F0 m 32 ls [])) ?_ FU (j27, 0) hF _ _ _ hP hD hS (lv_sub hl [2, 3, 4, 5, 1, 0] rfl)
      intro self32 ih32 s32_ hF H locs ls hP hD hS hl
      refine lv_iload hx hb (kd tdlX9_aheadOf_0 20 rfl) (lv_at hl 5 rfl) ?_
      refine lv_iload_n hx hb (kd tdlX9_aheadOf_0 21 rfl) rfl (lv_at hl 3 rfl) ?_
      refine lv_icmp_ge (tgt := 72) hx hb (kd tdlX9_aheadOf_0 22 rfl) (by decide) (fun hc35 => ?_) (fun hc35 => ?_)
      · have hF := kt hc35 hF
        exact hK72 (s32_.1) hF _ _ _ hP hD hS (lv_sub hl [0, 1, 2, 3, 4] rfl)
      · have hF := kf hc35 hF
        refine lv_iload hx hb (kd tdlX9_aheadOf_0 23 rfl) (lv_at hl 4 rfl) ?_
        refine lv_if_eq (tgt := 63) hx hb (kd tdlX9_aheadOf_0 24 rfl) (by decide) (fun hc40 => ?_) (fun hc40 => ?_)
        · have hF := kt hc40 hF
          refine lv_iconst (v := 0) hx hb (kd tdlX9_aheadOf_0 36 rfl) (by decide) ?_
          refine lv_istore (lv' := [(4, .int 0), (0, .ref h0), (1, .int p1), (2, .int s4_.1), (3, .int s4_.2), (5, .int s32_.2)]) hx hb (kd tdlX9_aheadOf_0 37 rfl) hl (by decide) rfl (fun ls hl => ?_)
          refine lv_iinc (v := (s32_.2 + 1)) (lv' := [(5, .int (s32_.2 + 1)), (4, .int 0), (0, .ref h0), (1, .int p1), (2, .int s4_.1), (3, .int s4_.2)]) hx hb (kd tdlX9_aheadOf_0 38 rfl) hl (k := 5) rfl rfl (by decide) rfl (fun ls hl => ?_)
          refine lv_goto (tgt := 32) hx hb (kd tdlX9_aheadOf_0 39 rfl) (by decide) ?_
          exact ih32 (0, (s32_.2 + 1)) hF _ _ _ hP hD hS (lv_sub hl [2, 3, 4, 5, 1, 0] rfl)
        · have hF := kf hc40 hF
          refine lv_aload_n hx hb (kd tdlX9_aheadOf_0 25 rfl) rfl (lv_at hl 0 rfl) ?_
          refine md_g_homes hx hb hts inX9_ hown hK hP L44 (kd tdlX9_aheadOf_0 26 rfl) ?_
          refine lv_iload hx hb (kd tdlX9_aheadOf_0 27 rfl) (lv_at hl 5 rfl) ?_
          obtain ⟨hi49, hF⟩ := kg hF
          refine md_l_homes hx hb hK hP hi49 (kd tdlX9_aheadOf_0 28 rfl) ?_
          refine lv_aload_n hx hb (kd tdlX9_aheadOf_0 29 rfl) rfl (lv_at hl 0 rfl) ?_
          refine md_g_homes hx hb hts inX9_ hown hK hP L44 (kd tdlX9_aheadOf_0 30 rfl) ?_
          refine lv_iload_n hx hb (kd tdlX9_aheadOf_0 31 rfl) rfl (lv_at hl 3 rfl) ?_
          obtain ⟨hi55, hF⟩ := kg hF
          refine md_l_homes hx hb hK hP hi55 (kd tdlX9_aheadOf_0 32 rfl) ?_
          refine lv_icmp_eq (tgt := 63) hx hb (kd tdlX9_aheadOf_0 33 rfl) (by decide) (fun hc56 => ?_) (fun hc56 => ?_)
          · have hF := kt hc56 hF
            refine lv_iconst (v := 0) hx hb (kd tdlX9_aheadOf_0 36 rfl) (by decide) ?_
            refine lv_istore (lv' := [(4, .int 0), (0, .ref h0), (1, .int p1), (2, .int s4_.1), (3, .int s4_.2), (5, .int s32_.2)]) hx hb (kd tdlX9_aheadOf_0 37 rfl) hl (by decide) rfl (fun ls hl => ?_)
            refine lv_iinc (v := (s32_.2 + 1)) (lv' := [(5, .int (s32_.2 + 1)), (4, .int 0), (0, .ref h0), (1, .int p1), (2, .int s4_.1), (3, .int s4_.2)]) hx hb (kd tdlX9_aheadOf_0 38 rfl) hl (k := 5) rfl rfl (by decide) rfl (fun ls hl => ?_)
            refine lv_goto (tgt := 32) hx hb (kd tdlX9_aheadOf_0 39 rfl) (by decide) ?_
            exact ih32 (0, (s32_.2 + 1)) hF _ _ _ hP hD hS (lv_sub hl [2, 3, 4, 5, 1, 0] rfl)
          · have hF := kf hc56 hF
            refine lv_iconst (v := 1) hx hb (kd tdlX9_aheadOf_0 34 rfl) (by decide) ?_
            refine lv_goto (tgt := 64) hx hb (kd tdlX9_aheadOf_0 35 rfl) (by decide) ?_
            refine lv_istore (lv' := [(4, .int 1), (0, .ref h0), (1, .int p1), (2, .int s4_.1), (3, .int s4_.2), (5, .int s32_.2)]) hx hb (kd tdlX9_aheadOf_0 37 rfl) hl (by decide) rfl (fun ls hl => ?_)
            refine lv_iinc (v := (s32_.2 + 1)) (lv' := [(5, .int (s32_.2 + 1)), (4, .int 1), (0, .ref h0), (1, .int p1), (2, .int s4_.1), (3, .int s4_.2)]) hx hb (kd tdlX9_aheadOf_0 38 rfl) hl (k := 5) rfl rfl (by decide) rfl (fun ls hl => ?_)
            refine lv_goto (tgt := 32) hx hb (kd tdlX9_aheadOf_0 39 rfl) (by decide) ?_
            exact ih32 (1, (s32_.2 + 1)) hF _ _ _ hP hD hS (lv_sub hl [2, 3, 4, 5, 1, 0] rfl)
    refine lv_icmp_eq (tgt := 26) hx hb (kd tdlX9_aheadOf_0 13 rfl) (by decide) (fun hc19 => ?_) (fun hc19 => ?_)
    · have hF := kt hc19 hF
      refine lv_iconst (v := 0) hx hb (kd tdlX9_aheadOf_0 16 rfl) (by decide) ?_
      exact hJ27 (0) hF _ _ _ hP hD hS (lv_sub hl [0, 1, 2, 3] rfl)
    · have hF := kf hc19 hF
      refine lv_iconst (v := 1) hx hb (kd tdlX9_aheadOf_0 14 rfl) (by decide) ?_
      refine lv_goto (tgt := 27) hx hb (kd tdlX9_aheadOf_0 15 rfl) (by decide) ?_
      exact hJ27 (1) hF _ _ _ hP hD hS (lv_sub hl [0, 1, 2, 3] rfl)
set_option maxHeartbeats 4000000 in
set_option maxRecDepth 100000 in
theorem c_X9_findsHomes (l : Launch) (D : va_G) (t : Nat → ClassId) (h0 : Nat) (a0 : Nat → Nat) (d0 : MDT) (sz : Nat) (p1 : Int32) (r : (Nat → Int32) × (Nat → Int32)) (hF : F_X9_findsHomes (md_s d0) (md_chunks d0) (md_chunkMany d0) (md_homes d0) (md_dropped d0) p1 = some r) : Met l yX9_findsHomes wX9_findsHomes ({ frames := 3, cells := 0, slots := 0, locals := 66 } : Room) (kPc D (TY t) ((wmd t h0 a0 d0)) [.ref h0, .int p1] sz) (kQv D (TY t) ((wmd t h0 a0 ((md_thrown d0), (md_s d0), (md_aside d0), (md_base d0), (md_saved d0), (md_savedMany d0), (md_slots d0), (md_hasSlot d0), (md_text d0), (md_length d0), (md_begins d0), (md_lengths d0), (md_streams d0), (md_letters d0), (md_letterMany d0), (md_chunks d0), (md_chunkMany d0), r.1, r.2, (md_madeIn d0), (md_madeAt d0), (md_putMany d0), (md_path d0), (md_store d0), (md_thinOnes d0)))) (va_A ((wmd t h0 a0 d0)) sz)) 0 0 (va_A ((wmd t h0 a0 d0)) sz) := by
  refine kE (cc := cX9_findsHomes) (maxL := 3) (ret := none) (Qx := fun A => kQv D (TY t) ((wmd t h0 a0 ((md_thrown d0), (md_s d0), (md_aside d0), (md_base d0), (md_saved d0), (md_savedMany d0), (md_slots d0), (md_hasSlot d0), (md_text d0), (md_length d0), (md_begins d0), (md_lengths d0), (md_streams d0), (md_letters d0), (md_letterMany d0), (md_chunks d0), (md_chunkMany d0), r.1, r.2, (md_madeIn d0), (md_madeAt d0), (md_putMany d0), (md_path d0), (md_store d0), (md_thinOnes d0)))) A) (lv0 := [(0, .ref h0), (1, .int p1)]) RX9 rfl (by decide) rfl (Nat.le_of_ble_eq_true rfl) rfl ?_
  intro p e s m args below meth c A ls hx hb hml hr hlocks hown hts hA hK hP hD hS hl
  have L41 := hts (.fieldLink RX9 41 "ChunkCarriersModel" "chunks" "[I") (List.mem_cons_of_mem _ w_111)
  have L44 := hts (.fieldLink RX9 44 "ChunkCarriersModel" "homes" "[I") (List.mem_cons_of_mem _ w_112)
  have L47 := hts (.fieldLink RX9 47 "ChunkCarriersModel" "dropped" "[I") (List.mem_cons_of_mem _ w_113)
  have L96 := hts (.fieldLink RX9 96 "ChunkCarriersModel" "chunkMany" "I") (List.mem_cons_of_mem _ w_275)
  have inX9_ : ∀ w ∈ wsX90, w ∈ wX9_findsHomes := fun w h => List.mem_cons_of_mem _ (inlX9 w h)
  have hP : va_P D vwCl ((wmdF t h0 a0 (md_thrown d0) (md_s d0) (md_aside d0) (md_base d0) (md_saved d0) (md_savedMany d0) (md_slots d0) (md_hasSlot d0) (md_text d0) (md_length d0) (md_begins d0) (md_lengths d0) (md_streams d0) (md_letters d0) (md_letterMany d0) (md_chunks d0) (md_chunkMany d0) (md_homes d0) (md_dropped d0) (md_madeIn d0) (md_madeAt d0) (md_putMany d0) (md_path d0) (md_store d0) (md_thinOnes d0))) s.heap := hP
  have hD : va_D A ((wmdF t h0 a0 (md_thrown d0) (md_s d0) (md_aside d0) (md_base d0) (md_saved d0) (md_savedMany d0) (md_slots d0) (md_hasSlot d0) (md_text d0) (md_length d0) (md_begins d0) (md_lengths d0) (md_streams d0) (md_letters d0) (md_letterMany d0) (md_chunks d0) (md_chunkMany d0) (md_homes d0) (md_dropped d0) (md_madeIn d0) (md_madeAt d0) (md_putMany d0) (md_path d0) (md_store d0) (md_thinOnes d0))) := hD
  refine lv_iconst (v := 0) hx hb (kd tdlX9_findsHomes_0 0 rfl) (by decide) ?_
  refine lv_istore_n (lv' := [(2, .int 0), (0, .ref h0), (1, .int p1)]) hx hb (kd tdlX9_findsHomes_0 1 rfl) rfl hl (by decide) rfl (fun ls hl => ?_)
  have hK32 : ∀ k32 : (Nat → Int32), K_X9_findsHomes_32 (md_chunkMany d0) p1 (md_dropped d0) k32 = some r → ∀ (H : Heap) (locs : List Loc) (ls : Array Slot), va_P D vwCl ((wmdF t h0 a0 (md_thrown d0) (md_s d0) (md_aside d0) (md_base d0) (md_saved d0) (md_savedMany d0) (md_slots d0) (md_hasSlot d0) (md_text d0) (md_length d0) (md_begins d0) (md_lengths d0) (md_streams d0) (md_letters d0) (md_letterMany d0) (md_chunks d0) (md_chunkMany d0) k32 (md_dropped d0) (md_madeIn d0) (md_madeAt d0) (md_putMany d0) (md_path d0) (md_store d0) (md_thinOnes d0))) H → va_D A ((wmdF t h0 a0 (md_thrown d0) (md_s d0) (md_aside d0) (md_base d0) (md_saved d0) (md_savedMany d0) (md_slots d0) (md_hasSlot d0) (md_text d0) (md_length d0) (md_begins d0) (md_lengths d0) (md_streams d0) (md_letters d0) (md_letterMany d0) (md_chunks d0) (md_chunkMany d0) k32 (md_dropped d0) (md_madeIn d0) (md_madeAt d0) (md_putMany d0) (md_path d0) (md_store d0) (md_thinOnes d0))) → va_S A s.heap H locs → lv_has ls 3 [(0, .ref h0), (1, .int p1)] → W p l e ({ frames := 3, cells := 0, slots := 0, locals := 66 } : Room) s m args below meth c H locs 0 0 (MQ below (kQv D (TY t) ((wmd t h0 a0 ((md_thrown d0), (md_s d0), (md_aside d0), (md_base d0), (md_saved d0), (md_savedMany d0), (md_slots d0), (md_hasSlot d0), (md_text d0), (md_length d0), (md_begins d0), (md_lengths d0), (md_streams d0), (md_letters d0), (md_letterMany d0), (md_chunks d0), (md_chunkMany d0), r.1, r.2, (md_madeIn d0), (md_madeAt d0), (md_putMany d0), (md_path d0), (md_store d0), (md_thinOnes d0)))) A) args s 0 0 A) (F0 m 32 ls []) := by
    intro k32 hF H locs ls hP hD hS hl
    refine lv_iconst (v := 0) hx hb (kd tdlX9_findsHomes_0 18 rfl) (by decide) ?_
    refine lv_istore_n (lv' := [(2, .int 0), (0, .ref h0), (1, .int p1)]) hx hb (kd tdlX9_findsHomes_0 19 rfl) rfl hl (by decide) rfl (fun ls hl => ?_)
    have hK83 : ∀ k83 : (Nat → Int32), K_X9_findsHomes_83 (md_chunkMany d0) k32 k83 = some r → ∀ (H : Heap) (locs : List Loc) (ls : Array Slot), va_P D vwCl ((wmdF t h0 a0 (md_thrown d0) (md_s d0) (md_aside d0) (md_base d0) (md_saved d0) (md_savedMany d0) (md_slots d0) (md_hasSlot d0) (md_text d0) (md_length d0) (md_begins d0) (md_lengths d0) (md_streams d0) (md_letters d0) (md_letterMany d0) (md_chunks d0) (md_chunkMany d0) k32 k83 (md_madeIn d0) (md_madeAt d0) (md_putMany d0) (md_path d0) (md_store d0) (md_thinOnes d0))) H → va_D A ((wmdF t h0 a0 (md_thrown d0) (md_s d0) (md_aside d0) (md_base d0) (md_saved d0) (md_savedMany d0) (md_slots d0) (md_hasSlot d0) (md_text d0) (md_length d0) (md_begins d0) (md_lengths d0) (md_streams d0) (md_letters d0) (md_letterMany d0) (md_chunks d0) (md_chunkMany d0) k32 k83 (md_madeIn d0) (md_madeAt d0) (md_putMany d0) (md_path d0) (md_store d0) (md_thinOnes d0))) → va_S A s.heap H locs → lv_has ls 3 [(0, .ref h0)] → W p l e ({ frames := 3, cells := 0, slots := 0, locals := 66 } : Room) s m args below meth c H locs 0 0 (MQ below (kQv D (TY t) ((wmd t h0 a0 ((md_thrown d0), (md_s d0), (md_aside d0), (md_base d0), (md_saved d0), (md_savedMany d0), (md_slots d0), (md_hasSlot d0), (md_text d0), (md_length d0), (md_begins d0), (md_lengths d0), (md_streams d0), (md_letters d0), (md_letterMany d0), (md_chunks d0), (md_chunkMany d0), r.1, r.2, (md_madeIn d0), (md_madeAt d0), (md_putMany d0), (md_path d0), (md_store d0), (md_thinOnes d0)))) A) args s 0 0 A) (F0 m 83 ls []) := by
      intro k83 hF H locs ls hP hD hS hl
      refine lv_iconst (v := 0) hx hb (kd tdlX9_findsHomes_1 2 rfl) (by decide) ?_
      refine lv_istore_n (lv' := [(2, .int 0), (0, .ref h0)]) hx hb (kd tdlX9_findsHomes_1 3 rfl) rfl hl (by decide) rfl (fun ls hl => ?_)
      refine lp_ind (f := B_X9_findsHomes_85 (md_chunkMany d0) k83) (r := r) (P := fun s85_ => ∀ (H : Heap) (locs : List Loc) (ls : Array Slot), va_P D vwCl ((wmdF t h0 a0 (md_thrown d0) (md_s d0) (md_aside d0) (md_base d0) (md_saved d0) (md_savedMany d0) (md_slots d0) (md_hasSlot d0) (md_text d0) (md_length d0) (md_begins d0) (md_lengths d0) (md_streams d0) (md_letters d0) (md_letterMany d0) (md_chunks d0) (md_chunkMany d0) s85_.2 k83 (md_madeIn d0) (md_madeAt d0) (md_putMany d0) (md_path d0) (md_store d0) (md_thinOnes d0))) H → va_D A ((wmdF t h0 a0 (md_thrown d0) (md_s d0) (md_aside d0) (md_base d0) (md_saved d0) (md_savedMany d0) (md_slots d0) (md_hasSlot d0) (md_text d0) (md_length d0) (md_begins d0) (md_lengths d0) (md_streams d0) (md_letters d0) (md_letterMany d0) (md_chunks d0) (md_chunkMany d0) s85_.2 k83 (md_madeIn d0) (md_madeAt d0) (md_putMany d0) (md_path d0) (md_store d0) (md_thinOnes d0))) → va_S A s.heap H locs → lv_has ls 3 [(0, .ref h0), (2, .int s85_.1)] → W p l e ({ frames := 3, cells := 0, slots := 0, locals := 66 } : Room) s m args below meth c H locs 0 0 (MQ below (kQv D (TY t) ((wmd t h0 a0 ((md_thrown d0), (md_s d0), (md_aside d0), (md_base d0), (md_saved d0), (md_savedMany d0), (md_slots d0), (md_hasSlot d0), (md_text d0), (md_length d0), (md_begins d0), (md_lengths d0), (md_streams d0), (md_letters d0), (md_letterMany d0), (md_chunks d0), (md_chunkMany d0), r.1, r.2, (md_madeIn d0), (md_madeAt d0), (md_putMany d0), (md_path d0), (md_store d0), (md_thinOnes d0)))) A) args s 0 0 A) (F0 m 85 ls [])) ?_ FU (0, k32) hF _ _ _ hP hD hS (lv_sub hl [1, 0] rfl)
      intro self85 ih85 s85_ hF H locs ls hP hD hS hl
      refine lv_iload_n hx hb (kd tdlX9_findsHomes_1 4 rfl) rfl (lv_at hl 1 rfl) ?_
      refine lv_aload_n hx hb (kd tdlX9_findsHomes_1 5 rfl) rfl (lv_at hl 0 rfl) ?_
      refine md_g_chunkMany hx hb hts inX9_ hown hK hP L96 (kd tdlX9_findsHomes_1 6 rfl) ?_
      refine lv_icmp_ge (tgt := 125) hx hb (kd tdlX9_findsHomes_1 7 rfl) (by decide) (fun hc90 => ?_) (fun hc90 => ?_)
      · have hF := kt hc90 hF
        cases ko hF
        exact ke_v hx hb hr hlocks hK hP hD hS (kd tdlX9_findsHomes_1 26 rfl)
      · have hF := kf hc90 hF
        refine lv_aload_n hx hb (kd tdlX9_findsHomes_1 8 rfl) rfl (lv_at hl 0 rfl) ?_
        refine md_g_homes hx hb hts inX9_ hown hK hP L44 (kd tdlX9_findsHomes_1 9 rfl) ?_
        refine lv_iload_n hx hb (kd tdlX9_findsHomes_1 10 rfl) rfl (lv_at hl 1 rfl) ?_
        refine lv_aload_n hx hb (kd tdlX9_findsHomes_1 11 rfl) rfl (lv_at hl 0 rfl) ?_
        refine md_g_dropped hx hb hts inX9_ hown hK hP L47 (kd tdlX9_findsHomes_1 12 rfl) ?_
        refine lv_iload_n hx hb (kd tdlX9_findsHomes_1 13 rfl) rfl (lv_at hl 1 rfl) ?_
        obtain ⟨hi103, hF⟩ := kg hF
        refine md_l_dropped hx hb hK hP hi103 (kd tdlX9_findsHomes_1 14 rfl) ?_
        refine lv_iconst (v := 1) hx hb (kd tdlX9_findsHomes_1 15 rfl) (by decide) ?_
        refine lv_icmp_ne (tgt := 112) hx hb (kd tdlX9_findsHomes_1 16 rfl) (by decide) (fun hc105 => ?_) (fun hc105 => ?_)
        · have hF := kf hc105 hF
          refine lv_aload_n hx hb (kd tdlX9_findsHomes_1 19 rfl) rfl (lv_at hl 0 rfl) ?_
          refine md_g_homes hx hb hts inX9_ hown hK hP L44 (kd tdlX9_findsHomes_1 20 rfl) ?_
          refine lv_iload_n hx hb (kd tdlX9_findsHomes_1 21 rfl) rfl (lv_at hl 1 rfl) ?_
          obtain ⟨hi117, hF⟩ := kg hF
          refine md_l_homes hx hb hK hP hi117 (kd tdlX9_findsHomes_1 22 rfl) ?_
          obtain ⟨hi118, hF⟩ := kg hF
          refine md_s_homes hx hb hK hP hD hS hi118 (kd tdlX9_findsHomes_1 23 rfl) (fun H locs hP hD hS => ?_)
          refine lv_iinc (v := (s85_.1 + 1)) (lv' := [(2, .int (s85_.1 + 1)), (0, .ref h0)]) hx hb (kd tdlX9_findsHomes_1 24 rfl) hl (k := 1) rfl rfl (by decide) rfl (fun ls hl => ?_)
          refine lv_goto (tgt := 85) hx hb (kd tdlX9_findsHomes_1 25 rfl) (by decide) ?_
          exact ih85 ((s85_.1 + 1), (upd s85_.2 (Int32.toNatClampNeg s85_.1) (s85_.2 (Int32.toNatClampNeg s85_.1)))) hF _ _ _ hP hD hS (lv_sub hl [1, 0] rfl)
        · have hF := kt hc105 hF
          refine lv_iconst (v := (-1)) hx hb (kd tdlX9_findsHomes_1 17 rfl) (by decide) ?_
          refine lv_goto (tgt := 118) hx hb (kd tdlX9_findsHomes_1 18 rfl) (by decide) ?_
          obtain ⟨hi118, hF⟩ := kg hF
          refine md_s_homes hx hb hK hP hD hS hi118 (kd tdlX9_findsHomes_1 23 rfl) (fun H locs hP hD hS => ?_)
          refine lv_iinc (v := (s85_.1 + 1)) (lv' := [(2, .int (s85_.1 + 1)), (0, .ref h0)]) hx hb (kd tdlX9_findsHomes_1 24 rfl) hl (k := 1) rfl rfl (by decide) rfl (fun ls hl => ?_)
          refine lv_goto (tgt := 85) hx hb (kd tdlX9_findsHomes_1 25 rfl) (by decide) ?_
          exact ih85 ((s85_.1 + 1), (upd s85_.2 (Int32.toNatClampNeg s85_.1) (-1))) hF _ _ _ hP hD hS (lv_sub hl [1, 0] rfl)
    refine lp_ind (f := B_X9_findsHomes_34 (md_chunkMany d0) k32 p1 (K_X9_findsHomes_83 (md_chunkMany d0) k32)) (r := r) (P := fun s34_ => ∀ (H : Heap) (locs : List Loc) (ls : Array Slot), va_P D vwCl ((wmdF t h0 a0 (md_thrown d0) (md_s d0) (md_aside d0) (md_base d0) (md_saved d0) (md_savedMany d0) (md_slots d0) (md_hasSlot d0) (md_text d0) (md_length d0) (md_begins d0) (md_lengths d0) (md_streams d0) (md_letters d0) (md_letterMany d0) (md_chunks d0) (md_chunkMany d0) k32 s34_.2 (md_madeIn d0) (md_madeAt d0) (md_putMany d0) (md_path d0) (md_store d0) (md_thinOnes d0))) H → va_D A ((wmdF t h0 a0 (md_thrown d0) (md_s d0) (md_aside d0) (md_base d0) (md_saved d0) (md_savedMany d0) (md_slots d0) (md_hasSlot d0) (md_text d0) (md_length d0) (md_begins d0) (md_lengths d0) (md_streams d0) (md_letters d0) (md_letterMany d0) (md_chunks d0) (md_chunkMany d0) k32 s34_.2 (md_madeIn d0) (md_madeAt d0) (md_putMany d0) (md_path d0) (md_store d0) (md_thinOnes d0))) → va_S A s.heap H locs → lv_has ls 3 [(0, .ref h0), (1, .int p1), (2, .int s34_.1)] → W p l e ({ frames := 3, cells := 0, slots := 0, locals := 66 } : Room) s m args below meth c H locs 0 0 (MQ below (kQv D (TY t) ((wmd t h0 a0 ((md_thrown d0), (md_s d0), (md_aside d0), (md_base d0), (md_saved d0), (md_savedMany d0), (md_slots d0), (md_hasSlot d0), (md_text d0), (md_length d0), (md_begins d0), (md_lengths d0), (md_streams d0), (md_letters d0), (md_letterMany d0), (md_chunks d0), (md_chunkMany d0), r.1, r.2, (md_madeIn d0), (md_madeAt d0), (md_putMany d0), (md_path d0), (md_store d0), (md_thinOnes d0)))) A) args s 0 0 A) (F0 m 34 ls [])) ?_ FU (0, (md_dropped d0)) hF _ _ _ hP hD hS (lv_sub hl [1, 2, 0] rfl)
    intro self34 ih34 s34_ hF H locs ls hP hD hS hl
    refine lv_iload_n hx hb (kd tdlX9_findsHomes_0 20 rfl) rfl (lv_at hl 2 rfl) ?_
    refine lv_aload_n hx hb (kd tdlX9_findsHomes_0 21 rfl) rfl (lv_at hl 0 rfl) ?_
    refine md_g_chunkMany hx hb hts inX9_ hown hK hP L96 (kd tdlX9_findsHomes_0 22 rfl) ?_
    refine lv_icmp_ge (tgt := 83) hx hb (kd tdlX9_findsHomes_0 23 rfl) (by decide) (fun hc39 => ?_) (fun hc39 => ?_)
    · have hF := kt hc39 hF
      exact hK83 (s34_.2) hF _ _ _ hP hD hS (lv_sub hl [0] rfl)
    · have hF := kf hc39 hF
      refine lv_aload_n hx hb (kd tdlX9_findsHomes_0 24 rfl) rfl (lv_at hl 0 rfl) ?_
      refine md_g_dropped hx hb hts inX9_ hown hK hP L47 (kd tdlX9_findsHomes_0 25 rfl) ?_
      refine lv_iload_n hx hb (kd tdlX9_findsHomes_0 26 rfl) rfl (lv_at hl 2 rfl) ?_
      refine lv_aload_n hx hb (kd tdlX9_findsHomes_0 27 rfl) rfl (lv_at hl 0 rfl) ?_
      refine md_g_homes hx hb hts inX9_ hown hK hP L44 (kd tdlX9_findsHomes_0 28 rfl) ?_
      refine lv_iload_n hx hb (kd tdlX9_findsHomes_0 29 rfl) rfl (lv_at hl 2 rfl) ?_
      obtain ⟨hi52, hF⟩ := kg hF
      refine md_l_homes hx hb hK hP hi52 (kd tdlX9_findsHomes_0 30 rfl) ?_
      refine lv_iconst (v := (-1)) hx hb (kd tdlX9_findsHomes_0 31 rfl) (by decide) ?_
      refine lv_icmp_eq (tgt := 75) hx hb (kd tdlX9_findsHomes_0 32 rfl) (by decide) (fun hc54 => ?_) (fun hc54 => ?_)
      · have hF := kt hc54 hF
        refine lv_iconst (v := 0) hx hb (kd tdlX9_findsHomes_0 43 rfl) (by decide) ?_
        obtain ⟨hi76, hF⟩ := kg hF
        refine md_s_dropped hx hb hK hP hD hS hi76 (kd tdlX9_findsHomes_0 44 rfl) (fun H locs hP hD hS => ?_)
        refine lv_iinc (v := (s34_.1 + 1)) (lv' := [(2, .int (s34_.1 + 1)), (0, .ref h0), (1, .int p1)]) hx hb (kd tdlX9_findsHomes_1 0 rfl) hl (k := 2) rfl rfl (by decide) rfl (fun ls hl => ?_)
        refine lv_goto (tgt := 34) hx hb (kd tdlX9_findsHomes_1 1 rfl) (by decide) ?_
        exact ih34 ((s34_.1 + 1), (upd s34_.2 (Int32.toNatClampNeg s34_.1) 0)) hF _ _ _ hP hD hS (lv_sub hl [1, 2, 0] rfl)
      · have hF := kf hc54 hF
        refine lv_aload_n hx hb (kd tdlX9_findsHomes_0 33 rfl) rfl (lv_at hl 0 rfl) ?_
        refine lv_aload_n hx hb (kd tdlX9_findsHomes_0 34 rfl) rfl (lv_at hl 0 rfl) ?_
        refine md_g_homes hx hb hts inX9_ hown hK hP L44 (kd tdlX9_findsHomes_0 35 rfl) ?_
        refine lv_iload_n hx hb (kd tdlX9_findsHomes_0 36 rfl) rfl (lv_at hl 2 rfl) ?_
        obtain ⟨hi63, hF⟩ := kg hF
        refine md_l_homes hx hb hK hP hi63 (kd tdlX9_findsHomes_0 37 rfl) ?_
        obtain ⟨v64, e64, hF⟩ := kc hF
        refine kc_i0 (w1 := ((wmdF t h0 a0 (md_thrown d0) (md_s d0) (md_aside d0) (md_base d0) (md_saved d0) (md_savedMany d0) (md_slots d0) (md_hasSlot d0) (md_text d0) (md_length d0) (md_begins d0) (md_lengths d0) (md_streams d0) (md_letters d0) (md_letterMany d0) (md_chunks d0) (md_chunkMany d0) k32 s34_.2 (md_madeIn d0) (md_madeAt d0) (md_putMany d0) (md_path d0) (md_store d0) (md_thinOnes d0)))) hP hD hS hA (kr_V0 (Qx := (fun A => kQi D (TY t) ((wmdF t h0 a0 (md_thrown d0) (md_s d0) (md_aside d0) (md_base d0) (md_saved d0) (md_savedMany d0) (md_slots d0) (md_hasSlot d0) (md_text d0) (md_length d0) (md_begins d0) (md_lengths d0) (md_streams d0) (md_letters d0) (md_letterMany d0) (md_chunks d0) (md_chunkMany d0) k32 s34_.2 (md_madeIn d0) (md_madeAt d0) (md_putMany d0) (md_path d0) (md_store d0) (md_thinOnes d0))) v64 A)) (As := [.int (k32 (Int32.toNatClampNeg s34_.1))]) (rest := [.int s34_.1, .ref (a0 12)]) ⟨hx, hb, hml, hown, hts⟩ hK hP hD (c_X9_aheadOf l D t h0 a0 ((md_thrown d0), (md_s d0), (md_aside d0), (md_base d0), (md_saved d0), (md_savedMany d0), (md_slots d0), (md_hasSlot d0), (md_text d0), (md_length d0), (md_begins d0), (md_lengths d0), (md_streams d0), (md_letters d0), (md_letterMany d0), (md_chunks d0), (md_chunkMany d0), k32, s34_.2, (md_madeIn d0), (md_madeAt d0), (md_putMany d0), (md_path d0), (md_store d0), (md_thinOnes d0)) _ (k32 (Int32.toNatClampNeg s34_.1)) v64 e64) (cwV 1 hts (gcX9_aheadOf w_747) rfl rfl rfl hdX9_aheadOfV ⟨Nat.le_of_ble_eq_true rfl, Nat.le_of_ble_eq_true rfl⟩) (ci := 8) (q0 := 0) rfl rfl rfl hl.1 rfl (Nat.le_of_ble_eq_true rfl) (kd tdlX9_findsHomes_0 38 rfl) ⟨Nat.zero_le _, Nat.zero_le _⟩) (fun H locs hP hD hS => ?_)
        refine lv_iload_n hx hb (kd tdlX9_findsHomes_0 39 rfl) rfl (lv_at hl 1 rfl) ?_
        refine lv_icmp_lt (tgt := 75) hx hb (kd tdlX9_findsHomes_0 40 rfl) (by decide) (fun hc68 => ?_) (fun hc68 => ?_)
        · have hF := kt hc68 hF
          refine lv_iconst (v := 0) hx hb (kd tdlX9_findsHomes_0 43 rfl) (by decide) ?_
          obtain ⟨hi76, hF⟩ := kg hF
          refine md_s_dropped hx hb hK hP hD hS hi76 (kd tdlX9_findsHomes_0 44 rfl) (fun H locs hP hD hS => ?_)
          refine lv_iinc (v := (s34_.1 + 1)) (lv' := [(2, .int (s34_.1 + 1)), (0, .ref h0), (1, .int p1)]) hx hb (kd tdlX9_findsHomes_1 0 rfl) hl (k := 2) rfl rfl (by decide) rfl (fun ls hl => ?_)
          refine lv_goto (tgt := 34) hx hb (kd tdlX9_findsHomes_1 1 rfl) (by decide) ?_
          exact ih34 ((s34_.1 + 1), (upd s34_.2 (Int32.toNatClampNeg s34_.1) 0)) hF _ _ _ hP hD hS (lv_sub hl [1, 2, 0] rfl)
        · have hF := kf hc68 hF
          refine lv_iconst (v := 1) hx hb (kd tdlX9_findsHomes_0 41 rfl) (by decide) ?_
          refine lv_goto (tgt := 76) hx hb (kd tdlX9_findsHomes_0 42 rfl) (by decide) ?_
          obtain ⟨hi76, hF⟩ := kg hF
          refine md_s_dropped hx hb hK hP hD hS hi76 (kd tdlX9_findsHomes_0 44 rfl) (fun H locs hP hD hS => ?_)
          refine lv_iinc (v := (s34_.1 + 1)) (lv' := [(2, .int (s34_.1 + 1)), (0, .ref h0), (1, .int p1)]) hx hb (kd tdlX9_findsHomes_1 0 rfl) hl (k := 2) rfl rfl (by decide) rfl (fun ls hl => ?_)
          refine lv_goto (tgt := 34) hx hb (kd tdlX9_findsHomes_1 1 rfl) (by decide) ?_
          exact ih34 ((s34_.1 + 1), (upd s34_.2 (Int32.toNatClampNeg s34_.1) 1)) hF _ _ _ hP hD hS (lv_sub hl [1, 2, 0] rfl)
  refine lp_ind (f := B_X9_findsHomes_2 (md_chunkMany d0) (md_s d0) (md_chunks d0) (K_X9_findsHomes_32 (md_chunkMany d0) p1 (md_dropped d0))) (r := r) (P := fun s2_ => ∀ (H : Heap) (locs : List Loc) (ls : Array Slot), va_P D vwCl ((wmdF t h0 a0 (md_thrown d0) (md_s d0) (md_aside d0) (md_base d0) (md_saved d0) (md_savedMany d0) (md_slots d0) (md_hasSlot d0) (md_text d0) (md_length d0) (md_begins d0) (md_lengths d0) (md_streams d0) (md_letters d0) (md_letterMany d0) (md_chunks d0) (md_chunkMany d0) s2_.2 (md_dropped d0) (md_madeIn d0) (md_madeAt d0) (md_putMany d0) (md_path d0) (md_store d0) (md_thinOnes d0))) H → va_D A ((wmdF t h0 a0 (md_thrown d0) (md_s d0) (md_aside d0) (md_base d0) (md_saved d0) (md_savedMany d0) (md_slots d0) (md_hasSlot d0) (md_text d0) (md_length d0) (md_begins d0) (md_lengths d0) (md_streams d0) (md_letters d0) (md_letterMany d0) (md_chunks d0) (md_chunkMany d0) s2_.2 (md_dropped d0) (md_madeIn d0) (md_madeAt d0) (md_putMany d0) (md_path d0) (md_store d0) (md_thinOnes d0))) → va_S A s.heap H locs → lv_has ls 3 [(0, .ref h0), (1, .int p1), (2, .int s2_.1)] → W p l e ({ frames := 3, cells := 0, slots := 0, locals := 66 } : Room) s m args below meth c H locs 0 0 (MQ below (kQv D (TY t) ((wmd t h0 a0 ((md_thrown d0), (md_s d0), (md_aside d0), (md_base d0), (md_saved d0), (md_savedMany d0), (md_slots d0), (md_hasSlot d0), (md_text d0), (md_length d0), (md_begins d0), (md_lengths d0), (md_streams d0), (md_letters d0), (md_letterMany d0), (md_chunks d0), (md_chunkMany d0), r.1, r.2, (md_madeIn d0), (md_madeAt d0), (md_putMany d0), (md_path d0), (md_store d0), (md_thinOnes d0)))) A) args s 0 0 A) (F0 m 2 ls [])) ?_ FU (0, (md_homes d0)) hF _ _ _ hP hD hS (lv_sub hl [1, 2, 0] rfl)
  intro self2 ih2 s2_ hF H locs ls hP hD hS hl
  refine lv_iload_n hx hb (kd tdlX9_findsHomes_0 2 rfl) rfl (lv_at hl 2 rfl) ?_
  refine lv_aload_n hx hb (kd tdlX9_findsHomes_0 3 rfl) rfl (lv_at hl 0 rfl) ?_
  refine md_g_chunkMany hx hb hts inX9_ hown hK hP L96 (kd tdlX9_findsHomes_0 4 rfl) ?_
  refine lv_icmp_ge (tgt := 32) hx hb (kd tdlX9_findsHomes_0 5 rfl) (by decide) (fun hc7 => ?_) (fun hc7 => ?_)
  · have hF := kt hc7 hF
    exact hK32 (s2_.2) hF _ _ _ hP hD hS (lv_sub hl [0, 1] rfl)
  · have hF := kf hc7 hF
    refine lv_aload_n hx hb (kd tdlX9_findsHomes_0 6 rfl) rfl (lv_at hl 0 rfl) ?_
    refine md_g_homes hx hb hts inX9_ hown hK hP L44 (kd tdlX9_findsHomes_0 7 rfl) ?_
    refine lv_iload_n hx hb (kd tdlX9_findsHomes_0 8 rfl) rfl (lv_at hl 2 rfl) ?_
    refine lv_aload_n hx hb (kd tdlX9_findsHomes_0 9 rfl) rfl (lv_at hl 0 rfl) ?_
    refine lv_aload_n hx hb (kd tdlX9_findsHomes_0 10 rfl) rfl (lv_at hl 0 rfl) ?_
    refine md_g_chunks hx hb hts inX9_ hown hK hP L41 (kd tdlX9_findsHomes_0 11 rfl) ?_
    refine lv_iload_n hx hb (kd tdlX9_findsHomes_0 12 rfl) rfl (lv_at hl 2 rfl) ?_
    obtain ⟨hi21, hF⟩ := kg hF
    refine md_l_chunks hx hb hK hP hi21 (kd tdlX9_findsHomes_0 13 rfl) ?_
    obtain ⟨v22, e22, hF⟩ := kc hF
    refine kc_i0 (w1 := ((wmdF t h0 a0 (md_thrown d0) (md_s d0) (md_aside d0) (md_base d0) (md_saved d0) (md_savedMany d0) (md_slots d0) (md_hasSlot d0) (md_text d0) (md_length d0) (md_begins d0) (md_lengths d0) (md_streams d0) (md_letters d0) (md_letterMany d0) (md_chunks d0) (md_chunkMany d0) s2_.2 (md_dropped d0) (md_madeIn d0) (md_madeAt d0) (md_putMany d0) (md_path d0) (md_store d0) (md_thinOnes d0)))) hP hD hS hA (kr_V0 (Qx := (fun A => kQi D (TY t) ((wmdF t h0 a0 (md_thrown d0) (md_s d0) (md_aside d0) (md_base d0) (md_saved d0) (md_savedMany d0) (md_slots d0) (md_hasSlot d0) (md_text d0) (md_length d0) (md_begins d0) (md_lengths d0) (md_streams d0) (md_letters d0) (md_letterMany d0) (md_chunks d0) (md_chunkMany d0) s2_.2 (md_dropped d0) (md_madeIn d0) (md_madeAt d0) (md_putMany d0) (md_path d0) (md_store d0) (md_thinOnes d0))) v22 A)) (As := [.int ((md_chunks d0) (Int32.toNatClampNeg s2_.1))]) (rest := [.int s2_.1, .ref (a0 11)]) ⟨hx, hb, hml, hown, hts⟩ hK hP hD (c_X9_homeOf l D t h0 a0 ((md_thrown d0), (md_s d0), (md_aside d0), (md_base d0), (md_saved d0), (md_savedMany d0), (md_slots d0), (md_hasSlot d0), (md_text d0), (md_length d0), (md_begins d0), (md_lengths d0), (md_streams d0), (md_letters d0), (md_letterMany d0), (md_chunks d0), (md_chunkMany d0), s2_.2, (md_dropped d0), (md_madeIn d0), (md_madeAt d0), (md_putMany d0), (md_path d0), (md_store d0), (md_thinOnes d0)) _ ((md_chunks d0) (Int32.toNatClampNeg s2_.1)) v22 e22) (cwV 1 hts (gcX9_homeOf w_298) rfl rfl rfl hdX9_homeOfV ⟨Nat.le_of_ble_eq_true rfl, Nat.le_of_ble_eq_true rfl⟩) (ci := 8) (q0 := 0) rfl rfl rfl hl.1 rfl (Nat.le_of_ble_eq_true rfl) (kd tdlX9_findsHomes_0 14 rfl) ⟨Nat.zero_le _, Nat.zero_le _⟩) (fun H locs hP hD hS => ?_)
    obtain ⟨hi25, hF⟩ := kg hF
    refine md_s_homes hx hb hK hP hD hS hi25 (kd tdlX9_findsHomes_0 15 rfl) (fun H locs hP hD hS => ?_)
    refine lv_iinc (v := (s2_.1 + 1)) (lv' := [(2, .int (s2_.1 + 1)), (0, .ref h0), (1, .int p1)]) hx hb (kd tdlX9_findsHomes_0 16 rfl) hl (k := 2) rfl rfl (by decide) rfl (fun ls hl => ?_)
    refine lv_goto (tgt := 2) hx hb (kd tdlX9_findsHomes_0 17 rfl) (by decide) ?_
    exact ih2 ((s2_.1 + 1), (upd s2_.2 (Int32.toNatClampNeg s2_.1) v22)) hF _ _ _ hP hD hS (lv_sub hl [1, 2, 0] rfl)
set_option maxHeartbeats 4000000 in
set_option maxRecDepth 100000 in
theorem c_X9_makes (l : Launch) (D : va_G) (t : Nat → ClassId) (h0 : Nat) (a0 : Nat → Nat) (d0 : MDT) (sz : Nat) (p1 : Int32) (r : (Nat → Int32) × (Nat → Int32) × (Nat → Int32) × (Nat → Int32) × (Nat → Int32) × Int32) (hF : F_X9_makes (md_s d0) (md_chunks d0) (md_chunkMany d0) (md_homes d0) (md_dropped d0) (md_madeIn d0) (md_madeAt d0) (md_putMany d0) p1 = some r) : Met l yX9_makes wX9_makes ({ frames := 4, cells := 0, slots := 0, locals := 88 } : Room) (kPc D (TY t) ((wmd t h0 a0 d0)) [.ref h0, .int p1] sz) (kQv D (TY t) ((wmd t h0 a0 ((md_thrown d0), r.1, (md_aside d0), (md_base d0), (md_saved d0), (md_savedMany d0), (md_slots d0), (md_hasSlot d0), (md_text d0), (md_length d0), (md_begins d0), (md_lengths d0), (md_streams d0), (md_letters d0), (md_letterMany d0), (md_chunks d0), (md_chunkMany d0), r.2.1, r.2.2.1, r.2.2.2.1, r.2.2.2.2.1, r.2.2.2.2.2, (md_path d0), (md_store d0), (md_thinOnes d0)))) (va_A ((wmd t h0 a0 d0)) sz)) 0 0 (va_A ((wmd t h0 a0 d0)) sz) := by
  refine kE (cc := cX9_makes) (maxL := 5) (ret := none) (Qx := fun A => kQv D (TY t) ((wmd t h0 a0 ((md_thrown d0), r.1, (md_aside d0), (md_base d0), (md_saved d0), (md_savedMany d0), (md_slots d0), (md_hasSlot d0), (md_text d0), (md_length d0), (md_begins d0), (md_lengths d0), (md_streams d0), (md_letters d0), (md_letterMany d0), (md_chunks d0), (md_chunkMany d0), r.2.1, r.2.2.1, r.2.2.2.1, r.2.2.2.2.1, r.2.2.2.2.2, (md_path d0), (md_store d0), (md_thinOnes d0)))) A) (lv0 := [(0, .ref h0), (1, .int p1)]) RX9 rfl (by decide) rfl (Nat.le_of_ble_eq_true rfl) rfl ?_
  intro p e s m args below meth c A ls hx hb hml hr hlocks hown hts hA hK hP hD hS hl
  have L139 := hts (.fieldLink RX9 139 "ChunkCarriersModel" "putMany" "I") (List.mem_cons_of_mem _ w_742)
  have L41 := hts (.fieldLink RX9 41 "ChunkCarriersModel" "chunks" "[I") (List.mem_cons_of_mem _ w_111)
  have L44 := hts (.fieldLink RX9 44 "ChunkCarriersModel" "homes" "[I") (List.mem_cons_of_mem _ w_112)
  have L50 := hts (.fieldLink RX9 50 "ChunkCarriersModel" "madeIn" "[I") (List.mem_cons_of_mem _ w_114)
  have L53 := hts (.fieldLink RX9 53 "ChunkCarriersModel" "madeAt" "[I") (List.mem_cons_of_mem _ w_115)
  have L7 := hts (.fieldLink RX9 7 "ChunkCarriersModel" "s" "[I") (List.mem_cons_of_mem _ w_101)
  have L96 := hts (.fieldLink RX9 96 "ChunkCarriersModel" "chunkMany" "I") (List.mem_cons_of_mem _ w_275)
  have inX9_ : ∀ w ∈ wsX90, w ∈ wX9_makes := fun w h => List.mem_cons_of_mem _ (inlX9 w h)
  have hP : va_P D vwCl ((wmdF t h0 a0 (md_thrown d0) (md_s d0) (md_aside d0) (md_base d0) (md_saved d0) (md_savedMany d0) (md_slots d0) (md_hasSlot d0) (md_text d0) (md_length d0) (md_begins d0) (md_lengths d0) (md_streams d0) (md_letters d0) (md_letterMany d0) (md_chunks d0) (md_chunkMany d0) (md_homes d0) (md_dropped d0) (md_madeIn d0) (md_madeAt d0) (md_putMany d0) (md_path d0) (md_store d0) (md_thinOnes d0))) s.heap := hP
  have hD : va_D A ((wmdF t h0 a0 (md_thrown d0) (md_s d0) (md_aside d0) (md_base d0) (md_saved d0) (md_savedMany d0) (md_slots d0) (md_hasSlot d0) (md_text d0) (md_length d0) (md_begins d0) (md_lengths d0) (md_streams d0) (md_letters d0) (md_letterMany d0) (md_chunks d0) (md_chunkMany d0) (md_homes d0) (md_dropped d0) (md_madeIn d0) (md_madeAt d0) (md_putMany d0) (md_path d0) (md_store d0) (md_thinOnes d0))) := hD
  refine lv_aload_n hx hb (kd tdlX9_makes_0 0 rfl) rfl (lv_at hl 0 rfl) ?_
  refine lv_iload_n hx hb (kd tdlX9_makes_0 1 rfl) rfl (lv_at hl 1 rfl) ?_
  obtain ⟨v2, e2, hF⟩ := kc hF
  refine kc_v0 (w1 := ((wmdF t h0 a0 (md_thrown d0) (md_s d0) (md_aside d0) (md_base d0) (md_saved d0) (md_savedMany d0) (md_slots d0) (md_hasSlot d0) (md_text d0) (md_length d0) (md_begins d0) (md_lengths d0) (md_streams d0) (md_letters d0) (md_letterMany d0) (md_chunks d0) (md_chunkMany d0) v2.1 v2.2 (md_madeIn d0) (md_madeAt d0) (md_putMany d0) (md_path d0) (md_store d0) (md_thinOnes d0)))) hP hD hS hA (kr_V0 (Qx := (fun A => kQv D (TY t) ((wmdF t h0 a0 (md_thrown d0) (md_s d0) (md_aside d0) (md_base d0) (md_saved d0) (md_savedMany d0) (md_slots d0) (md_hasSlot d0) (md_text d0) (md_length d0) (md_begins d0) (md_lengths d0) (md_streams d0) (md_letters d0) (md_letterMany d0) (md_chunks d0) (md_chunkMany d0) v2.1 v2.2 (md_madeIn d0) (md_madeAt d0) (md_putMany d0) (md_path d0) (md_store d0) (md_thinOnes d0))) A)) (As := [.int p1]) (rest := []) ⟨hx, hb, hml, hown, hts⟩ hK hP hD (c_X9_findsHomes l D t h0 a0 d0 _ p1 v2 e2) (cwV 1 hts (gcX9_findsHomes w_743) rfl rfl rfl hdX9_findsHomesV ⟨Nat.le_of_ble_eq_true rfl, Nat.le_of_ble_eq_true rfl⟩) (ci := 8) (q0 := 0) rfl rfl rfl hl.1 rfl (Nat.le_of_ble_eq_true rfl) (kd tdlX9_makes_0 2 rfl) ⟨Nat.zero_le _, Nat.zero_le _⟩) (fun H locs hP hD hS => ?_)
  refine lv_aload_n hx hb (kd tdlX9_makes_0 3 rfl) rfl (lv_at hl 0 rfl) ?_
  refine lv_iconst (v := 0) hx hb (kd tdlX9_makes_0 4 rfl) (by decide) ?_
  refine md_p_putMany hx hb hts inX9_ hown hK hP hD hS L139 (kd tdlX9_makes_0 5 rfl) (fun H locs hP hD hS => ?_)
  refine lv_iconst (v := 0) hx hb (kd tdlX9_makes_0 6 rfl) (by decide) ?_
  refine lv_istore_n (lv' := [(2, .int 0), (0, .ref h0), (1, .int p1)]) hx hb (kd tdlX9_makes_0 7 rfl) rfl hl (by decide) rfl (fun ls hl => ?_)
  refine lp_ind (f := B_X9_makes_12 (md_chunkMany d0) v2 (md_chunks d0)) (r := r) (P := fun s12_ => ∀ (H : Heap) (locs : List Loc) (ls : Array Slot), va_P D vwCl ((wmdF t h0 a0 (md_thrown d0) s12_.2.1 (md_aside d0) (md_base d0) (md_saved d0) (md_savedMany d0) (md_slots d0) (md_hasSlot d0) (md_text d0) (md_length d0) (md_begins d0) (md_lengths d0) (md_streams d0) (md_letters d0) (md_letterMany d0) (md_chunks d0) (md_chunkMany d0) v2.1 v2.2 s12_.2.2.1 s12_.2.2.2.1 s12_.2.2.2.2 (md_path d0) (md_store d0) (md_thinOnes d0))) H → va_D A ((wmdF t h0 a0 (md_thrown d0) s12_.2.1 (md_aside d0) (md_base d0) (md_saved d0) (md_savedMany d0) (md_slots d0) (md_hasSlot d0) (md_text d0) (md_length d0) (md_begins d0) (md_lengths d0) (md_streams d0) (md_letters d0) (md_letterMany d0) (md_chunks d0) (md_chunkMany d0) v2.1 v2.2 s12_.2.2.1 s12_.2.2.2.1 s12_.2.2.2.2 (md_path d0) (md_store d0) (md_thinOnes d0))) → va_S A s.heap H locs → lv_has ls 5 [(0, .ref h0), (2, .int s12_.1)] → W p l e ({ frames := 4, cells := 0, slots := 0, locals := 88 } : Room) s m args below meth c H locs 0 0 (MQ below (kQv D (TY t) ((wmd t h0 a0 ((md_thrown d0), r.1, (md_aside d0), (md_base d0), (md_saved d0), (md_savedMany d0), (md_slots d0), (md_hasSlot d0), (md_text d0), (md_length d0), (md_begins d0), (md_lengths d0), (md_streams d0), (md_letters d0), (md_letterMany d0), (md_chunks d0), (md_chunkMany d0), r.2.1, r.2.2.1, r.2.2.2.1, r.2.2.2.2.1, r.2.2.2.2.2, (md_path d0), (md_store d0), (md_thinOnes d0)))) A) args s 0 0 A) (F0 m 12 ls [])) ?_ FU (0, (md_s d0), (md_madeIn d0), (md_madeAt d0), 0) hF _ _ _ hP hD hS (lv_sub hl [1, 0] rfl)
  intro self12 ih12 s12_ hF H locs ls hP hD hS hl
  refine lv_iload_n hx hb (kd tdlX9_makes_0 8 rfl) rfl (lv_at hl 1 rfl) ?_
  refine lv_aload_n hx hb (kd tdlX9_makes_0 9 rfl) rfl (lv_at hl 0 rfl) ?_
  refine md_g_chunkMany hx hb hts inX9_ hown hK hP L96 (kd tdlX9_makes_0 10 rfl) ?_
  refine lv_icmp_ge (tgt := 227) hx hb (kd tdlX9_makes_0 11 rfl) (by decide) (fun hc17 => ?_) (fun hc17 => ?_)
  · have hF := kt hc17 hF
    cases ko hF
    exact ke_v hx hb hr hlocks hK hP hD hS (kd tdlX9_makes_3 2 rfl)
  · have hF := kf hc17 hF
    refine lv_iconst (v := (-1)) hx hb (kd tdlX9_makes_0 12 rfl) (by decide) ?_
    refine lv_istore_n (lv' := [(3, .int (-1)), (0, .ref h0), (2, .int s12_.1)]) hx hb (kd tdlX9_makes_0 13 rfl) rfl hl (by decide) rfl (fun ls hl => ?_)
    refine lv_iload_n hx hb (kd tdlX9_makes_0 14 rfl) rfl (lv_at hl 2 rfl) ?_
    refine lv_iconst (v := 1) hx hb (kd tdlX9_makes_0 15 rfl) (by decide) ?_
    refine lv_isub hx hb (kd tdlX9_makes_0 16 rfl) ?_
    refine lv_istore (lv' := [(4, .int (s12_.1 - 1)), (3, .int (-1)), (0, .ref h0), (2, .int s12_.1)]) hx hb (kd tdlX9_makes_0 17 rfl) hl (by decide) rfl (fun ls hl => ?_)
    have hK71 : ∀ k71 : Int32, K_X9_makes_71 s12_ v2 (md_chunks d0) self12 k71 = some r → ∀ (H : Heap) (locs : List Loc) (ls : Array Slot), va_P D vwCl ((wmdF t h0 a0 (md_thrown d0) s12_.2.1 (md_aside d0) (md_base d0) (md_saved d0) (md_savedMany d0) (md_slots d0) (md_hasSlot d0) (md_text d0) (md_length d0) (md_begins d0) (md_lengths d0) (md_streams d0) (md_letters d0) (md_letterMany d0) (md_chunks d0) (md_chunkMany d0) v2.1 v2.2 s12_.2.2.1 s12_.2.2.2.1 s12_.2.2.2.2 (md_path d0) (md_store d0) (md_thinOnes d0))) H → va_D A ((wmdF t h0 a0 (md_thrown d0) s12_.2.1 (md_aside d0) (md_base d0) (md_saved d0) (md_savedMany d0) (md_slots d0) (md_hasSlot d0) (md_text d0) (md_length d0) (md_begins d0) (md_lengths d0) (md_streams d0) (md_letters d0) (md_letterMany d0) (md_chunks d0) (md_chunkMany d0) v2.1 v2.2 s12_.2.2.1 s12_.2.2.2.1 s12_.2.2.2.2 (md_path d0) (md_store d0) (md_thinOnes d0))) → va_S A s.heap H locs → lv_has ls 5 [(0, .ref h0), (2, .int s12_.1), (3, .int k71)] → W p l e ({ frames := 4, cells := 0, slots := 0, locals := 88 } : Room) s m args below meth c H locs 0 0 (MQ below (kQv D (TY t) ((wmd t h0 a0 ((md_thrown d0), r.1, (md_aside d0), (md_base d0), (md_saved d0), (md_savedMany d0), (md_slots d0), (md_hasSlot d0), (md_text d0), (md_length d0), (md_begins d0), (md_lengths d0), (md_streams d0), (md_letters d0), (md_letterMany d0), (md_chunks d0), (md_chunkMany d0), r.2.1, r.2.2.1, r.2.2.2.1, r.2.2.2.2.1, r.2.2.2.2.2, (md_path d0), (md_store d0), (md_thinOnes d0)))) A) args s 0 0 A) (F0 m 71 ls []) := by
      intro k71 hF H locs ls hP hD hS hl
      refine lv_aload_n hx hb (kd tdlX9_makes_0 41 rfl) rfl (lv_at hl 0 rfl) ?_
      refine md_g_homes hx hb hts inX9_ hown hK hP L44 (kd tdlX9_makes_0 42 rfl) ?_
      refine lv_iload_n hx hb (kd tdlX9_makes_0 43 rfl) rfl (lv_at hl 1 rfl) ?_
      obtain ⟨hi76, hF⟩ := kg hF
      refine md_l_homes hx hb hK hP hi76 (kd tdlX9_makes_0 44 rfl) ?_
      refine lv_iconst (v := (-1)) hx hb (kd tdlX9_makes_1 0 rfl) (by decide) ?_
      refine lv_icmp_eq (tgt := 122) hx hb (kd tdlX9_makes_1 1 rfl) (by decide) (fun hc78 => ?_) (fun hc78 => ?_)
      · have hF := kt hc78 hF
        refine lv_iload_n hx hb (kd tdlX9_makes_1 27 rfl) rfl (lv_at hl 2 rfl) ?_
        refine lv_iconst (v := (-1)) hx hb (kd tdlX9_makes_1 28 rfl) (by decide) ?_
        refine lv_icmp_eq (tgt := 154) hx hb (kd tdlX9_makes_1 29 rfl) (by decide) (fun hc124 => ?_) (fun hc124 => ?_)
        · have hF := kt hc124 hF
          refine lv_aload_n hx hb (kd tdlX9_makes_2 2 rfl) rfl (lv_at hl 0 rfl) ?_
          refine lv_aload_n hx hb (kd tdlX9_makes_2 3 rfl) rfl (lv_at hl 0 rfl) ?_
          refine md_g_chunks hx hb hts inX9_ hown hK hP L41 (kd tdlX9_makes_2 4 rfl) ?_
          refine lv_iload_n hx hb (kd tdlX9_makes_2 5 rfl) rfl (lv_at hl 1 rfl) ?_
          obtain ⟨hi160, hF⟩ := kg hF
          refine md_l_chunks hx hb hK hP hi160 (kd tdlX9_makes_2 6 rfl) ?_
          obtain ⟨v161, e161, hF⟩ := kc hF
          refine kc_v0 (w1 := ((wmdF t h0 a0 (md_thrown d0) v161 (md_aside d0) (md_base d0) (md_saved d0) (md_savedMany d0) (md_slots d0) (md_hasSlot d0) (md_text d0) (md_length d0) (md_begins d0) (md_lengths d0) (md_streams d0) (md_letters d0) (md_letterMany d0) (md_chunks d0) (md_chunkMany d0) v2.1 v2.2 s12_.2.2.1 s12_.2.2.2.1 s12_.2.2.2.2 (md_path d0) (md_store d0) (md_thinOnes d0)))) hP hD hS hA (kr_V0 (Qx := (fun A => kQv D (TY t) ((wmdF t h0 a0 (md_thrown d0) v161 (md_aside d0) (md_base d0) (md_saved d0) (md_savedMany d0) (md_slots d0) (md_hasSlot d0) (md_text d0) (md_length d0) (md_begins d0) (md_lengths d0) (md_streams d0) (md_letters d0) (md_letterMany d0) (md_chunks d0) (md_chunkMany d0) v2.1 v2.2 s12_.2.2.1 s12_.2.2.2.1 s12_.2.2.2.2 (md_path d0) (md_store d0) (md_thinOnes d0))) A)) (As := [.int ((md_chunks d0) (Int32.toNatClampNeg s12_.1))]) (rest := []) ⟨hx, hb, hml, hown, hts⟩ hK hP hD (c_X9_puts l D t h0 a0 ((md_thrown d0), s12_.2.1, (md_aside d0), (md_base d0), (md_saved d0), (md_savedMany d0), (md_slots d0), (md_hasSlot d0), (md_text d0), (md_length d0), (md_begins d0), (md_lengths d0), (md_streams d0), (md_letters d0), (md_letterMany d0), (md_chunks d0), (md_chunkMany d0), v2.1, v2.2, s12_.2.2.1, s12_.2.2.2.1, s12_.2.2.2.2, (md_path d0), (md_store d0), (md_thinOnes d0)) _ ((md_chunks d0) (Int32.toNatClampNeg s12_.1)) v161 e161) (cwV 1 hts (gcX9_puts w_755) rfl rfl rfl hdX9_putsV ⟨Nat.le_of_ble_eq_true rfl, Nat.le_of_ble_eq_true rfl⟩) (ci := 8) (q0 := 0) rfl rfl rfl hl.1 rfl (Nat.le_of_ble_eq_true rfl) (kd tdlX9_makes_2 7 rfl) ⟨Nat.zero_le _, Nat.zero_le _⟩) (fun H locs hP hD hS => ?_)
          refine lv_aload_n hx hb (kd tdlX9_makes_2 8 rfl) rfl (lv_at hl 0 rfl) ?_
          refine lv_aload_n hx hb (kd tdlX9_makes_2 9 rfl) rfl (lv_at hl 0 rfl) ?_
          refine md_g_s hx hb hts inX9_ hown hK hP L7 (kd tdlX9_makes_2 10 rfl) ?_
          refine lv_bipush (v := 7) hx hb (kd tdlX9_makes_2 11 rfl) (by decide) ?_
          obtain ⟨hi171, hF⟩ := kg hF
          refine md_l_s hx hb hK hP hi171 (kd tdlX9_makes_2 12 rfl) ?_
          refine lv_iconst (v := 1) hx hb (kd tdlX9_makes_2 13 rfl) (by decide) ?_
          refine lv_isub hx hb (kd tdlX9_makes_2 14 rfl) ?_
          obtain ⟨v174, e174, hF⟩ := kc hF
          refine kc_i0 (w1 := ((wmdF t h0 a0 (md_thrown d0) v161 (md_aside d0) (md_base d0) (md_saved d0) (md_savedMany d0) (md_slots d0) (md_hasSlot d0) (md_text d0) (md_length d0) (md_begins d0) (md_lengths d0) (md_streams d0) (md_letters d0) (md_letterMany d0) (md_chunks d0) (md_chunkMany d0) v2.1 v2.2 s12_.2.2.1 s12_.2.2.2.1 s12_.2.2.2.2 (md_path d0) (md_store d0) (md_thinOnes d0)))) hP hD hS hA (kr_V0 (Qx := (fun A => kQi D (TY t) ((wmdF t h0 a0 (md_thrown d0) v161 (md_aside d0) (md_base d0) (md_saved d0) (md_savedMany d0) (md_slots d0) (md_hasSlot d0) (md_text d0) (md_length d0) (md_begins d0) (md_lengths d0) (md_streams d0) (md_letters d0) (md_letterMany d0) (md_chunks d0) (md_chunkMany d0) v2.1 v2.2 s12_.2.2.1 s12_.2.2.2.1 s12_.2.2.2.2 (md_path d0) (md_store d0) (md_thinOnes d0))) v174 A)) (As := [.int ((v161 (Int32.toNatClampNeg 7)) - 1)]) (rest := []) ⟨hx, hb, hml, hown, hts⟩ hK hP hD (c_X9_at l D t h0 a0 ((md_thrown d0), v161, (md_aside d0), (md_base d0), (md_saved d0), (md_savedMany d0), (md_slots d0), (md_hasSlot d0), (md_text d0), (md_length d0), (md_begins d0), (md_lengths d0), (md_streams d0), (md_letters d0), (md_letterMany d0), (md_chunks d0), (md_chunkMany d0), v2.1, v2.2, s12_.2.2.1, s12_.2.2.2.1, s12_.2.2.2.2, (md_path d0), (md_store d0), (md_thinOnes d0)) _ ((v161 (Int32.toNatClampNeg 7)) - 1) v174 e174) (cwV 1 hts (gcX9_at w_306) rfl rfl rfl hdX9_atV ⟨Nat.le_of_ble_eq_true rfl, Nat.le_of_ble_eq_true rfl⟩) (ci := 8) (q0 := 0) rfl rfl rfl hl.1 rfl (Nat.le_of_ble_eq_true rfl) (kd tdlX9_makes_2 15 rfl) ⟨Nat.zero_le _, Nat.zero_le _⟩) (fun H locs hP hD hS => ?_)
          refine lv_istore (lv' := [(4, .int v174), (0, .ref h0), (2, .int s12_.1), (3, .int k71)]) hx hb (kd tdlX9_makes_2 16 rfl) hl (by decide) rfl (fun ls hl => ?_)
          refine lv_aload_n hx hb (kd tdlX9_makes_2 17 rfl) rfl (lv_at hl 1 rfl) ?_
          refine md_g_madeIn hx hb hts inX9_ hown hK hP L50 (kd tdlX9_makes_2 18 rfl) ?_
          refine lv_iload_n hx hb (kd tdlX9_makes_2 19 rfl) rfl (lv_at hl 2 rfl) ?_
          refine lv_aload_n hx hb (kd tdlX9_makes_2 20 rfl) rfl (lv_at hl 1 rfl) ?_
          refine md_g_s hx hb hts inX9_ hown hK hP L7 (kd tdlX9_makes_2 21 rfl) ?_
          refine lv_iload hx hb (kd tdlX9_makes_2 22 rfl) (lv_at hl 0 rfl) ?_
          refine lv_iconst (v := 0) hx hb (kd tdlX9_makes_2 23 rfl) (by decide) ?_
          refine lv_iadd hx hb (kd tdlX9_makes_2 24 rfl) ?_
          obtain ⟨hi192, hF⟩ := kg hF
          refine md_l_s hx hb hK hP hi192 (kd tdlX9_makes_2 25 rfl) ?_
          obtain ⟨hi193, hF⟩ := kg hF
          refine md_s_madeIn hx hb hK hP hD hS hi193 (kd tdlX9_makes_2 26 rfl) (fun H locs hP hD hS => ?_)
          refine lv_aload_n hx hb (kd tdlX9_makes_2 27 rfl) rfl (lv_at hl 1 rfl) ?_
          refine md_g_madeAt hx hb hts inX9_ hown hK hP L53 (kd tdlX9_makes_2 28 rfl) ?_
          refine lv_iload_n hx hb (kd tdlX9_makes_2 29 rfl) rfl (lv_at hl 2 rfl) ?_
          refine lv_aload_n hx hb (kd tdlX9_makes_2 30 rfl) rfl (lv_at hl 1 rfl) ?_
          refine md_g_s hx hb hts inX9_ hown hK hP L7 (kd tdlX9_makes_2 31 rfl) ?_
          refine lv_iload hx hb (kd tdlX9_makes_2 32 rfl) (lv_at hl 0 rfl) ?_
          refine lv_iconst (v := 2) hx hb (kd tdlX9_makes_2 33 rfl) (by decide) ?_
          refine lv_iadd hx hb (kd tdlX9_makes_2 34 rfl) ?_
          obtain ⟨hi207, hF⟩ := kg hF
          refine md_l_s hx hb hK hP hi207 (kd tdlX9_makes_2 35 rfl) ?_
          refine lv_iconst (v := 1) hx hb (kd tdlX9_makes_2 36 rfl) (by decide) ?_
          refine lv_isub hx hb (kd tdlX9_makes_2 37 rfl) ?_
          obtain ⟨hi210, hF⟩ := kg hF
          refine md_s_madeAt hx hb hK hP hD hS hi210 (kd tdlX9_makes_2 38 rfl) (fun H locs hP hD hS => ?_)
          refine lv_aload_n hx hb (kd tdlX9_makes_2 39 rfl) rfl (lv_at hl 1 rfl) ?_
          refine lv_dup hx hb (kd tdlX9_makes_2 40 rfl) rfl ?_
          refine md_g_putMany hx hb hts inX9_ hown hK hP L139 (kd tdlX9_makes_2 41 rfl) ?_
          refine lv_iconst (v := 1) hx hb (kd tdlX9_makes_2 42 rfl) (by decide) ?_
          refine lv_iadd hx hb (kd tdlX9_makes_2 43 rfl) ?_
          refine md_p_putMany hx hb hts inX9_ hown hK hP hD hS L139 (kd tdlX9_makes_2 44 rfl) (fun H locs hP hD hS => ?_)
          refine lv_iinc (v := (s12_.1 + 1)) (lv' := [(2, .int (s12_.1 + 1)), (4, .int v174), (0, .ref h0), (3, .int k71)]) hx hb (kd tdlX9_makes_3 0 rfl) hl (k := 2) rfl rfl (by decide) rfl (fun ls hl => ?_)
          refine lv_goto (tgt := 12) hx hb (kd tdlX9_makes_3 1 rfl) (by decide) ?_
          exact ih12 ((s12_.1 + 1), v161, (upd s12_.2.2.1 (Int32.toNatClampNeg s12_.1) (v161 (Int32.toNatClampNeg (v174 + 0)))), (upd s12_.2.2.2.1 (Int32.toNatClampNeg s12_.1) ((v161 (Int32.toNatClampNeg (v174 + 2))) - 1)), (s12_.2.2.2.2 + 1)) hF _ _ _ hP hD hS (lv_sub hl [2, 0] rfl)
        · have hF := kf hc124 hF
          refine lv_aload_n hx hb (kd tdlX9_makes_1 30 rfl) rfl (lv_at hl 0 rfl) ?_
          refine md_g_madeIn hx hb hts inX9_ hown hK hP L50 (kd tdlX9_makes_1 31 rfl) ?_
          refine lv_iload_n hx hb (kd tdlX9_makes_1 32 rfl) rfl (lv_at hl 1 rfl) ?_
          refine lv_aload_n hx hb (kd tdlX9_makes_1 33 rfl) rfl (lv_at hl 0 rfl) ?_
          refine md_g_madeIn hx hb hts inX9_ hown hK hP L50 (kd tdlX9_makes_1 34 rfl) ?_
          refine lv_iload_n hx hb (kd tdlX9_makes_1 35 rfl) rfl (lv_at hl 2 rfl) ?_
          obtain ⟨hi137, hF⟩ := kg hF
          refine md_l_madeIn hx hb hK hP hi137 (kd tdlX9_makes_1 36 rfl) ?_
          obtain ⟨hi138, hF⟩ := kg hF
          refine md_s_madeIn hx hb hK hP hD hS hi138 (kd tdlX9_makes_1 37 rfl) (fun H locs hP hD hS => ?_)
          refine lv_aload_n hx hb (kd tdlX9_makes_1 38 rfl) rfl (lv_at hl 0 rfl) ?_
          refine md_g_madeAt hx hb hts inX9_ hown hK hP L53 (kd tdlX9_makes_1 39 rfl) ?_
          refine lv_iload_n hx hb (kd tdlX9_makes_1 40 rfl) rfl (lv_at hl 1 rfl) ?_
          refine lv_aload_n hx hb (kd tdlX9_makes_1 41 rfl) rfl (lv_at hl 0 rfl) ?_
          refine md_g_madeAt hx hb hts inX9_ hown hK hP L53 (kd tdlX9_makes_1 42 rfl) ?_
          refine lv_iload_n hx hb (kd tdlX9_makes_1 43 rfl) rfl (lv_at hl 2 rfl) ?_
          obtain ⟨hi149, hF⟩ := kg hF
          refine md_l_madeAt hx hb hK hP hi149 (kd tdlX9_makes_1 44 rfl) ?_
          obtain ⟨hi150, hF⟩ := kg hF
          refine md_s_madeAt hx hb hK hP hD hS hi150 (kd tdlX9_makes_2 0 rfl) (fun H locs hP hD hS => ?_)
          refine lv_goto (tgt := 221) hx hb (kd tdlX9_makes_2 1 rfl) (by decide) ?_
          refine lv_iinc (v := (s12_.1 + 1)) (lv' := [(2, .int (s12_.1 + 1)), (0, .ref h0), (3, .int k71)]) hx hb (kd tdlX9_makes_3 0 rfl) hl (k := 1) rfl rfl (by decide) rfl (fun ls hl => ?_)
          refine lv_goto (tgt := 12) hx hb (kd tdlX9_makes_3 1 rfl) (by decide) ?_
          exact ih12 ((s12_.1 + 1), s12_.2.1, (upd s12_.2.2.1 (Int32.toNatClampNeg s12_.1) (s12_.2.2.1 (Int32.toNatClampNeg k71))), (upd s12_.2.2.2.1 (Int32.toNatClampNeg s12_.1) (s12_.2.2.2.1 (Int32.toNatClampNeg k71))), s12_.2.2.2.2) hF _ _ _ hP hD hS (lv_sub hl [1, 0] rfl)
      · have hF := kf hc78 hF
        refine lv_aload_n hx hb (kd tdlX9_makes_1 2 rfl) rfl (lv_at hl 0 rfl) ?_
        refine md_g_madeIn hx hb hts inX9_ hown hK hP L50 (kd tdlX9_makes_1 3 rfl) ?_
        refine lv_iload_n hx hb (kd tdlX9_makes_1 4 rfl) rfl (lv_at hl 1 rfl) ?_
        refine lv_aload_n hx hb (kd tdlX9_makes_1 5 rfl) rfl (lv_at hl 0 rfl) ?_
        refine md_g_homes hx hb hts inX9_ hown hK hP L44 (kd tdlX9_makes_1 6 rfl) ?_
        refine lv_iload_n hx hb (kd tdlX9_makes_1 7 rfl) rfl (lv_at hl 1 rfl) ?_
        obtain ⟨hi91, hF⟩ := kg hF
        refine md_l_homes hx hb hK hP hi91 (kd tdlX9_makes_1 8 rfl) ?_
        obtain ⟨hi92, hF⟩ := kg hF
        refine md_s_madeIn hx hb hK hP hD hS hi92 (kd tdlX9_makes_1 9 rfl) (fun H locs hP hD hS => ?_)
        refine lv_aload_n hx hb (kd tdlX9_makes_1 10 rfl) rfl (lv_at hl 0 rfl) ?_
        refine md_g_madeAt hx hb hts inX9_ hown hK hP L53 (kd tdlX9_makes_1 11 rfl) ?_
        refine lv_iload_n hx hb (kd tdlX9_makes_1 12 rfl) rfl (lv_at hl 1 rfl) ?_
        refine lv_aload_n hx hb (kd tdlX9_makes_1 13 rfl) rfl (lv_at hl 0 rfl) ?_
        refine lv_aload_n hx hb (kd tdlX9_makes_1 14 rfl) rfl (lv_at hl 0 rfl) ?_
        refine lv_aload_n hx hb (kd tdlX9_makes_1 15 rfl) rfl (lv_at hl 0 rfl) ?_
        refine md_g_homes hx hb hts inX9_ hown hK hP L44 (kd tdlX9_makes_1 16 rfl) ?_
        refine lv_iload_n hx hb (kd tdlX9_makes_1 17 rfl) rfl (lv_at hl 1 rfl) ?_
        obtain ⟨hi105, hF⟩ := kg hF
        refine md_l_homes hx hb hK hP hi105 (kd tdlX9_makes_1 18 rfl) ?_
        obtain ⟨v106, e106, hF⟩ := kc hF
        refine kc_i0 (w1 := ((wmdF t h0 a0 (md_thrown d0) s12_.2.1 (md_aside d0) (md_base d0) (md_saved d0) (md_savedMany d0) (md_slots d0) (md_hasSlot d0) (md_text d0) (md_length d0) (md_begins d0) (md_lengths d0) (md_streams d0) (md_letters d0) (md_letterMany d0) (md_chunks d0) (md_chunkMany d0) v2.1 v2.2 (upd s12_.2.2.1 (Int32.toNatClampNeg s12_.1) (v2.1 (Int32.toNatClampNeg s12_.1))) s12_.2.2.2.1 s12_.2.2.2.2 (md_path d0) (md_store d0) (md_thinOnes d0)))) hP hD hS hA (kr_V0 (Qx := (fun A => kQi D (TY t) ((wmdF t h0 a0 (md_thrown d0) s12_.2.1 (md_aside d0) (md_base d0) (md_saved d0) (md_savedMany d0) (md_slots d0) (md_hasSlot d0) (md_text d0) (md_length d0) (md_begins d0) (md_lengths d0) (md_streams d0) (md_letters d0) (md_letterMany d0) (md_chunks d0) (md_chunkMany d0) v2.1 v2.2 (upd s12_.2.2.1 (Int32.toNatClampNeg s12_.1) (v2.1 (Int32.toNatClampNeg s12_.1))) s12_.2.2.2.1 s12_.2.2.2.2 (md_path d0) (md_store d0) (md_thinOnes d0))) v106 A)) (As := [.int (v2.1 (Int32.toNatClampNeg s12_.1))]) (rest := [.ref h0, .int s12_.1, .ref (a0 14)]) ⟨hx, hb, hml, hown, hts⟩ hK hP hD (c_X9_slotOf l D t h0 a0 ((md_thrown d0), s12_.2.1, (md_aside d0), (md_base d0), (md_saved d0), (md_savedMany d0), (md_slots d0), (md_hasSlot d0), (md_text d0), (md_length d0), (md_begins d0), (md_lengths d0), (md_streams d0), (md_letters d0), (md_letterMany d0), (md_chunks d0), (md_chunkMany d0), v2.1, v2.2, (upd s12_.2.2.1 (Int32.toNatClampNeg s12_.1) (v2.1 (Int32.toNatClampNeg s12_.1))), s12_.2.2.2.1, s12_.2.2.2.2, (md_path d0), (md_store d0), (md_thinOnes d0)) _ (v2.1 (Int32.toNatClampNeg s12_.1)) v106 e106) (cwV 1 hts (gcX9_slotOf w_479) rfl rfl rfl hdX9_slotOfV ⟨Nat.le_of_ble_eq_true rfl, Nat.le_of_ble_eq_true rfl⟩) (ci := 8) (q0 := 0) rfl rfl rfl hl.1 rfl (Nat.le_of_ble_eq_true rfl) (kd tdlX9_makes_1 19 rfl) ⟨Nat.zero_le _, Nat.zero_le _⟩) (fun H locs hP hD hS => ?_)
        refine lv_aload_n hx hb (kd tdlX9_makes_1 20 rfl) rfl (lv_at hl 0 rfl) ?_
        refine md_g_chunks hx hb hts inX9_ hown hK hP L41 (kd tdlX9_makes_1 21 rfl) ?_
        refine lv_iload_n hx hb (kd tdlX9_makes_1 22 rfl) rfl (lv_at hl 1 rfl) ?_
        obtain ⟨hi114, hF⟩ := kg hF
        refine md_l_chunks hx hb hK hP hi114 (kd tdlX9_makes_1 23 rfl) ?_
        obtain ⟨v115, e115, hF⟩ := kc hF
        refine kc_i0 (w1 := ((wmdF t h0 a0 (md_thrown d0) s12_.2.1 (md_aside d0) (md_base d0) (md_saved d0) (md_savedMany d0) (md_slots d0) (md_hasSlot d0) (md_text d0) (md_length d0) (md_begins d0) (md_lengths d0) (md_streams d0) (md_letters d0) (md_letterMany d0) (md_chunks d0) (md_chunkMany d0) v2.1 v2.2 (upd s12_.2.2.1 (Int32.toNatClampNeg s12_.1) (v2.1 (Int32.toNatClampNeg s12_.1))) s12_.2.2.2.1 s12_.2.2.2.2 (md_path d0) (md_store d0) (md_thinOnes d0)))) hP hD hS hA (kr_V0 (Qx := (fun A => kQi D (TY t) ((wmdF t h0 a0 (md_thrown d0) s12_.2.1 (md_aside d0) (md_base d0) (md_saved d0) (md_savedMany d0) (md_slots d0) (md_hasSlot d0) (md_text d0) (md_length d0) (md_begins d0) (md_lengths d0) (md_streams d0) (md_letters d0) (md_letterMany d0) (md_chunks d0) (md_chunkMany d0) v2.1 v2.2 (upd s12_.2.2.1 (Int32.toNatClampNeg s12_.1) (v2.1 (Int32.toNatClampNeg s12_.1))) s12_.2.2.2.1 s12_.2.2.2.2 (md_path d0) (md_store d0) (md_thinOnes d0))) v115 A)) (As := [.int v106, .int ((md_chunks d0) (Int32.toNatClampNeg s12_.1))]) (rest := [.int s12_.1, .ref (a0 14)]) ⟨hx, hb, hml, hown, hts⟩ hK hP hD (c_X9_entryOf l D t h0 a0 ((md_thrown d0), s12_.2.1, (md_aside d0), (md_base d0), (md_saved d0), (md_savedMany d0), (md_slots d0), (md_hasSlot d0), (md_text d0), (md_length d0), (md_begins d0), (md_lengths d0), (md_streams d0), (md_letters d0), (md_letterMany d0), (md_chunks d0), (md_chunkMany d0), v2.1, v2.2, (upd s12_.2.2.1 (Int32.toNatClampNeg s12_.1) (v2.1 (Int32.toNatClampNeg s12_.1))), s12_.2.2.2.1, s12_.2.2.2.2, (md_path d0), (md_store d0), (md_thinOnes d0)) _ v106 ((md_chunks d0) (Int32.toNatClampNeg s12_.1)) v115 e115) (cwV 2 hts (gcX9_entryOf w_302) rfl rfl rfl hdX9_entryOfV ⟨Nat.le_of_ble_eq_true rfl, Nat.le_of_ble_eq_true rfl⟩) (ci := 8) (q0 := 0) rfl rfl rfl hl.1 rfl (Nat.le_of_ble_eq_true rfl) (kd tdlX9_makes_1 24 rfl) ⟨Nat.zero_le _, Nat.zero_le _⟩) (fun H locs hP hD hS => ?_)
        obtain ⟨hi118, hF⟩ := kg hF
        refine md_s_madeAt hx hb hK hP hD hS hi118 (kd tdlX9_makes_1 25 rfl) (fun H locs hP hD hS => ?_)
        refine lv_goto (tgt := 221) hx hb (kd tdlX9_makes_1 26 rfl) (by decide) ?_
        refine lv_iinc (v := (s12_.1 + 1)) (lv' := [(2, .int (s12_.1 + 1)), (0, .ref h0), (3, .int k71)]) hx hb (kd tdlX9_makes_3 0 rfl) hl (k := 1) rfl rfl (by decide) rfl (fun ls hl => ?_)
        refine lv_goto (tgt := 12) hx hb (kd tdlX9_makes_3 1 rfl) (by decide) ?_
        exact ih12 ((s12_.1 + 1), s12_.2.1, (upd s12_.2.2.1 (Int32.toNatClampNeg s12_.1) (v2.1 (Int32.toNatClampNeg s12_.1))), (upd s12_.2.2.2.1 (Int32.toNatClampNeg s12_.1) v115), s12_.2.2.2.2) hF _ _ _ hP hD hS (lv_sub hl [1, 0] rfl)
    refine lp_ind (f := B_X9_makes_27 s12_ v2 (md_chunks d0) (K_X9_makes_71 s12_ v2 (md_chunks d0) self12)) (r := r) (P := fun s27_ => ∀ (H : Heap) (locs : List Loc) (ls : Array Slot), va_P D vwCl ((wmdF t h0 a0 (md_thrown d0) s12_.2.1 (md_aside d0) (md_base d0) (md_saved d0) (md_savedMany d0) (md_slots d0) (md_hasSlot d0) (md_text d0) (md_length d0) (md_begins d0) (md_lengths d0) (md_streams d0) (md_letters d0) (md_letterMany d0) (md_chunks d0) (md_chunkMany d0) v2.1 v2.2 s12_.2.2.1 s12_.2.2.2.1 s12_.2.2.2.2 (md_path d0) (md_store d0) (md_thinOnes d0))) H → va_D A ((wmdF t h0 a0 (md_thrown d0) s12_.2.1 (md_aside d0) (md_base d0) (md_saved d0) (md_savedMany d0) (md_slots d0) (md_hasSlot d0) (md_text d0) (md_length d0) (md_begins d0) (md_lengths d0) (md_streams d0) (md_letters d0) (md_letterMany d0) (md_chunks d0) (md_chunkMany d0) v2.1 v2.2 s12_.2.2.1 s12_.2.2.2.1 s12_.2.2.2.2 (md_path d0) (md_store d0) (md_thinOnes d0))) → va_S A s.heap H locs → lv_has ls 5 [(0, .ref h0), (2, .int s12_.1), (3, .int s27_.1), (4, .int s27_.2)] → W p l e ({ frames := 4, cells := 0, slots := 0, locals := 88 } : Room) s m args below meth c H locs 0 0 (MQ below (kQv D (TY t) ((wmd t h0 a0 ((md_thrown d0), r.1, (md_aside d0), (md_base d0), (md_saved d0), (md_savedMany d0), (md_slots d0), (md_hasSlot d0), (md_text d0), (md_length d0), (md_begins d0), (md_lengths d0), (md_streams d0), (md_letters d0), (md_letterMany d0), (md_chunks d0), (md_chunkMany d0), r.2.1, r.2.2.1, r.2.2.2.1, r.2.2.2.2.1, r.2.2.2.2.2, (md_path d0), (md_store d0), (md_thinOnes d0)))) A) args s 0 0 A) (F0 m 27 ls [])) ?_ FU ((-1), (s12_.1 - 1)) hF _ _ _ hP hD hS (lv_sub hl [2, 3, 1, 0] rfl)
    intro self27 ih27 s27_ hF H locs ls hP hD hS hl
    refine lv_iload hx hb (kd tdlX9_makes_0 18 rfl) (lv_at hl 3 rfl) ?_
    refine lv_if_lt (tgt := 71) hx hb (kd tdlX9_makes_0 19 rfl) (by decide) (fun hc29 => ?_) (fun hc29 => ?_)
    · have hF := kt hc29 hF
      exact hK71 (s27_.1) hF _ _ _ hP hD hS (lv_sub hl [0, 1, 2] rfl)
    · have hF := kf hc29 hF
      refine lv_aload_n hx hb (kd tdlX9_makes_0 20 rfl) rfl (lv_at hl 0 rfl) ?_
      refine md_g_homes hx hb hts inX9_ hown hK hP L44 (kd tdlX9_makes_0 21 rfl) ?_
      refine lv_iload_n hx hb (kd tdlX9_makes_0 22 rfl) rfl (lv_at hl 1 rfl) ?_
      obtain ⟨hi37, hF⟩ := kg hF
      refine md_l_homes hx hb hK hP hi37 (kd tdlX9_makes_0 23 rfl) ?_
      refine lv_iconst (v := (-1)) hx hb (kd tdlX9_makes_0 24 rfl) (by decide) ?_
      refine lv_icmp_ne (tgt := 71) hx hb (kd tdlX9_makes_0 25 rfl) (by decide) (fun hc39 => ?_) (fun hc39 => ?_)
      · have hF := kf hc39 hF
        exact hK71 (s27_.1) hF _ _ _ hP hD hS (lv_sub hl [0, 1, 2] rfl)
      · have hF := kt hc39 hF
        refine lv_aload_n hx hb (kd tdlX9_makes_0 26 rfl) rfl (lv_at hl 0 rfl) ?_
        refine md_g_chunks hx hb hts inX9_ hown hK hP L41 (kd tdlX9_makes_0 27 rfl) ?_
        refine lv_iload hx hb (kd tdlX9_makes_0 28 rfl) (lv_at hl 3 rfl) ?_
        obtain ⟨hi48, hF⟩ := kg hF
        refine md_l_chunks hx hb hK hP hi48 (kd tdlX9_makes_0 29 rfl) ?_
        refine lv_aload_n hx hb (kd tdlX9_makes_0 30 rfl) rfl (lv_at hl 0 rfl) ?_
        refine md_g_chunks hx hb hts inX9_ hown hK hP L41 (kd tdlX9_makes_0 31 rfl) ?_
        refine lv_iload_n hx hb (kd tdlX9_makes_0 32 rfl) rfl (lv_at hl 1 rfl) ?_
        obtain ⟨hi54, hF⟩ := kg hF
        refine md_l_chunks hx hb hK hP hi54 (kd tdlX9_makes_0 33 rfl) ?_
        refine lv_icmp_ne (tgt := 63) hx hb (kd tdlX9_makes_0 34 rfl) (by decide) (fun hc55 => ?_) (fun hc55 => ?_)
        · have hF := kf hc55 hF
          refine lv_iload_n hx hb (kd tdlX9_makes_0 37 rfl) rfl (lv_at hl 2 rfl) ?_
          refine lv_istore_n (lv' := [(3, .int s27_.1), (0, .ref h0), (2, .int s12_.1), (4, .int s27_.2)]) hx hb (kd tdlX9_makes_0 38 rfl) rfl hl (by decide) rfl (fun ls hl => ?_)
          refine lv_iinc (v := (s27_.2 + (-1))) (lv' := [(4, .int (s27_.2 + (-1))), (3, .int s27_.1), (0, .ref h0), (2, .int s12_.1)]) hx hb (kd tdlX9_makes_0 39 rfl) hl (k := 3) rfl rfl (by decide) rfl (fun ls hl => ?_)
          refine lv_goto (tgt := 27) hx hb (kd tdlX9_makes_0 40 rfl) (by decide) ?_
          exact ih27 (s27_.1, (s27_.2 + (-1))) hF _ _ _ hP hD hS (lv_sub hl [2, 3, 1, 0] rfl)
        · have hF := kt hc55 hF
          refine lv_iload hx hb (kd tdlX9_makes_0 35 rfl) (lv_at hl 3 rfl) ?_
          refine lv_goto (tgt := 64) hx hb (kd tdlX9_makes_0 36 rfl) (by decide) ?_
          refine lv_istore_n (lv' := [(3, .int s27_.2), (0, .ref h0), (2, .int s12_.1), (4, .int s27_.2)]) hx hb (kd tdlX9_makes_0 38 rfl) rfl hl (by decide) rfl (fun ls hl => ?_)
          refine lv_iinc (v := (s27_.2 + (-1))) (lv' := [(4, .int (s27_.2 + (-1))), (3, .int s27_.2), (0, .ref h0), (2, .int s12_.1)]) hx hb (kd tdlX9_makes_0 39 rfl) hl (k := 3) rfl rfl (by decide) rfl (fun ls hl => ?_)
          refine lv_goto (tgt := 27) hx hb (kd tdlX9_makes_0 40 rfl) (by decide) ?_
          exact ih27 (s27_.2, (s27_.2 + (-1))) hF _ _ _ hP hD hS (lv_sub hl [2, 3, 1, 0] rfl)
set_option maxHeartbeats 4000000 in
set_option maxRecDepth 100000 in
theorem c_X9_freeBackup (l : Launch) (D : va_G) (t : Nat → ClassId) (h0 : Nat) (a0 : Nat → Nat) (d0 : MDT) (sz : Nat)  (r : Int32) (hF : F_X9_freeBackup (md_s d0) = some r) : Met l yX9_freeBackup wX9_freeBackup ({ frames := 1, cells := 0, slots := 0, locals := 21 } : Room) (kPc D (TY t) ((wmd t h0 a0 d0)) [.ref h0] sz) (kQi D (TY t) ((wmd t h0 a0 d0)) r (va_A ((wmd t h0 a0 d0)) sz)) 0 0 (va_A ((wmd t h0 a0 d0)) sz) := by
  refine kE (cc := cX9_freeBackup) (maxL := 2) (ret := (some .int)) (Qx := fun A => kQi D (TY t) ((wmd t h0 a0 d0)) r A) (lv0 := [(0, .ref h0)]) RX9 rfl (by decide) rfl (Nat.le_of_ble_eq_true rfl) rfl ?_
  intro p e s m args below meth c A ls hx hb hml hr hlocks hown hts hA hK hP hD hS hl
  have L7 := hts (.fieldLink RX9 7 "ChunkCarriersModel" "s" "[I") (List.mem_cons_of_mem _ w_101)
  have inX9_ : ∀ w ∈ wsX90, w ∈ wX9_freeBackup := fun w h => List.mem_cons_of_mem _ (inlX9 w h)
  have hP : va_P D vwCl ((wmdF t h0 a0 (md_thrown d0) (md_s d0) (md_aside d0) (md_base d0) (md_saved d0) (md_savedMany d0) (md_slots d0) (md_hasSlot d0) (md_text d0) (md_length d0) (md_begins d0) (md_lengths d0) (md_streams d0) (md_letters d0) (md_letterMany d0) (md_chunks d0) (md_chunkMany d0) (md_homes d0) (md_dropped d0) (md_madeIn d0) (md_madeAt d0) (md_putMany d0) (md_path d0) (md_store d0) (md_thinOnes d0))) s.heap := hP
  have hD : va_D A ((wmdF t h0 a0 (md_thrown d0) (md_s d0) (md_aside d0) (md_base d0) (md_saved d0) (md_savedMany d0) (md_slots d0) (md_hasSlot d0) (md_text d0) (md_length d0) (md_begins d0) (md_lengths d0) (md_streams d0) (md_letters d0) (md_letterMany d0) (md_chunks d0) (md_chunkMany d0) (md_homes d0) (md_dropped d0) (md_madeIn d0) (md_madeAt d0) (md_putMany d0) (md_path d0) (md_store d0) (md_thinOnes d0))) := hD
  refine lv_iconst (v := 0) hx hb (kd tdlX9_freeBackup_0 0 rfl) (by decide) ?_
  refine lv_istore_n (lv' := [(1, .int 0), (0, .ref h0)]) hx hb (kd tdlX9_freeBackup_0 1 rfl) rfl hl (by decide) rfl (fun ls hl => ?_)
  refine lp_ind (f := B_X9_freeBackup_2 (md_s d0)) (r := r) (P := fun s2_ => ∀ (H : Heap) (locs : List Loc) (ls : Array Slot), va_P D vwCl ((wmdF t h0 a0 (md_thrown d0) (md_s d0) (md_aside d0) (md_base d0) (md_saved d0) (md_savedMany d0) (md_slots d0) (md_hasSlot d0) (md_text d0) (md_length d0) (md_begins d0) (md_lengths d0) (md_streams d0) (md_letters d0) (md_letterMany d0) (md_chunks d0) (md_chunkMany d0) (md_homes d0) (md_dropped d0) (md_madeIn d0) (md_madeAt d0) (md_putMany d0) (md_path d0) (md_store d0) (md_thinOnes d0))) H → va_D A ((wmdF t h0 a0 (md_thrown d0) (md_s d0) (md_aside d0) (md_base d0) (md_saved d0) (md_savedMany d0) (md_slots d0) (md_hasSlot d0) (md_text d0) (md_length d0) (md_begins d0) (md_lengths d0) (md_streams d0) (md_letters d0) (md_letterMany d0) (md_chunks d0) (md_chunkMany d0) (md_homes d0) (md_dropped d0) (md_madeIn d0) (md_madeAt d0) (md_putMany d0) (md_path d0) (md_store d0) (md_thinOnes d0))) → va_S A s.heap H locs → lv_has ls 2 [(0, .ref h0), (1, .int s2_)] → W p l e ({ frames := 1, cells := 0, slots := 0, locals := 21 } : Room) s m args below meth c H locs 0 0 (MQ below (kQi D (TY t) ((wmd t h0 a0 d0)) r A) args s 0 0 A) (F0 m 2 ls [])) ?_ FU (0) hF _ _ _ hP hD hS (lv_sub hl [1, 0] rfl)
  intro self2 ih2 s2_ hF H locs ls hP hD hS hl
  refine lv_iload_n hx hb (kd tdlX9_freeBackup_0 2 rfl) rfl (lv_at hl 1 rfl) ?_
  refine lv_bipush (v := 8) hx hb (kd tdlX9_freeBackup_0 3 rfl) (by decide) ?_
  refine lv_icmp_ge (tgt := 31) hx hb (kd tdlX9_freeBackup_0 4 rfl) (by decide) (fun hc5 => ?_) (fun hc5 => ?_)
  · have hF := kt hc5 hF
    refine lv_iconst (v := (-1)) hx hb (kd tdlX9_freeBackup_0 18 rfl) (by decide) ?_
    cases ko hF
    exact ke_i hx hb hr hlocks hK hP hD hS rfl (kd tdlX9_freeBackup_0 19 rfl)
  · have hF := kf hc5 hF
    refine lv_aload_n hx hb (kd tdlX9_freeBackup_0 5 rfl) rfl (lv_at hl 0 rfl) ?_
    refine md_g_s hx hb hts inX9_ hown hK hP L7 (kd tdlX9_freeBackup_0 6 rfl) ?_
    refine lv_aload_n hx hb (kd tdlX9_freeBackup_0 7 rfl) rfl (lv_at hl 0 rfl) ?_
    refine lv_iload_n hx hb (kd tdlX9_freeBackup_0 8 rfl) rfl (lv_at hl 1 rfl) ?_
    obtain ⟨v14, e14, hF⟩ := kc hF
    refine kc_i0 (w1 := ((wmdF t h0 a0 (md_thrown d0) (md_s d0) (md_aside d0) (md_base d0) (md_saved d0) (md_savedMany d0) (md_slots d0) (md_hasSlot d0) (md_text d0) (md_length d0) (md_begins d0) (md_lengths d0) (md_streams d0) (md_letters d0) (md_letterMany d0) (md_chunks d0) (md_chunkMany d0) (md_homes d0) (md_dropped d0) (md_madeIn d0) (md_madeAt d0) (md_putMany d0) (md_path d0) (md_store d0) (md_thinOnes d0)))) hP hD hS hA (kr_V0 (Qx := (fun A => kQi D (TY t) ((wmdF t h0 a0 (md_thrown d0) (md_s d0) (md_aside d0) (md_base d0) (md_saved d0) (md_savedMany d0) (md_slots d0) (md_hasSlot d0) (md_text d0) (md_length d0) (md_begins d0) (md_lengths d0) (md_streams d0) (md_letters d0) (md_letterMany d0) (md_chunks d0) (md_chunkMany d0) (md_homes d0) (md_dropped d0) (md_madeIn d0) (md_madeAt d0) (md_putMany d0) (md_path d0) (md_store d0) (md_thinOnes d0))) v14 A)) (As := [.int s2_]) (rest := [.ref (a0 0)]) ⟨hx, hb, hml, hown, hts⟩ hK hP hD (c_X9_backupAt l D t h0 a0 d0 _ s2_ v14 e14) (cwV 1 hts (gcX9_backupAt w_382) rfl rfl rfl hdX9_backupAtV ⟨Nat.le_of_ble_eq_true rfl, Nat.le_of_ble_eq_true rfl⟩) (ci := 8) (q0 := 0) rfl rfl rfl hl.1 rfl (Nat.le_of_ble_eq_true rfl) (kd tdlX9_freeBackup_0 9 rfl) ⟨Nat.zero_le _, Nat.zero_le _⟩) (fun H locs hP hD hS => ?_)
    refine lv_iconst (v := 0) hx hb (kd tdlX9_freeBackup_0 10 rfl) (by decide) ?_
    refine lv_iadd hx hb (kd tdlX9_freeBackup_0 11 rfl) ?_
    obtain ⟨hi19, hF⟩ := kg hF
    refine md_l_s hx hb hK hP hi19 (kd tdlX9_freeBackup_0 12 rfl) ?_
    refine lv_if_ne (tgt := 25) hx hb (kd tdlX9_freeBackup_0 13 rfl) (by decide) (fun hc20 => ?_) (fun hc20 => ?_)
    · have hF := kf hc20 hF
      refine lv_iinc (v := (s2_ + 1)) (lv' := [(1, .int (s2_ + 1)), (0, .ref h0)]) hx hb (kd tdlX9_freeBackup_0 16 rfl) hl (k := 1) rfl rfl (by decide) rfl (fun ls hl => ?_)
      refine lv_goto (tgt := 2) hx hb (kd tdlX9_freeBackup_0 17 rfl) (by decide) ?_
      exact ih2 ((s2_ + 1)) hF _ _ _ hP hD hS (lv_sub hl [1, 0] rfl)
    · have hF := kt hc20 hF
      refine lv_iload_n hx hb (kd tdlX9_freeBackup_0 14 rfl) rfl (lv_at hl 1 rfl) ?_
      cases ko hF
      exact ke_i hx hb hr hlocks hK hP hD hS rfl (kd tdlX9_freeBackup_0 15 rfl)
set_option maxHeartbeats 4000000 in
set_option maxRecDepth 100000 in
theorem c_X9_backs (l : Launch) (D : va_G) (t : Nat → ClassId) (h0 : Nat) (a0 : Nat → Nat) (d0 : MDT) (sz : Nat)  (r : Int32 × MDT) (hF : F_X9_backs d0 = some r) : Met l yX9_backs wX9_backs ({ frames := 5, cells := 0, slots := 0, locals := 112 } : Room) (kPc D (TY t) ((wmd t h0 a0 d0)) [.ref h0] sz) (kQi D (TY t) ((wmd t h0 a0 r.2)) r.1 (va_A ((wmd t h0 a0 d0)) sz)) 0 0 (va_A ((wmd t h0 a0 d0)) sz) := by
  refine kE (cc := cX9_backs) (maxL := 4) (ret := (some .int)) (Qx := fun A => kQi D (TY t) ((wmd t h0 a0 r.2)) r.1 A) (lv0 := [(0, .ref h0)]) RX9 rfl (by decide) rfl (Nat.le_of_ble_eq_true rfl) rfl ?_
  intro p e s m args below meth c A ls hx hb hml hr hlocks hown hts hA hK hP hD hS hl
  have L50 := hts (.fieldLink RX9 50 "ChunkCarriersModel" "madeIn" "[I") (List.mem_cons_of_mem _ w_114)
  have L53 := hts (.fieldLink RX9 53 "ChunkCarriersModel" "madeAt" "[I") (List.mem_cons_of_mem _ w_115)
  have L7 := hts (.fieldLink RX9 7 "ChunkCarriersModel" "s" "[I") (List.mem_cons_of_mem _ w_101)
  have L96 := hts (.fieldLink RX9 96 "ChunkCarriersModel" "chunkMany" "I") (List.mem_cons_of_mem _ w_275)
  have inX9_ : ∀ w ∈ wsX90, w ∈ wX9_backs := fun w h => List.mem_cons_of_mem _ (inlX9 w h)
  have hP : va_P D vwCl ((wmdF t h0 a0 (md_thrown d0) (md_s d0) (md_aside d0) (md_base d0) (md_saved d0) (md_savedMany d0) (md_slots d0) (md_hasSlot d0) (md_text d0) (md_length d0) (md_begins d0) (md_lengths d0) (md_streams d0) (md_letters d0) (md_letterMany d0) (md_chunks d0) (md_chunkMany d0) (md_homes d0) (md_dropped d0) (md_madeIn d0) (md_madeAt d0) (md_putMany d0) (md_path d0) (md_store d0) (md_thinOnes d0))) s.heap := hP
  have hD : va_D A ((wmdF t h0 a0 (md_thrown d0) (md_s d0) (md_aside d0) (md_base d0) (md_saved d0) (md_savedMany d0) (md_slots d0) (md_hasSlot d0) (md_text d0) (md_length d0) (md_begins d0) (md_lengths d0) (md_streams d0) (md_letters d0) (md_letterMany d0) (md_chunks d0) (md_chunkMany d0) (md_homes d0) (md_dropped d0) (md_madeIn d0) (md_madeAt d0) (md_putMany d0) (md_path d0) (md_store d0) (md_thinOnes d0))) := hD
  refine lv_aload_n hx hb (kd tdlX9_backs_0 0 rfl) rfl (lv_at hl 0 rfl) ?_
  obtain ⟨v1, e1, hF⟩ := kc hF
  refine kc_i0 (w1 := ((wmdF t h0 a0 (md_thrown d0) (md_s d0) (md_aside d0) (md_base d0) (md_saved d0) (md_savedMany d0) (md_slots d0) (md_hasSlot d0) (md_text d0) (md_length d0) (md_begins d0) (md_lengths d0) (md_streams d0) (md_letters d0) (md_letterMany d0) (md_chunks d0) (md_chunkMany d0) (md_homes d0) (md_dropped d0) (md_madeIn d0) (md_madeAt d0) (md_putMany d0) (md_path d0) (md_store d0) (md_thinOnes d0)))) hP hD hS hA (kr_V0 (Qx := (fun A => kQi D (TY t) ((wmdF t h0 a0 (md_thrown d0) (md_s d0) (md_aside d0) (md_base d0) (md_saved d0) (md_savedMany d0) (md_slots d0) (md_hasSlot d0) (md_text d0) (md_length d0) (md_begins d0) (md_lengths d0) (md_streams d0) (md_letters d0) (md_letterMany d0) (md_chunks d0) (md_chunkMany d0) (md_homes d0) (md_dropped d0) (md_madeIn d0) (md_madeAt d0) (md_putMany d0) (md_path d0) (md_store d0) (md_thinOnes d0))) v1 A)) (As := []) (rest := []) ⟨hx, hb, hml, hown, hts⟩ hK hP hD (c_X9_freeBackup l D t h0 a0 d0 _  v1 e1) (cwV 0 hts (gcX9_freeBackup w_730) rfl rfl rfl hdX9_freeBackupV ⟨Nat.le_of_ble_eq_true rfl, Nat.le_of_ble_eq_true rfl⟩) (ci := 8) (q0 := 0) rfl rfl rfl hl.1 rfl (Nat.le_of_ble_eq_true rfl) (kd tdlX9_backs_0 1 rfl) ⟨Nat.zero_le _, Nat.zero_le _⟩) (fun H locs hP hD hS => ?_)
  refine lv_istore_n (lv' := [(1, .int v1), (0, .ref h0)]) hx hb (kd tdlX9_backs_0 2 rfl) rfl hl (by decide) rfl (fun ls hl => ?_)
  refine lv_iload_n hx hb (kd tdlX9_backs_0 3 rfl) rfl (lv_at hl 0 rfl) ?_
  refine lv_iconst (v := (-1)) hx hb (kd tdlX9_backs_0 4 rfl) (by decide) ?_
  refine lv_icmp_ne (tgt := 12) hx hb (kd tdlX9_backs_0 5 rfl) (by decide) (fun hc7 => ?_) (fun hc7 => ?_)
  · have hF := kf hc7 hF
    refine lv_aload_n hx hb (kd tdlX9_backs_0 8 rfl) rfl (lv_at hl 1 rfl) ?_
    obtain ⟨v13, e13, hF⟩ := kc hF
    refine kc_v0 (w1 := ((wmdF t h0 a0 (md_thrown d0) (md_s d0) v13 (md_base d0) (md_saved d0) (md_savedMany d0) (md_slots d0) (md_hasSlot d0) (md_text d0) (md_length d0) (md_begins d0) (md_lengths d0) (md_streams d0) (md_letters d0) (md_letterMany d0) (md_chunks d0) (md_chunkMany d0) (md_homes d0) (md_dropped d0) (md_madeIn d0) (md_madeAt d0) (md_putMany d0) (md_path d0) (md_store d0) (md_thinOnes d0)))) hP hD hS hA (kr_V0 (Qx := (fun A => kQv D (TY t) ((wmdF t h0 a0 (md_thrown d0) (md_s d0) v13 (md_base d0) (md_saved d0) (md_savedMany d0) (md_slots d0) (md_hasSlot d0) (md_text d0) (md_length d0) (md_begins d0) (md_lengths d0) (md_streams d0) (md_letters d0) (md_letterMany d0) (md_chunks d0) (md_chunkMany d0) (md_homes d0) (md_dropped d0) (md_madeIn d0) (md_madeAt d0) (md_putMany d0) (md_path d0) (md_store d0) (md_thinOnes d0))) A)) (As := []) (rest := []) ⟨hx, hb, hml, hown, hts⟩ hK hP hD (c_X9_putAside l D t h0 a0 d0 _  v13 e13) (cwV 0 hts (gcX9_putAside w_734) rfl rfl rfl hdX9_putAsideV ⟨Nat.le_of_ble_eq_true rfl, Nat.le_of_ble_eq_true rfl⟩) (ci := 8) (q0 := 0) rfl rfl rfl hl.1 rfl (Nat.le_of_ble_eq_true rfl) (kd tdlX9_backs_0 9 rfl) ⟨Nat.zero_le _, Nat.zero_le _⟩) (fun H locs hP hD hS => ?_)
    refine lv_aload_n hx hb (kd tdlX9_backs_0 10 rfl) rfl (lv_at hl 1 rfl) ?_
    refine lv_aload_n hx hb (kd tdlX9_backs_0 11 rfl) rfl (lv_at hl 1 rfl) ?_
    refine md_g_s hx hb hts inX9_ hown hK hP L7 (kd tdlX9_backs_0 12 rfl) ?_
    refine lv_iconst (v := 2) hx hb (kd tdlX9_backs_0 13 rfl) (by decide) ?_
    obtain ⟨hi22, hF⟩ := kg hF
    refine md_l_s hx hb hK hP hi22 (kd tdlX9_backs_0 14 rfl) ?_
    obtain ⟨v23, e23, hF⟩ := kc hF
    refine kc_v0 (w1 := ((wmdF t h0 a0 (md_thrown d0) v23.1 v13 (md_base d0) (md_saved d0) (md_savedMany d0) (md_slots d0) (md_hasSlot d0) (md_text d0) (md_length d0) (md_begins d0) (md_lengths d0) (md_streams d0) (md_letters d0) (md_letterMany d0) (md_chunks d0) (md_chunkMany d0) v23.2.1 v23.2.2.1 v23.2.2.2.1 v23.2.2.2.2.1 v23.2.2.2.2.2 (md_path d0) (md_store d0) (md_thinOnes d0)))) hP hD hS hA (kr_V0 (Qx := (fun A => kQv D (TY t) ((wmdF t h0 a0 (md_thrown d0) v23.1 v13 (md_base d0) (md_saved d0) (md_savedMany d0) (md_slots d0) (md_hasSlot d0) (md_text d0) (md_length d0) (md_begins d0) (md_lengths d0) (md_streams d0) (md_letters d0) (md_letterMany d0) (md_chunks d0) (md_chunkMany d0) v23.2.1 v23.2.2.1 v23.2.2.2.1 v23.2.2.2.2.1 v23.2.2.2.2.2 (md_path d0) (md_store d0) (md_thinOnes d0))) A)) (As := [.int ((md_s d0) (Int32.toNatClampNeg 2))]) (rest := []) ⟨hx, hb, hml, hown, hts⟩ hK hP hD (c_X9_makes l D t h0 a0 ((md_thrown d0), (md_s d0), v13, (md_base d0), (md_saved d0), (md_savedMany d0), (md_slots d0), (md_hasSlot d0), (md_text d0), (md_length d0), (md_begins d0), (md_lengths d0), (md_streams d0), (md_letters d0), (md_letterMany d0), (md_chunks d0), (md_chunkMany d0), (md_homes d0), (md_dropped d0), (md_madeIn d0), (md_madeAt d0), (md_putMany d0), (md_path d0), (md_store d0), (md_thinOnes d0)) _ ((md_s d0) (Int32.toNatClampNeg 2)) v23 e23) (cwV 1 hts (gcX9_makes w_738) rfl rfl rfl hdX9_makesV ⟨Nat.le_of_ble_eq_true rfl, Nat.le_of_ble_eq_true rfl⟩) (ci := 8) (q0 := 0) rfl rfl rfl hl.1 rfl (Nat.le_of_ble_eq_true rfl) (kd tdlX9_backs_0 15 rfl) ⟨Nat.zero_le _, Nat.zero_le _⟩) (fun H locs hP hD hS => ?_)
    refine lv_aload_n hx hb (kd tdlX9_backs_0 16 rfl) rfl (lv_at hl 1 rfl) ?_
    refine md_g_s hx hb hts inX9_ hown hK hP L7 (kd tdlX9_backs_0 17 rfl) ?_
    refine lv_bipush (v := 7) hx hb (kd tdlX9_backs_0 18 rfl) (by decide) ?_
    obtain ⟨hi32, hF⟩ := kg hF
    refine md_l_s hx hb hK hP hi32 (kd tdlX9_backs_0 19 rfl) ?_
    refine lv_bipush (v := 24) hx hb (kd tdlX9_backs_0 20 rfl) (by decide) ?_
    refine lv_icmp_le (tgt := 44) hx hb (kd tdlX9_backs_0 21 rfl) (by decide) (fun hc35 => ?_) (fun hc35 => ?_)
    · have hF := kt hc35 hF
      refine lv_aload_n hx hb (kd tdlX9_backs_0 26 rfl) rfl (lv_at hl 1 rfl) ?_
      refine lv_iload_n hx hb (kd tdlX9_backs_0 27 rfl) rfl (lv_at hl 0 rfl) ?_
      obtain ⟨v46, e46, hF⟩ := kc hF
      refine kc_i0 (w1 := ((wmdF t h0 a0 (md_thrown d0) v23.1 v13 (md_base d0) (md_saved d0) (md_savedMany d0) (md_slots d0) (md_hasSlot d0) (md_text d0) (md_length d0) (md_begins d0) (md_lengths d0) (md_streams d0) (md_letters d0) (md_letterMany d0) (md_chunks d0) (md_chunkMany d0) v23.2.1 v23.2.2.1 v23.2.2.2.1 v23.2.2.2.2.1 v23.2.2.2.2.2 (md_path d0) (md_store d0) (md_thinOnes d0)))) hP hD hS hA (kr_V0 (Qx := (fun A => kQi D (TY t) ((wmdF t h0 a0 (md_thrown d0) v23.1 v13 (md_base d0) (md_saved d0) (md_savedMany d0) (md_slots d0) (md_hasSlot d0) (md_text d0) (md_length d0) (md_begins d0) (md_lengths d0) (md_streams d0) (md_letters d0) (md_letterMany d0) (md_chunks d0) (md_chunkMany d0) v23.2.1 v23.2.2.1 v23.2.2.2.1 v23.2.2.2.2.1 v23.2.2.2.2.2 (md_path d0) (md_store d0) (md_thinOnes d0))) v46 A)) (As := [.int v1]) (rest := []) ⟨hx, hb, hml, hown, hts⟩ hK hP hD (c_X9_backupAt l D t h0 a0 ((md_thrown d0), v23.1, v13, (md_base d0), (md_saved d0), (md_savedMany d0), (md_slots d0), (md_hasSlot d0), (md_text d0), (md_length d0), (md_begins d0), (md_lengths d0), (md_streams d0), (md_letters d0), (md_letterMany d0), (md_chunks d0), (md_chunkMany d0), v23.2.1, v23.2.2.1, v23.2.2.2.1, v23.2.2.2.2.1, v23.2.2.2.2.2, (md_path d0), (md_store d0), (md_thinOnes d0)) _ v1 v46 e46) (cwV 1 hts (gcX9_backupAt w_382) rfl rfl rfl hdX9_backupAtV ⟨Nat.le_of_ble_eq_true rfl, Nat.le_of_ble_eq_true rfl⟩) (ci := 8) (q0 := 0) rfl rfl rfl hl.1 rfl (Nat.le_of_ble_eq_true rfl) (kd tdlX9_backs_0 28 rfl) ⟨Nat.zero_le _, Nat.zero_le _⟩) (fun H locs hP hD hS => ?_)
      refine lv_istore_n (lv' := [(2, .int v46), (1, .int v1), (0, .ref h0)]) hx hb (kd tdlX9_backs_0 29 rfl) rfl hl (by decide) rfl (fun ls hl => ?_)
      refine lv_aload_n hx hb (kd tdlX9_backs_0 30 rfl) rfl (lv_at hl 2 rfl) ?_
      refine md_g_s hx hb hts inX9_ hown hK hP L7 (kd tdlX9_backs_0 31 rfl) ?_
      refine lv_iload_n hx hb (kd tdlX9_backs_0 32 rfl) rfl (lv_at hl 0 rfl) ?_
      refine lv_iconst (v := 0) hx hb (kd tdlX9_backs_0 33 rfl) (by decide) ?_
      refine lv_iadd hx hb (kd tdlX9_backs_0 34 rfl) ?_
      refine lv_iconst (v := 1) hx hb (kd tdlX9_backs_0 35 rfl) (by decide) ?_
      obtain ⟨hi58, hF⟩ := kg hF
      refine md_s_s hx hb hK hP hD hS hi58 (kd tdlX9_backs_0 36 rfl) (fun H locs hP hD hS => ?_)
      refine lv_aload_n hx hb (kd tdlX9_backs_0 37 rfl) rfl (lv_at hl 2 rfl) ?_
      refine md_g_s hx hb hts inX9_ hown hK hP L7 (kd tdlX9_backs_0 38 rfl) ?_
      refine lv_iload_n hx hb (kd tdlX9_backs_0 39 rfl) rfl (lv_at hl 0 rfl) ?_
      refine lv_iconst (v := 1) hx hb (kd tdlX9_backs_0 40 rfl) (by decide) ?_
      refine lv_iadd hx hb (kd tdlX9_backs_0 41 rfl) ?_
      refine lv_aload_n hx hb (kd tdlX9_backs_0 42 rfl) rfl (lv_at hl 2 rfl) ?_
      refine md_g_chunkMany hx hb hts inX9_ hown hK hP L96 (kd tdlX9_backs_0 43 rfl) ?_
      obtain ⟨hi70, hF⟩ := kg hF
      refine md_s_s hx hb hK hP hD hS hi70 (kd tdlX9_backs_0 44 rfl) (fun H locs hP hD hS => ?_)
      refine lv_iconst (v := 0) hx hb (kd tdlX9_backs_1 0 rfl) (by decide) ?_
      refine lv_istore_n (lv' := [(3, .int 0), (2, .int v46), (1, .int v1), (0, .ref h0)]) hx hb (kd tdlX9_backs_1 1 rfl) rfl hl (by decide) rfl (fun ls hl => ?_)
      refine lp_ind (f := B_X9_backs_73 d0 v1 v13 v23 v46) (r := r) (P := fun s73_ => ∀ (H : Heap) (locs : List Loc) (ls : Array Slot), va_P D vwCl ((wmdF t h0 a0 (md_thrown d0) s73_.2 v13 (md_base d0) (md_saved d0) (md_savedMany d0) (md_slots d0) (md_hasSlot d0) (md_text d0) (md_length d0) (md_begins d0) (md_lengths d0) (md_streams d0) (md_letters d0) (md_letterMany d0) (md_chunks d0) (md_chunkMany d0) v23.2.1 v23.2.2.1 v23.2.2.2.1 v23.2.2.2.2.1 v23.2.2.2.2.2 (md_path d0) (md_store d0) (md_thinOnes d0))) H → va_D A ((wmdF t h0 a0 (md_thrown d0) s73_.2 v13 (md_base d0) (md_saved d0) (md_savedMany d0) (md_slots d0) (md_hasSlot d0) (md_text d0) (md_length d0) (md_begins d0) (md_lengths d0) (md_streams d0) (md_letters d0) (md_letterMany d0) (md_chunks d0) (md_chunkMany d0) v23.2.1 v23.2.2.1 v23.2.2.2.1 v23.2.2.2.2.1 v23.2.2.2.2.2 (md_path d0) (md_store d0) (md_thinOnes d0))) → va_S A s.heap H locs → lv_has ls 4 [(0, .ref h0), (1, .int v1), (2, .int v46), (3, .int s73_.1)] → W p l e ({ frames := 5, cells := 0, slots := 0, locals := 112 } : Room) s m args below meth c H locs 0 0 (MQ below (kQi D (TY t) ((wmd t h0 a0 r.2)) r.1 A) args s 0 0 A) (F0 m 73 ls [])) ?_ FU (0, (upd (upd v23.1 (Int32.toNatClampNeg (v46 + 0)) 1) (Int32.toNatClampNeg (v46 + 1)) (md_chunkMany d0))) hF _ _ _ hP hD hS (lv_sub hl [3, 2, 1, 0] rfl)
      intro self73 ih73 s73_ hF H locs ls hP hD hS hl
      refine lv_iload_n hx hb (kd tdlX9_backs_1 2 rfl) rfl (lv_at hl 3 rfl) ?_
      refine lv_aload_n hx hb (kd tdlX9_backs_1 3 rfl) rfl (lv_at hl 0 rfl) ?_
      refine md_g_chunkMany hx hb hts inX9_ hown hK hP L96 (kd tdlX9_backs_1 4 rfl) ?_
      refine lv_icmp_ge (tgt := 125) hx hb (kd tdlX9_backs_1 5 rfl) (by decide) (fun hc78 => ?_) (fun hc78 => ?_)
      · have hF := kt hc78 hF
        refine lv_iload_n hx hb (kd tdlX9_backs_1 38 rfl) rfl (lv_at hl 1 rfl) ?_
        cases ko hF
        exact ke_i hx hb hr hlocks hK hP hD hS rfl (kd tdlX9_backs_1 39 rfl)
      · have hF := kf hc78 hF
        refine lv_aload_n hx hb (kd tdlX9_backs_1 6 rfl) rfl (lv_at hl 0 rfl) ?_
        refine md_g_s hx hb hts inX9_ hown hK hP L7 (kd tdlX9_backs_1 7 rfl) ?_
        refine lv_iload_n hx hb (kd tdlX9_backs_1 8 rfl) rfl (lv_at hl 2 rfl) ?_
        refine lv_iconst (v := 2) hx hb (kd tdlX9_backs_1 9 rfl) (by decide) ?_
        refine lv_iadd hx hb (kd tdlX9_backs_1 10 rfl) ?_
        refine lv_iconst (v := 2) hx hb (kd tdlX9_backs_1 11 rfl) (by decide) ?_
        refine lv_iload_n hx hb (kd tdlX9_backs_1 12 rfl) rfl (lv_at hl 3 rfl) ?_
        refine lv_imul hx hb (kd tdlX9_backs_1 13 rfl) ?_
        refine lv_iadd hx hb (kd tdlX9_backs_1 14 rfl) ?_
        refine lv_aload_n hx hb (kd tdlX9_backs_1 15 rfl) rfl (lv_at hl 0 rfl) ?_
        refine md_g_madeIn hx hb hts inX9_ hown hK hP L50 (kd tdlX9_backs_1 16 rfl) ?_
        refine lv_iload_n hx hb (kd tdlX9_backs_1 17 rfl) rfl (lv_at hl 3 rfl) ?_
        obtain ⟨hi97, hF⟩ := kg hF
        refine md_l_madeIn hx hb hK hP hi97 (kd tdlX9_backs_1 18 rfl) ?_
        obtain ⟨hi98, hF⟩ := kg hF
        refine md_s_s hx hb hK hP hD hS hi98 (kd tdlX9_backs_1 19 rfl) (fun H locs hP hD hS => ?_)
        refine lv_aload_n hx hb (kd tdlX9_backs_1 20 rfl) rfl (lv_at hl 0 rfl) ?_
        refine md_g_s hx hb hts inX9_ hown hK hP L7 (kd tdlX9_backs_1 21 rfl) ?_
        refine lv_iload_n hx hb (kd tdlX9_backs_1 22 rfl) rfl (lv_at hl 2 rfl) ?_
        refine lv_iconst (v := 2) hx hb (kd tdlX9_backs_1 23 rfl) (by decide) ?_
        refine lv_iadd hx hb (kd tdlX9_backs_1 24 rfl) ?_
        refine lv_iconst (v := 2) hx hb (kd tdlX9_backs_1 25 rfl) (by decide) ?_
        refine lv_iload_n hx hb (kd tdlX9_backs_1 26 rfl) rfl (lv_at hl 3 rfl) ?_
        refine lv_imul hx hb (kd tdlX9_backs_1 27 rfl) ?_
        refine lv_iadd hx hb (kd tdlX9_backs_1 28 rfl) ?_
        refine lv_iconst (v := 1) hx hb (kd tdlX9_backs_1 29 rfl) (by decide) ?_
        refine lv_iadd hx hb (kd tdlX9_backs_1 30 rfl) ?_
        refine lv_aload_n hx hb (kd tdlX9_backs_1 31 rfl) rfl (lv_at hl 0 rfl) ?_
        refine md_g_madeAt hx hb hts inX9_ hown hK hP L53 (kd tdlX9_backs_1 32 rfl) ?_
        refine lv_iload_n hx hb (kd tdlX9_backs_1 33 rfl) rfl (lv_at hl 3 rfl) ?_
        obtain ⟨hi117, hF⟩ := kg hF
        refine md_l_madeAt hx hb hK hP hi117 (kd tdlX9_backs_1 34 rfl) ?_
        obtain ⟨hi118, hF⟩ := kg hF
        refine md_s_s hx hb hK hP hD hS hi118 (kd tdlX9_backs_1 35 rfl) (fun H locs hP hD hS => ?_)
        refine lv_iinc (v := (s73_.1 + 1)) (lv' := [(3, .int (s73_.1 + 1)), (0, .ref h0), (1, .int v1), (2, .int v46)]) hx hb (kd tdlX9_backs_1 36 rfl) hl (k := 3) rfl rfl (by decide) rfl (fun ls hl => ?_)
        refine lv_goto (tgt := 73) hx hb (kd tdlX9_backs_1 37 rfl) (by decide) ?_
        exact ih73 ((s73_.1 + 1), (upd (upd s73_.2 (Int32.toNatClampNeg ((v46 + 2) + (2 * s73_.1))) (v23.2.2.2.1 (Int32.toNatClampNeg s73_.1))) (Int32.toNatClampNeg (((v46 + 2) + (2 * s73_.1)) + 1)) (v23.2.2.2.2.1 (Int32.toNatClampNeg s73_.1)))) hF _ _ _ hP hD hS (lv_sub hl [1, 2, 3, 0] rfl)
    · have hF := kf hc35 hF
      refine lv_aload_n hx hb (kd tdlX9_backs_0 22 rfl) rfl (lv_at hl 1 rfl) ?_
      obtain ⟨v39, e39, hF⟩ := kc hF
      refine kc_v0 (w1 := ((wmdF t h0 a0 (md_thrown d0) v39 v13 (md_base d0) (md_saved d0) (md_savedMany d0) (md_slots d0) (md_hasSlot d0) (md_text d0) (md_length d0) (md_begins d0) (md_lengths d0) (md_streams d0) (md_letters d0) (md_letterMany d0) (md_chunks d0) (md_chunkMany d0) v23.2.1 v23.2.2.1 v23.2.2.2.1 v23.2.2.2.2.1 v23.2.2.2.2.2 (md_path d0) (md_store d0) (md_thinOnes d0)))) hP hD hS hA (kr_V0 (Qx := (fun A => kQv D (TY t) ((wmdF t h0 a0 (md_thrown d0) v39 v13 (md_base d0) (md_saved d0) (md_savedMany d0) (md_slots d0) (md_hasSlot d0) (md_text d0) (md_length d0) (md_begins d0) (md_lengths d0) (md_streams d0) (md_letters d0) (md_letterMany d0) (md_chunks d0) (md_chunkMany d0) v23.2.1 v23.2.2.1 v23.2.2.2.1 v23.2.2.2.2.1 v23.2.2.2.2.2 (md_path d0) (md_store d0) (md_thinOnes d0))) A)) (As := []) (rest := []) ⟨hx, hb, hml, hown, hts⟩ hK hP hD (c_X9_takeBack l D t h0 a0 ((md_thrown d0), v23.1, v13, (md_base d0), (md_saved d0), (md_savedMany d0), (md_slots d0), (md_hasSlot d0), (md_text d0), (md_length d0), (md_begins d0), (md_lengths d0), (md_streams d0), (md_letters d0), (md_letterMany d0), (md_chunks d0), (md_chunkMany d0), v23.2.1, v23.2.2.1, v23.2.2.2.1, v23.2.2.2.2.1, v23.2.2.2.2.2, (md_path d0), (md_store d0), (md_thinOnes d0)) _  v39 e39) (cwV 0 hts (gcX9_takeBack w_759) rfl rfl rfl hdX9_takeBackV ⟨Nat.le_of_ble_eq_true rfl, Nat.le_of_ble_eq_true rfl⟩) (ci := 8) (q0 := 0) rfl rfl rfl hl.1 rfl (Nat.le_of_ble_eq_true rfl) (kd tdlX9_backs_0 23 rfl) ⟨Nat.zero_le _, Nat.zero_le _⟩) (fun H locs hP hD hS => ?_)
      refine lv_iconst (v := (-1)) hx hb (kd tdlX9_backs_0 24 rfl) (by decide) ?_
      cases ko hF
      exact ke_i hx hb hr hlocks hK hP hD hS rfl (kd tdlX9_backs_0 25 rfl)
  · have hF := kt hc7 hF
    refine lv_iconst (v := (-1)) hx hb (kd tdlX9_backs_0 6 rfl) (by decide) ?_
    cases ko hF
    exact ke_i hx hb hr hlocks hK hP hD hS rfl (kd tdlX9_backs_0 7 rfl)
set_option maxHeartbeats 4000000 in
set_option maxRecDepth 100000 in
theorem c_X9_removes (l : Launch) (D : va_G) (t : Nat → ClassId) (h0 : Nat) (a0 : Nat → Nat) (d0 : MDT) (sz : Nat) (p1 : Int32) (r : (Nat → Int32)) (hF : F_X9_removes (md_s d0) p1 = some r) : Met l yX9_removes wX9_removes ({ frames := 1, cells := 0, slots := 0, locals := 21 } : Room) (kPc D (TY t) ((wmd t h0 a0 d0)) [.ref h0, .int p1] sz) (kQv D (TY t) ((wmd t h0 a0 ((md_thrown d0), r, (md_aside d0), (md_base d0), (md_saved d0), (md_savedMany d0), (md_slots d0), (md_hasSlot d0), (md_text d0), (md_length d0), (md_begins d0), (md_lengths d0), (md_streams d0), (md_letters d0), (md_letterMany d0), (md_chunks d0), (md_chunkMany d0), (md_homes d0), (md_dropped d0), (md_madeIn d0), (md_madeAt d0), (md_putMany d0), (md_path d0), (md_store d0), (md_thinOnes d0)))) (va_A ((wmd t h0 a0 d0)) sz)) 0 0 (va_A ((wmd t h0 a0 d0)) sz) := by
  refine kE (cc := cX9_removes) (maxL := 3) (ret := none) (Qx := fun A => kQv D (TY t) ((wmd t h0 a0 ((md_thrown d0), r, (md_aside d0), (md_base d0), (md_saved d0), (md_savedMany d0), (md_slots d0), (md_hasSlot d0), (md_text d0), (md_length d0), (md_begins d0), (md_lengths d0), (md_streams d0), (md_letters d0), (md_letterMany d0), (md_chunks d0), (md_chunkMany d0), (md_homes d0), (md_dropped d0), (md_madeIn d0), (md_madeAt d0), (md_putMany d0), (md_path d0), (md_store d0), (md_thinOnes d0)))) A) (lv0 := [(0, .ref h0), (1, .int p1)]) RX9 rfl (by decide) rfl (Nat.le_of_ble_eq_true rfl) rfl ?_
  intro p e s m args below meth c A ls hx hb hml hr hlocks hown hts hA hK hP hD hS hl
  have L7 := hts (.fieldLink RX9 7 "ChunkCarriersModel" "s" "[I") (List.mem_cons_of_mem _ w_101)
  have inX9_ : ∀ w ∈ wsX90, w ∈ wX9_removes := fun w h => List.mem_cons_of_mem _ (inlX9 w h)
  have hP : va_P D vwCl ((wmdF t h0 a0 (md_thrown d0) (md_s d0) (md_aside d0) (md_base d0) (md_saved d0) (md_savedMany d0) (md_slots d0) (md_hasSlot d0) (md_text d0) (md_length d0) (md_begins d0) (md_lengths d0) (md_streams d0) (md_letters d0) (md_letterMany d0) (md_chunks d0) (md_chunkMany d0) (md_homes d0) (md_dropped d0) (md_madeIn d0) (md_madeAt d0) (md_putMany d0) (md_path d0) (md_store d0) (md_thinOnes d0))) s.heap := hP
  have hD : va_D A ((wmdF t h0 a0 (md_thrown d0) (md_s d0) (md_aside d0) (md_base d0) (md_saved d0) (md_savedMany d0) (md_slots d0) (md_hasSlot d0) (md_text d0) (md_length d0) (md_begins d0) (md_lengths d0) (md_streams d0) (md_letters d0) (md_letterMany d0) (md_chunks d0) (md_chunkMany d0) (md_homes d0) (md_dropped d0) (md_madeIn d0) (md_madeAt d0) (md_putMany d0) (md_path d0) (md_store d0) (md_thinOnes d0))) := hD
  refine lv_aload_n hx hb (kd tdlX9_removes_0 0 rfl) rfl (lv_at hl 0 rfl) ?_
  refine md_g_s hx hb hts inX9_ hown hK hP L7 (kd tdlX9_removes_0 1 rfl) ?_
  refine lv_aload_n hx hb (kd tdlX9_removes_0 2 rfl) rfl (lv_at hl 0 rfl) ?_
  refine lv_iload_n hx hb (kd tdlX9_removes_0 3 rfl) rfl (lv_at hl 1 rfl) ?_
  obtain ⟨v6, e6, hF⟩ := kc hF
  refine kc_i0 (w1 := ((wmdF t h0 a0 (md_thrown d0) (md_s d0) (md_aside d0) (md_base d0) (md_saved d0) (md_savedMany d0) (md_slots d0) (md_hasSlot d0) (md_text d0) (md_length d0) (md_begins d0) (md_lengths d0) (md_streams d0) (md_letters d0) (md_letterMany d0) (md_chunks d0) (md_chunkMany d0) (md_homes d0) (md_dropped d0) (md_madeIn d0) (md_madeAt d0) (md_putMany d0) (md_path d0) (md_store d0) (md_thinOnes d0)))) hP hD hS hA (kr_V0 (Qx := (fun A => kQi D (TY t) ((wmdF t h0 a0 (md_thrown d0) (md_s d0) (md_aside d0) (md_base d0) (md_saved d0) (md_savedMany d0) (md_slots d0) (md_hasSlot d0) (md_text d0) (md_length d0) (md_begins d0) (md_lengths d0) (md_streams d0) (md_letters d0) (md_letterMany d0) (md_chunks d0) (md_chunkMany d0) (md_homes d0) (md_dropped d0) (md_madeIn d0) (md_madeAt d0) (md_putMany d0) (md_path d0) (md_store d0) (md_thinOnes d0))) v6 A)) (As := [.int p1]) (rest := [.ref (a0 0)]) ⟨hx, hb, hml, hown, hts⟩ hK hP hD (c_X9_backupAt l D t h0 a0 d0 _ p1 v6 e6) (cwV 1 hts (gcX9_backupAt w_382) rfl rfl rfl hdX9_backupAtV ⟨Nat.le_of_ble_eq_true rfl, Nat.le_of_ble_eq_true rfl⟩) (ci := 8) (q0 := 0) rfl rfl rfl hl.1 rfl (Nat.le_of_ble_eq_true rfl) (kd tdlX9_removes_0 4 rfl) ⟨Nat.zero_le _, Nat.zero_le _⟩) (fun H locs hP hD hS => ?_)
  refine lv_iconst (v := 0) hx hb (kd tdlX9_removes_0 5 rfl) (by decide) ?_
  refine lv_iadd hx hb (kd tdlX9_removes_0 6 rfl) ?_
  refine lv_iconst (v := 0) hx hb (kd tdlX9_removes_0 7 rfl) (by decide) ?_
  obtain ⟨hi12, hF⟩ := kg hF
  refine md_s_s hx hb hK hP hD hS hi12 (kd tdlX9_removes_0 8 rfl) (fun H locs hP hD hS => ?_)
  refine lv_aload_n hx hb (kd tdlX9_removes_0 9 rfl) rfl (lv_at hl 0 rfl) ?_
  refine md_g_s hx hb hts inX9_ hown hK hP L7 (kd tdlX9_removes_0 10 rfl) ?_
  refine lv_aload_n hx hb (kd tdlX9_removes_0 11 rfl) rfl (lv_at hl 0 rfl) ?_
  refine lv_iload_n hx hb (kd tdlX9_removes_0 12 rfl) rfl (lv_at hl 1 rfl) ?_
  obtain ⟨v19, e19, hF⟩ := kc hF
  refine kc_i0 (w1 := ((wmdF t h0 a0 (md_thrown d0) (upd (md_s d0) (Int32.toNatClampNeg (v6 + 0)) 0) (md_aside d0) (md_base d0) (md_saved d0) (md_savedMany d0) (md_slots d0) (md_hasSlot d0) (md_text d0) (md_length d0) (md_begins d0) (md_lengths d0) (md_streams d0) (md_letters d0) (md_letterMany d0) (md_chunks d0) (md_chunkMany d0) (md_homes d0) (md_dropped d0) (md_madeIn d0) (md_madeAt d0) (md_putMany d0) (md_path d0) (md_store d0) (md_thinOnes d0)))) hP hD hS hA (kr_V0 (Qx := (fun A => kQi D (TY t) ((wmdF t h0 a0 (md_thrown d0) (upd (md_s d0) (Int32.toNatClampNeg (v6 + 0)) 0) (md_aside d0) (md_base d0) (md_saved d0) (md_savedMany d0) (md_slots d0) (md_hasSlot d0) (md_text d0) (md_length d0) (md_begins d0) (md_lengths d0) (md_streams d0) (md_letters d0) (md_letterMany d0) (md_chunks d0) (md_chunkMany d0) (md_homes d0) (md_dropped d0) (md_madeIn d0) (md_madeAt d0) (md_putMany d0) (md_path d0) (md_store d0) (md_thinOnes d0))) v19 A)) (As := [.int p1]) (rest := [.ref (a0 0)]) ⟨hx, hb, hml, hown, hts⟩ hK hP hD (c_X9_backupAt l D t h0 a0 ((md_thrown d0), (upd (md_s d0) (Int32.toNatClampNeg (v6 + 0)) 0), (md_aside d0), (md_base d0), (md_saved d0), (md_savedMany d0), (md_slots d0), (md_hasSlot d0), (md_text d0), (md_length d0), (md_begins d0), (md_lengths d0), (md_streams d0), (md_letters d0), (md_letterMany d0), (md_chunks d0), (md_chunkMany d0), (md_homes d0), (md_dropped d0), (md_madeIn d0), (md_madeAt d0), (md_putMany d0), (md_path d0), (md_store d0), (md_thinOnes d0)) _ p1 v19 e19) (cwV 1 hts (gcX9_backupAt w_382) rfl rfl rfl hdX9_backupAtV ⟨Nat.le_of_ble_eq_true rfl, Nat.le_of_ble_eq_true rfl⟩) (ci := 8) (q0 := 0) rfl rfl rfl hl.1 rfl (Nat.le_of_ble_eq_true rfl) (kd tdlX9_removes_0 13 rfl) ⟨Nat.zero_le _, Nat.zero_le _⟩) (fun H locs hP hD hS => ?_)
  refine lv_iconst (v := 1) hx hb (kd tdlX9_removes_0 14 rfl) (by decide) ?_
  refine lv_iadd hx hb (kd tdlX9_removes_0 15 rfl) ?_
  refine lv_iconst (v := 0) hx hb (kd tdlX9_removes_0 16 rfl) (by decide) ?_
  obtain ⟨hi25, hF⟩ := kg hF
  refine md_s_s hx hb hK hP hD hS hi25 (kd tdlX9_removes_0 17 rfl) (fun H locs hP hD hS => ?_)
  refine lv_iconst (v := 0) hx hb (kd tdlX9_removes_0 18 rfl) (by decide) ?_
  refine lv_istore_n (lv' := [(2, .int 0), (0, .ref h0), (1, .int p1)]) hx hb (kd tdlX9_removes_0 19 rfl) rfl hl (by decide) rfl (fun ls hl => ?_)
  refine lp_ind (f := B_X9_removes_28 p1) (r := r) (P := fun s28_ => ∀ (H : Heap) (locs : List Loc) (ls : Array Slot), va_P D vwCl ((wmdF t h0 a0 (md_thrown d0) s28_.2 (md_aside d0) (md_base d0) (md_saved d0) (md_savedMany d0) (md_slots d0) (md_hasSlot d0) (md_text d0) (md_length d0) (md_begins d0) (md_lengths d0) (md_streams d0) (md_letters d0) (md_letterMany d0) (md_chunks d0) (md_chunkMany d0) (md_homes d0) (md_dropped d0) (md_madeIn d0) (md_madeAt d0) (md_putMany d0) (md_path d0) (md_store d0) (md_thinOnes d0))) H → va_D A ((wmdF t h0 a0 (md_thrown d0) s28_.2 (md_aside d0) (md_base d0) (md_saved d0) (md_savedMany d0) (md_slots d0) (md_hasSlot d0) (md_text d0) (md_length d0) (md_begins d0) (md_lengths d0) (md_streams d0) (md_letters d0) (md_letterMany d0) (md_chunks d0) (md_chunkMany d0) (md_homes d0) (md_dropped d0) (md_madeIn d0) (md_madeAt d0) (md_putMany d0) (md_path d0) (md_store d0) (md_thinOnes d0))) → va_S A s.heap H locs → lv_has ls 3 [(0, .ref h0), (1, .int p1), (2, .int s28_.1)] → W p l e ({ frames := 1, cells := 0, slots := 0, locals := 21 } : Room) s m args below meth c H locs 0 0 (MQ below (kQv D (TY t) ((wmd t h0 a0 ((md_thrown d0), r, (md_aside d0), (md_base d0), (md_saved d0), (md_savedMany d0), (md_slots d0), (md_hasSlot d0), (md_text d0), (md_length d0), (md_begins d0), (md_lengths d0), (md_streams d0), (md_letters d0), (md_letterMany d0), (md_chunks d0), (md_chunkMany d0), (md_homes d0), (md_dropped d0), (md_madeIn d0), (md_madeAt d0), (md_putMany d0), (md_path d0), (md_store d0), (md_thinOnes d0)))) A) args s 0 0 A) (F0 m 28 ls [])) ?_ FU (0, (upd (upd (md_s d0) (Int32.toNatClampNeg (v6 + 0)) 0) (Int32.toNatClampNeg (v19 + 1)) 0)) hF _ _ _ hP hD hS (lv_sub hl [1, 2, 0] rfl)
  intro self28 ih28 s28_ hF H locs ls hP hD hS hl
  refine lv_iload_n hx hb (kd tdlX9_removes_0 20 rfl) rfl (lv_at hl 2 rfl) ?_
  refine lv_bipush (v := 32) hx hb (kd tdlX9_removes_0 21 rfl) (by decide) ?_
  refine lv_icmp_ge (tgt := 55) hx hb (kd tdlX9_removes_0 22 rfl) (by decide) (fun hc31 => ?_) (fun hc31 => ?_)
  · have hF := kt hc31 hF
    cases ko hF
    exact ke_v hx hb hr hlocks hK hP hD hS (kd tdlX9_removes_0 36 rfl)
  · have hF := kf hc31 hF
    refine lv_aload_n hx hb (kd tdlX9_removes_0 23 rfl) rfl (lv_at hl 0 rfl) ?_
    refine md_g_s hx hb hts inX9_ hown hK hP L7 (kd tdlX9_removes_0 24 rfl) ?_
    refine lv_aload_n hx hb (kd tdlX9_removes_0 25 rfl) rfl (lv_at hl 0 rfl) ?_
    refine lv_iload_n hx hb (kd tdlX9_removes_0 26 rfl) rfl (lv_at hl 1 rfl) ?_
    obtain ⟨v40, e40, hF⟩ := kc hF
    refine kc_i0 (w1 := ((wmdF t h0 a0 (md_thrown d0) s28_.2 (md_aside d0) (md_base d0) (md_saved d0) (md_savedMany d0) (md_slots d0) (md_hasSlot d0) (md_text d0) (md_length d0) (md_begins d0) (md_lengths d0) (md_streams d0) (md_letters d0) (md_letterMany d0) (md_chunks d0) (md_chunkMany d0) (md_homes d0) (md_dropped d0) (md_madeIn d0) (md_madeAt d0) (md_putMany d0) (md_path d0) (md_store d0) (md_thinOnes d0)))) hP hD hS hA (kr_V0 (Qx := (fun A => kQi D (TY t) ((wmdF t h0 a0 (md_thrown d0) s28_.2 (md_aside d0) (md_base d0) (md_saved d0) (md_savedMany d0) (md_slots d0) (md_hasSlot d0) (md_text d0) (md_length d0) (md_begins d0) (md_lengths d0) (md_streams d0) (md_letters d0) (md_letterMany d0) (md_chunks d0) (md_chunkMany d0) (md_homes d0) (md_dropped d0) (md_madeIn d0) (md_madeAt d0) (md_putMany d0) (md_path d0) (md_store d0) (md_thinOnes d0))) v40 A)) (As := [.int p1]) (rest := [.ref (a0 0)]) ⟨hx, hb, hml, hown, hts⟩ hK hP hD (c_X9_backupAt l D t h0 a0 ((md_thrown d0), s28_.2, (md_aside d0), (md_base d0), (md_saved d0), (md_savedMany d0), (md_slots d0), (md_hasSlot d0), (md_text d0), (md_length d0), (md_begins d0), (md_lengths d0), (md_streams d0), (md_letters d0), (md_letterMany d0), (md_chunks d0), (md_chunkMany d0), (md_homes d0), (md_dropped d0), (md_madeIn d0), (md_madeAt d0), (md_putMany d0), (md_path d0), (md_store d0), (md_thinOnes d0)) _ p1 v40 e40) (cwV 1 hts (gcX9_backupAt w_382) rfl rfl rfl hdX9_backupAtV ⟨Nat.le_of_ble_eq_true rfl, Nat.le_of_ble_eq_true rfl⟩) (ci := 8) (q0 := 0) rfl rfl rfl hl.1 rfl (Nat.le_of_ble_eq_true rfl) (kd tdlX9_removes_0 27 rfl) ⟨Nat.zero_le _, Nat.zero_le _⟩) (fun H locs hP hD hS => ?_)
    refine lv_iconst (v := 2) hx hb (kd tdlX9_removes_0 28 rfl) (by decide) ?_
    refine lv_iadd hx hb (kd tdlX9_removes_0 29 rfl) ?_
    refine lv_iload_n hx hb (kd tdlX9_removes_0 30 rfl) rfl (lv_at hl 2 rfl) ?_
    refine lv_iadd hx hb (kd tdlX9_removes_0 31 rfl) ?_
    refine lv_iconst (v := 0) hx hb (kd tdlX9_removes_0 32 rfl) (by decide) ?_
    obtain ⟨hi48, hF⟩ := kg hF
    refine md_s_s hx hb hK hP hD hS hi48 (kd tdlX9_removes_0 33 rfl) (fun H locs hP hD hS => ?_)
    refine lv_iinc (v := (s28_.1 + 1)) (lv' := [(2, .int (s28_.1 + 1)), (0, .ref h0), (1, .int p1)]) hx hb (kd tdlX9_removes_0 34 rfl) hl (k := 2) rfl rfl (by decide) rfl (fun ls hl => ?_)
    refine lv_goto (tgt := 28) hx hb (kd tdlX9_removes_0 35 rfl) (by decide) ?_
    exact ih28 ((s28_.1 + 1), (upd s28_.2 (Int32.toNatClampNeg ((v40 + 2) + s28_.1)) 0)) hF _ _ _ hP hD hS (lv_sub hl [1, 2, 0] rfl)
