set_option maxHeartbeats 4000000 in
set_option maxRecDepth 100000 in
theorem c_X9_chunk (l : Launch) (D : va_G) (t : Nat → ClassId) (h0 : Nat) (a0 : Nat → Nat) (d0 : MDT) (sz : Nat) (p1 : Int32) (p2 : Int32) (p3 : Int32) (r : Int32 × MDT) (hF : F_X9_chunk d0 p1 p2 p3 = some r) : Met l yX9_chunk wX9_chunk ({ frames := 3, cells := 0, slots := 0, locals := 68 } : Room) (kPc D (TY t) ((wmd t h0 a0 d0)) [.ref h0, .int p1, .int p2, .int p3] sz) (kQi D (TY t) ((wmd t h0 a0 r.2)) r.1 (va_A ((wmd t h0 a0 d0)) sz)) 0 0 (va_A ((wmd t h0 a0 d0)) sz) := by
  refine kE (cc := cX9_chunk) (maxL := 7) (ret := (some .int)) (Qx := fun A => kQi D (TY t) ((wmd t h0 a0 r.2)) r.1 A) (lv0 := [(0, .ref h0), (1, .int p1), (2, .int p2), (3, .int p3)]) RX9 rfl (by decide) rfl (Nat.le_of_ble_eq_true rfl) rfl ?_
  intro p e s m args below meth c A ls hx hb hml hr hlocks hown hts hA hK hP hD hS hl
  have L41 := hts (.fieldLink RX9 41 "ChunkCarriersModel" "chunks" "[I") (List.mem_cons_of_mem _ w_111)
  have L65 := hts (.fieldLink RX9 65 "ChunkCarriersModel" "thrown" "I") (List.mem_cons_of_mem _ w_119)
  have L7 := hts (.fieldLink RX9 7 "ChunkCarriersModel" "s" "[I") (List.mem_cons_of_mem _ w_101)
  have L96 := hts (.fieldLink RX9 96 "ChunkCarriersModel" "chunkMany" "I") (List.mem_cons_of_mem _ w_275)
  have inX9_ : ∀ w ∈ wsX90, w ∈ wX9_chunk := fun w h => List.mem_cons_of_mem _ (inlX9 w h)
  have hP : va_P D vwCl ((wmdF t h0 a0 (md_thrown d0) (md_s d0) (md_aside d0) (md_base d0) (md_saved d0) (md_savedMany d0) (md_slots d0) (md_hasSlot d0) (md_text d0) (md_length d0) (md_begins d0) (md_lengths d0) (md_streams d0) (md_letters d0) (md_letterMany d0) (md_chunks d0) (md_chunkMany d0) (md_homes d0) (md_dropped d0) (md_madeIn d0) (md_madeAt d0) (md_putMany d0) (md_path d0) (md_store d0) (md_thinOnes d0))) s.heap := hP
  have hD : va_D A ((wmdF t h0 a0 (md_thrown d0) (md_s d0) (md_aside d0) (md_base d0) (md_saved d0) (md_savedMany d0) (md_slots d0) (md_hasSlot d0) (md_text d0) (md_length d0) (md_begins d0) (md_lengths d0) (md_streams d0) (md_letters d0) (md_letterMany d0) (md_chunks d0) (md_chunkMany d0) (md_homes d0) (md_dropped d0) (md_madeIn d0) (md_madeAt d0) (md_putMany d0) (md_path d0) (md_store d0) (md_thinOnes d0))) := hD
  refine lv_aload_n hx hb (kd tdlX9_chunk_0 0 rfl) rfl (lv_at hl 0 rfl) ?_
  refine lv_iconst (v := 0) hx hb (kd tdlX9_chunk_0 1 rfl) (by decide) ?_
  refine md_p_thrown hx hb hts inX9_ hown hK hP hD hS L65 (kd tdlX9_chunk_0 2 rfl) (fun H locs hP hD hS => ?_)
  refine lv_aload_n hx hb (kd tdlX9_chunk_0 3 rfl) rfl (lv_at hl 0 rfl) ?_
  refine lv_iload_n hx hb (kd tdlX9_chunk_0 4 rfl) rfl (lv_at hl 1 rfl) ?_
  obtain ⟨v7, e7, hF⟩ := kc hF
  refine kc_i0 (w1 := ((wmdF t h0 a0 0 (md_s d0) (md_aside d0) (md_base d0) (md_saved d0) (md_savedMany d0) (md_slots d0) (md_hasSlot d0) (md_text d0) (md_length d0) v7.2.1 v7.2.2.1 v7.2.2.2 (md_letters d0) (md_letterMany d0) (md_chunks d0) (md_chunkMany d0) (md_homes d0) (md_dropped d0) (md_madeIn d0) (md_madeAt d0) (md_putMany d0) (md_path d0) (md_store d0) (md_thinOnes d0)))) hP hD hS hA (kr_V0 (Qx := (fun A => kQi D (TY t) ((wmdF t h0 a0 0 (md_s d0) (md_aside d0) (md_base d0) (md_saved d0) (md_savedMany d0) (md_slots d0) (md_hasSlot d0) (md_text d0) (md_length d0) v7.2.1 v7.2.2.1 v7.2.2.2 (md_letters d0) (md_letterMany d0) (md_chunks d0) (md_chunkMany d0) (md_homes d0) (md_dropped d0) (md_madeIn d0) (md_madeAt d0) (md_putMany d0) (md_path d0) (md_store d0) (md_thinOnes d0))) v7.1 A)) (As := [.int p1]) (rest := []) ⟨hx, hb, hml, hown, hts⟩ hK hP hD (c_X9_isStream l D t h0 a0 (0, (md_s d0), (md_aside d0), (md_base d0), (md_saved d0), (md_savedMany d0), (md_slots d0), (md_hasSlot d0), (md_text d0), (md_length d0), (md_begins d0), (md_lengths d0), (md_streams d0), (md_letters d0), (md_letterMany d0), (md_chunks d0), (md_chunkMany d0), (md_homes d0), (md_dropped d0), (md_madeIn d0), (md_madeAt d0), (md_putMany d0), (md_path d0), (md_store d0), (md_thinOnes d0)) _ p1 v7 e7) (cwV 1 hts (gcX9_isStream w_276) rfl rfl rfl hdX9_isStreamV ⟨Nat.le_of_ble_eq_true rfl, Nat.le_of_ble_eq_true rfl⟩) (ci := 8) (q0 := 0) rfl rfl rfl hl.1 rfl (Nat.le_of_ble_eq_true rfl) (kd tdlX9_chunk_0 5 rfl) ⟨Nat.zero_le _, Nat.zero_le _⟩) (fun H locs hP hD hS => ?_)
  refine lv_if_ne (tgt := 19) hx hb (kd tdlX9_chunk_0 6 rfl) (by decide) (fun hc10 => ?_) (fun hc10 => ?_)
  · have hF := kf hc10 hF
    refine lv_iload_n hx hb (kd tdlX9_chunk_0 11 rfl) rfl (lv_at hl 2 rfl) ?_
    have hJ32 : ∀ j32 : Unit, J_X9_chunk_32 d0 v7 j32 = some r → ∀ (H : Heap) (locs : List Loc) (ls : Array Slot), va_P D vwCl ((wmdF t h0 a0 0 (md_s d0) (md_aside d0) (md_base d0) (md_saved d0) (md_savedMany d0) (md_slots d0) (md_hasSlot d0) (md_text d0) (md_length d0) v7.2.1 v7.2.2.1 v7.2.2.2 (md_letters d0) (md_letterMany d0) (md_chunks d0) (md_chunkMany d0) (md_homes d0) (md_dropped d0) (md_madeIn d0) (md_madeAt d0) (md_putMany d0) (md_path d0) (md_store d0) (md_thinOnes d0))) H → va_D A ((wmdF t h0 a0 0 (md_s d0) (md_aside d0) (md_base d0) (md_saved d0) (md_savedMany d0) (md_slots d0) (md_hasSlot d0) (md_text d0) (md_length d0) v7.2.1 v7.2.2.1 v7.2.2.2 (md_letters d0) (md_letterMany d0) (md_chunks d0) (md_chunkMany d0) (md_homes d0) (md_dropped d0) (md_madeIn d0) (md_madeAt d0) (md_putMany d0) (md_path d0) (md_store d0) (md_thinOnes d0))) → va_S A s.heap H locs → lv_has ls 7 [(0, .ref h0)] → W p l e ({ frames := 3, cells := 0, slots := 0, locals := 68 } : Room) s m args below meth c H locs 0 0 (MQ below (kQi D (TY t) ((wmd t h0 a0 r.2)) r.1 A) args s 0 0 A) (F0 m 32 ls []) := by
      intro j32 hF H locs ls hP hD hS hl
      refine lv_aload_n hx hb (kd tdlX9_chunk_0 18 rfl) rfl (lv_at hl 0 rfl) ?_
      refine lv_iconst (v := 2) hx hb (kd tdlX9_chunk_0 19 rfl) (by decide) ?_
      obtain ⟨v34, e34, hF⟩ := kc hF
      refine kc_i0 (w1 := ((wmdF t h0 a0 v34.2 (md_s d0) (md_aside d0) (md_base d0) (md_saved d0) (md_savedMany d0) (md_slots d0) (md_hasSlot d0) (md_text d0) (md_length d0) v7.2.1 v7.2.2.1 v7.2.2.2 (md_letters d0) (md_letterMany d0) (md_chunks d0) (md_chunkMany d0) (md_homes d0) (md_dropped d0) (md_madeIn d0) (md_madeAt d0) (md_putMany d0) (md_path d0) (md_store d0) (md_thinOnes d0)))) hP hD hS hA (kr_V0 (Qx := (fun A => kQi D (TY t) ((wmdF t h0 a0 v34.2 (md_s d0) (md_aside d0) (md_base d0) (md_saved d0) (md_savedMany d0) (md_slots d0) (md_hasSlot d0) (md_text d0) (md_length d0) v7.2.1 v7.2.2.1 v7.2.2.2 (md_letters d0) (md_letterMany d0) (md_chunks d0) (md_chunkMany d0) (md_homes d0) (md_dropped d0) (md_madeIn d0) (md_madeAt d0) (md_putMany d0) (md_path d0) (md_store d0) (md_thinOnes d0))) v34.1 A)) (As := [.int 2]) (rest := []) ⟨hx, hb, hml, hown, hts⟩ hK hP hD (c_X9_fails l D t h0 a0 (0, (md_s d0), (md_aside d0), (md_base d0), (md_saved d0), (md_savedMany d0), (md_slots d0), (md_hasSlot d0), (md_text d0), (md_length d0), v7.2.1, v7.2.2.1, v7.2.2.2, (md_letters d0), (md_letterMany d0), (md_chunks d0), (md_chunkMany d0), (md_homes d0), (md_dropped d0), (md_madeIn d0), (md_madeAt d0), (md_putMany d0), (md_path d0), (md_store d0), (md_thinOnes d0)) _ 2 v34 e34) (cwV 1 hts (gcX9_fails w_153) rfl rfl rfl hdX9_failsV ⟨Nat.le_of_ble_eq_true rfl, Nat.le_of_ble_eq_true rfl⟩) (ci := 8) (q0 := 0) rfl rfl rfl hl.1 rfl (Nat.le_of_ble_eq_true rfl) (kd tdlX9_chunk_0 20 rfl) ⟨Nat.zero_le _, Nat.zero_le _⟩) (fun H locs hP hD hS => ?_)
      cases ko hF
      exact ke_i hx hb hr hlocks hK hP hD hS rfl (kd tdlX9_chunk_0 21 rfl)
    refine lv_if_lt (tgt := 32) hx hb (kd tdlX9_chunk_0 12 rfl) (by decide) (fun hc20 => ?_) (fun hc20 => ?_)
    · have hF := kt hc20 hF
      exact hJ32 () hF _ _ _ hP hD hS (lv_sub hl [0] rfl)
    · have hF := kf hc20 hF
      refine lv_iload_n hx hb (kd tdlX9_chunk_0 13 rfl) rfl (lv_at hl 3 rfl) ?_
      refine lv_iconst (v := 0) hx hb (kd tdlX9_chunk_0 14 rfl) (by decide) ?_
      refine lv_iconst (v := 3) hx hb (kd tdlX9_chunk_0 15 rfl) (by decide) ?_
      obtain ⟨v26, e26, hF⟩ := kc hF
      refine kc_iR hK hP hD hS hA [] rfl (kr_S (Qx := (fun A => kQi D (TY t) ([] : va_W) v26 A)) (wc := ([] : va_W)) (As := [.int p3, .int 0, .int 3]) (rest := []) ⟨hx, hb, hml, hown, hts⟩ hK hP hD [] nd_ rfl (c_X9_in l D t  _ p3 0 3 v26 e26) (va_cwS 3 hts (gcX9_in w_150) rfl rfl rfl hdX9_inS ⟨Nat.le_of_ble_eq_true rfl, Nat.le_of_ble_eq_true rfl⟩) rfl hl.1 rfl (Nat.le_of_ble_eq_true rfl) (kd tdlX9_chunk_0 16 rfl) ⟨Nat.zero_le _, Nat.zero_le _⟩) (fun H locs hP hS => ?_)
      refine lv_if_ne (tgt := 38) hx hb (kd tdlX9_chunk_0 17 rfl) (by decide) (fun hc29 => ?_) (fun hc29 => ?_)
      · have hF := kf hc29 hF
        refine lv_aload_n hx hb (kd tdlX9_chunk_0 22 rfl) rfl (lv_at hl 0 rfl) ?_
        refine lv_iload_n hx hb (kd tdlX9_chunk_0 23 rfl) rfl (lv_at hl 1 rfl) ?_
        obtain ⟨v40, e40, hF⟩ := kc hF
        refine kc_v0 (w1 := ((wmdF t h0 a0 0 (md_s d0) (md_aside d0) (md_base d0) (md_saved d0) (md_savedMany d0) (md_slots d0) (md_hasSlot d0) (md_text d0) (md_length d0) v7.2.1 v7.2.2.1 v7.2.2.2 v40.1 v40.2.1 v40.2.2.1 v40.2.2.2 (md_homes d0) (md_dropped d0) (md_madeIn d0) (md_madeAt d0) (md_putMany d0) (md_path d0) (md_store d0) (md_thinOnes d0)))) hP hD hS hA (kr_V0 (Qx := (fun A => kQv D (TY t) ((wmdF t h0 a0 0 (md_s d0) (md_aside d0) (md_base d0) (md_saved d0) (md_savedMany d0) (md_slots d0) (md_hasSlot d0) (md_text d0) (md_length d0) v7.2.1 v7.2.2.1 v7.2.2.2 v40.1 v40.2.1 v40.2.2.1 v40.2.2.2 (md_homes d0) (md_dropped d0) (md_madeIn d0) (md_madeAt d0) (md_putMany d0) (md_path d0) (md_store d0) (md_thinOnes d0))) A)) (As := [.int p1]) (rest := []) ⟨hx, hb, hml, hown, hts⟩ hK hP hD (c_X9_laysStream l D t h0 a0 (0, (md_s d0), (md_aside d0), (md_base d0), (md_saved d0), (md_savedMany d0), (md_slots d0), (md_hasSlot d0), (md_text d0), (md_length d0), v7.2.1, v7.2.2.1, v7.2.2.2, (md_letters d0), (md_letterMany d0), (md_chunks d0), (md_chunkMany d0), (md_homes d0), (md_dropped d0), (md_madeIn d0), (md_madeAt d0), (md_putMany d0), (md_path d0), (md_store d0), (md_thinOnes d0)) _ p1 v40 e40) (cwV 1 hts (gcX9_laysStream w_280) rfl rfl rfl hdX9_laysStreamV ⟨Nat.le_of_ble_eq_true rfl, Nat.le_of_ble_eq_true rfl⟩) (ci := 8) (q0 := 0) rfl rfl rfl hl.1 rfl (Nat.le_of_ble_eq_true rfl) (kd tdlX9_chunk_0 24 rfl) ⟨Nat.zero_le _, Nat.zero_le _⟩) (fun H locs hP hD hS => ?_)
        refine lv_iload_n hx hb (kd tdlX9_chunk_0 25 rfl) rfl (lv_at hl 2 rfl) ?_
        refine lv_aload_n hx hb (kd tdlX9_chunk_0 26 rfl) rfl (lv_at hl 0 rfl) ?_
        refine md_g_chunkMany hx hb hts inX9_ hown hK hP L96 (kd tdlX9_chunk_0 27 rfl) ?_
        refine lv_icmp_lt (tgt := 53) hx hb (kd tdlX9_chunk_0 28 rfl) (by decide) (fun hc48 => ?_) (fun hc48 => ?_)
        · have hF := kt hc48 hF
          refine lv_iload_n hx hb (kd tdlX9_chunk_0 31 rfl) rfl (lv_at hl 3 rfl) ?_
          refine lv_iconst (v := 2) hx hb (kd tdlX9_chunk_0 32 rfl) (by decide) ?_
          refine lv_icmp_ge (tgt := 84) hx hb (kd tdlX9_chunk_0 33 rfl) (by decide) (fun hc55 => ?_) (fun hc55 => ?_)
          · have hF := kt hc55 hF
            refine lv_iload_n hx hb (kd tdlX9_chunk_1 3 rfl) rfl (lv_at hl 3 rfl) ?_
            refine lv_iconst (v := 3) hx hb (kd tdlX9_chunk_1 4 rfl) (by decide) ?_
            refine lv_icmp_ne (tgt := 100) hx hb (kd tdlX9_chunk_1 5 rfl) (by decide) (fun hc86 => ?_) (fun hc86 => ?_)
            · have hF := kf hc86 hF
              refine lv_iconst (v := 0) hx hb (kd tdlX9_chunk_1 13 rfl) (by decide) ?_
              refine lv_istore (lv' := [(4, .int 0), (0, .ref h0), (1, .int p1), (2, .int p2), (3, .int p3)]) hx hb (kd tdlX9_chunk_1 14 rfl) hl (by decide) rfl (fun ls hl => ?_)
              refine lv_iconst (v := 0) hx hb (kd tdlX9_chunk_1 15 rfl) (by decide) ?_
              refine lv_istore (lv' := [(5, .int 0), (4, .int 0), (0, .ref h0), (1, .int p1), (2, .int p2), (3, .int p3)]) hx hb (kd tdlX9_chunk_1 16 rfl) hl (by decide) rfl (fun ls hl => ?_)
              refine lp_ind (f := B_X9_chunk_106 d0 v7 v40 p2) (r := r) (P := fun s106_ => ∀ (H : Heap) (locs : List Loc) (ls : Array Slot), va_P D vwCl ((wmdF t h0 a0 0 (md_s d0) (md_aside d0) (md_base d0) (md_saved d0) (md_savedMany d0) (md_slots d0) (md_hasSlot d0) (md_text d0) (md_length d0) v7.2.1 v7.2.2.1 v7.2.2.2 v40.1 v40.2.1 v40.2.2.1 v40.2.2.2 (md_homes d0) (md_dropped d0) (md_madeIn d0) (md_madeAt d0) (md_putMany d0) (md_path d0) (md_store d0) (md_thinOnes d0))) H → va_D A ((wmdF t h0 a0 0 (md_s d0) (md_aside d0) (md_base d0) (md_saved d0) (md_savedMany d0) (md_slots d0) (md_hasSlot d0) (md_text d0) (md_length d0) v7.2.1 v7.2.2.1 v7.2.2.2 v40.1 v40.2.1 v40.2.2.1 v40.2.2.2 (md_homes d0) (md_dropped d0) (md_madeIn d0) (md_madeAt d0) (md_putMany d0) (md_path d0) (md_store d0) (md_thinOnes d0))) → va_S A s.heap H locs → lv_has ls 7 [(0, .ref h0), (2, .int p2), (4, .int s106_.1), (5, .int s106_.2)] → W p l e ({ frames := 3, cells := 0, slots := 0, locals := 68 } : Room) s m args below meth c H locs 0 0 (MQ below (kQi D (TY t) ((wmd t h0 a0 r.2)) r.1 A) args s 0 0 A) (F0 m 106 ls [])) ?_ FU (0, 0) hF _ _ _ hP hD hS (lv_sub hl [2, 4, 1, 0] rfl)
              intro self106 ih106 s106_ hF H locs ls hP hD hS hl
              refine lv_iload hx hb (kd tdlX9_chunk_1 17 rfl) (lv_at hl 3 rfl) ?_
              refine lv_aload_n hx hb (kd tdlX9_chunk_1 18 rfl) rfl (lv_at hl 0 rfl) ?_
              refine md_g_s hx hb hts inX9_ hown hK hP L7 (kd tdlX9_chunk_1 19 rfl) ?_
              refine lv_bipush (v := 7) hx hb (kd tdlX9_chunk_1 20 rfl) (by decide) ?_
              obtain ⟨hi114, hF⟩ := kg hF
              refine md_l_s hx hb hK hP hi114 (kd tdlX9_chunk_1 21 rfl) ?_
              refine lv_icmp_ge (tgt := 186) hx hb (kd tdlX9_chunk_1 22 rfl) (by decide) (fun hc115 => ?_) (fun hc115 => ?_)
              · have hF := kt hc115 hF
                refine lv_iload hx hb (kd tdlX9_chunk_2 15 rfl) (lv_at hl 2 rfl) ?_
                cases ko hF
                exact ke_i hx hb hr hlocks hK hP hD hS rfl (kd tdlX9_chunk_2 16 rfl)
              · have hF := kf hc115 hF
                refine lv_iconst (v := 0) hx hb (kd tdlX9_chunk_1 23 rfl) (by decide) ?_
                refine lv_istore (lv' := [(6, .int 0), (0, .ref h0), (2, .int p2), (4, .int s106_.1), (5, .int s106_.2)]) hx hb (kd tdlX9_chunk_1 24 rfl) hl (by decide) rfl (fun ls hl => ?_)
                refine lp_ind (f := B_X9_chunk_121 s106_ d0 self106 p2 v40) (r := r) (P := fun s121_ => ∀ (H : Heap) (locs : List Loc) (ls : Array Slot), va_P D vwCl ((wmdF t h0 a0 0 (md_s d0) (md_aside d0) (md_base d0) (md_saved d0) (md_savedMany d0) (md_slots d0) (md_hasSlot d0) (md_text d0) (md_length d0) v7.2.1 v7.2.2.1 v7.2.2.2 v40.1 v40.2.1 v40.2.2.1 v40.2.2.2 (md_homes d0) (md_dropped d0) (md_madeIn d0) (md_madeAt d0) (md_putMany d0) (md_path d0) (md_store d0) (md_thinOnes d0))) H → va_D A ((wmdF t h0 a0 0 (md_s d0) (md_aside d0) (md_base d0) (md_saved d0) (md_savedMany d0) (md_slots d0) (md_hasSlot d0) (md_text d0) (md_length d0) v7.2.1 v7.2.2.1 v7.2.2.2 v40.1 v40.2.1 v40.2.2.1 v40.2.2.2 (md_homes d0) (md_dropped d0) (md_madeIn d0) (md_madeAt d0) (md_putMany d0) (md_path d0) (md_store d0) (md_thinOnes d0))) → va_S A s.heap H locs → lv_has ls 7 [(0, .ref h0), (2, .int p2), (4, .int s121_.1), (5, .int s106_.2), (6, .int s121_.2)] → W p l e ({ frames := 3, cells := 0, slots := 0, locals := 68 } : Room) s m args below meth c H locs 0 0 (MQ below (kQi D (TY t) ((wmd t h0 a0 r.2)) r.1 A) args s 0 0 A) (F0 m 121 ls [])) ?_ FU (s106_.1, 0) hF _ _ _ hP hD hS (lv_sub hl [1, 2, 3, 4, 0] rfl)
                intro self121 ih121 s121_ hF H locs ls hP hD hS hl
                refine lv_iload hx hb (kd tdlX9_chunk_1 25 rfl) (lv_at hl 4 rfl) ?_
                refine lv_aload_n hx hb (kd tdlX9_chunk_1 26 rfl) rfl (lv_at hl 0 rfl) ?_
                refine md_g_s hx hb hts inX9_ hown hK hP L7 (kd tdlX9_chunk_1 27 rfl) ?_
                refine lv_aload_n hx hb (kd tdlX9_chunk_1 28 rfl) rfl (lv_at hl 0 rfl) ?_
                refine lv_iload hx hb (kd tdlX9_chunk_1 29 rfl) (lv_at hl 3 rfl) ?_
                obtain ⟨v130, e130, hF⟩ := kc hF
                refine kc_i0 (w1 := ((wmdF t h0 a0 0 (md_s d0) (md_aside d0) (md_base d0) (md_saved d0) (md_savedMany d0) (md_slots d0) (md_hasSlot d0) (md_text d0) (md_length d0) v7.2.1 v7.2.2.1 v7.2.2.2 v40.1 v40.2.1 v40.2.2.1 v40.2.2.2 (md_homes d0) (md_dropped d0) (md_madeIn d0) (md_madeAt d0) (md_putMany d0) (md_path d0) (md_store d0) (md_thinOnes d0)))) hP hD hS hA (kr_V0 (Qx := (fun A => kQi D (TY t) ((wmdF t h0 a0 0 (md_s d0) (md_aside d0) (md_base d0) (md_saved d0) (md_savedMany d0) (md_slots d0) (md_hasSlot d0) (md_text d0) (md_length d0) v7.2.1 v7.2.2.1 v7.2.2.2 v40.1 v40.2.1 v40.2.2.1 v40.2.2.2 (md_homes d0) (md_dropped d0) (md_madeIn d0) (md_madeAt d0) (md_putMany d0) (md_path d0) (md_store d0) (md_thinOnes d0))) v130 A)) (As := [.int s106_.2]) (rest := [.ref (a0 0), .int s121_.2]) ⟨hx, hb, hml, hown, hts⟩ hK hP hD (c_X9_at l D t h0 a0 (0, (md_s d0), (md_aside d0), (md_base d0), (md_saved d0), (md_savedMany d0), (md_slots d0), (md_hasSlot d0), (md_text d0), (md_length d0), v7.2.1, v7.2.2.1, v7.2.2.2, v40.1, v40.2.1, v40.2.2.1, v40.2.2.2, (md_homes d0), (md_dropped d0), (md_madeIn d0), (md_madeAt d0), (md_putMany d0), (md_path d0), (md_store d0), (md_thinOnes d0)) _ s106_.2 v130 e130) (cwV 1 hts (gcX9_at w_306) rfl rfl rfl hdX9_atV ⟨Nat.le_of_ble_eq_true rfl, Nat.le_of_ble_eq_true rfl⟩) (ci := 8) (q0 := 0) rfl rfl rfl hl.1 rfl (Nat.le_of_ble_eq_true rfl) (kd tdlX9_chunk_1 30 rfl) ⟨Nat.zero_le _, Nat.zero_le _⟩) (fun H locs hP hD hS => ?_)
                refine lv_iconst (v := 2) hx hb (kd tdlX9_chunk_1 31 rfl) (by decide) ?_
                refine lv_iadd hx hb (kd tdlX9_chunk_1 32 rfl) ?_
                obtain ⟨hi135, hF⟩ := kg hF
                refine md_l_s hx hb hK hP hi135 (kd tdlX9_chunk_1 33 rfl) ?_
                refine lv_icmp_ge (tgt := 180) hx hb (kd tdlX9_chunk_1 34 rfl) (by decide) (fun hc136 => ?_) (fun hc136 => ?_)
                · have hF := kt hc136 hF
                  refine lv_iinc (v := (s106_.2 + 1)) (lv' := [(5, .int (s106_.2 + 1)), (0, .ref h0), (2, .int p2), (4, .int s121_.1), (6, .int s121_.2)]) hx hb (kd tdlX9_chunk_2 13 rfl) hl (k := 3) rfl rfl (by decide) rfl (fun ls hl => ?_)
                  refine lv_goto (tgt := 106) hx hb (kd tdlX9_chunk_2 14 rfl) (by decide) ?_
                  exact ih106 (s121_.1, (s106_.2 + 1)) hF _ _ _ hP hD hS (lv_sub hl [1, 2, 3, 0] rfl)
                · have hF := kf hc136 hF
                  refine lv_iload hx hb (kd tdlX9_chunk_1 35 rfl) (lv_at hl 2 rfl) ?_
                  refine lv_aload_n hx hb (kd tdlX9_chunk_1 36 rfl) rfl (lv_at hl 0 rfl) ?_
                  refine md_g_s hx hb hts inX9_ hown hK hP L7 (kd tdlX9_chunk_1 37 rfl) ?_
                  refine lv_aload_n hx hb (kd tdlX9_chunk_1 38 rfl) rfl (lv_at hl 0 rfl) ?_
                  refine lv_iload hx hb (kd tdlX9_chunk_1 39 rfl) (lv_at hl 3 rfl) ?_
                  obtain ⟨v148, e148, hF⟩ := kc hF
                  refine kc_i0 (w1 := ((wmdF t h0 a0 0 (md_s d0) (md_aside d0) (md_base d0) (md_saved d0) (md_savedMany d0) (md_slots d0) (md_hasSlot d0) (md_text d0) (md_length d0) v7.2.1 v7.2.2.1 v7.2.2.2 v40.1 v40.2.1 v40.2.2.1 v40.2.2.2 (md_homes d0) (md_dropped d0) (md_madeIn d0) (md_madeAt d0) (md_putMany d0) (md_path d0) (md_store d0) (md_thinOnes d0)))) hP hD hS hA (kr_V0 (Qx := (fun A => kQi D (TY t) ((wmdF t h0 a0 0 (md_s d0) (md_aside d0) (md_base d0) (md_saved d0) (md_savedMany d0) (md_slots d0) (md_hasSlot d0) (md_text d0) (md_length d0) v7.2.1 v7.2.2.1 v7.2.2.2 v40.1 v40.2.1 v40.2.2.1 v40.2.2.2 (md_homes d0) (md_dropped d0) (md_madeIn d0) (md_madeAt d0) (md_putMany d0) (md_path d0) (md_store d0) (md_thinOnes d0))) v148 A)) (As := [.int s106_.2]) (rest := [.ref (a0 0), .int s121_.1]) ⟨hx, hb, hml, hown, hts⟩ hK hP hD (c_X9_at l D t h0 a0 (0, (md_s d0), (md_aside d0), (md_base d0), (md_saved d0), (md_savedMany d0), (md_slots d0), (md_hasSlot d0), (md_text d0), (md_length d0), v7.2.1, v7.2.2.1, v7.2.2.2, v40.1, v40.2.1, v40.2.2.1, v40.2.2.2, (md_homes d0), (md_dropped d0), (md_madeIn d0), (md_madeAt d0), (md_putMany d0), (md_path d0), (md_store d0), (md_thinOnes d0)) _ s106_.2 v148 e148) (cwV 1 hts (gcX9_at w_306) rfl rfl rfl hdX9_atV ⟨Nat.le_of_ble_eq_true rfl, Nat.le_of_ble_eq_true rfl⟩) (ci := 8) (q0 := 0) rfl rfl rfl hl.1 rfl (Nat.le_of_ble_eq_true rfl) (kd tdlX9_chunk_1 40 rfl) ⟨Nat.zero_le _, Nat.zero_le _⟩) (fun H locs hP hD hS => ?_)
                  refine lv_iconst (v := 3) hx hb (kd tdlX9_chunk_1 41 rfl) (by decide) ?_
                  refine lv_iadd hx hb (kd tdlX9_chunk_1 42 rfl) ?_
                  refine lv_iload hx hb (kd tdlX9_chunk_1 43 rfl) (lv_at hl 4 rfl) ?_
                  refine lv_iadd hx hb (kd tdlX9_chunk_1 44 rfl) ?_
                  obtain ⟨hi156, hF⟩ := kg hF
                  refine md_l_s hx hb hK hP hi156 (kd tdlX9_chunk_2 0 rfl) ?_
                  refine lv_aload_n hx hb (kd tdlX9_chunk_2 1 rfl) rfl (lv_at hl 0 rfl) ?_
                  refine md_g_chunks hx hb hts inX9_ hown hK hP L41 (kd tdlX9_chunk_2 2 rfl) ?_
                  refine lv_iload_n hx hb (kd tdlX9_chunk_2 3 rfl) rfl (lv_at hl 1 rfl) ?_
                  obtain ⟨hi162, hF⟩ := kg hF
                  refine md_l_chunks hx hb hK hP hi162 (kd tdlX9_chunk_2 4 rfl) ?_
                  refine lv_icmp_ne (tgt := 170) hx hb (kd tdlX9_chunk_2 5 rfl) (by decide) (fun hc163 => ?_) (fun hc163 => ?_)
                  · have hF := kf hc163 hF
                    refine lv_iconst (v := 0) hx hb (kd tdlX9_chunk_2 8 rfl) (by decide) ?_
                    refine lv_iadd hx hb (kd tdlX9_chunk_2 9 rfl) ?_
                    refine lv_istore (lv' := [(4, .int (s121_.1 + 0)), (0, .ref h0), (2, .int p2), (5, .int s106_.2), (6, .int s121_.2)]) hx hb (kd tdlX9_chunk_2 10 rfl) hl (by decide) rfl (fun ls hl => ?_)
                    refine lv_iinc (v := (s121_.2 + 1)) (lv' := [(6, .int (s121_.2 + 1)), (4, .int (s121_.1 + 0)), (0, .ref h0), (2, .int p2), (5, .int s106_.2)]) hx hb (kd tdlX9_chunk_2 11 rfl) hl (k := 4) rfl rfl (by decide) rfl (fun ls hl => ?_)
                    refine lv_goto (tgt := 121) hx hb (kd tdlX9_chunk_2 12 rfl) (by decide) ?_
                    exact ih121 ((s121_.1 + 0), (s121_.2 + 1)) hF _ _ _ hP hD hS (lv_sub hl [2, 3, 1, 4, 0] rfl)
                  · have hF := kt hc163 hF
                    refine lv_iconst (v := 1) hx hb (kd tdlX9_chunk_2 6 rfl) (by decide) ?_
                    refine lv_goto (tgt := 171) hx hb (kd tdlX9_chunk_2 7 rfl) (by decide) ?_
                    refine lv_iadd hx hb (kd tdlX9_chunk_2 9 rfl) ?_
                    refine lv_istore (lv' := [(4, .int (s121_.1 + 1)), (0, .ref h0), (2, .int p2), (5, .int s106_.2), (6, .int s121_.2)]) hx hb (kd tdlX9_chunk_2 10 rfl) hl (by decide) rfl (fun ls hl => ?_)
                    refine lv_iinc (v := (s121_.2 + 1)) (lv' := [(6, .int (s121_.2 + 1)), (4, .int (s121_.1 + 1)), (0, .ref h0), (2, .int p2), (5, .int s106_.2)]) hx hb (kd tdlX9_chunk_2 11 rfl) hl (k := 4) rfl rfl (by decide) rfl (fun ls hl => ?_)
                    refine lv_goto (tgt := 121) hx hb (kd tdlX9_chunk_2 12 rfl) (by decide) ?_
                    exact ih121 ((s121_.1 + 1), (s121_.2 + 1)) hF _ _ _ hP hD hS (lv_sub hl [2, 3, 1, 4, 0] rfl)
            · have hF := kt hc86 hF
              refine lv_aload_n hx hb (kd tdlX9_chunk_1 6 rfl) rfl (lv_at hl 0 rfl) ?_
              refine lv_aload_n hx hb (kd tdlX9_chunk_1 7 rfl) rfl (lv_at hl 0 rfl) ?_
              refine md_g_chunks hx hb hts inX9_ hown hK hP L41 (kd tdlX9_chunk_1 8 rfl) ?_
              refine lv_iload_n hx hb (kd tdlX9_chunk_1 9 rfl) rfl (lv_at hl 2 rfl) ?_
              obtain ⟨hi95, hF⟩ := kg hF
              refine md_l_chunks hx hb hK hP hi95 (kd tdlX9_chunk_1 10 rfl) ?_
              obtain ⟨v96, e96, hF⟩ := kc hF
              refine kc_i0 (w1 := ((wmdF t h0 a0 0 (md_s d0) (md_aside d0) (md_base d0) (md_saved d0) (md_savedMany d0) (md_slots d0) (md_hasSlot d0) (md_text d0) (md_length d0) v7.2.1 v7.2.2.1 v7.2.2.2 v40.1 v40.2.1 v40.2.2.1 v40.2.2.2 (md_homes d0) (md_dropped d0) (md_madeIn d0) (md_madeAt d0) (md_putMany d0) (md_path d0) (md_store d0) (md_thinOnes d0)))) hP hD hS hA (kr_V0 (Qx := (fun A => kQi D (TY t) ((wmdF t h0 a0 0 (md_s d0) (md_aside d0) (md_base d0) (md_saved d0) (md_savedMany d0) (md_slots d0) (md_hasSlot d0) (md_text d0) (md_length d0) v7.2.1 v7.2.2.1 v7.2.2.2 v40.1 v40.2.1 v40.2.2.1 v40.2.2.2 (md_homes d0) (md_dropped d0) (md_madeIn d0) (md_madeAt d0) (md_putMany d0) (md_path d0) (md_store d0) (md_thinOnes d0))) v96 A)) (As := [.int (v40.2.2.1 (Int32.toNatClampNeg p2))]) (rest := []) ⟨hx, hb, hml, hown, hts⟩ hK hP hD (c_X9_homeOf l D t h0 a0 (0, (md_s d0), (md_aside d0), (md_base d0), (md_saved d0), (md_savedMany d0), (md_slots d0), (md_hasSlot d0), (md_text d0), (md_length d0), v7.2.1, v7.2.2.1, v7.2.2.2, v40.1, v40.2.1, v40.2.2.1, v40.2.2.2, (md_homes d0), (md_dropped d0), (md_madeIn d0), (md_madeAt d0), (md_putMany d0), (md_path d0), (md_store d0), (md_thinOnes d0)) _ (v40.2.2.1 (Int32.toNatClampNeg p2)) v96 e96) (cwV 1 hts (gcX9_homeOf w_298) rfl rfl rfl hdX9_homeOfV ⟨Nat.le_of_ble_eq_true rfl, Nat.le_of_ble_eq_true rfl⟩) (ci := 8) (q0 := 0) rfl rfl rfl hl.1 rfl (Nat.le_of_ble_eq_true rfl) (kd tdlX9_chunk_1 11 rfl) ⟨Nat.zero_le _, Nat.zero_le _⟩) (fun H locs hP hD hS => ?_)
              cases ko hF
              exact ke_i hx hb hr hlocks hK hP hD hS rfl (kd tdlX9_chunk_1 12 rfl)
          · have hF := kf hc55 hF
            refine lv_iload_n hx hb (kd tdlX9_chunk_0 34 rfl) rfl (lv_at hl 3 rfl) ?_
            refine lv_if_ne (tgt := 74) hx hb (kd tdlX9_chunk_0 35 rfl) (by decide) (fun hc59 => ?_) (fun hc59 => ?_)
            · have hF := kf hc59 hF
              refine lv_aload_n hx hb (kd tdlX9_chunk_0 42 rfl) rfl (lv_at hl 0 rfl) ?_
              refine md_g_chunks hx hb hts inX9_ hown hK hP L41 (kd tdlX9_chunk_0 43 rfl) ?_
              refine lv_iload_n hx hb (kd tdlX9_chunk_0 44 rfl) rfl (lv_at hl 2 rfl) ?_
              obtain ⟨hi79, hF⟩ := kg hF
              refine md_l_chunks hx hb hK hP hi79 (kd tdlX9_chunk_1 0 rfl) ?_
              obtain ⟨v80, e80, hF⟩ := kc hF
              refine kc_iR hK hP hD hS hA [] rfl (kr_S (Qx := (fun A => kQi D (TY t) ([] : va_W) v80 A)) (wc := ([] : va_W)) (As := [.int (v40.2.2.1 (Int32.toNatClampNeg p2))]) (rest := []) ⟨hx, hb, hml, hown, hts⟩ hK hP hD [] nd_ rfl (c_X9_sumOf l D t  _ (v40.2.2.1 (Int32.toNatClampNeg p2)) v80 e80) (va_cwS 1 hts (gcX9_sumOf w_292) rfl rfl rfl hdX9_sumOfS ⟨Nat.le_of_ble_eq_true rfl, Nat.le_of_ble_eq_true rfl⟩) rfl hl.1 rfl (Nat.le_of_ble_eq_true rfl) (kd tdlX9_chunk_1 1 rfl) ⟨Nat.zero_le _, Nat.zero_le _⟩) (fun H locs hP hS => ?_)
              cases ko hF
              exact ke_i hx hb hr hlocks hK hP hD hS rfl (kd tdlX9_chunk_1 2 rfl)
            · have hF := kt hc59 hF
              refine lv_aload_n hx hb (kd tdlX9_chunk_0 36 rfl) rfl (lv_at hl 0 rfl) ?_
              refine md_g_chunks hx hb hts inX9_ hown hK hP L41 (kd tdlX9_chunk_0 37 rfl) ?_
              refine lv_iload_n hx hb (kd tdlX9_chunk_0 38 rfl) rfl (lv_at hl 2 rfl) ?_
              obtain ⟨hi67, hF⟩ := kg hF
              refine md_l_chunks hx hb hK hP hi67 (kd tdlX9_chunk_0 39 rfl) ?_
              obtain ⟨v68, e68, hF⟩ := kc hF
              refine kc_iR hK hP hD hS hA [] rfl (kr_S (Qx := (fun A => kQi D (TY t) ([] : va_W) v68 A)) (wc := ([] : va_W)) (As := [.int (v40.2.2.1 (Int32.toNatClampNeg p2))]) (rest := []) ⟨hx, hb, hml, hown, hts⟩ hK hP hD [] nd_ rfl (c_X9_lengthOf l D t  _ (v40.2.2.1 (Int32.toNatClampNeg p2)) v68 e68) (va_cwS 1 hts (gcX9_lengthOf w_289) rfl rfl rfl hdX9_lengthOfS ⟨Nat.le_of_ble_eq_true rfl, Nat.le_of_ble_eq_true rfl⟩) rfl hl.1 rfl (Nat.le_of_ble_eq_true rfl) (kd tdlX9_chunk_0 40 rfl) ⟨Nat.zero_le _, Nat.zero_le _⟩) (fun H locs hP hS => ?_)
              refine lv_goto (tgt := 83) hx hb (kd tdlX9_chunk_0 41 rfl) (by decide) ?_
              cases ko hF
              exact ke_i hx hb hr hlocks hK hP hD hS rfl (kd tdlX9_chunk_1 2 rfl)
        · have hF := kf hc48 hF
          refine lv_iconst (v := (-1)) hx hb (kd tdlX9_chunk_0 29 rfl) (by decide) ?_
          cases ko hF
          exact ke_i hx hb hr hlocks hK hP hD hS rfl (kd tdlX9_chunk_0 30 rfl)
      · have hF := kt hc29 hF
        exact hJ32 () hF _ _ _ hP hD hS (lv_sub hl [0] rfl)
  · have hF := kt hc10 hF
    refine lv_aload_n hx hb (kd tdlX9_chunk_0 7 rfl) rfl (lv_at hl 0 rfl) ?_
    refine lv_iconst (v := 1) hx hb (kd tdlX9_chunk_0 8 rfl) (by decide) ?_
    obtain ⟨v15, e15, hF⟩ := kc hF
    refine kc_i0 (w1 := ((wmdF t h0 a0 v15.2 (md_s d0) (md_aside d0) (md_base d0) (md_saved d0) (md_savedMany d0) (md_slots d0) (md_hasSlot d0) (md_text d0) (md_length d0) v7.2.1 v7.2.2.1 v7.2.2.2 (md_letters d0) (md_letterMany d0) (md_chunks d0) (md_chunkMany d0) (md_homes d0) (md_dropped d0) (md_madeIn d0) (md_madeAt d0) (md_putMany d0) (md_path d0) (md_store d0) (md_thinOnes d0)))) hP hD hS hA (kr_V0 (Qx := (fun A => kQi D (TY t) ((wmdF t h0 a0 v15.2 (md_s d0) (md_aside d0) (md_base d0) (md_saved d0) (md_savedMany d0) (md_slots d0) (md_hasSlot d0) (md_text d0) (md_length d0) v7.2.1 v7.2.2.1 v7.2.2.2 (md_letters d0) (md_letterMany d0) (md_chunks d0) (md_chunkMany d0) (md_homes d0) (md_dropped d0) (md_madeIn d0) (md_madeAt d0) (md_putMany d0) (md_path d0) (md_store d0) (md_thinOnes d0))) v15.1 A)) (As := [.int 1]) (rest := []) ⟨hx, hb, hml, hown, hts⟩ hK hP hD (c_X9_fails l D t h0 a0 (0, (md_s d0), (md_aside d0), (md_base d0), (md_saved d0), (md_savedMany d0), (md_slots d0), (md_hasSlot d0), (md_text d0), (md_length d0), v7.2.1, v7.2.2.1, v7.2.2.2, (md_letters d0), (md_letterMany d0), (md_chunks d0), (md_chunkMany d0), (md_homes d0), (md_dropped d0), (md_madeIn d0), (md_madeAt d0), (md_putMany d0), (md_path d0), (md_store d0), (md_thinOnes d0)) _ 1 v15 e15) (cwV 1 hts (gcX9_fails w_153) rfl rfl rfl hdX9_failsV ⟨Nat.le_of_ble_eq_true rfl, Nat.le_of_ble_eq_true rfl⟩) (ci := 8) (q0 := 0) rfl rfl rfl hl.1 rfl (Nat.le_of_ble_eq_true rfl) (kd tdlX9_chunk_0 9 rfl) ⟨Nat.zero_le _, Nat.zero_le _⟩) (fun H locs hP hD hS => ?_)
    cases ko hF
    exact ke_i hx hb hr hlocks hK hP hD hS rfl (kd tdlX9_chunk_0 10 rfl)
set_option maxHeartbeats 4000000 in
set_option maxRecDepth 100000 in
theorem c_X9_unlike (l : Launch) (D : va_G) (t : Nat → ClassId) (h0 : Nat) (a0 : Nat → Nat) (d0 : MDT) (sz : Nat)  (r : Int32) (hF : F_X9_unlike (md_s d0) = some r) : Met l yX9_unlike wX9_unlike ({ frames := 2, cells := 0, slots := 0, locals := 44 } : Room) (kPc D (TY t) ((wmd t h0 a0 d0)) [.ref h0] sz) (kQi D (TY t) ((wmd t h0 a0 d0)) r (va_A ((wmd t h0 a0 d0)) sz)) 0 0 (va_A ((wmd t h0 a0 d0)) sz) := by
  refine kE (cc := cX9_unlike) (maxL := 7) (ret := (some .int)) (Qx := fun A => kQi D (TY t) ((wmd t h0 a0 d0)) r A) (lv0 := [(0, .ref h0)]) RX9 rfl (by decide) rfl (Nat.le_of_ble_eq_true rfl) rfl ?_
  intro p e s m args below meth c A ls hx hb hml hr hlocks hown hts hA hK hP hD hS hl
  have L7 := hts (.fieldLink RX9 7 "ChunkCarriersModel" "s" "[I") (List.mem_cons_of_mem _ w_101)
  have inX9_ : ∀ w ∈ wsX90, w ∈ wX9_unlike := fun w h => List.mem_cons_of_mem _ (inlX9 w h)
  have hP : va_P D vwCl ((wmdF t h0 a0 (md_thrown d0) (md_s d0) (md_aside d0) (md_base d0) (md_saved d0) (md_savedMany d0) (md_slots d0) (md_hasSlot d0) (md_text d0) (md_length d0) (md_begins d0) (md_lengths d0) (md_streams d0) (md_letters d0) (md_letterMany d0) (md_chunks d0) (md_chunkMany d0) (md_homes d0) (md_dropped d0) (md_madeIn d0) (md_madeAt d0) (md_putMany d0) (md_path d0) (md_store d0) (md_thinOnes d0))) s.heap := hP
  have hD : va_D A ((wmdF t h0 a0 (md_thrown d0) (md_s d0) (md_aside d0) (md_base d0) (md_saved d0) (md_savedMany d0) (md_slots d0) (md_hasSlot d0) (md_text d0) (md_length d0) (md_begins d0) (md_lengths d0) (md_streams d0) (md_letters d0) (md_letterMany d0) (md_chunks d0) (md_chunkMany d0) (md_homes d0) (md_dropped d0) (md_madeIn d0) (md_madeAt d0) (md_putMany d0) (md_path d0) (md_store d0) (md_thinOnes d0))) := hD
  refine lv_iconst (v := 0) hx hb (kd tdlX9_unlike_0 0 rfl) (by decide) ?_
  refine lv_istore_n (lv' := [(1, .int 0), (0, .ref h0)]) hx hb (kd tdlX9_unlike_0 1 rfl) rfl hl (by decide) rfl (fun ls hl => ?_)
  refine lv_iconst (v := 0) hx hb (kd tdlX9_unlike_0 2 rfl) (by decide) ?_
  refine lv_istore_n (lv' := [(2, .int 0), (1, .int 0), (0, .ref h0)]) hx hb (kd tdlX9_unlike_0 3 rfl) rfl hl (by decide) rfl (fun ls hl => ?_)
  refine lp_ind (f := B_X9_unlike_4 (md_s d0)) (r := r) (P := fun s4_ => ∀ (H : Heap) (locs : List Loc) (ls : Array Slot), va_P D vwCl ((wmdF t h0 a0 (md_thrown d0) (md_s d0) (md_aside d0) (md_base d0) (md_saved d0) (md_savedMany d0) (md_slots d0) (md_hasSlot d0) (md_text d0) (md_length d0) (md_begins d0) (md_lengths d0) (md_streams d0) (md_letters d0) (md_letterMany d0) (md_chunks d0) (md_chunkMany d0) (md_homes d0) (md_dropped d0) (md_madeIn d0) (md_madeAt d0) (md_putMany d0) (md_path d0) (md_store d0) (md_thinOnes d0))) H → va_D A ((wmdF t h0 a0 (md_thrown d0) (md_s d0) (md_aside d0) (md_base d0) (md_saved d0) (md_savedMany d0) (md_slots d0) (md_hasSlot d0) (md_text d0) (md_length d0) (md_begins d0) (md_lengths d0) (md_streams d0) (md_letters d0) (md_letterMany d0) (md_chunks d0) (md_chunkMany d0) (md_homes d0) (md_dropped d0) (md_madeIn d0) (md_madeAt d0) (md_putMany d0) (md_path d0) (md_store d0) (md_thinOnes d0))) → va_S A s.heap H locs → lv_has ls 7 [(0, .ref h0), (1, .int s4_.1), (2, .int s4_.2)] → W p l e ({ frames := 2, cells := 0, slots := 0, locals := 44 } : Room) s m args below meth c H locs 0 0 (MQ below (kQi D (TY t) ((wmd t h0 a0 d0)) r A) args s 0 0 A) (F0 m 4 ls [])) ?_ FU (0, 0) hF _ _ _ hP hD hS (lv_sub hl [2, 1, 0] rfl)
  intro self4 ih4 s4_ hF H locs ls hP hD hS hl
  refine lv_iload_n hx hb (kd tdlX9_unlike_0 4 rfl) rfl (lv_at hl 2 rfl) ?_
  refine lv_aload_n hx hb (kd tdlX9_unlike_0 5 rfl) rfl (lv_at hl 0 rfl) ?_
  refine md_g_s hx hb hts inX9_ hown hK hP L7 (kd tdlX9_unlike_0 6 rfl) ?_
  refine lv_bipush (v := 7) hx hb (kd tdlX9_unlike_0 7 rfl) (by decide) ?_
  obtain ⟨hi11, hF⟩ := kg hF
  refine md_l_s hx hb hK hP hi11 (kd tdlX9_unlike_0 8 rfl) ?_
  refine lv_icmp_ge (tgt := 131) hx hb (kd tdlX9_unlike_0 9 rfl) (by decide) (fun hc12 => ?_) (fun hc12 => ?_)
  · have hF := kt hc12 hF
    refine lv_iload_n hx hb (kd tdlX9_unlike_1 29 rfl) rfl (lv_at hl 1 rfl) ?_
    cases ko hF
    exact ke_i hx hb hr hlocks hK hP hD hS rfl (kd tdlX9_unlike_1 30 rfl)
  · have hF := kf hc12 hF
    refine lv_iconst (v := 0) hx hb (kd tdlX9_unlike_0 10 rfl) (by decide) ?_
    refine lv_istore_n (lv' := [(3, .int 0), (0, .ref h0), (1, .int s4_.1), (2, .int s4_.2)]) hx hb (kd tdlX9_unlike_0 11 rfl) rfl hl (by decide) rfl (fun ls hl => ?_)
    refine lp_ind (f := B_X9_unlike_17 s4_ (md_s d0) self4) (r := r) (P := fun s17_ => ∀ (H : Heap) (locs : List Loc) (ls : Array Slot), va_P D vwCl ((wmdF t h0 a0 (md_thrown d0) (md_s d0) (md_aside d0) (md_base d0) (md_saved d0) (md_savedMany d0) (md_slots d0) (md_hasSlot d0) (md_text d0) (md_length d0) (md_begins d0) (md_lengths d0) (md_streams d0) (md_letters d0) (md_letterMany d0) (md_chunks d0) (md_chunkMany d0) (md_homes d0) (md_dropped d0) (md_madeIn d0) (md_madeAt d0) (md_putMany d0) (md_path d0) (md_store d0) (md_thinOnes d0))) H → va_D A ((wmdF t h0 a0 (md_thrown d0) (md_s d0) (md_aside d0) (md_base d0) (md_saved d0) (md_savedMany d0) (md_slots d0) (md_hasSlot d0) (md_text d0) (md_length d0) (md_begins d0) (md_lengths d0) (md_streams d0) (md_letters d0) (md_letterMany d0) (md_chunks d0) (md_chunkMany d0) (md_homes d0) (md_dropped d0) (md_madeIn d0) (md_madeAt d0) (md_putMany d0) (md_path d0) (md_store d0) (md_thinOnes d0))) → va_S A s.heap H locs → lv_has ls 7 [(0, .ref h0), (1, .int s17_.1), (2, .int s4_.2), (3, .int s17_.2)] → W p l e ({ frames := 2, cells := 0, slots := 0, locals := 44 } : Room) s m args below meth c H locs 0 0 (MQ below (kQi D (TY t) ((wmd t h0 a0 d0)) r A) args s 0 0 A) (F0 m 17 ls [])) ?_ FU (s4_.1, 0) hF _ _ _ hP hD hS (lv_sub hl [1, 2, 3, 0] rfl)
    intro self17 ih17 s17_ hF H locs ls hP hD hS hl
    refine lv_iload_n hx hb (kd tdlX9_unlike_0 12 rfl) rfl (lv_at hl 3 rfl) ?_
    refine lv_aload_n hx hb (kd tdlX9_unlike_0 13 rfl) rfl (lv_at hl 0 rfl) ?_
    refine md_g_s hx hb hts inX9_ hown hK hP L7 (kd tdlX9_unlike_0 14 rfl) ?_
    refine lv_aload_n hx hb (kd tdlX9_unlike_0 15 rfl) rfl (lv_at hl 0 rfl) ?_
    refine lv_iload_n hx hb (kd tdlX9_unlike_0 16 rfl) rfl (lv_at hl 2 rfl) ?_
    obtain ⟨v24, e24, hF⟩ := kc hF
    refine kc_i0 (w1 := ((wmdF t h0 a0 (md_thrown d0) (md_s d0) (md_aside d0) (md_base d0) (md_saved d0) (md_savedMany d0) (md_slots d0) (md_hasSlot d0) (md_text d0) (md_length d0) (md_begins d0) (md_lengths d0) (md_streams d0) (md_letters d0) (md_letterMany d0) (md_chunks d0) (md_chunkMany d0) (md_homes d0) (md_dropped d0) (md_madeIn d0) (md_madeAt d0) (md_putMany d0) (md_path d0) (md_store d0) (md_thinOnes d0)))) hP hD hS hA (kr_V0 (Qx := (fun A => kQi D (TY t) ((wmdF t h0 a0 (md_thrown d0) (md_s d0) (md_aside d0) (md_base d0) (md_saved d0) (md_savedMany d0) (md_slots d0) (md_hasSlot d0) (md_text d0) (md_length d0) (md_begins d0) (md_lengths d0) (md_streams d0) (md_letters d0) (md_letterMany d0) (md_chunks d0) (md_chunkMany d0) (md_homes d0) (md_dropped d0) (md_madeIn d0) (md_madeAt d0) (md_putMany d0) (md_path d0) (md_store d0) (md_thinOnes d0))) v24 A)) (As := [.int s4_.2]) (rest := [.ref (a0 0), .int s17_.2]) ⟨hx, hb, hml, hown, hts⟩ hK hP hD (c_X9_at l D t h0 a0 d0 _ s4_.2 v24 e24) (cwV 1 hts (gcX9_at w_306) rfl rfl rfl hdX9_atV ⟨Nat.le_of_ble_eq_true rfl, Nat.le_of_ble_eq_true rfl⟩) (ci := 8) (q0 := 0) rfl rfl rfl hl.1 rfl (Nat.le_of_ble_eq_true rfl) (kd tdlX9_unlike_0 17 rfl) ⟨Nat.zero_le _, Nat.zero_le _⟩) (fun H locs hP hD hS => ?_)
    refine lv_iconst (v := 2) hx hb (kd tdlX9_unlike_0 18 rfl) (by decide) ?_
    refine lv_iadd hx hb (kd tdlX9_unlike_0 19 rfl) ?_
    obtain ⟨hi29, hF⟩ := kg hF
    refine md_l_s hx hb hK hP hi29 (kd tdlX9_unlike_0 20 rfl) ?_
    refine lv_icmp_ge (tgt := 125) hx hb (kd tdlX9_unlike_0 21 rfl) (by decide) (fun hc30 => ?_) (fun hc30 => ?_)
    · have hF := kt hc30 hF
      refine lv_iinc (v := (s4_.2 + 1)) (lv' := [(2, .int (s4_.2 + 1)), (0, .ref h0), (1, .int s17_.1), (3, .int s17_.2)]) hx hb (kd tdlX9_unlike_1 27 rfl) hl (k := 2) rfl rfl (by decide) rfl (fun ls hl => ?_)
      refine lv_goto (tgt := 4) hx hb (kd tdlX9_unlike_1 28 rfl) (by decide) ?_
      exact ih4 (s17_.1, (s4_.2 + 1)) hF _ _ _ hP hD hS (lv_sub hl [1, 2, 0] rfl)
    · have hF := kf hc30 hF
      refine lv_aload_n hx hb (kd tdlX9_unlike_0 22 rfl) rfl (lv_at hl 0 rfl) ?_
      refine md_g_s hx hb hts inX9_ hown hK hP L7 (kd tdlX9_unlike_0 23 rfl) ?_
      refine lv_aload_n hx hb (kd tdlX9_unlike_0 24 rfl) rfl (lv_at hl 0 rfl) ?_
      refine lv_iload_n hx hb (kd tdlX9_unlike_0 25 rfl) rfl (lv_at hl 2 rfl) ?_
      obtain ⟨v39, e39, hF⟩ := kc hF
      refine kc_i0 (w1 := ((wmdF t h0 a0 (md_thrown d0) (md_s d0) (md_aside d0) (md_base d0) (md_saved d0) (md_savedMany d0) (md_slots d0) (md_hasSlot d0) (md_text d0) (md_length d0) (md_begins d0) (md_lengths d0) (md_streams d0) (md_letters d0) (md_letterMany d0) (md_chunks d0) (md_chunkMany d0) (md_homes d0) (md_dropped d0) (md_madeIn d0) (md_madeAt d0) (md_putMany d0) (md_path d0) (md_store d0) (md_thinOnes d0)))) hP hD hS hA (kr_V0 (Qx := (fun A => kQi D (TY t) ((wmdF t h0 a0 (md_thrown d0) (md_s d0) (md_aside d0) (md_base d0) (md_saved d0) (md_savedMany d0) (md_slots d0) (md_hasSlot d0) (md_text d0) (md_length d0) (md_begins d0) (md_lengths d0) (md_streams d0) (md_letters d0) (md_letterMany d0) (md_chunks d0) (md_chunkMany d0) (md_homes d0) (md_dropped d0) (md_madeIn d0) (md_madeAt d0) (md_putMany d0) (md_path d0) (md_store d0) (md_thinOnes d0))) v39 A)) (As := [.int s4_.2]) (rest := [.ref (a0 0)]) ⟨hx, hb, hml, hown, hts⟩ hK hP hD (c_X9_at l D t h0 a0 d0 _ s4_.2 v39 e39) (cwV 1 hts (gcX9_at w_306) rfl rfl rfl hdX9_atV ⟨Nat.le_of_ble_eq_true rfl, Nat.le_of_ble_eq_true rfl⟩) (ci := 8) (q0 := 0) rfl rfl rfl hl.1 rfl (Nat.le_of_ble_eq_true rfl) (kd tdlX9_unlike_0 26 rfl) ⟨Nat.zero_le _, Nat.zero_le _⟩) (fun H locs hP hD hS => ?_)
      refine lv_iconst (v := 3) hx hb (kd tdlX9_unlike_0 27 rfl) (by decide) ?_
      refine lv_iadd hx hb (kd tdlX9_unlike_0 28 rfl) ?_
      refine lv_iload_n hx hb (kd tdlX9_unlike_0 29 rfl) rfl (lv_at hl 3 rfl) ?_
      refine lv_iadd hx hb (kd tdlX9_unlike_0 30 rfl) ?_
      obtain ⟨hi46, hF⟩ := kg hF
      refine md_l_s hx hb hK hP hi46 (kd tdlX9_unlike_0 31 rfl) ?_
      refine lv_istore (lv' := [(4, .int ((md_s d0) (Int32.toNatClampNeg ((v39 + 3) + s17_.2)))), (0, .ref h0), (1, .int s17_.1), (2, .int s4_.2), (3, .int s17_.2)]) hx hb (kd tdlX9_unlike_0 32 rfl) hl (by decide) rfl (fun ls hl => ?_)
      refine lv_aload_n hx hb (kd tdlX9_unlike_0 33 rfl) rfl (lv_at hl 1 rfl) ?_
      refine lv_iload_n hx hb (kd tdlX9_unlike_0 34 rfl) rfl (lv_at hl 3 rfl) ?_
      refine lv_iload hx hb (kd tdlX9_unlike_0 35 rfl) (lv_at hl 0 rfl) ?_
      obtain ⟨v53, e53, hF⟩ := kc hF
      refine kc_i0 (w1 := ((wmdF t h0 a0 (md_thrown d0) (md_s d0) (md_aside d0) (md_base d0) (md_saved d0) (md_savedMany d0) (md_slots d0) (md_hasSlot d0) (md_text d0) (md_length d0) (md_begins d0) (md_lengths d0) (md_streams d0) (md_letters d0) (md_letterMany d0) (md_chunks d0) (md_chunkMany d0) (md_homes d0) (md_dropped d0) (md_madeIn d0) (md_madeAt d0) (md_putMany d0) (md_path d0) (md_store d0) (md_thinOnes d0)))) hP hD hS hA (kr_V0 (Qx := (fun A => kQi D (TY t) ((wmdF t h0 a0 (md_thrown d0) (md_s d0) (md_aside d0) (md_base d0) (md_saved d0) (md_savedMany d0) (md_slots d0) (md_hasSlot d0) (md_text d0) (md_length d0) (md_begins d0) (md_lengths d0) (md_streams d0) (md_letters d0) (md_letterMany d0) (md_chunks d0) (md_chunkMany d0) (md_homes d0) (md_dropped d0) (md_madeIn d0) (md_madeAt d0) (md_putMany d0) (md_path d0) (md_store d0) (md_thinOnes d0))) v53 A)) (As := [.int s4_.2, .int ((md_s d0) (Int32.toNatClampNeg ((v39 + 3) + s17_.2)))]) (rest := []) ⟨hx, hb, hml, hown, hts⟩ hK hP hD (c_X9_entryOf l D t h0 a0 d0 _ s4_.2 ((md_s d0) (Int32.toNatClampNeg ((v39 + 3) + s17_.2))) v53 e53) (cwV 2 hts (gcX9_entryOf w_302) rfl rfl rfl hdX9_entryOfV ⟨Nat.le_of_ble_eq_true rfl, Nat.le_of_ble_eq_true rfl⟩) (ci := 8) (q0 := 0) rfl rfl rfl hl.1 rfl (Nat.le_of_ble_eq_true rfl) (kd tdlX9_unlike_0 36 rfl) ⟨Nat.zero_le _, Nat.zero_le _⟩) (fun H locs hP hD hS => ?_)
      refine lv_iload_n hx hb (kd tdlX9_unlike_0 37 rfl) rfl (lv_at hl 4 rfl) ?_
      have hJ65 : ∀ j65 : Int32, J_X9_unlike_65 s4_ (md_s d0) v39 s17_ self17 j65 = some r → ∀ (H : Heap) (locs : List Loc) (ls : Array Slot), va_P D vwCl ((wmdF t h0 a0 (md_thrown d0) (md_s d0) (md_aside d0) (md_base d0) (md_saved d0) (md_savedMany d0) (md_slots d0) (md_hasSlot d0) (md_text d0) (md_length d0) (md_begins d0) (md_lengths d0) (md_streams d0) (md_letters d0) (md_letterMany d0) (md_chunks d0) (md_chunkMany d0) (md_homes d0) (md_dropped d0) (md_madeIn d0) (md_madeAt d0) (md_putMany d0) (md_path d0) (md_store d0) (md_thinOnes d0))) H → va_D A ((wmdF t h0 a0 (md_thrown d0) (md_s d0) (md_aside d0) (md_base d0) (md_saved d0) (md_savedMany d0) (md_slots d0) (md_hasSlot d0) (md_text d0) (md_length d0) (md_begins d0) (md_lengths d0) (md_streams d0) (md_letters d0) (md_letterMany d0) (md_chunks d0) (md_chunkMany d0) (md_homes d0) (md_dropped d0) (md_madeIn d0) (md_madeAt d0) (md_putMany d0) (md_path d0) (md_store d0) (md_thinOnes d0))) → va_S A s.heap H locs → lv_has ls 7 [(0, .ref h0), (1, .int s17_.1), (2, .int s4_.2), (3, .int s17_.2), (4, .int ((md_s d0) (Int32.toNatClampNeg ((v39 + 3) + s17_.2))))] → W p l e ({ frames := 2, cells := 0, slots := 0, locals := 44 } : Room) s m args below meth c H locs 0 0 (MQ below (kQi D (TY t) ((wmd t h0 a0 d0)) r A) args s 0 0 A) (F0 m 65 ls [.int j65]) := by
        intro j65 hF H locs ls hP hD hS hl
        refine lv_istore (lv' := [(5, .int j65), (0, .ref h0), (1, .int s17_.1), (2, .int s4_.2), (3, .int s17_.2), (4, .int ((md_s d0) (Int32.toNatClampNeg ((v39 + 3) + s17_.2))))]) hx hb (kd tdlX9_unlike_0 42 rfl) hl (by decide) rfl (fun ls hl => ?_)
        refine lv_iconst (v := 0) hx hb (kd tdlX9_unlike_0 43 rfl) (by decide) ?_
        refine lv_istore (lv' := [(6, .int 0), (5, .int j65), (0, .ref h0), (1, .int s17_.1), (2, .int s4_.2), (3, .int s17_.2), (4, .int ((md_s d0) (Int32.toNatClampNeg ((v39 + 3) + s17_.2))))]) hx hb (kd tdlX9_unlike_0 44 rfl) hl (by decide) rfl (fun ls hl => ?_)
        have hK106 : ∀ k106 : Int32, K_X9_unlike_106 self17 s17_ k106 = some r → ∀ (H : Heap) (locs : List Loc) (ls : Array Slot), va_P D vwCl ((wmdF t h0 a0 (md_thrown d0) (md_s d0) (md_aside d0) (md_base d0) (md_saved d0) (md_savedMany d0) (md_slots d0) (md_hasSlot d0) (md_text d0) (md_length d0) (md_begins d0) (md_lengths d0) (md_streams d0) (md_letters d0) (md_letterMany d0) (md_chunks d0) (md_chunkMany d0) (md_homes d0) (md_dropped d0) (md_madeIn d0) (md_madeAt d0) (md_putMany d0) (md_path d0) (md_store d0) (md_thinOnes d0))) H → va_D A ((wmdF t h0 a0 (md_thrown d0) (md_s d0) (md_aside d0) (md_base d0) (md_saved d0) (md_savedMany d0) (md_slots d0) (md_hasSlot d0) (md_text d0) (md_length d0) (md_begins d0) (md_lengths d0) (md_streams d0) (md_letters d0) (md_letterMany d0) (md_chunks d0) (md_chunkMany d0) (md_homes d0) (md_dropped d0) (md_madeIn d0) (md_madeAt d0) (md_putMany d0) (md_path d0) (md_store d0) (md_thinOnes d0))) → va_S A s.heap H locs → lv_has ls 7 [(0, .ref h0), (1, .int s17_.1), (2, .int s4_.2), (3, .int s17_.2), (5, .int k106)] → W p l e ({ frames := 2, cells := 0, slots := 0, locals := 44 } : Room) s m args below meth c H locs 0 0 (MQ below (kQi D (TY t) ((wmd t h0 a0 d0)) r A) args s 0 0 A) (F0 m 106 ls []) := by
          intro k106 hF H locs ls hP hD hS hl
          refine lv_iload_n hx hb (kd tdlX9_unlike_1 17 rfl) rfl (lv_at hl 1 rfl) ?_
          refine lv_iload hx hb (kd tdlX9_unlike_1 18 rfl) (lv_at hl 4 rfl) ?_
          refine lv_if_eq (tgt := 116) hx hb (kd tdlX9_unlike_1 19 rfl) (by decide) (fun hc109 => ?_) (fun hc109 => ?_)
          · have hF := kt hc109 hF
            refine lv_iconst (v := 0) hx hb (kd tdlX9_unlike_1 22 rfl) (by decide) ?_
            refine lv_iadd hx hb (kd tdlX9_unlike_1 23 rfl) ?_
            refine lv_istore_n (lv' := [(1, .int (s17_.1 + 0)), (0, .ref h0), (2, .int s4_.2), (3, .int s17_.2), (5, .int k106)]) hx hb (kd tdlX9_unlike_1 24 rfl) rfl hl (by decide) rfl (fun ls hl => ?_)
            refine lv_iinc (v := (s17_.2 + 1)) (lv' := [(3, .int (s17_.2 + 1)), (1, .int (s17_.1 + 0)), (0, .ref h0), (2, .int s4_.2), (5, .int k106)]) hx hb (kd tdlX9_unlike_1 25 rfl) hl (k := 3) rfl rfl (by decide) rfl (fun ls hl => ?_)
            refine lv_goto (tgt := 17) hx hb (kd tdlX9_unlike_1 26 rfl) (by decide) ?_
            exact ih17 ((s17_.1 + 0), (s17_.2 + 1)) hF _ _ _ hP hD hS (lv_sub hl [2, 1, 3, 0] rfl)
          · have hF := kf hc109 hF
            refine lv_iconst (v := 1) hx hb (kd tdlX9_unlike_1 20 rfl) (by decide) ?_
            refine lv_goto (tgt := 117) hx hb (kd tdlX9_unlike_1 21 rfl) (by decide) ?_
            refine lv_iadd hx hb (kd tdlX9_unlike_1 23 rfl) ?_
            refine lv_istore_n (lv' := [(1, .int (s17_.1 + 1)), (0, .ref h0), (2, .int s4_.2), (3, .int s17_.2), (5, .int k106)]) hx hb (kd tdlX9_unlike_1 24 rfl) rfl hl (by decide) rfl (fun ls hl => ?_)
            refine lv_iinc (v := (s17_.2 + 1)) (lv' := [(3, .int (s17_.2 + 1)), (1, .int (s17_.1 + 1)), (0, .ref h0), (2, .int s4_.2), (5, .int k106)]) hx hb (kd tdlX9_unlike_1 25 rfl) hl (k := 3) rfl rfl (by decide) rfl (fun ls hl => ?_)
            refine lv_goto (tgt := 17) hx hb (kd tdlX9_unlike_1 26 rfl) (by decide) ?_
            exact ih17 ((s17_.1 + 1), (s17_.2 + 1)) hF _ _ _ hP hD hS (lv_sub hl [2, 1, 3, 0] rfl)
        refine lp_ind (f := B_X9_unlike_70 s4_ (md_s d0) v39 s17_ (K_X9_unlike_106 self17 s17_)) (r := r) (P := fun s70_ => ∀ (H : Heap) (locs : List Loc) (ls : Array Slot), va_P D vwCl ((wmdF t h0 a0 (md_thrown d0) (md_s d0) (md_aside d0) (md_base d0) (md_saved d0) (md_savedMany d0) (md_slots d0) (md_hasSlot d0) (md_text d0) (md_length d0) (md_begins d0) (md_lengths d0) (md_streams d0) (md_letters d0) (md_letterMany d0) (md_chunks d0) (md_chunkMany d0) (md_homes d0) (md_dropped d0) (md_madeIn d0) (md_madeAt d0) (md_putMany d0) (md_path d0) (md_store d0) (md_thinOnes d0))) H → va_D A ((wmdF t h0 a0 (md_thrown d0) (md_s d0) (md_aside d0) (md_base d0) (md_saved d0) (md_savedMany d0) (md_slots d0) (md_hasSlot d0) (md_text d0) (md_length d0) (md_begins d0) (md_lengths d0) (md_streams d0) (md_letters d0) (md_letterMany d0) (md_chunks d0) (md_chunkMany d0) (md_homes d0) (md_dropped d0) (md_madeIn d0) (md_madeAt d0) (md_putMany d0) (md_path d0) (md_store d0) (md_thinOnes d0))) → va_S A s.heap H locs → lv_has ls 7 [(0, .ref h0), (1, .int s17_.1), (2, .int s4_.2), (3, .int s17_.2), (4, .int ((md_s d0) (Int32.toNatClampNeg ((v39 + 3) + s17_.2)))), (5, .int s70_.1), (6, .int s70_.2)] → W p l e ({ frames := 2, cells := 0, slots := 0, locals := 44 } : Room) s m args below meth c H locs 0 0 (MQ below (kQi D (TY t) ((wmd t h0 a0 d0)) r A) args s 0 0 A) (F0 m 70 ls [])) ?_ FU (j65, 0) hF _ _ _ hP hD hS (lv_sub hl [2, 3, 4, 5, 6, 1, 0] rfl)
        intro self70 ih70 s70_ hF H locs ls hP hD hS hl
        refine lv_iload hx hb (kd tdlX9_unlike_1 0 rfl) (lv_at hl 6 rfl) ?_
        refine lv_iload_n hx hb (kd tdlX9_unlike_1 1 rfl) rfl (lv_at hl 2 rfl) ?_
        refine lv_icmp_ge (tgt := 106) hx hb (kd tdlX9_unlike_1 2 rfl) (by decide) (fun hc73 => ?_) (fun hc73 => ?_)
        · have hF := kt hc73 hF
          exact hK106 (s70_.1) hF _ _ _ hP hD hS (lv_sub hl [0, 1, 2, 3, 5] rfl)
        · have hF := kf hc73 hF
          refine lv_iload hx hb (kd tdlX9_unlike_1 3 rfl) (lv_at hl 5 rfl) ?_
          refine lv_if_eq (tgt := 97) hx hb (kd tdlX9_unlike_1 4 rfl) (by decide) (fun hc78 => ?_) (fun hc78 => ?_)
          · have hF := kt hc78 hF
            refine lv_iconst (v := 0) hx hb (kd tdlX9_unlike_1 13 rfl) (by decide) ?_
            refine lv_istore (lv' := [(5, .int 0), (0, .ref h0), (1, .int s17_.1), (2, .int s4_.2), (3, .int s17_.2), (4, .int ((md_s d0) (Int32.toNatClampNeg ((v39 + 3) + s17_.2)))), (6, .int s70_.2)]) hx hb (kd tdlX9_unlike_1 14 rfl) hl (by decide) rfl (fun ls hl => ?_)
            refine lv_iinc (v := (s70_.2 + 1)) (lv' := [(6, .int (s70_.2 + 1)), (5, .int 0), (0, .ref h0), (1, .int s17_.1), (2, .int s4_.2), (3, .int s17_.2), (4, .int ((md_s d0) (Int32.toNatClampNeg ((v39 + 3) + s17_.2))))]) hx hb (kd tdlX9_unlike_1 15 rfl) hl (k := 6) rfl rfl (by decide) rfl (fun ls hl => ?_)
            refine lv_goto (tgt := 70) hx hb (kd tdlX9_unlike_1 16 rfl) (by decide) ?_
            exact ih70 (0, (s70_.2 + 1)) hF _ _ _ hP hD hS (lv_sub hl [2, 3, 4, 5, 6, 1, 0] rfl)
          · have hF := kf hc78 hF
            refine lv_aload_n hx hb (kd tdlX9_unlike_1 5 rfl) rfl (lv_at hl 0 rfl) ?_
            refine lv_iload hx hb (kd tdlX9_unlike_1 6 rfl) (lv_at hl 6 rfl) ?_
            refine lv_iload hx hb (kd tdlX9_unlike_1 7 rfl) (lv_at hl 4 rfl) ?_
            obtain ⟨v86, e86, hF⟩ := kc hF
            refine kc_i0 (w1 := ((wmdF t h0 a0 (md_thrown d0) (md_s d0) (md_aside d0) (md_base d0) (md_saved d0) (md_savedMany d0) (md_slots d0) (md_hasSlot d0) (md_text d0) (md_length d0) (md_begins d0) (md_lengths d0) (md_streams d0) (md_letters d0) (md_letterMany d0) (md_chunks d0) (md_chunkMany d0) (md_homes d0) (md_dropped d0) (md_madeIn d0) (md_madeAt d0) (md_putMany d0) (md_path d0) (md_store d0) (md_thinOnes d0)))) hP hD hS hA (kr_V0 (Qx := (fun A => kQi D (TY t) ((wmdF t h0 a0 (md_thrown d0) (md_s d0) (md_aside d0) (md_base d0) (md_saved d0) (md_savedMany d0) (md_slots d0) (md_hasSlot d0) (md_text d0) (md_length d0) (md_begins d0) (md_lengths d0) (md_streams d0) (md_letters d0) (md_letterMany d0) (md_chunks d0) (md_chunkMany d0) (md_homes d0) (md_dropped d0) (md_madeIn d0) (md_madeAt d0) (md_putMany d0) (md_path d0) (md_store d0) (md_thinOnes d0))) v86 A)) (As := [.int s70_.2, .int ((md_s d0) (Int32.toNatClampNeg ((v39 + 3) + s17_.2)))]) (rest := []) ⟨hx, hb, hml, hown, hts⟩ hK hP hD (c_X9_entryOf l D t h0 a0 d0 _ s70_.2 ((md_s d0) (Int32.toNatClampNeg ((v39 + 3) + s17_.2))) v86 e86) (cwV 2 hts (gcX9_entryOf w_302) rfl rfl rfl hdX9_entryOfV ⟨Nat.le_of_ble_eq_true rfl, Nat.le_of_ble_eq_true rfl⟩) (ci := 8) (q0 := 0) rfl rfl rfl hl.1 rfl (Nat.le_of_ble_eq_true rfl) (kd tdlX9_unlike_1 8 rfl) ⟨Nat.zero_le _, Nat.zero_le _⟩) (fun H locs hP hD hS => ?_)
            refine lv_iconst (v := (-1)) hx hb (kd tdlX9_unlike_1 9 rfl) (by decide) ?_
            refine lv_icmp_ne (tgt := 97) hx hb (kd tdlX9_unlike_1 10 rfl) (by decide) (fun hc90 => ?_) (fun hc90 => ?_)
            · have hF := kf hc90 hF
              refine lv_iconst (v := 0) hx hb (kd tdlX9_unlike_1 13 rfl) (by decide) ?_
              refine lv_istore (lv' := [(5, .int 0), (0, .ref h0), (1, .int s17_.1), (2, .int s4_.2), (3, .int s17_.2), (4, .int ((md_s d0) (Int32.toNatClampNeg ((v39 + 3) + s17_.2)))), (6, .int s70_.2)]) hx hb (kd tdlX9_unlike_1 14 rfl) hl (by decide) rfl (fun ls hl => ?_)
              refine lv_iinc (v := (s70_.2 + 1)) (lv' := [(6, .int (s70_.2 + 1)), (5, .int 0), (0, .ref h0), (1, .int s17_.1), (2, .int s4_.2), (3, .int s17_.2), (4, .int ((md_s d0) (Int32.toNatClampNeg ((v39 + 3) + s17_.2))))]) hx hb (kd tdlX9_unlike_1 15 rfl) hl (k := 6) rfl rfl (by decide) rfl (fun ls hl => ?_)
              refine lv_goto (tgt := 70) hx hb (kd tdlX9_unlike_1 16 rfl) (by decide) ?_
              exact ih70 (0, (s70_.2 + 1)) hF _ _ _ hP hD hS (lv_sub hl [2, 3, 4, 5, 6, 1, 0] rfl)
            · have hF := kt hc90 hF
              refine lv_iconst (v := 1) hx hb (kd tdlX9_unlike_1 11 rfl) (by decide) ?_
              refine lv_goto (tgt := 98) hx hb (kd tdlX9_unlike_1 12 rfl) (by decide) ?_
              refine lv_istore (lv' := [(5, .int 1), (0, .ref h0), (1, .int s17_.1), (2, .int s4_.2), (3, .int s17_.2), (4, .int ((md_s d0) (Int32.toNatClampNeg ((v39 + 3) + s17_.2)))), (6, .int s70_.2)]) hx hb (kd tdlX9_unlike_1 14 rfl) hl (by decide) rfl (fun ls hl => ?_)
              refine lv_iinc (v := (s70_.2 + 1)) (lv' := [(6, .int (s70_.2 + 1)), (5, .int 1), (0, .ref h0), (1, .int s17_.1), (2, .int s4_.2), (3, .int s17_.2), (4, .int ((md_s d0) (Int32.toNatClampNeg ((v39 + 3) + s17_.2))))]) hx hb (kd tdlX9_unlike_1 15 rfl) hl (k := 6) rfl rfl (by decide) rfl (fun ls hl => ?_)
              refine lv_goto (tgt := 70) hx hb (kd tdlX9_unlike_1 16 rfl) (by decide) ?_
              exact ih70 (1, (s70_.2 + 1)) hF _ _ _ hP hD hS (lv_sub hl [2, 3, 4, 5, 6, 1, 0] rfl)
      refine lv_icmp_ne (tgt := 64) hx hb (kd tdlX9_unlike_0 38 rfl) (by decide) (fun hc57 => ?_) (fun hc57 => ?_)
      · have hF := kf hc57 hF
        refine lv_iconst (v := 0) hx hb (kd tdlX9_unlike_0 41 rfl) (by decide) ?_
        exact hJ65 (0) hF _ _ _ hP hD hS (lv_sub hl [1, 2, 3, 4, 0] rfl)
      · have hF := kt hc57 hF
        refine lv_iconst (v := 1) hx hb (kd tdlX9_unlike_0 39 rfl) (by decide) ?_
        refine lv_goto (tgt := 65) hx hb (kd tdlX9_unlike_0 40 rfl) (by decide) ?_
        exact hJ65 (1) hF _ _ _ hP hD hS (lv_sub hl [1, 2, 3, 4, 0] rfl)
set_option maxHeartbeats 4000000 in
set_option maxRecDepth 100000 in
theorem c_X9_lettersOfEntries (l : Launch) (D : va_G) (t : Nat → ClassId) (h0 : Nat) (a0 : Nat → Nat) (d0 : MDT) (sz : Nat)  (r : Int32) (hF : F_X9_lettersOfEntries (md_s d0) = some r) : Met l yX9_lettersOfEntries wX9_lettersOfEntries ({ frames := 1, cells := 0, slots := 0, locals := 22 } : Room) (kPc D (TY t) ((wmd t h0 a0 d0)) [.ref h0] sz) (kQi D (TY t) ((wmd t h0 a0 d0)) r (va_A ((wmd t h0 a0 d0)) sz)) 0 0 (va_A ((wmd t h0 a0 d0)) sz) := by
  refine kE (cc := cX9_lettersOfEntries) (maxL := 4) (ret := (some .int)) (Qx := fun A => kQi D (TY t) ((wmd t h0 a0 d0)) r A) (lv0 := [(0, .ref h0)]) RX9 rfl (by decide) rfl (Nat.le_of_ble_eq_true rfl) rfl ?_
  intro p e s m args below meth c A ls hx hb hml hr hlocks hown hts hA hK hP hD hS hl
  have L7 := hts (.fieldLink RX9 7 "ChunkCarriersModel" "s" "[I") (List.mem_cons_of_mem _ w_101)
  have inX9_ : ∀ w ∈ wsX90, w ∈ wX9_lettersOfEntries := fun w h => List.mem_cons_of_mem _ (inlX9 w h)
  have hP : va_P D vwCl ((wmdF t h0 a0 (md_thrown d0) (md_s d0) (md_aside d0) (md_base d0) (md_saved d0) (md_savedMany d0) (md_slots d0) (md_hasSlot d0) (md_text d0) (md_length d0) (md_begins d0) (md_lengths d0) (md_streams d0) (md_letters d0) (md_letterMany d0) (md_chunks d0) (md_chunkMany d0) (md_homes d0) (md_dropped d0) (md_madeIn d0) (md_madeAt d0) (md_putMany d0) (md_path d0) (md_store d0) (md_thinOnes d0))) s.heap := hP
  have hD : va_D A ((wmdF t h0 a0 (md_thrown d0) (md_s d0) (md_aside d0) (md_base d0) (md_saved d0) (md_savedMany d0) (md_slots d0) (md_hasSlot d0) (md_text d0) (md_length d0) (md_begins d0) (md_lengths d0) (md_streams d0) (md_letters d0) (md_letterMany d0) (md_chunks d0) (md_chunkMany d0) (md_homes d0) (md_dropped d0) (md_madeIn d0) (md_madeAt d0) (md_putMany d0) (md_path d0) (md_store d0) (md_thinOnes d0))) := hD
  refine lv_iconst (v := 0) hx hb (kd tdlX9_lettersOfEntries_0 0 rfl) (by decide) ?_
  refine lv_istore_n (lv' := [(1, .int 0), (0, .ref h0)]) hx hb (kd tdlX9_lettersOfEntries_0 1 rfl) rfl hl (by decide) rfl (fun ls hl => ?_)
  refine lv_iconst (v := 0) hx hb (kd tdlX9_lettersOfEntries_0 2 rfl) (by decide) ?_
  refine lv_istore_n (lv' := [(2, .int 0), (1, .int 0), (0, .ref h0)]) hx hb (kd tdlX9_lettersOfEntries_0 3 rfl) rfl hl (by decide) rfl (fun ls hl => ?_)
  refine lp_ind (f := B_X9_lettersOfEntries_4 (md_s d0)) (r := r) (P := fun s4_ => ∀ (H : Heap) (locs : List Loc) (ls : Array Slot), va_P D vwCl ((wmdF t h0 a0 (md_thrown d0) (md_s d0) (md_aside d0) (md_base d0) (md_saved d0) (md_savedMany d0) (md_slots d0) (md_hasSlot d0) (md_text d0) (md_length d0) (md_begins d0) (md_lengths d0) (md_streams d0) (md_letters d0) (md_letterMany d0) (md_chunks d0) (md_chunkMany d0) (md_homes d0) (md_dropped d0) (md_madeIn d0) (md_madeAt d0) (md_putMany d0) (md_path d0) (md_store d0) (md_thinOnes d0))) H → va_D A ((wmdF t h0 a0 (md_thrown d0) (md_s d0) (md_aside d0) (md_base d0) (md_saved d0) (md_savedMany d0) (md_slots d0) (md_hasSlot d0) (md_text d0) (md_length d0) (md_begins d0) (md_lengths d0) (md_streams d0) (md_letters d0) (md_letterMany d0) (md_chunks d0) (md_chunkMany d0) (md_homes d0) (md_dropped d0) (md_madeIn d0) (md_madeAt d0) (md_putMany d0) (md_path d0) (md_store d0) (md_thinOnes d0))) → va_S A s.heap H locs → lv_has ls 4 [(0, .ref h0), (1, .int s4_.1), (2, .int s4_.2)] → W p l e ({ frames := 1, cells := 0, slots := 0, locals := 22 } : Room) s m args below meth c H locs 0 0 (MQ below (kQi D (TY t) ((wmd t h0 a0 d0)) r A) args s 0 0 A) (F0 m 4 ls [])) ?_ FU (0, 0) hF _ _ _ hP hD hS (lv_sub hl [2, 1, 0] rfl)
  intro self4 ih4 s4_ hF H locs ls hP hD hS hl
  refine lv_iload_n hx hb (kd tdlX9_lettersOfEntries_0 4 rfl) rfl (lv_at hl 2 rfl) ?_
  refine lv_aload_n hx hb (kd tdlX9_lettersOfEntries_0 5 rfl) rfl (lv_at hl 0 rfl) ?_
  refine md_g_s hx hb hts inX9_ hown hK hP L7 (kd tdlX9_lettersOfEntries_0 6 rfl) ?_
  refine lv_bipush (v := 7) hx hb (kd tdlX9_lettersOfEntries_0 7 rfl) (by decide) ?_
  obtain ⟨hi11, hF⟩ := kg hF
  refine md_l_s hx hb hK hP hi11 (kd tdlX9_lettersOfEntries_0 8 rfl) ?_
  refine lv_icmp_ge (tgt := 65) hx hb (kd tdlX9_lettersOfEntries_0 9 rfl) (by decide) (fun hc12 => ?_) (fun hc12 => ?_)
  · have hF := kt hc12 hF
    refine lv_iload_n hx hb (kd tdlX9_lettersOfEntries_0 40 rfl) rfl (lv_at hl 1 rfl) ?_
    cases ko hF
    exact ke_i hx hb hr hlocks hK hP hD hS rfl (kd tdlX9_lettersOfEntries_0 41 rfl)
  · have hF := kf hc12 hF
    refine lv_iconst (v := 0) hx hb (kd tdlX9_lettersOfEntries_0 10 rfl) (by decide) ?_
    refine lv_istore_n (lv' := [(3, .int 0), (0, .ref h0), (1, .int s4_.1), (2, .int s4_.2)]) hx hb (kd tdlX9_lettersOfEntries_0 11 rfl) rfl hl (by decide) rfl (fun ls hl => ?_)
    refine lp_ind (f := B_X9_lettersOfEntries_17 s4_ (md_s d0) self4) (r := r) (P := fun s17_ => ∀ (H : Heap) (locs : List Loc) (ls : Array Slot), va_P D vwCl ((wmdF t h0 a0 (md_thrown d0) (md_s d0) (md_aside d0) (md_base d0) (md_saved d0) (md_savedMany d0) (md_slots d0) (md_hasSlot d0) (md_text d0) (md_length d0) (md_begins d0) (md_lengths d0) (md_streams d0) (md_letters d0) (md_letterMany d0) (md_chunks d0) (md_chunkMany d0) (md_homes d0) (md_dropped d0) (md_madeIn d0) (md_madeAt d0) (md_putMany d0) (md_path d0) (md_store d0) (md_thinOnes d0))) H → va_D A ((wmdF t h0 a0 (md_thrown d0) (md_s d0) (md_aside d0) (md_base d0) (md_saved d0) (md_savedMany d0) (md_slots d0) (md_hasSlot d0) (md_text d0) (md_length d0) (md_begins d0) (md_lengths d0) (md_streams d0) (md_letters d0) (md_letterMany d0) (md_chunks d0) (md_chunkMany d0) (md_homes d0) (md_dropped d0) (md_madeIn d0) (md_madeAt d0) (md_putMany d0) (md_path d0) (md_store d0) (md_thinOnes d0))) → va_S A s.heap H locs → lv_has ls 4 [(0, .ref h0), (1, .int s17_.1), (2, .int s4_.2), (3, .int s17_.2)] → W p l e ({ frames := 1, cells := 0, slots := 0, locals := 22 } : Room) s m args below meth c H locs 0 0 (MQ below (kQi D (TY t) ((wmd t h0 a0 d0)) r A) args s 0 0 A) (F0 m 17 ls [])) ?_ FU (s4_.1, 0) hF _ _ _ hP hD hS (lv_sub hl [1, 2, 3, 0] rfl)
    intro self17 ih17 s17_ hF H locs ls hP hD hS hl
    refine lv_iload_n hx hb (kd tdlX9_lettersOfEntries_0 12 rfl) rfl (lv_at hl 3 rfl) ?_
    refine lv_aload_n hx hb (kd tdlX9_lettersOfEntries_0 13 rfl) rfl (lv_at hl 0 rfl) ?_
    refine md_g_s hx hb hts inX9_ hown hK hP L7 (kd tdlX9_lettersOfEntries_0 14 rfl) ?_
    refine lv_aload_n hx hb (kd tdlX9_lettersOfEntries_0 15 rfl) rfl (lv_at hl 0 rfl) ?_
    refine lv_iload_n hx hb (kd tdlX9_lettersOfEntries_0 16 rfl) rfl (lv_at hl 2 rfl) ?_
    obtain ⟨v24, e24, hF⟩ := kc hF
    refine kc_i0 (w1 := ((wmdF t h0 a0 (md_thrown d0) (md_s d0) (md_aside d0) (md_base d0) (md_saved d0) (md_savedMany d0) (md_slots d0) (md_hasSlot d0) (md_text d0) (md_length d0) (md_begins d0) (md_lengths d0) (md_streams d0) (md_letters d0) (md_letterMany d0) (md_chunks d0) (md_chunkMany d0) (md_homes d0) (md_dropped d0) (md_madeIn d0) (md_madeAt d0) (md_putMany d0) (md_path d0) (md_store d0) (md_thinOnes d0)))) hP hD hS hA (kr_V0 (Qx := (fun A => kQi D (TY t) ((wmdF t h0 a0 (md_thrown d0) (md_s d0) (md_aside d0) (md_base d0) (md_saved d0) (md_savedMany d0) (md_slots d0) (md_hasSlot d0) (md_text d0) (md_length d0) (md_begins d0) (md_lengths d0) (md_streams d0) (md_letters d0) (md_letterMany d0) (md_chunks d0) (md_chunkMany d0) (md_homes d0) (md_dropped d0) (md_madeIn d0) (md_madeAt d0) (md_putMany d0) (md_path d0) (md_store d0) (md_thinOnes d0))) v24 A)) (As := [.int s4_.2]) (rest := [.ref (a0 0), .int s17_.2]) ⟨hx, hb, hml, hown, hts⟩ hK hP hD (c_X9_at l D t h0 a0 d0 _ s4_.2 v24 e24) (cwV 1 hts (gcX9_at w_306) rfl rfl rfl hdX9_atV ⟨Nat.le_of_ble_eq_true rfl, Nat.le_of_ble_eq_true rfl⟩) (ci := 8) (q0 := 0) rfl rfl rfl hl.1 rfl (Nat.le_of_ble_eq_true rfl) (kd tdlX9_lettersOfEntries_0 17 rfl) ⟨Nat.zero_le _, Nat.zero_le _⟩) (fun H locs hP hD hS => ?_)
    refine lv_iconst (v := 2) hx hb (kd tdlX9_lettersOfEntries_0 18 rfl) (by decide) ?_
    refine lv_iadd hx hb (kd tdlX9_lettersOfEntries_0 19 rfl) ?_
    obtain ⟨hi29, hF⟩ := kg hF
    refine md_l_s hx hb hK hP hi29 (kd tdlX9_lettersOfEntries_0 20 rfl) ?_
    refine lv_icmp_ge (tgt := 59) hx hb (kd tdlX9_lettersOfEntries_0 21 rfl) (by decide) (fun hc30 => ?_) (fun hc30 => ?_)
    · have hF := kt hc30 hF
      refine lv_iinc (v := (s4_.2 + 1)) (lv' := [(2, .int (s4_.2 + 1)), (0, .ref h0), (1, .int s17_.1), (3, .int s17_.2)]) hx hb (kd tdlX9_lettersOfEntries_0 38 rfl) hl (k := 2) rfl rfl (by decide) rfl (fun ls hl => ?_)
      refine lv_goto (tgt := 4) hx hb (kd tdlX9_lettersOfEntries_0 39 rfl) (by decide) ?_
      exact ih4 (s17_.1, (s4_.2 + 1)) hF _ _ _ hP hD hS (lv_sub hl [1, 2, 0] rfl)
    · have hF := kf hc30 hF
      refine lv_iload_n hx hb (kd tdlX9_lettersOfEntries_0 22 rfl) rfl (lv_at hl 1 rfl) ?_
      refine lv_aload_n hx hb (kd tdlX9_lettersOfEntries_0 23 rfl) rfl (lv_at hl 0 rfl) ?_
      refine md_g_s hx hb hts inX9_ hown hK hP L7 (kd tdlX9_lettersOfEntries_0 24 rfl) ?_
      refine lv_aload_n hx hb (kd tdlX9_lettersOfEntries_0 25 rfl) rfl (lv_at hl 0 rfl) ?_
      refine lv_iload_n hx hb (kd tdlX9_lettersOfEntries_0 26 rfl) rfl (lv_at hl 2 rfl) ?_
      obtain ⟨v40, e40, hF⟩ := kc hF
      refine kc_i0 (w1 := ((wmdF t h0 a0 (md_thrown d0) (md_s d0) (md_aside d0) (md_base d0) (md_saved d0) (md_savedMany d0) (md_slots d0) (md_hasSlot d0) (md_text d0) (md_length d0) (md_begins d0) (md_lengths d0) (md_streams d0) (md_letters d0) (md_letterMany d0) (md_chunks d0) (md_chunkMany d0) (md_homes d0) (md_dropped d0) (md_madeIn d0) (md_madeAt d0) (md_putMany d0) (md_path d0) (md_store d0) (md_thinOnes d0)))) hP hD hS hA (kr_V0 (Qx := (fun A => kQi D (TY t) ((wmdF t h0 a0 (md_thrown d0) (md_s d0) (md_aside d0) (md_base d0) (md_saved d0) (md_savedMany d0) (md_slots d0) (md_hasSlot d0) (md_text d0) (md_length d0) (md_begins d0) (md_lengths d0) (md_streams d0) (md_letters d0) (md_letterMany d0) (md_chunks d0) (md_chunkMany d0) (md_homes d0) (md_dropped d0) (md_madeIn d0) (md_madeAt d0) (md_putMany d0) (md_path d0) (md_store d0) (md_thinOnes d0))) v40 A)) (As := [.int s4_.2]) (rest := [.ref (a0 0), .int s17_.1]) ⟨hx, hb, hml, hown, hts⟩ hK hP hD (c_X9_at l D t h0 a0 d0 _ s4_.2 v40 e40) (cwV 1 hts (gcX9_at w_306) rfl rfl rfl hdX9_atV ⟨Nat.le_of_ble_eq_true rfl, Nat.le_of_ble_eq_true rfl⟩) (ci := 8) (q0 := 0) rfl rfl rfl hl.1 rfl (Nat.le_of_ble_eq_true rfl) (kd tdlX9_lettersOfEntries_0 27 rfl) ⟨Nat.zero_le _, Nat.zero_le _⟩) (fun H locs hP hD hS => ?_)
      refine lv_iconst (v := 3) hx hb (kd tdlX9_lettersOfEntries_0 28 rfl) (by decide) ?_
      refine lv_iadd hx hb (kd tdlX9_lettersOfEntries_0 29 rfl) ?_
      refine lv_iload_n hx hb (kd tdlX9_lettersOfEntries_0 30 rfl) rfl (lv_at hl 3 rfl) ?_
      refine lv_iadd hx hb (kd tdlX9_lettersOfEntries_0 31 rfl) ?_
      obtain ⟨hi47, hF⟩ := kg hF
      refine md_l_s hx hb hK hP hi47 (kd tdlX9_lettersOfEntries_0 32 rfl) ?_
      obtain ⟨v48, e48, hF⟩ := kc hF
      refine kc_iR hK hP hD hS hA [] rfl (kr_S (Qx := (fun A => kQi D (TY t) ([] : va_W) v48 A)) (wc := ([] : va_W)) (As := [.int ((md_s d0) (Int32.toNatClampNeg ((v40 + 3) + s17_.2)))]) (rest := [.int s17_.1]) ⟨hx, hb, hml, hown, hts⟩ hK hP hD [] nd_ rfl (c_X9_lengthOf l D t  _ ((md_s d0) (Int32.toNatClampNeg ((v40 + 3) + s17_.2))) v48 e48) (va_cwS 1 hts (gcX9_lengthOf w_289) rfl rfl rfl hdX9_lengthOfS ⟨Nat.le_of_ble_eq_true rfl, Nat.le_of_ble_eq_true rfl⟩) rfl hl.1 rfl (Nat.le_of_ble_eq_true rfl) (kd tdlX9_lettersOfEntries_0 33 rfl) ⟨Nat.zero_le _, Nat.zero_le _⟩) (fun H locs hP hS => ?_)
      refine lv_iadd hx hb (kd tdlX9_lettersOfEntries_0 34 rfl) ?_
      refine lv_istore_n (lv' := [(1, .int (s17_.1 + v48)), (0, .ref h0), (2, .int s4_.2), (3, .int s17_.2)]) hx hb (kd tdlX9_lettersOfEntries_0 35 rfl) rfl hl (by decide) rfl (fun ls hl => ?_)
      refine lv_iinc (v := (s17_.2 + 1)) (lv' := [(3, .int (s17_.2 + 1)), (1, .int (s17_.1 + v48)), (0, .ref h0), (2, .int s4_.2)]) hx hb (kd tdlX9_lettersOfEntries_0 36 rfl) hl (k := 3) rfl rfl (by decide) rfl (fun ls hl => ?_)
      refine lv_goto (tgt := 17) hx hb (kd tdlX9_lettersOfEntries_0 37 rfl) (by decide) ?_
      exact ih17 ((s17_.1 + v48), (s17_.2 + 1)) hF _ _ _ hP hD hS (lv_sub hl [2, 1, 3, 0] rfl)
set_option maxHeartbeats 4000000 in
set_option maxRecDepth 100000 in
theorem c_X9_backups (l : Launch) (D : va_G) (t : Nat → ClassId) (h0 : Nat) (a0 : Nat → Nat) (d0 : MDT) (sz : Nat)  (r : Int32) (hF : F_X9_backups (md_s d0) = some r) : Met l yX9_backups wX9_backups ({ frames := 1, cells := 0, slots := 0, locals := 21 } : Room) (kPc D (TY t) ((wmd t h0 a0 d0)) [.ref h0] sz) (kQi D (TY t) ((wmd t h0 a0 d0)) r (va_A ((wmd t h0 a0 d0)) sz)) 0 0 (va_A ((wmd t h0 a0 d0)) sz) := by
  refine kE (cc := cX9_backups) (maxL := 3) (ret := (some .int)) (Qx := fun A => kQi D (TY t) ((wmd t h0 a0 d0)) r A) (lv0 := [(0, .ref h0)]) RX9 rfl (by decide) rfl (Nat.le_of_ble_eq_true rfl) rfl ?_
  intro p e s m args below meth c A ls hx hb hml hr hlocks hown hts hA hK hP hD hS hl
  have L7 := hts (.fieldLink RX9 7 "ChunkCarriersModel" "s" "[I") (List.mem_cons_of_mem _ w_101)
  have inX9_ : ∀ w ∈ wsX90, w ∈ wX9_backups := fun w h => List.mem_cons_of_mem _ (inlX9 w h)
  have hP : va_P D vwCl ((wmdF t h0 a0 (md_thrown d0) (md_s d0) (md_aside d0) (md_base d0) (md_saved d0) (md_savedMany d0) (md_slots d0) (md_hasSlot d0) (md_text d0) (md_length d0) (md_begins d0) (md_lengths d0) (md_streams d0) (md_letters d0) (md_letterMany d0) (md_chunks d0) (md_chunkMany d0) (md_homes d0) (md_dropped d0) (md_madeIn d0) (md_madeAt d0) (md_putMany d0) (md_path d0) (md_store d0) (md_thinOnes d0))) s.heap := hP
  have hD : va_D A ((wmdF t h0 a0 (md_thrown d0) (md_s d0) (md_aside d0) (md_base d0) (md_saved d0) (md_savedMany d0) (md_slots d0) (md_hasSlot d0) (md_text d0) (md_length d0) (md_begins d0) (md_lengths d0) (md_streams d0) (md_letters d0) (md_letterMany d0) (md_chunks d0) (md_chunkMany d0) (md_homes d0) (md_dropped d0) (md_madeIn d0) (md_madeAt d0) (md_putMany d0) (md_path d0) (md_store d0) (md_thinOnes d0))) := hD
  refine lv_iconst (v := 0) hx hb (kd tdlX9_backups_0 0 rfl) (by decide) ?_
  refine lv_istore_n (lv' := [(1, .int 0), (0, .ref h0)]) hx hb (kd tdlX9_backups_0 1 rfl) rfl hl (by decide) rfl (fun ls hl => ?_)
  refine lv_iconst (v := 0) hx hb (kd tdlX9_backups_0 2 rfl) (by decide) ?_
  refine lv_istore_n (lv' := [(2, .int 0), (1, .int 0), (0, .ref h0)]) hx hb (kd tdlX9_backups_0 3 rfl) rfl hl (by decide) rfl (fun ls hl => ?_)
  refine lp_ind (f := B_X9_backups_4 (md_s d0)) (r := r) (P := fun s4_ => ∀ (H : Heap) (locs : List Loc) (ls : Array Slot), va_P D vwCl ((wmdF t h0 a0 (md_thrown d0) (md_s d0) (md_aside d0) (md_base d0) (md_saved d0) (md_savedMany d0) (md_slots d0) (md_hasSlot d0) (md_text d0) (md_length d0) (md_begins d0) (md_lengths d0) (md_streams d0) (md_letters d0) (md_letterMany d0) (md_chunks d0) (md_chunkMany d0) (md_homes d0) (md_dropped d0) (md_madeIn d0) (md_madeAt d0) (md_putMany d0) (md_path d0) (md_store d0) (md_thinOnes d0))) H → va_D A ((wmdF t h0 a0 (md_thrown d0) (md_s d0) (md_aside d0) (md_base d0) (md_saved d0) (md_savedMany d0) (md_slots d0) (md_hasSlot d0) (md_text d0) (md_length d0) (md_begins d0) (md_lengths d0) (md_streams d0) (md_letters d0) (md_letterMany d0) (md_chunks d0) (md_chunkMany d0) (md_homes d0) (md_dropped d0) (md_madeIn d0) (md_madeAt d0) (md_putMany d0) (md_path d0) (md_store d0) (md_thinOnes d0))) → va_S A s.heap H locs → lv_has ls 3 [(0, .ref h0), (1, .int s4_.1), (2, .int s4_.2)] → W p l e ({ frames := 1, cells := 0, slots := 0, locals := 21 } : Room) s m args below meth c H locs 0 0 (MQ below (kQi D (TY t) ((wmd t h0 a0 d0)) r A) args s 0 0 A) (F0 m 4 ls [])) ?_ FU (0, 0) hF _ _ _ hP hD hS (lv_sub hl [2, 1, 0] rfl)
  intro self4 ih4 s4_ hF H locs ls hP hD hS hl
  refine lv_iload_n hx hb (kd tdlX9_backups_0 4 rfl) rfl (lv_at hl 2 rfl) ?_
  refine lv_bipush (v := 8) hx hb (kd tdlX9_backups_0 5 rfl) (by decide) ?_
  refine lv_icmp_ge (tgt := 31) hx hb (kd tdlX9_backups_0 6 rfl) (by decide) (fun hc7 => ?_) (fun hc7 => ?_)
  · have hF := kt hc7 hF
    refine lv_iload_n hx hb (kd tdlX9_backups_0 20 rfl) rfl (lv_at hl 1 rfl) ?_
    cases ko hF
    exact ke_i hx hb hr hlocks hK hP hD hS rfl (kd tdlX9_backups_0 21 rfl)
  · have hF := kf hc7 hF
    refine lv_iload_n hx hb (kd tdlX9_backups_0 7 rfl) rfl (lv_at hl 1 rfl) ?_
    refine lv_aload_n hx hb (kd tdlX9_backups_0 8 rfl) rfl (lv_at hl 0 rfl) ?_
    refine md_g_s hx hb hts inX9_ hown hK hP L7 (kd tdlX9_backups_0 9 rfl) ?_
    refine lv_aload_n hx hb (kd tdlX9_backups_0 10 rfl) rfl (lv_at hl 0 rfl) ?_
    refine lv_iload_n hx hb (kd tdlX9_backups_0 11 rfl) rfl (lv_at hl 2 rfl) ?_
    obtain ⟨v17, e17, hF⟩ := kc hF
    refine kc_i0 (w1 := ((wmdF t h0 a0 (md_thrown d0) (md_s d0) (md_aside d0) (md_base d0) (md_saved d0) (md_savedMany d0) (md_slots d0) (md_hasSlot d0) (md_text d0) (md_length d0) (md_begins d0) (md_lengths d0) (md_streams d0) (md_letters d0) (md_letterMany d0) (md_chunks d0) (md_chunkMany d0) (md_homes d0) (md_dropped d0) (md_madeIn d0) (md_madeAt d0) (md_putMany d0) (md_path d0) (md_store d0) (md_thinOnes d0)))) hP hD hS hA (kr_V0 (Qx := (fun A => kQi D (TY t) ((wmdF t h0 a0 (md_thrown d0) (md_s d0) (md_aside d0) (md_base d0) (md_saved d0) (md_savedMany d0) (md_slots d0) (md_hasSlot d0) (md_text d0) (md_length d0) (md_begins d0) (md_lengths d0) (md_streams d0) (md_letters d0) (md_letterMany d0) (md_chunks d0) (md_chunkMany d0) (md_homes d0) (md_dropped d0) (md_madeIn d0) (md_madeAt d0) (md_putMany d0) (md_path d0) (md_store d0) (md_thinOnes d0))) v17 A)) (As := [.int s4_.2]) (rest := [.ref (a0 0), .int s4_.1]) ⟨hx, hb, hml, hown, hts⟩ hK hP hD (c_X9_backupAt l D t h0 a0 d0 _ s4_.2 v17 e17) (cwV 1 hts (gcX9_backupAt w_382) rfl rfl rfl hdX9_backupAtV ⟨Nat.le_of_ble_eq_true rfl, Nat.le_of_ble_eq_true rfl⟩) (ci := 8) (q0 := 0) rfl rfl rfl hl.1 rfl (Nat.le_of_ble_eq_true rfl) (kd tdlX9_backups_0 12 rfl) ⟨Nat.zero_le _, Nat.zero_le _⟩) (fun H locs hP hD hS => ?_)
    refine lv_iconst (v := 0) hx hb (kd tdlX9_backups_0 13 rfl) (by decide) ?_
    refine lv_iadd hx hb (kd tdlX9_backups_0 14 rfl) ?_
    obtain ⟨hi22, hF⟩ := kg hF
    refine md_l_s hx hb hK hP hi22 (kd tdlX9_backups_0 15 rfl) ?_
    refine lv_iadd hx hb (kd tdlX9_backups_0 16 rfl) ?_
    refine lv_istore_n (lv' := [(1, .int (s4_.1 + ((md_s d0) (Int32.toNatClampNeg (v17 + 0))))), (0, .ref h0), (2, .int s4_.2)]) hx hb (kd tdlX9_backups_0 17 rfl) rfl hl (by decide) rfl (fun ls hl => ?_)
    refine lv_iinc (v := (s4_.2 + 1)) (lv' := [(2, .int (s4_.2 + 1)), (1, .int (s4_.1 + ((md_s d0) (Int32.toNatClampNeg (v17 + 0))))), (0, .ref h0)]) hx hb (kd tdlX9_backups_0 18 rfl) hl (k := 2) rfl rfl (by decide) rfl (fun ls hl => ?_)
    refine lv_goto (tgt := 4) hx hb (kd tdlX9_backups_0 19 rfl) (by decide) ?_
    exact ih4 ((s4_.1 + ((md_s d0) (Int32.toNatClampNeg (v17 + 0)))), (s4_.2 + 1)) hF _ _ _ hP hD hS (lv_sub hl [2, 1, 0] rfl)
set_option maxHeartbeats 4000000 in
set_option maxRecDepth 100000 in
theorem c_X9_about (l : Launch) (D : va_G) (t : Nat → ClassId) (h0 : Nat) (a0 : Nat → Nat) (d0 : MDT) (sz : Nat) (p1 : Int32) (r : Int32 × Int32) (hF : F_X9_about (md_thrown d0) (md_s d0) p1 = some r) : Met l yX9_about wX9_about ({ frames := 5, cells := 0, slots := 0, locals := 115 } : Room) (kPc D (TY t) ((wmd t h0 a0 d0)) [.ref h0, .int p1] sz) (kQi D (TY t) ((wmd t h0 a0 (r.2, (md_s d0), (md_aside d0), (md_base d0), (md_saved d0), (md_savedMany d0), (md_slots d0), (md_hasSlot d0), (md_text d0), (md_length d0), (md_begins d0), (md_lengths d0), (md_streams d0), (md_letters d0), (md_letterMany d0), (md_chunks d0), (md_chunkMany d0), (md_homes d0), (md_dropped d0), (md_madeIn d0), (md_madeAt d0), (md_putMany d0), (md_path d0), (md_store d0), (md_thinOnes d0)))) r.1 (va_A ((wmd t h0 a0 d0)) sz)) 0 0 (va_A ((wmd t h0 a0 d0)) sz) := by
  refine kE (cc := cX9_about) (maxL := 4) (ret := (some .int)) (Qx := fun A => kQi D (TY t) ((wmd t h0 a0 (r.2, (md_s d0), (md_aside d0), (md_base d0), (md_saved d0), (md_savedMany d0), (md_slots d0), (md_hasSlot d0), (md_text d0), (md_length d0), (md_begins d0), (md_lengths d0), (md_streams d0), (md_letters d0), (md_letterMany d0), (md_chunks d0), (md_chunkMany d0), (md_homes d0), (md_dropped d0), (md_madeIn d0), (md_madeAt d0), (md_putMany d0), (md_path d0), (md_store d0), (md_thinOnes d0)))) r.1 A) (lv0 := [(0, .ref h0), (1, .int p1)]) RX9 rfl (by decide) rfl (Nat.le_of_ble_eq_true rfl) rfl ?_
  intro p e s m args below meth c A ls hx hb hml hr hlocks hown hts hA hK hP hD hS hl
  have L65 := hts (.fieldLink RX9 65 "ChunkCarriersModel" "thrown" "I") (List.mem_cons_of_mem _ w_119)
  have L7 := hts (.fieldLink RX9 7 "ChunkCarriersModel" "s" "[I") (List.mem_cons_of_mem _ w_101)
  have inX9_ : ∀ w ∈ wsX90, w ∈ wX9_about := fun w h => List.mem_cons_of_mem _ (inlX9 w h)
  have hP : va_P D vwCl ((wmdF t h0 a0 (md_thrown d0) (md_s d0) (md_aside d0) (md_base d0) (md_saved d0) (md_savedMany d0) (md_slots d0) (md_hasSlot d0) (md_text d0) (md_length d0) (md_begins d0) (md_lengths d0) (md_streams d0) (md_letters d0) (md_letterMany d0) (md_chunks d0) (md_chunkMany d0) (md_homes d0) (md_dropped d0) (md_madeIn d0) (md_madeAt d0) (md_putMany d0) (md_path d0) (md_store d0) (md_thinOnes d0))) s.heap := hP
  have hD : va_D A ((wmdF t h0 a0 (md_thrown d0) (md_s d0) (md_aside d0) (md_base d0) (md_saved d0) (md_savedMany d0) (md_slots d0) (md_hasSlot d0) (md_text d0) (md_length d0) (md_begins d0) (md_lengths d0) (md_streams d0) (md_letters d0) (md_letterMany d0) (md_chunks d0) (md_chunkMany d0) (md_homes d0) (md_dropped d0) (md_madeIn d0) (md_madeAt d0) (md_putMany d0) (md_path d0) (md_store d0) (md_thinOnes d0))) := hD
  refine lv_aload_n hx hb (kd tdlX9_about_0 0 rfl) rfl (lv_at hl 0 rfl) ?_
  refine lv_iconst (v := 0) hx hb (kd tdlX9_about_0 1 rfl) (by decide) ?_
  refine md_p_thrown hx hb hts inX9_ hown hK hP hD hS L65 (kd tdlX9_about_0 2 rfl) (fun H locs hP hD hS => ?_)
  refine lv_iconst (v := 0) hx hb (kd tdlX9_about_0 3 rfl) (by decide) ?_
  refine lv_istore_n (lv' := [(2, .int 0), (0, .ref h0), (1, .int p1)]) hx hb (kd tdlX9_about_0 4 rfl) rfl hl (by decide) rfl (fun ls hl => ?_)
  refine lv_iconst (v := 0) hx hb (kd tdlX9_about_0 5 rfl) (by decide) ?_
  refine lv_istore_n (lv' := [(3, .int 0), (2, .int 0), (0, .ref h0), (1, .int p1)]) hx hb (kd tdlX9_about_0 6 rfl) rfl hl (by decide) rfl (fun ls hl => ?_)
  have hK36 : ∀ k36 : Int32, K_X9_about_36 p1 (md_s d0) k36 = some r → ∀ (H : Heap) (locs : List Loc) (ls : Array Slot), va_P D vwCl ((wmdF t h0 a0 0 (md_s d0) (md_aside d0) (md_base d0) (md_saved d0) (md_savedMany d0) (md_slots d0) (md_hasSlot d0) (md_text d0) (md_length d0) (md_begins d0) (md_lengths d0) (md_streams d0) (md_letters d0) (md_letterMany d0) (md_chunks d0) (md_chunkMany d0) (md_homes d0) (md_dropped d0) (md_madeIn d0) (md_madeAt d0) (md_putMany d0) (md_path d0) (md_store d0) (md_thinOnes d0))) H → va_D A ((wmdF t h0 a0 0 (md_s d0) (md_aside d0) (md_base d0) (md_saved d0) (md_savedMany d0) (md_slots d0) (md_hasSlot d0) (md_text d0) (md_length d0) (md_begins d0) (md_lengths d0) (md_streams d0) (md_letters d0) (md_letterMany d0) (md_chunks d0) (md_chunkMany d0) (md_homes d0) (md_dropped d0) (md_madeIn d0) (md_madeAt d0) (md_putMany d0) (md_path d0) (md_store d0) (md_thinOnes d0))) → va_S A s.heap H locs → lv_has ls 4 [(0, .ref h0), (1, .int p1), (2, .int k36)] → W p l e ({ frames := 5, cells := 0, slots := 0, locals := 115 } : Room) s m args below meth c H locs 0 0 (MQ below (kQi D (TY t) ((wmd t h0 a0 (r.2, (md_s d0), (md_aside d0), (md_base d0), (md_saved d0), (md_savedMany d0), (md_slots d0), (md_hasSlot d0), (md_text d0), (md_length d0), (md_begins d0), (md_lengths d0), (md_streams d0), (md_letters d0), (md_letterMany d0), (md_chunks d0), (md_chunkMany d0), (md_homes d0), (md_dropped d0), (md_madeIn d0), (md_madeAt d0), (md_putMany d0), (md_path d0), (md_store d0), (md_thinOnes d0)))) r.1 A) args s 0 0 A) (F0 m 36 ls []) := by
    intro k36 hF H locs ls hP hD hS hl
    refine lv_iload_n hx hb (kd tdlX9_about_0 23 rfl) rfl (lv_at hl 1 rfl) ?_
    by_cases hw37 : (Int32.toInt p1 < 0 ∨ 9 < Int32.toInt p1)
    · have hF := kt hw37 hF
      refine lv_tableOut (tgt := 148) hx hb (kd tdlX9_about_0 24 rfl) hw37 (by decide) ?_
      refine lv_aload_n hx hb (kd tdlX9_about_1 16 rfl) rfl (lv_at hl 0 rfl) ?_
      refine lv_iconst (v := 1) hx hb (kd tdlX9_about_1 17 rfl) (by decide) ?_
      obtain ⟨v150, e150, hF⟩ := kc hF
      refine kc_i0 (w1 := ((wmdF t h0 a0 v150.2 (md_s d0) (md_aside d0) (md_base d0) (md_saved d0) (md_savedMany d0) (md_slots d0) (md_hasSlot d0) (md_text d0) (md_length d0) (md_begins d0) (md_lengths d0) (md_streams d0) (md_letters d0) (md_letterMany d0) (md_chunks d0) (md_chunkMany d0) (md_homes d0) (md_dropped d0) (md_madeIn d0) (md_madeAt d0) (md_putMany d0) (md_path d0) (md_store d0) (md_thinOnes d0)))) hP hD hS hA (kr_V0 (Qx := (fun A => kQi D (TY t) ((wmdF t h0 a0 v150.2 (md_s d0) (md_aside d0) (md_base d0) (md_saved d0) (md_savedMany d0) (md_slots d0) (md_hasSlot d0) (md_text d0) (md_length d0) (md_begins d0) (md_lengths d0) (md_streams d0) (md_letters d0) (md_letterMany d0) (md_chunks d0) (md_chunkMany d0) (md_homes d0) (md_dropped d0) (md_madeIn d0) (md_madeAt d0) (md_putMany d0) (md_path d0) (md_store d0) (md_thinOnes d0))) v150.1 A)) (As := [.int 1]) (rest := []) ⟨hx, hb, hml, hown, hts⟩ hK hP hD (c_X9_fails l D t h0 a0 (0, (md_s d0), (md_aside d0), (md_base d0), (md_saved d0), (md_savedMany d0), (md_slots d0), (md_hasSlot d0), (md_text d0), (md_length d0), (md_begins d0), (md_lengths d0), (md_streams d0), (md_letters d0), (md_letterMany d0), (md_chunks d0), (md_chunkMany d0), (md_homes d0), (md_dropped d0), (md_madeIn d0), (md_madeAt d0), (md_putMany d0), (md_path d0), (md_store d0), (md_thinOnes d0)) _ 1 v150 e150) (cwV 1 hts (gcX9_fails w_153) rfl rfl rfl hdX9_failsV ⟨Nat.le_of_ble_eq_true rfl, Nat.le_of_ble_eq_true rfl⟩) (ci := 8) (q0 := 0) rfl rfl rfl hl.1 rfl (Nat.le_of_ble_eq_true rfl) (kd tdlX9_about_1 18 rfl) ⟨Nat.zero_le _, Nat.zero_le _⟩) (fun H locs hP hD hS => ?_)
      cases ko hF
      exact ke_i hx hb hr hlocks hK hP hD hS rfl (kd tdlX9_about_1 19 rfl)
    · have hF := kf hw37 hF
      by_cases hv37_0 : p1 = 0
      · have hF := kt hv37_0 hF
        refine ksw (n := 0) (off := (55)) (tgt := 92) hx hb (kd tdlX9_about_0 24 rfl) hv37_0 (by decide) (by decide) (by decide) (by decide) ?_
        refine lv_aload_n hx hb (kd tdlX9_about_0 25 rfl) rfl (lv_at hl 0 rfl) ?_
        refine md_g_s hx hb hts inX9_ hown hK hP L7 (kd tdlX9_about_0 26 rfl) ?_
        refine lv_bipush (v := 7) hx hb (kd tdlX9_about_0 27 rfl) (by decide) ?_
        obtain ⟨hi98, hF⟩ := kg hF
        refine md_l_s hx hb hK hP hi98 (kd tdlX9_about_0 28 rfl) ?_
        cases ko hF
        exact ke_i hx hb hr hlocks hK hP hD hS rfl (kd tdlX9_about_0 29 rfl)
      · have hF := kf hv37_0 hF
        by_cases hv37_1 : p1 = 1
        · have hF := kt hv37_1 hF
          refine ksw (n := 1) (off := (63)) (tgt := 100) hx hb (kd tdlX9_about_0 24 rfl) hv37_1 (by decide) (by decide) (by decide) (by decide) ?_
          refine lv_aload_n hx hb (kd tdlX9_about_0 30 rfl) rfl (lv_at hl 0 rfl) ?_
          obtain ⟨v101, e101, hF⟩ := kc hF
          refine kc_i0 (w1 := ((wmdF t h0 a0 0 (md_s d0) (md_aside d0) (md_base d0) (md_saved d0) (md_savedMany d0) (md_slots d0) (md_hasSlot d0) (md_text d0) (md_length d0) (md_begins d0) (md_lengths d0) (md_streams d0) (md_letters d0) (md_letterMany d0) (md_chunks d0) (md_chunkMany d0) (md_homes d0) (md_dropped d0) (md_madeIn d0) (md_madeAt d0) (md_putMany d0) (md_path d0) (md_store d0) (md_thinOnes d0)))) hP hD hS hA (kr_V0 (Qx := (fun A => kQi D (TY t) ((wmdF t h0 a0 0 (md_s d0) (md_aside d0) (md_base d0) (md_saved d0) (md_savedMany d0) (md_slots d0) (md_hasSlot d0) (md_text d0) (md_length d0) (md_begins d0) (md_lengths d0) (md_streams d0) (md_letters d0) (md_letterMany d0) (md_chunks d0) (md_chunkMany d0) (md_homes d0) (md_dropped d0) (md_madeIn d0) (md_madeAt d0) (md_putMany d0) (md_path d0) (md_store d0) (md_thinOnes d0))) v101 A)) (As := []) (rest := []) ⟨hx, hb, hml, hown, hts⟩ hK hP hD (c_X9_backups l D t h0 a0 (0, (md_s d0), (md_aside d0), (md_base d0), (md_saved d0), (md_savedMany d0), (md_slots d0), (md_hasSlot d0), (md_text d0), (md_length d0), (md_begins d0), (md_lengths d0), (md_streams d0), (md_letters d0), (md_letterMany d0), (md_chunks d0), (md_chunkMany d0), (md_homes d0), (md_dropped d0), (md_madeIn d0), (md_madeAt d0), (md_putMany d0), (md_path d0), (md_store d0), (md_thinOnes d0)) _  v101 e101) (cwV 0 hts (gcX9_backups w_386) rfl rfl rfl hdX9_backupsV ⟨Nat.le_of_ble_eq_true rfl, Nat.le_of_ble_eq_true rfl⟩) (ci := 8) (q0 := 0) rfl rfl rfl hl.1 rfl (Nat.le_of_ble_eq_true rfl) (kd tdlX9_about_0 31 rfl) ⟨Nat.zero_le _, Nat.zero_le _⟩) (fun H locs hP hD hS => ?_)
          cases ko hF
          exact ke_i hx hb hr hlocks hK hP hD hS rfl (kd tdlX9_about_0 32 rfl)
        · have hF := kf hv37_1 hF
          by_cases hv37_2 : p1 = 2
          · have hF := kt hv37_2 hF
            refine ksw (n := 2) (off := (68)) (tgt := 105) hx hb (kd tdlX9_about_0 24 rfl) hv37_2 (by decide) (by decide) (by decide) (by decide) ?_
            refine lv_aload_n hx hb (kd tdlX9_about_0 33 rfl) rfl (lv_at hl 0 rfl) ?_
            obtain ⟨v106, e106, hF⟩ := kc hF
            refine kc_i0 (w1 := ((wmdF t h0 a0 0 (md_s d0) (md_aside d0) (md_base d0) (md_saved d0) (md_savedMany d0) (md_slots d0) (md_hasSlot d0) (md_text d0) (md_length d0) (md_begins d0) (md_lengths d0) (md_streams d0) (md_letters d0) (md_letterMany d0) (md_chunks d0) (md_chunkMany d0) (md_homes d0) (md_dropped d0) (md_madeIn d0) (md_madeAt d0) (md_putMany d0) (md_path d0) (md_store d0) (md_thinOnes d0)))) hP hD hS hA (kr_V0 (Qx := (fun A => kQi D (TY t) ((wmdF t h0 a0 0 (md_s d0) (md_aside d0) (md_base d0) (md_saved d0) (md_savedMany d0) (md_slots d0) (md_hasSlot d0) (md_text d0) (md_length d0) (md_begins d0) (md_lengths d0) (md_streams d0) (md_letters d0) (md_letterMany d0) (md_chunks d0) (md_chunkMany d0) (md_homes d0) (md_dropped d0) (md_madeIn d0) (md_madeAt d0) (md_putMany d0) (md_path d0) (md_store d0) (md_thinOnes d0))) v106 A)) (As := []) (rest := []) ⟨hx, hb, hml, hown, hts⟩ hK hP hD (c_X9_entries l D t h0 a0 (0, (md_s d0), (md_aside d0), (md_base d0), (md_saved d0), (md_savedMany d0), (md_slots d0), (md_hasSlot d0), (md_text d0), (md_length d0), (md_begins d0), (md_lengths d0), (md_streams d0), (md_letters d0), (md_letterMany d0), (md_chunks d0), (md_chunkMany d0), (md_homes d0), (md_dropped d0), (md_madeIn d0), (md_madeAt d0), (md_putMany d0), (md_path d0), (md_store d0), (md_thinOnes d0)) _  v106 e106) (cwV 0 hts (gcX9_entries w_390) rfl rfl rfl hdX9_entriesV ⟨Nat.le_of_ble_eq_true rfl, Nat.le_of_ble_eq_true rfl⟩) (ci := 8) (q0 := 0) rfl rfl rfl hl.1 rfl (Nat.le_of_ble_eq_true rfl) (kd tdlX9_about_0 34 rfl) ⟨Nat.zero_le _, Nat.zero_le _⟩) (fun H locs hP hD hS => ?_)
            cases ko hF
            exact ke_i hx hb hr hlocks hK hP hD hS rfl (kd tdlX9_about_0 35 rfl)
          · have hF := kf hv37_2 hF
            by_cases hv37_3 : p1 = 3
            · have hF := kt hv37_3 hF
              refine ksw (n := 3) (off := (73)) (tgt := 110) hx hb (kd tdlX9_about_0 24 rfl) hv37_3 (by decide) (by decide) (by decide) (by decide) ?_
              refine lv_aload_n hx hb (kd tdlX9_about_0 36 rfl) rfl (lv_at hl 0 rfl) ?_
              refine lv_iconst (v := (-1)) hx hb (kd tdlX9_about_0 37 rfl) (by decide) ?_
              obtain ⟨v112, e112, hF⟩ := kc hF
              refine kc_i0 (w1 := ((wmdF t h0 a0 0 (md_s d0) (md_aside d0) (md_base d0) (md_saved d0) (md_savedMany d0) (md_slots d0) (md_hasSlot d0) (md_text d0) (md_length d0) (md_begins d0) (md_lengths d0) (md_streams d0) (md_letters d0) (md_letterMany d0) (md_chunks d0) (md_chunkMany d0) (md_homes d0) (md_dropped d0) (md_madeIn d0) (md_madeAt d0) (md_putMany d0) (md_path d0) (md_store d0) (md_thinOnes d0)))) hP hD hS hA (kr_V0 (Qx := (fun A => kQi D (TY t) ((wmdF t h0 a0 0 (md_s d0) (md_aside d0) (md_base d0) (md_saved d0) (md_savedMany d0) (md_slots d0) (md_hasSlot d0) (md_text d0) (md_length d0) (md_begins d0) (md_lengths d0) (md_streams d0) (md_letters d0) (md_letterMany d0) (md_chunks d0) (md_chunkMany d0) (md_homes d0) (md_dropped d0) (md_madeIn d0) (md_madeAt d0) (md_putMany d0) (md_path d0) (md_store d0) (md_thinOnes d0))) v112 A)) (As := [.int (-1)]) (rest := []) ⟨hx, hb, hml, hown, hts⟩ hK hP hD (c_X9_livingBut l D t h0 a0 (0, (md_s d0), (md_aside d0), (md_base d0), (md_saved d0), (md_savedMany d0), (md_slots d0), (md_hasSlot d0), (md_text d0), (md_length d0), (md_begins d0), (md_lengths d0), (md_streams d0), (md_letters d0), (md_letterMany d0), (md_chunks d0), (md_chunkMany d0), (md_homes d0), (md_dropped d0), (md_madeIn d0), (md_madeAt d0), (md_putMany d0), (md_path d0), (md_store d0), (md_thinOnes d0)) _ (-1) v112 e112) (cwV 1 hts (gcX9_livingBut w_394) rfl rfl rfl hdX9_livingButV ⟨Nat.le_of_ble_eq_true rfl, Nat.le_of_ble_eq_true rfl⟩) (ci := 8) (q0 := 0) rfl rfl rfl hl.1 rfl (Nat.le_of_ble_eq_true rfl) (kd tdlX9_about_0 38 rfl) ⟨Nat.zero_le _, Nat.zero_le _⟩) (fun H locs hP hD hS => ?_)
              cases ko hF
              exact ke_i hx hb hr hlocks hK hP hD hS rfl (kd tdlX9_about_0 39 rfl)
            · have hF := kf hv37_3 hF
              by_cases hv37_4 : p1 = 4
              · have hF := kt hv37_4 hF
                refine ksw (n := 4) (off := (79)) (tgt := 116) hx hb (kd tdlX9_about_0 24 rfl) hv37_4 (by decide) (by decide) (by decide) (by decide) ?_
                refine lv_aload_n hx hb (kd tdlX9_about_0 40 rfl) rfl (lv_at hl 0 rfl) ?_
                obtain ⟨v117, e117, hF⟩ := kc hF
                refine kc_i0 (w1 := ((wmdF t h0 a0 0 (md_s d0) (md_aside d0) (md_base d0) (md_saved d0) (md_savedMany d0) (md_slots d0) (md_hasSlot d0) (md_text d0) (md_length d0) (md_begins d0) (md_lengths d0) (md_streams d0) (md_letters d0) (md_letterMany d0) (md_chunks d0) (md_chunkMany d0) (md_homes d0) (md_dropped d0) (md_madeIn d0) (md_madeAt d0) (md_putMany d0) (md_path d0) (md_store d0) (md_thinOnes d0)))) hP hD hS hA (kr_V0 (Qx := (fun A => kQi D (TY t) ((wmdF t h0 a0 0 (md_s d0) (md_aside d0) (md_base d0) (md_saved d0) (md_savedMany d0) (md_slots d0) (md_hasSlot d0) (md_text d0) (md_length d0) (md_begins d0) (md_lengths d0) (md_streams d0) (md_letters d0) (md_letterMany d0) (md_chunks d0) (md_chunkMany d0) (md_homes d0) (md_dropped d0) (md_madeIn d0) (md_madeAt d0) (md_putMany d0) (md_path d0) (md_store d0) (md_thinOnes d0))) v117 A)) (As := []) (rest := []) ⟨hx, hb, hml, hown, hts⟩ hK hP hD (c_X9_unlike l D t h0 a0 (0, (md_s d0), (md_aside d0), (md_base d0), (md_saved d0), (md_savedMany d0), (md_slots d0), (md_hasSlot d0), (md_text d0), (md_length d0), (md_begins d0), (md_lengths d0), (md_streams d0), (md_letters d0), (md_letterMany d0), (md_chunks d0), (md_chunkMany d0), (md_homes d0), (md_dropped d0), (md_madeIn d0), (md_madeAt d0), (md_putMany d0), (md_path d0), (md_store d0), (md_thinOnes d0)) _  v117 e117) (cwV 0 hts (gcX9_unlike w_406) rfl rfl rfl hdX9_unlikeV ⟨Nat.le_of_ble_eq_true rfl, Nat.le_of_ble_eq_true rfl⟩) (ci := 8) (q0 := 0) rfl rfl rfl hl.1 rfl (Nat.le_of_ble_eq_true rfl) (kd tdlX9_about_0 41 rfl) ⟨Nat.zero_le _, Nat.zero_le _⟩) (fun H locs hP hD hS => ?_)
                cases ko hF
                exact ke_i hx hb hr hlocks hK hP hD hS rfl (kd tdlX9_about_0 42 rfl)
              · have hF := kf hv37_4 hF
                by_cases hv37_5 : p1 = 5
                · have hF := kt hv37_5 hF
                  refine ksw (n := 5) (off := (84)) (tgt := 121) hx hb (kd tdlX9_about_0 24 rfl) hv37_5 (by decide) (by decide) (by decide) (by decide) ?_
                  refine lv_aload_n hx hb (kd tdlX9_about_0 43 rfl) rfl (lv_at hl 0 rfl) ?_
                  obtain ⟨v122, e122, hF⟩ := kc hF
                  refine kc_i0 (w1 := ((wmdF t h0 a0 0 (md_s d0) (md_aside d0) (md_base d0) (md_saved d0) (md_savedMany d0) (md_slots d0) (md_hasSlot d0) (md_text d0) (md_length d0) (md_begins d0) (md_lengths d0) (md_streams d0) (md_letters d0) (md_letterMany d0) (md_chunks d0) (md_chunkMany d0) (md_homes d0) (md_dropped d0) (md_madeIn d0) (md_madeAt d0) (md_putMany d0) (md_path d0) (md_store d0) (md_thinOnes d0)))) hP hD hS hA (kr_V0 (Qx := (fun A => kQi D (TY t) ((wmdF t h0 a0 0 (md_s d0) (md_aside d0) (md_base d0) (md_saved d0) (md_savedMany d0) (md_slots d0) (md_hasSlot d0) (md_text d0) (md_length d0) (md_begins d0) (md_lengths d0) (md_streams d0) (md_letters d0) (md_letterMany d0) (md_chunks d0) (md_chunkMany d0) (md_homes d0) (md_dropped d0) (md_madeIn d0) (md_madeAt d0) (md_putMany d0) (md_path d0) (md_store d0) (md_thinOnes d0))) v122 A)) (As := []) (rest := []) ⟨hx, hb, hml, hown, hts⟩ hK hP hD (c_X9_thin l D t h0 a0 (0, (md_s d0), (md_aside d0), (md_base d0), (md_saved d0), (md_savedMany d0), (md_slots d0), (md_hasSlot d0), (md_text d0), (md_length d0), (md_begins d0), (md_lengths d0), (md_streams d0), (md_letters d0), (md_letterMany d0), (md_chunks d0), (md_chunkMany d0), (md_homes d0), (md_dropped d0), (md_madeIn d0), (md_madeAt d0), (md_putMany d0), (md_path d0), (md_store d0), (md_thinOnes d0)) _  v122 e122) (cwV 0 hts (gcX9_thin w_410) rfl rfl rfl hdX9_thinV ⟨Nat.le_of_ble_eq_true rfl, Nat.le_of_ble_eq_true rfl⟩) (ci := 8) (q0 := 0) rfl rfl rfl hl.1 rfl (Nat.le_of_ble_eq_true rfl) (kd tdlX9_about_0 44 rfl) ⟨Nat.zero_le _, Nat.zero_le _⟩) (fun H locs hP hD hS => ?_)
                  cases ko hF
                  exact ke_i hx hb hr hlocks hK hP hD hS rfl (kd tdlX9_about_1 0 rfl)
                · have hF := kf hv37_5 hF
                  by_cases hv37_6 : p1 = 6
                  · have hF := kt hv37_6 hF
                    refine ksw (n := 6) (off := (89)) (tgt := 126) hx hb (kd tdlX9_about_0 24 rfl) hv37_6 (by decide) (by decide) (by decide) (by decide) ?_
                    refine lv_iload_n hx hb (kd tdlX9_about_1 1 rfl) rfl (lv_at hl 2 rfl) ?_
                    cases ko hF
                    exact ke_i hx hb hr hlocks hK hP hD hS rfl (kd tdlX9_about_1 2 rfl)
                  · have hF := kf hv37_6 hF
                    by_cases hv37_7 : p1 = 7
                    · have hF := kt hv37_7 hF
                      refine ksw (n := 7) (off := (91)) (tgt := 128) hx hb (kd tdlX9_about_0 24 rfl) hv37_7 (by decide) (by decide) (by decide) (by decide) ?_
                      refine lv_aload_n hx hb (kd tdlX9_about_1 3 rfl) rfl (lv_at hl 0 rfl) ?_
                      obtain ⟨v129, e129, hF⟩ := kc hF
                      refine kc_i0 (w1 := ((wmdF t h0 a0 0 (md_s d0) (md_aside d0) (md_base d0) (md_saved d0) (md_savedMany d0) (md_slots d0) (md_hasSlot d0) (md_text d0) (md_length d0) (md_begins d0) (md_lengths d0) (md_streams d0) (md_letters d0) (md_letterMany d0) (md_chunks d0) (md_chunkMany d0) (md_homes d0) (md_dropped d0) (md_madeIn d0) (md_madeAt d0) (md_putMany d0) (md_path d0) (md_store d0) (md_thinOnes d0)))) hP hD hS hA (kr_V0 (Qx := (fun A => kQi D (TY t) ((wmdF t h0 a0 0 (md_s d0) (md_aside d0) (md_base d0) (md_saved d0) (md_savedMany d0) (md_slots d0) (md_hasSlot d0) (md_text d0) (md_length d0) (md_begins d0) (md_lengths d0) (md_streams d0) (md_letters d0) (md_letterMany d0) (md_chunks d0) (md_chunkMany d0) (md_homes d0) (md_dropped d0) (md_madeIn d0) (md_madeAt d0) (md_putMany d0) (md_path d0) (md_store d0) (md_thinOnes d0))) v129 A)) (As := []) (rest := []) ⟨hx, hb, hml, hown, hts⟩ hK hP hD (c_X9_lettersOfEntries l D t h0 a0 (0, (md_s d0), (md_aside d0), (md_base d0), (md_saved d0), (md_savedMany d0), (md_slots d0), (md_hasSlot d0), (md_text d0), (md_length d0), (md_begins d0), (md_lengths d0), (md_streams d0), (md_letters d0), (md_letterMany d0), (md_chunks d0), (md_chunkMany d0), (md_homes d0), (md_dropped d0), (md_madeIn d0), (md_madeAt d0), (md_putMany d0), (md_path d0), (md_store d0), (md_thinOnes d0)) _  v129 e129) (cwV 0 hts (gcX9_lettersOfEntries w_418) rfl rfl rfl hdX9_lettersOfEntriesV ⟨Nat.le_of_ble_eq_true rfl, Nat.le_of_ble_eq_true rfl⟩) (ci := 8) (q0 := 0) rfl rfl rfl hl.1 rfl (Nat.le_of_ble_eq_true rfl) (kd tdlX9_about_1 4 rfl) ⟨Nat.zero_le _, Nat.zero_le _⟩) (fun H locs hP hD hS => ?_)
                      cases ko hF
                      exact ke_i hx hb hr hlocks hK hP hD hS rfl (kd tdlX9_about_1 5 rfl)
                    · have hF := kf hv37_7 hF
                      by_cases hv37_8 : p1 = 8
                      · have hF := kt hv37_8 hF
                        refine ksw (n := 8) (off := (96)) (tgt := 133) hx hb (kd tdlX9_about_0 24 rfl) hv37_8 (by decide) (by decide) (by decide) (by decide) ?_
                        refine lv_aload_n hx hb (kd tdlX9_about_1 6 rfl) rfl (lv_at hl 0 rfl) ?_
                        refine md_g_s hx hb hts inX9_ hown hK hP L7 (kd tdlX9_about_1 7 rfl) ?_
                        refine lv_iconst (v := 5) hx hb (kd tdlX9_about_1 8 rfl) (by decide) ?_
                        obtain ⟨hi138, hF⟩ := kg hF
                        refine md_l_s hx hb hK hP hi138 (kd tdlX9_about_1 9 rfl) ?_
                        cases ko hF
                        exact ke_i hx hb hr hlocks hK hP hD hS rfl (kd tdlX9_about_1 10 rfl)
                      · have hF := kf hv37_8 hF
                        have hv37_9 : p1 = 9 := keq (k := 9) (by have a0 := kne hv37_0 (k := 0) (by decide); have a1 := kne hv37_1 (k := 1) (by decide); have a2 := kne hv37_2 (k := 2) (by decide); have a3 := kne hv37_3 (k := 3) (by decide); have a4 := kne hv37_4 (k := 4) (by decide); have a5 := kne hv37_5 (k := 5) (by decide); have a6 := kne hv37_6 (k := 6) (by decide); have a7 := kne hv37_7 (k := 7) (by decide); have a8 := kne hv37_8 (k := 8) (by decide); omega) (by decide)
                        refine ksw (n := 9) (off := (103)) (tgt := 140) hx hb (kd tdlX9_about_0 24 rfl) hv37_9 (by decide) (by decide) (by decide) (by decide) ?_
                        refine lv_aload_n hx hb (kd tdlX9_about_1 11 rfl) rfl (lv_at hl 0 rfl) ?_
                        refine md_g_s hx hb hts inX9_ hown hK hP L7 (kd tdlX9_about_1 12 rfl) ?_
                        refine lv_bipush (v := 6) hx hb (kd tdlX9_about_1 13 rfl) (by decide) ?_
                        obtain ⟨hi146, hF⟩ := kg hF
                        refine md_l_s hx hb hK hP hi146 (kd tdlX9_about_1 14 rfl) ?_
                        cases ko hF
                        exact ke_i hx hb hr hlocks hK hP hD hS rfl (kd tdlX9_about_1 15 rfl)
  refine lp_ind (f := B_X9_about_9 (md_s d0) (K_X9_about_36 p1 (md_s d0))) (r := r) (P := fun s9_ => ∀ (H : Heap) (locs : List Loc) (ls : Array Slot), va_P D vwCl ((wmdF t h0 a0 0 (md_s d0) (md_aside d0) (md_base d0) (md_saved d0) (md_savedMany d0) (md_slots d0) (md_hasSlot d0) (md_text d0) (md_length d0) (md_begins d0) (md_lengths d0) (md_streams d0) (md_letters d0) (md_letterMany d0) (md_chunks d0) (md_chunkMany d0) (md_homes d0) (md_dropped d0) (md_madeIn d0) (md_madeAt d0) (md_putMany d0) (md_path d0) (md_store d0) (md_thinOnes d0))) H → va_D A ((wmdF t h0 a0 0 (md_s d0) (md_aside d0) (md_base d0) (md_saved d0) (md_savedMany d0) (md_slots d0) (md_hasSlot d0) (md_text d0) (md_length d0) (md_begins d0) (md_lengths d0) (md_streams d0) (md_letters d0) (md_letterMany d0) (md_chunks d0) (md_chunkMany d0) (md_homes d0) (md_dropped d0) (md_madeIn d0) (md_madeAt d0) (md_putMany d0) (md_path d0) (md_store d0) (md_thinOnes d0))) → va_S A s.heap H locs → lv_has ls 4 [(0, .ref h0), (1, .int p1), (2, .int s9_.1), (3, .int s9_.2)] → W p l e ({ frames := 5, cells := 0, slots := 0, locals := 115 } : Room) s m args below meth c H locs 0 0 (MQ below (kQi D (TY t) ((wmd t h0 a0 (r.2, (md_s d0), (md_aside d0), (md_base d0), (md_saved d0), (md_savedMany d0), (md_slots d0), (md_hasSlot d0), (md_text d0), (md_length d0), (md_begins d0), (md_lengths d0), (md_streams d0), (md_letters d0), (md_letterMany d0), (md_chunks d0), (md_chunkMany d0), (md_homes d0), (md_dropped d0), (md_madeIn d0), (md_madeAt d0), (md_putMany d0), (md_path d0), (md_store d0), (md_thinOnes d0)))) r.1 A) args s 0 0 A) (F0 m 9 ls [])) ?_ FU (0, 0) hF _ _ _ hP hD hS (lv_sub hl [2, 3, 1, 0] rfl)
  intro self9 ih9 s9_ hF H locs ls hP hD hS hl
  refine lv_iload_n hx hb (kd tdlX9_about_0 7 rfl) rfl (lv_at hl 3 rfl) ?_
  refine lv_bipush (v := 8) hx hb (kd tdlX9_about_0 8 rfl) (by decide) ?_
  refine lv_icmp_ge (tgt := 36) hx hb (kd tdlX9_about_0 9 rfl) (by decide) (fun hc12 => ?_) (fun hc12 => ?_)
  · have hF := kt hc12 hF
    exact hK36 (s9_.1) hF _ _ _ hP hD hS (lv_sub hl [0, 1, 2] rfl)
  · have hF := kf hc12 hF
    refine lv_iload_n hx hb (kd tdlX9_about_0 10 rfl) rfl (lv_at hl 2 rfl) ?_
    refine lv_aload_n hx hb (kd tdlX9_about_0 11 rfl) rfl (lv_at hl 0 rfl) ?_
    refine md_g_s hx hb hts inX9_ hown hK hP L7 (kd tdlX9_about_0 12 rfl) ?_
    refine lv_aload_n hx hb (kd tdlX9_about_0 13 rfl) rfl (lv_at hl 0 rfl) ?_
    refine lv_iload_n hx hb (kd tdlX9_about_0 14 rfl) rfl (lv_at hl 3 rfl) ?_
    obtain ⟨v22, e22, hF⟩ := kc hF
    refine kc_i0 (w1 := ((wmdF t h0 a0 0 (md_s d0) (md_aside d0) (md_base d0) (md_saved d0) (md_savedMany d0) (md_slots d0) (md_hasSlot d0) (md_text d0) (md_length d0) (md_begins d0) (md_lengths d0) (md_streams d0) (md_letters d0) (md_letterMany d0) (md_chunks d0) (md_chunkMany d0) (md_homes d0) (md_dropped d0) (md_madeIn d0) (md_madeAt d0) (md_putMany d0) (md_path d0) (md_store d0) (md_thinOnes d0)))) hP hD hS hA (kr_V0 (Qx := (fun A => kQi D (TY t) ((wmdF t h0 a0 0 (md_s d0) (md_aside d0) (md_base d0) (md_saved d0) (md_savedMany d0) (md_slots d0) (md_hasSlot d0) (md_text d0) (md_length d0) (md_begins d0) (md_lengths d0) (md_streams d0) (md_letters d0) (md_letterMany d0) (md_chunks d0) (md_chunkMany d0) (md_homes d0) (md_dropped d0) (md_madeIn d0) (md_madeAt d0) (md_putMany d0) (md_path d0) (md_store d0) (md_thinOnes d0))) v22 A)) (As := [.int s9_.2]) (rest := [.ref (a0 0), .int s9_.1]) ⟨hx, hb, hml, hown, hts⟩ hK hP hD (c_X9_backupAt l D t h0 a0 (0, (md_s d0), (md_aside d0), (md_base d0), (md_saved d0), (md_savedMany d0), (md_slots d0), (md_hasSlot d0), (md_text d0), (md_length d0), (md_begins d0), (md_lengths d0), (md_streams d0), (md_letters d0), (md_letterMany d0), (md_chunks d0), (md_chunkMany d0), (md_homes d0), (md_dropped d0), (md_madeIn d0), (md_madeAt d0), (md_putMany d0), (md_path d0), (md_store d0), (md_thinOnes d0)) _ s9_.2 v22 e22) (cwV 1 hts (gcX9_backupAt w_382) rfl rfl rfl hdX9_backupAtV ⟨Nat.le_of_ble_eq_true rfl, Nat.le_of_ble_eq_true rfl⟩) (ci := 8) (q0 := 0) rfl rfl rfl hl.1 rfl (Nat.le_of_ble_eq_true rfl) (kd tdlX9_about_0 15 rfl) ⟨Nat.zero_le _, Nat.zero_le _⟩) (fun H locs hP hD hS => ?_)
    refine lv_iconst (v := 1) hx hb (kd tdlX9_about_0 16 rfl) (by decide) ?_
    refine lv_iadd hx hb (kd tdlX9_about_0 17 rfl) ?_
    obtain ⟨hi27, hF⟩ := kg hF
    refine md_l_s hx hb hK hP hi27 (kd tdlX9_about_0 18 rfl) ?_
    refine lv_iadd hx hb (kd tdlX9_about_0 19 rfl) ?_
    refine lv_istore_n (lv' := [(2, .int (s9_.1 + ((md_s d0) (Int32.toNatClampNeg (v22 + 1))))), (0, .ref h0), (1, .int p1), (3, .int s9_.2)]) hx hb (kd tdlX9_about_0 20 rfl) rfl hl (by decide) rfl (fun ls hl => ?_)
    refine lv_iinc (v := (s9_.2 + 1)) (lv' := [(3, .int (s9_.2 + 1)), (2, .int (s9_.1 + ((md_s d0) (Int32.toNatClampNeg (v22 + 1))))), (0, .ref h0), (1, .int p1)]) hx hb (kd tdlX9_about_0 21 rfl) hl (k := 3) rfl rfl (by decide) rfl (fun ls hl => ?_)
    refine lv_goto (tgt := 9) hx hb (kd tdlX9_about_0 22 rfl) (by decide) ?_
    exact ih9 ((s9_.1 + ((md_s d0) (Int32.toNatClampNeg (v22 + 1)))), (s9_.2 + 1)) hF _ _ _ hP hD hS (lv_sub hl [2, 3, 1, 0] rfl)
set_option maxHeartbeats 4000000 in
set_option maxRecDepth 100000 in
theorem c_X9_container (l : Launch) (D : va_G) (t : Nat → ClassId) (h0 : Nat) (a0 : Nat → Nat) (d0 : MDT) (sz : Nat) (p1 : Int32) (r : Int32 × Int32) (hF : F_X9_container (md_thrown d0) (md_s d0) p1 = some r) : Met l yX9_container wX9_container ({ frames := 1, cells := 0, slots := 0, locals := 21 } : Room) (kPc D (TY t) ((wmd t h0 a0 d0)) [.ref h0, .int p1] sz) (kQi D (TY t) ((wmd t h0 a0 (r.2, (md_s d0), (md_aside d0), (md_base d0), (md_saved d0), (md_savedMany d0), (md_slots d0), (md_hasSlot d0), (md_text d0), (md_length d0), (md_begins d0), (md_lengths d0), (md_streams d0), (md_letters d0), (md_letterMany d0), (md_chunks d0), (md_chunkMany d0), (md_homes d0), (md_dropped d0), (md_madeIn d0), (md_madeAt d0), (md_putMany d0), (md_path d0), (md_store d0), (md_thinOnes d0)))) r.1 (va_A ((wmd t h0 a0 d0)) sz)) 0 0 (va_A ((wmd t h0 a0 d0)) sz) := by
  refine kE (cc := cX9_container) (maxL := 2) (ret := (some .int)) (Qx := fun A => kQi D (TY t) ((wmd t h0 a0 (r.2, (md_s d0), (md_aside d0), (md_base d0), (md_saved d0), (md_savedMany d0), (md_slots d0), (md_hasSlot d0), (md_text d0), (md_length d0), (md_begins d0), (md_lengths d0), (md_streams d0), (md_letters d0), (md_letterMany d0), (md_chunks d0), (md_chunkMany d0), (md_homes d0), (md_dropped d0), (md_madeIn d0), (md_madeAt d0), (md_putMany d0), (md_path d0), (md_store d0), (md_thinOnes d0)))) r.1 A) (lv0 := [(0, .ref h0), (1, .int p1)]) RX9 rfl (by decide) rfl (Nat.le_of_ble_eq_true rfl) rfl ?_
  intro p e s m args below meth c A ls hx hb hml hr hlocks hown hts hA hK hP hD hS hl
  have L65 := hts (.fieldLink RX9 65 "ChunkCarriersModel" "thrown" "I") (List.mem_cons_of_mem _ w_119)
  have L7 := hts (.fieldLink RX9 7 "ChunkCarriersModel" "s" "[I") (List.mem_cons_of_mem _ w_101)
  have inX9_ : ∀ w ∈ wsX90, w ∈ wX9_container := fun w h => List.mem_cons_of_mem _ (inlX9 w h)
  have hP : va_P D vwCl ((wmdF t h0 a0 (md_thrown d0) (md_s d0) (md_aside d0) (md_base d0) (md_saved d0) (md_savedMany d0) (md_slots d0) (md_hasSlot d0) (md_text d0) (md_length d0) (md_begins d0) (md_lengths d0) (md_streams d0) (md_letters d0) (md_letterMany d0) (md_chunks d0) (md_chunkMany d0) (md_homes d0) (md_dropped d0) (md_madeIn d0) (md_madeAt d0) (md_putMany d0) (md_path d0) (md_store d0) (md_thinOnes d0))) s.heap := hP
  have hD : va_D A ((wmdF t h0 a0 (md_thrown d0) (md_s d0) (md_aside d0) (md_base d0) (md_saved d0) (md_savedMany d0) (md_slots d0) (md_hasSlot d0) (md_text d0) (md_length d0) (md_begins d0) (md_lengths d0) (md_streams d0) (md_letters d0) (md_letterMany d0) (md_chunks d0) (md_chunkMany d0) (md_homes d0) (md_dropped d0) (md_madeIn d0) (md_madeAt d0) (md_putMany d0) (md_path d0) (md_store d0) (md_thinOnes d0))) := hD
  refine lv_aload_n hx hb (kd tdlX9_container_0 0 rfl) rfl (lv_at hl 0 rfl) ?_
  refine lv_iconst (v := 0) hx hb (kd tdlX9_container_0 1 rfl) (by decide) ?_
  refine md_p_thrown hx hb hts inX9_ hown hK hP hD hS L65 (kd tdlX9_container_0 2 rfl) (fun H locs hP hD hS => ?_)
  refine lv_iload_n hx hb (kd tdlX9_container_0 3 rfl) rfl (lv_at hl 1 rfl) ?_
  refine lv_if_ge (tgt := 15) hx hb (kd tdlX9_container_0 4 rfl) (by decide) (fun hc6 => ?_) (fun hc6 => ?_)
  · have hF := kt hc6 hF
    refine lv_iload_n hx hb (kd tdlX9_container_0 9 rfl) rfl (lv_at hl 1 rfl) ?_
    refine lv_aload_n hx hb (kd tdlX9_container_0 10 rfl) rfl (lv_at hl 0 rfl) ?_
    refine md_g_s hx hb hts inX9_ hown hK hP L7 (kd tdlX9_container_0 11 rfl) ?_
    refine lv_bipush (v := 7) hx hb (kd tdlX9_container_0 12 rfl) (by decide) ?_
    obtain ⟨hi22, hF⟩ := kg hF
    refine md_l_s hx hb hK hP hi22 (kd tdlX9_container_0 13 rfl) ?_
    refine lv_icmp_ge (tgt := 41) hx hb (kd tdlX9_container_0 14 rfl) (by decide) (fun hc23 => ?_) (fun hc23 => ?_)
    · have hF := kt hc23 hF
      refine lv_iconst (v := (-1)) hx hb (kd tdlX9_container_0 24 rfl) (by decide) ?_
      cases ko hF
      exact ke_i hx hb hr hlocks hK hP hD hS rfl (kd tdlX9_container_0 25 rfl)
    · have hF := kf hc23 hF
      refine lv_aload_n hx hb (kd tdlX9_container_0 15 rfl) rfl (lv_at hl 0 rfl) ?_
      refine md_g_s hx hb hts inX9_ hown hK hP L7 (kd tdlX9_container_0 16 rfl) ?_
      refine lv_aload_n hx hb (kd tdlX9_container_0 17 rfl) rfl (lv_at hl 0 rfl) ?_
      refine lv_iload_n hx hb (kd tdlX9_container_0 18 rfl) rfl (lv_at hl 1 rfl) ?_
      obtain ⟨v32, e32, hF⟩ := kc hF
      refine kc_i0 (w1 := ((wmdF t h0 a0 0 (md_s d0) (md_aside d0) (md_base d0) (md_saved d0) (md_savedMany d0) (md_slots d0) (md_hasSlot d0) (md_text d0) (md_length d0) (md_begins d0) (md_lengths d0) (md_streams d0) (md_letters d0) (md_letterMany d0) (md_chunks d0) (md_chunkMany d0) (md_homes d0) (md_dropped d0) (md_madeIn d0) (md_madeAt d0) (md_putMany d0) (md_path d0) (md_store d0) (md_thinOnes d0)))) hP hD hS hA (kr_V0 (Qx := (fun A => kQi D (TY t) ((wmdF t h0 a0 0 (md_s d0) (md_aside d0) (md_base d0) (md_saved d0) (md_savedMany d0) (md_slots d0) (md_hasSlot d0) (md_text d0) (md_length d0) (md_begins d0) (md_lengths d0) (md_streams d0) (md_letters d0) (md_letterMany d0) (md_chunks d0) (md_chunkMany d0) (md_homes d0) (md_dropped d0) (md_madeIn d0) (md_madeAt d0) (md_putMany d0) (md_path d0) (md_store d0) (md_thinOnes d0))) v32 A)) (As := [.int p1]) (rest := [.ref (a0 0)]) ⟨hx, hb, hml, hown, hts⟩ hK hP hD (c_X9_at l D t h0 a0 (0, (md_s d0), (md_aside d0), (md_base d0), (md_saved d0), (md_savedMany d0), (md_slots d0), (md_hasSlot d0), (md_text d0), (md_length d0), (md_begins d0), (md_lengths d0), (md_streams d0), (md_letters d0), (md_letterMany d0), (md_chunks d0), (md_chunkMany d0), (md_homes d0), (md_dropped d0), (md_madeIn d0), (md_madeAt d0), (md_putMany d0), (md_path d0), (md_store d0), (md_thinOnes d0)) _ p1 v32 e32) (cwV 1 hts (gcX9_at w_306) rfl rfl rfl hdX9_atV ⟨Nat.le_of_ble_eq_true rfl, Nat.le_of_ble_eq_true rfl⟩) (ci := 8) (q0 := 0) rfl rfl rfl hl.1 rfl (Nat.le_of_ble_eq_true rfl) (kd tdlX9_container_0 19 rfl) ⟨Nat.zero_le _, Nat.zero_le _⟩) (fun H locs hP hD hS => ?_)
      refine lv_iconst (v := 0) hx hb (kd tdlX9_container_0 20 rfl) (by decide) ?_
      refine lv_iadd hx hb (kd tdlX9_container_0 21 rfl) ?_
      obtain ⟨hi37, hF⟩ := kg hF
      refine md_l_s hx hb hK hP hi37 (kd tdlX9_container_0 22 rfl) ?_
      refine lv_goto (tgt := 42) hx hb (kd tdlX9_container_0 23 rfl) (by decide) ?_
      cases ko hF
      exact ke_i hx hb hr hlocks hK hP hD hS rfl (kd tdlX9_container_0 25 rfl)
  · have hF := kf hc6 hF
    refine lv_aload_n hx hb (kd tdlX9_container_0 5 rfl) rfl (lv_at hl 0 rfl) ?_
    refine lv_iconst (v := 1) hx hb (kd tdlX9_container_0 6 rfl) (by decide) ?_
    obtain ⟨v11, e11, hF⟩ := kc hF
    refine kc_i0 (w1 := ((wmdF t h0 a0 v11.2 (md_s d0) (md_aside d0) (md_base d0) (md_saved d0) (md_savedMany d0) (md_slots d0) (md_hasSlot d0) (md_text d0) (md_length d0) (md_begins d0) (md_lengths d0) (md_streams d0) (md_letters d0) (md_letterMany d0) (md_chunks d0) (md_chunkMany d0) (md_homes d0) (md_dropped d0) (md_madeIn d0) (md_madeAt d0) (md_putMany d0) (md_path d0) (md_store d0) (md_thinOnes d0)))) hP hD hS hA (kr_V0 (Qx := (fun A => kQi D (TY t) ((wmdF t h0 a0 v11.2 (md_s d0) (md_aside d0) (md_base d0) (md_saved d0) (md_savedMany d0) (md_slots d0) (md_hasSlot d0) (md_text d0) (md_length d0) (md_begins d0) (md_lengths d0) (md_streams d0) (md_letters d0) (md_letterMany d0) (md_chunks d0) (md_chunkMany d0) (md_homes d0) (md_dropped d0) (md_madeIn d0) (md_madeAt d0) (md_putMany d0) (md_path d0) (md_store d0) (md_thinOnes d0))) v11.1 A)) (As := [.int 1]) (rest := []) ⟨hx, hb, hml, hown, hts⟩ hK hP hD (c_X9_fails l D t h0 a0 (0, (md_s d0), (md_aside d0), (md_base d0), (md_saved d0), (md_savedMany d0), (md_slots d0), (md_hasSlot d0), (md_text d0), (md_length d0), (md_begins d0), (md_lengths d0), (md_streams d0), (md_letters d0), (md_letterMany d0), (md_chunks d0), (md_chunkMany d0), (md_homes d0), (md_dropped d0), (md_madeIn d0), (md_madeAt d0), (md_putMany d0), (md_path d0), (md_store d0), (md_thinOnes d0)) _ 1 v11 e11) (cwV 1 hts (gcX9_fails w_153) rfl rfl rfl hdX9_failsV ⟨Nat.le_of_ble_eq_true rfl, Nat.le_of_ble_eq_true rfl⟩) (ci := 8) (q0 := 0) rfl rfl rfl hl.1 rfl (Nat.le_of_ble_eq_true rfl) (kd tdlX9_container_0 7 rfl) ⟨Nat.zero_le _, Nat.zero_le _⟩) (fun H locs hP hD hS => ?_)
    cases ko hF
    exact ke_i hx hb hr hlocks hK hP hD hS rfl (kd tdlX9_container_0 8 rfl)
set_option maxHeartbeats 4000000 in
set_option maxRecDepth 100000 in
theorem c_X9_refersTo (l : Launch) (D : va_G) (t : Nat → ClassId) (h0 : Nat) (a0 : Nat → Nat) (d0 : MDT) (sz : Nat) (p1 : Int32) (p2 : Int32) (r : Int32) (hF : F_X9_refersTo (md_s d0) p1 p2 = some r) : Met l yX9_refersTo wX9_refersTo ({ frames := 1, cells := 0, slots := 0, locals := 21 } : Room) (kPc D (TY t) ((wmd t h0 a0 d0)) [.ref h0, .int p1, .int p2] sz) (kQi D (TY t) ((wmd t h0 a0 d0)) r (va_A ((wmd t h0 a0 d0)) sz)) 0 0 (va_A ((wmd t h0 a0 d0)) sz) := by
  refine kE (cc := cX9_refersTo) (maxL := 5) (ret := (some .boolean)) (Qx := fun A => kQi D (TY t) ((wmd t h0 a0 d0)) r A) (lv0 := [(0, .ref h0), (1, .int p1), (2, .int p2)]) RX9 rfl (by decide) rfl (Nat.le_of_ble_eq_true rfl) rfl ?_
  intro p e s m args below meth c A ls hx hb hml hr hlocks hown hts hA hK hP hD hS hl
  have L7 := hts (.fieldLink RX9 7 "ChunkCarriersModel" "s" "[I") (List.mem_cons_of_mem _ w_101)
  have inX9_ : ∀ w ∈ wsX90, w ∈ wX9_refersTo := fun w h => List.mem_cons_of_mem _ (inlX9 w h)
  have hP : va_P D vwCl ((wmdF t h0 a0 (md_thrown d0) (md_s d0) (md_aside d0) (md_base d0) (md_saved d0) (md_savedMany d0) (md_slots d0) (md_hasSlot d0) (md_text d0) (md_length d0) (md_begins d0) (md_lengths d0) (md_streams d0) (md_letters d0) (md_letterMany d0) (md_chunks d0) (md_chunkMany d0) (md_homes d0) (md_dropped d0) (md_madeIn d0) (md_madeAt d0) (md_putMany d0) (md_path d0) (md_store d0) (md_thinOnes d0))) s.heap := hP
  have hD : va_D A ((wmdF t h0 a0 (md_thrown d0) (md_s d0) (md_aside d0) (md_base d0) (md_saved d0) (md_savedMany d0) (md_slots d0) (md_hasSlot d0) (md_text d0) (md_length d0) (md_begins d0) (md_lengths d0) (md_streams d0) (md_letters d0) (md_letterMany d0) (md_chunks d0) (md_chunkMany d0) (md_homes d0) (md_dropped d0) (md_madeIn d0) (md_madeAt d0) (md_putMany d0) (md_path d0) (md_store d0) (md_thinOnes d0))) := hD
  refine lv_iconst (v := 0) hx hb (kd tdlX9_refersTo_0 0 rfl) (by decide) ?_
  refine lv_istore_n (lv' := [(3, .int 0), (0, .ref h0), (1, .int p1), (2, .int p2)]) hx hb (kd tdlX9_refersTo_0 1 rfl) rfl hl (by decide) rfl (fun ls hl => ?_)
  refine lv_iconst (v := 0) hx hb (kd tdlX9_refersTo_0 2 rfl) (by decide) ?_
  refine lv_istore (lv' := [(4, .int 0), (3, .int 0), (0, .ref h0), (1, .int p1), (2, .int p2)]) hx hb (kd tdlX9_refersTo_0 3 rfl) hl (by decide) rfl (fun ls hl => ?_)
  refine lp_ind (f := B_X9_refersTo_5 p1 (md_s d0) p2) (r := r) (P := fun s5_ => ∀ (H : Heap) (locs : List Loc) (ls : Array Slot), va_P D vwCl ((wmdF t h0 a0 (md_thrown d0) (md_s d0) (md_aside d0) (md_base d0) (md_saved d0) (md_savedMany d0) (md_slots d0) (md_hasSlot d0) (md_text d0) (md_length d0) (md_begins d0) (md_lengths d0) (md_streams d0) (md_letters d0) (md_letterMany d0) (md_chunks d0) (md_chunkMany d0) (md_homes d0) (md_dropped d0) (md_madeIn d0) (md_madeAt d0) (md_putMany d0) (md_path d0) (md_store d0) (md_thinOnes d0))) H → va_D A ((wmdF t h0 a0 (md_thrown d0) (md_s d0) (md_aside d0) (md_base d0) (md_saved d0) (md_savedMany d0) (md_slots d0) (md_hasSlot d0) (md_text d0) (md_length d0) (md_begins d0) (md_lengths d0) (md_streams d0) (md_letters d0) (md_letterMany d0) (md_chunks d0) (md_chunkMany d0) (md_homes d0) (md_dropped d0) (md_madeIn d0) (md_madeAt d0) (md_putMany d0) (md_path d0) (md_store d0) (md_thinOnes d0))) → va_S A s.heap H locs → lv_has ls 5 [(0, .ref h0), (1, .int p1), (2, .int p2), (3, .int s5_.1), (4, .int s5_.2)] → W p l e ({ frames := 1, cells := 0, slots := 0, locals := 21 } : Room) s m args below meth c H locs 0 0 (MQ below (kQi D (TY t) ((wmd t h0 a0 d0)) r A) args s 0 0 A) (F0 m 5 ls [])) ?_ FU (0, 0) hF _ _ _ hP hD hS (lv_sub hl [2, 3, 4, 1, 0] rfl)
  intro self5 ih5 s5_ hF H locs ls hP hD hS hl
  refine lv_iload hx hb (kd tdlX9_refersTo_0 4 rfl) (lv_at hl 4 rfl) ?_
  refine lv_aload_n hx hb (kd tdlX9_refersTo_0 5 rfl) rfl (lv_at hl 0 rfl) ?_
  refine md_g_s hx hb hts inX9_ hown hK hP L7 (kd tdlX9_refersTo_0 6 rfl) ?_
  refine lv_aload_n hx hb (kd tdlX9_refersTo_0 7 rfl) rfl (lv_at hl 0 rfl) ?_
  refine lv_iload_n hx hb (kd tdlX9_refersTo_0 8 rfl) rfl (lv_at hl 1 rfl) ?_
  obtain ⟨v13, e13, hF⟩ := kc hF
  refine kc_i0 (w1 := ((wmdF t h0 a0 (md_thrown d0) (md_s d0) (md_aside d0) (md_base d0) (md_saved d0) (md_savedMany d0) (md_slots d0) (md_hasSlot d0) (md_text d0) (md_length d0) (md_begins d0) (md_lengths d0) (md_streams d0) (md_letters d0) (md_letterMany d0) (md_chunks d0) (md_chunkMany d0) (md_homes d0) (md_dropped d0) (md_madeIn d0) (md_madeAt d0) (md_putMany d0) (md_path d0) (md_store d0) (md_thinOnes d0)))) hP hD hS hA (kr_V0 (Qx := (fun A => kQi D (TY t) ((wmdF t h0 a0 (md_thrown d0) (md_s d0) (md_aside d0) (md_base d0) (md_saved d0) (md_savedMany d0) (md_slots d0) (md_hasSlot d0) (md_text d0) (md_length d0) (md_begins d0) (md_lengths d0) (md_streams d0) (md_letters d0) (md_letterMany d0) (md_chunks d0) (md_chunkMany d0) (md_homes d0) (md_dropped d0) (md_madeIn d0) (md_madeAt d0) (md_putMany d0) (md_path d0) (md_store d0) (md_thinOnes d0))) v13 A)) (As := [.int p1]) (rest := [.ref (a0 0), .int s5_.2]) ⟨hx, hb, hml, hown, hts⟩ hK hP hD (c_X9_backupAt l D t h0 a0 d0 _ p1 v13 e13) (cwV 1 hts (gcX9_backupAt w_382) rfl rfl rfl hdX9_backupAtV ⟨Nat.le_of_ble_eq_true rfl, Nat.le_of_ble_eq_true rfl⟩) (ci := 8) (q0 := 0) rfl rfl rfl hl.1 rfl (Nat.le_of_ble_eq_true rfl) (kd tdlX9_refersTo_0 9 rfl) ⟨Nat.zero_le _, Nat.zero_le _⟩) (fun H locs hP hD hS => ?_)
  refine lv_iconst (v := 1) hx hb (kd tdlX9_refersTo_0 10 rfl) (by decide) ?_
  refine lv_iadd hx hb (kd tdlX9_refersTo_0 11 rfl) ?_
  obtain ⟨hi18, hF⟩ := kg hF
  refine md_l_s hx hb hK hP hi18 (kd tdlX9_refersTo_0 12 rfl) ?_
  refine lv_icmp_ge (tgt := 59) hx hb (kd tdlX9_refersTo_0 13 rfl) (by decide) (fun hc19 => ?_) (fun hc19 => ?_)
  · have hF := kt hc19 hF
    refine lv_iload_n hx hb (kd tdlX9_refersTo_0 36 rfl) rfl (lv_at hl 3 rfl) ?_
    obtain ⟨hn60, hF⟩ := kgb hF
    cases ko hF
    exact ke_z hx hb hr hlocks hn60 hK hP hD hS rfl (kd tdlX9_refersTo_0 37 rfl)
  · have hF := kf hc19 hF
    refine lv_iload_n hx hb (kd tdlX9_refersTo_0 14 rfl) rfl (lv_at hl 3 rfl) ?_
    refine lv_if_ne (tgt := 47) hx hb (kd tdlX9_refersTo_0 15 rfl) (by decide) (fun hc23 => ?_) (fun hc23 => ?_)
    · have hF := kf hc23 hF
      refine lv_iconst (v := 1) hx hb (kd tdlX9_refersTo_0 30 rfl) (by decide) ?_
      refine lv_goto (tgt := 52) hx hb (kd tdlX9_refersTo_0 31 rfl) (by decide) ?_
      refine lv_istore_n (lv' := [(3, .int 1), (0, .ref h0), (1, .int p1), (2, .int p2), (4, .int s5_.2)]) hx hb (kd tdlX9_refersTo_0 33 rfl) rfl hl (by decide) rfl (fun ls hl => ?_)
      refine lv_iinc (v := (s5_.2 + 1)) (lv' := [(4, .int (s5_.2 + 1)), (3, .int 1), (0, .ref h0), (1, .int p1), (2, .int p2)]) hx hb (kd tdlX9_refersTo_0 34 rfl) hl (k := 4) rfl rfl (by decide) rfl (fun ls hl => ?_)
      refine lv_goto (tgt := 5) hx hb (kd tdlX9_refersTo_0 35 rfl) (by decide) ?_
      exact ih5 (1, (s5_.2 + 1)) hF _ _ _ hP hD hS (lv_sub hl [2, 3, 4, 1, 0] rfl)
    · have hF := kt hc23 hF
      refine lv_aload_n hx hb (kd tdlX9_refersTo_0 16 rfl) rfl (lv_at hl 0 rfl) ?_
      refine md_g_s hx hb hts inX9_ hown hK hP L7 (kd tdlX9_refersTo_0 17 rfl) ?_
      refine lv_aload_n hx hb (kd tdlX9_refersTo_0 18 rfl) rfl (lv_at hl 0 rfl) ?_
      refine lv_iload_n hx hb (kd tdlX9_refersTo_0 19 rfl) rfl (lv_at hl 1 rfl) ?_
      obtain ⟨v32, e32, hF⟩ := kc hF
      refine kc_i0 (w1 := ((wmdF t h0 a0 (md_thrown d0) (md_s d0) (md_aside d0) (md_base d0) (md_saved d0) (md_savedMany d0) (md_slots d0) (md_hasSlot d0) (md_text d0) (md_length d0) (md_begins d0) (md_lengths d0) (md_streams d0) (md_letters d0) (md_letterMany d0) (md_chunks d0) (md_chunkMany d0) (md_homes d0) (md_dropped d0) (md_madeIn d0) (md_madeAt d0) (md_putMany d0) (md_path d0) (md_store d0) (md_thinOnes d0)))) hP hD hS hA (kr_V0 (Qx := (fun A => kQi D (TY t) ((wmdF t h0 a0 (md_thrown d0) (md_s d0) (md_aside d0) (md_base d0) (md_saved d0) (md_savedMany d0) (md_slots d0) (md_hasSlot d0) (md_text d0) (md_length d0) (md_begins d0) (md_lengths d0) (md_streams d0) (md_letters d0) (md_letterMany d0) (md_chunks d0) (md_chunkMany d0) (md_homes d0) (md_dropped d0) (md_madeIn d0) (md_madeAt d0) (md_putMany d0) (md_path d0) (md_store d0) (md_thinOnes d0))) v32 A)) (As := [.int p1]) (rest := [.ref (a0 0)]) ⟨hx, hb, hml, hown, hts⟩ hK hP hD (c_X9_backupAt l D t h0 a0 d0 _ p1 v32 e32) (cwV 1 hts (gcX9_backupAt w_382) rfl rfl rfl hdX9_backupAtV ⟨Nat.le_of_ble_eq_true rfl, Nat.le_of_ble_eq_true rfl⟩) (ci := 8) (q0 := 0) rfl rfl rfl hl.1 rfl (Nat.le_of_ble_eq_true rfl) (kd tdlX9_refersTo_0 20 rfl) ⟨Nat.zero_le _, Nat.zero_le _⟩) (fun H locs hP hD hS => ?_)
      refine lv_iconst (v := 2) hx hb (kd tdlX9_refersTo_0 21 rfl) (by decide) ?_
      refine lv_iadd hx hb (kd tdlX9_refersTo_0 22 rfl) ?_
      refine lv_iconst (v := 2) hx hb (kd tdlX9_refersTo_0 23 rfl) (by decide) ?_
      refine lv_iload hx hb (kd tdlX9_refersTo_0 24 rfl) (lv_at hl 4 rfl) ?_
      refine lv_imul hx hb (kd tdlX9_refersTo_0 25 rfl) ?_
      refine lv_iadd hx hb (kd tdlX9_refersTo_0 26 rfl) ?_
      obtain ⟨hi42, hF⟩ := kg hF
      refine md_l_s hx hb hK hP hi42 (kd tdlX9_refersTo_0 27 rfl) ?_
      refine lv_iload_n hx hb (kd tdlX9_refersTo_0 28 rfl) rfl (lv_at hl 2 rfl) ?_
      refine lv_icmp_ne (tgt := 51) hx hb (kd tdlX9_refersTo_0 29 rfl) (by decide) (fun hc44 => ?_) (fun hc44 => ?_)
      · have hF := kf hc44 hF
        refine lv_iconst (v := 0) hx hb (kd tdlX9_refersTo_0 32 rfl) (by decide) ?_
        refine lv_istore_n (lv' := [(3, .int 0), (0, .ref h0), (1, .int p1), (2, .int p2), (4, .int s5_.2)]) hx hb (kd tdlX9_refersTo_0 33 rfl) rfl hl (by decide) rfl (fun ls hl => ?_)
        refine lv_iinc (v := (s5_.2 + 1)) (lv' := [(4, .int (s5_.2 + 1)), (3, .int 0), (0, .ref h0), (1, .int p1), (2, .int p2)]) hx hb (kd tdlX9_refersTo_0 34 rfl) hl (k := 4) rfl rfl (by decide) rfl (fun ls hl => ?_)
        refine lv_goto (tgt := 5) hx hb (kd tdlX9_refersTo_0 35 rfl) (by decide) ?_
        exact ih5 (0, (s5_.2 + 1)) hF _ _ _ hP hD hS (lv_sub hl [2, 3, 4, 1, 0] rfl)
      · have hF := kt hc44 hF
        refine lv_iconst (v := 1) hx hb (kd tdlX9_refersTo_0 30 rfl) (by decide) ?_
        refine lv_goto (tgt := 52) hx hb (kd tdlX9_refersTo_0 31 rfl) (by decide) ?_
        refine lv_istore_n (lv' := [(3, .int 1), (0, .ref h0), (1, .int p1), (2, .int p2), (4, .int s5_.2)]) hx hb (kd tdlX9_refersTo_0 33 rfl) rfl hl (by decide) rfl (fun ls hl => ?_)
        refine lv_iinc (v := (s5_.2 + 1)) (lv' := [(4, .int (s5_.2 + 1)), (3, .int 1), (0, .ref h0), (1, .int p1), (2, .int p2)]) hx hb (kd tdlX9_refersTo_0 34 rfl) hl (k := 4) rfl rfl (by decide) rfl (fun ls hl => ?_)
        refine lv_goto (tgt := 5) hx hb (kd tdlX9_refersTo_0 35 rfl) (by decide) ?_
        exact ih5 (1, (s5_.2 + 1)) hF _ _ _ hP hD hS (lv_sub hl [2, 3, 4, 1, 0] rfl)
