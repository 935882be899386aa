set_option maxHeartbeats 4000000 in
set_option maxRecDepth 100000 in
theorem c_X4_findHomes (l : Launch) (D : va_G) (t : Nat → ClassId) (h0 : Nat) (a0 : Nat → Nat) (d0 : PLT) (h1 : Nat) (a1 : Nat → Nat) (d1 : DKT) (h2 : Nat) (a2 : Nat → Nat) (d2 : SMT) (sz : Nat)  (r : PLT) (hF : F_X4_findHomes d0 d1 d2 = some r) : Met l yX4_findHomes wX4_findHomes ({ frames := 1, cells := 0, slots := 0, locals := 22 } : Room) (kPc D (TY t) ((wpl t h0 a0 d0) ++ (wdk t h1 a1 d1) ++ (wsm t h2 a2 d2)) [.ref h0, .ref h1, .ref h2] sz) (kQv D (TY t) ((wpl t h0 a0 r) ++ (wdk t h1 a1 d1) ++ (wsm t h2 a2 d2)) (va_A ((wpl t h0 a0 d0) ++ (wdk t h1 a1 d1) ++ (wsm t h2 a2 d2)) sz)) 0 0 (va_A ((wpl t h0 a0 d0) ++ (wdk t h1 a1 d1) ++ (wsm t h2 a2 d2)) sz) := by
  refine kE (cc := cX4_findHomes) (maxL := 4) (ret := none) (Qx := fun A => kQv D (TY t) ((wpl t h0 a0 r) ++ (wdk t h1 a1 d1) ++ (wsm t h2 a2 d2)) A) (lv0 := [(0, .ref h0), (1, .ref h1), (2, .ref h2)]) RX4 rfl (by decide) rfl (Nat.le_of_ble_eq_true rfl) rfl ?_
  intro p e s m args below meth c A ls hx hb hml hr hlocks hown hts hA hK hP hD hS hl
  have L30 := hts (.fieldLink RX4 30 "ChunkCarriers$Plan" "chunks" "I") (List.mem_cons_of_mem _ w_512)
  have L9 := hts (.fieldLink RX4 9 "ChunkCarriers$Plan" "places" "[I") (List.mem_cons_of_mem _ w_78)
  have inX4_ : ∀ w ∈ wsX40, w ∈ wX4_findHomes := fun w h => List.mem_cons_of_mem _ (inlX4 w h)
  have hP : va_P D vwCl ((wplF t h0 a0 (pl_places d0) (pl_entries d0) (pl_chunks d0) (pl_puts d0) (pl_newContainers d0) (pl_rivals d0) (pl_votes d0) (pl_rivalCount d0)) ++ (wdkF t h1 a1 (dk_settings d1) (dk_numbers d1) (dk_capacities d1) (dk_firsts d1) (dk_containers d1) (dk_codes d1) (dk_places d1) (dk_uses d1) (dk_entries d1) (dk_references d1) (dk_lengths d1) (dk_nextNumber d1) (dk_carried d1)) ++ (wsmF t h2 a2 (sm_worths d2) (sm_codes d2) (sm_letters d2) (sm_chunks d2))) s.heap := hP
  have hD : va_D A ((wplF t h0 a0 (pl_places d0) (pl_entries d0) (pl_chunks d0) (pl_puts d0) (pl_newContainers d0) (pl_rivals d0) (pl_votes d0) (pl_rivalCount d0)) ++ (wdkF t h1 a1 (dk_settings d1) (dk_numbers d1) (dk_capacities d1) (dk_firsts d1) (dk_containers d1) (dk_codes d1) (dk_places d1) (dk_uses d1) (dk_entries d1) (dk_references d1) (dk_lengths d1) (dk_nextNumber d1) (dk_carried d1)) ++ (wsmF t h2 a2 (sm_worths d2) (sm_codes d2) (sm_letters d2) (sm_chunks d2))) := hD
  refine lv_iconst (v := 0) hx hb (kd tdlX4_findHomes_0 0 rfl) (by decide) ?_
  refine lv_istore_n (lv' := [(3, .int 0), (0, .ref h0), (1, .ref h1), (2, .ref h2)]) hx hb (kd tdlX4_findHomes_0 1 rfl) rfl hl (by decide) rfl (fun ls hl => ?_)
  refine lp_ind (f := B_X4_findHomes_2 d0 d2 d1) (r := r) (P := fun s2_ => ∀ (H : Heap) (locs : List Loc) (ls : Array Slot), va_P D vwCl ((wplF t h0 a0 s2_.2 (pl_entries d0) (pl_chunks d0) (pl_puts d0) (pl_newContainers d0) (pl_rivals d0) (pl_votes d0) (pl_rivalCount d0)) ++ (wdkF t h1 a1 (dk_settings d1) (dk_numbers d1) (dk_capacities d1) (dk_firsts d1) (dk_containers d1) (dk_codes d1) (dk_places d1) (dk_uses d1) (dk_entries d1) (dk_references d1) (dk_lengths d1) (dk_nextNumber d1) (dk_carried d1)) ++ (wsmF t h2 a2 (sm_worths d2) (sm_codes d2) (sm_letters d2) (sm_chunks d2))) H → va_D A ((wplF t h0 a0 s2_.2 (pl_entries d0) (pl_chunks d0) (pl_puts d0) (pl_newContainers d0) (pl_rivals d0) (pl_votes d0) (pl_rivalCount d0)) ++ (wdkF t h1 a1 (dk_settings d1) (dk_numbers d1) (dk_capacities d1) (dk_firsts d1) (dk_containers d1) (dk_codes d1) (dk_places d1) (dk_uses d1) (dk_entries d1) (dk_references d1) (dk_lengths d1) (dk_nextNumber d1) (dk_carried d1)) ++ (wsmF t h2 a2 (sm_worths d2) (sm_codes d2) (sm_letters d2) (sm_chunks d2))) → va_S A s.heap H locs → lv_has ls 4 [(0, .ref h0), (1, .ref h1), (2, .ref h2), (3, .int s2_.1)] → W p l e ({ frames := 1, cells := 0, slots := 0, locals := 22 } : Room) s m args below meth c H locs 0 0 (MQ below (kQv D (TY t) ((wpl t h0 a0 r) ++ (wdk t h1 a1 d1) ++ (wsm t h2 a2 d2)) A) args s 0 0 A) (F0 m 2 ls [])) ?_ FU (0, (pl_places d0)) hF _ _ _ hP hD hS (lv_sub hl [1, 2, 3, 0] rfl)
  intro self2 ih2 s2_ hF H locs ls hP hD hS hl
  refine lv_iload_n hx hb (kd tdlX4_findHomes_0 2 rfl) rfl (lv_at hl 3 rfl) ?_
  refine lv_aload_n hx hb (kd tdlX4_findHomes_0 3 rfl) rfl (lv_at hl 0 rfl) ?_
  refine va_get (D := D) (ci := 3) (v := .int (pl_chunks d0)) (C := RX4) (T := TX4) (N := 8) hx hb hts inX4_ hown hK hP 0 rfl rfl 2 (by decide) L30 (fun _ h9 => h9) rfl (kd tdlX4_findHomes_0 4 rfl) ?_
  refine lv_icmp_ge (tgt := 31) hx hb (kd tdlX4_findHomes_0 5 rfl) (by decide) (fun hc7 => ?_) (fun hc7 => ?_)
  · have hF := kt hc7 hF
    cases ko hF
    exact ke_v hx hb hr hlocks hK hP hD hS (kd tdlX4_findHomes_0 17 rfl)
  · have hF := kf hc7 hF
    refine lv_aload_n hx hb (kd tdlX4_findHomes_0 6 rfl) rfl (lv_at hl 0 rfl) ?_
    refine va_get (D := D) (ci := 3) (v := .ref (a0 0)) (C := RX4) (T := TX4) (N := 8) hx hb hts inX4_ hown hK hP 0 rfl rfl 0 (by decide) L9 (fun _ h9 => h9) rfl (kd tdlX4_findHomes_0 7 rfl) ?_
    refine lv_iload_n hx hb (kd tdlX4_findHomes_0 8 rfl) rfl (lv_at hl 3 rfl) ?_
    refine lv_aload_n hx hb (kd tdlX4_findHomes_0 9 rfl) rfl (lv_at hl 1 rfl) ?_
    refine lv_aload_n hx hb (kd tdlX4_findHomes_0 10 rfl) rfl (lv_at hl 2 rfl) ?_
    refine lv_iload_n hx hb (kd tdlX4_findHomes_0 11 rfl) rfl (lv_at hl 3 rfl) ?_
    obtain ⟨v18, e18, hF⟩ := kc hF
    refine kc_iR hK hP hD hS hA [15, 16, 17] rfl (kr_V (Qx := (fun A => kQi D (TY t) ((wsmF t h2 a2 (sm_worths d2) (sm_codes d2) (sm_letters d2) (sm_chunks d2))) v18 A)) (wc := ((wsmF t h2 a2 (sm_worths d2) (sm_codes d2) (sm_letters d2) (sm_chunks d2)))) (As := [.int s2_.1]) (rest := [.ref h1, .int s2_.1, .ref (a0 0)]) ⟨hx, hb, hml, hown, hts⟩ hK hP hD [15, 16, 17] nd_15_16_17 rfl (c_X6_codeAt l D t h2 a2 d2 _ s2_.1 v18 e18) (cwV 1 hts (gcX6_codeAt w_522) rfl rfl rfl hdX6_codeAtV ⟨Nat.le_of_ble_eq_true rfl, Nat.le_of_ble_eq_true rfl⟩) (ci := 5) (q0 := 15) rfl rfl rfl hl.1 rfl (Nat.le_of_ble_eq_true rfl) (kd tdlX4_findHomes_0 12 rfl) ⟨Nat.zero_le _, Nat.zero_le _⟩) (fun H locs hP hS => ?_)
    obtain ⟨v21, e21, hF⟩ := kc hF
    refine kc_iR hK hP hD hS hA [5, 6, 7, 8, 9, 10, 11, 12, 13, 14] rfl (kr_V (Qx := (fun A => kQi D (TY t) ((wdkF t h1 a1 (dk_settings d1) (dk_numbers d1) (dk_capacities d1) (dk_firsts d1) (dk_containers d1) (dk_codes d1) (dk_places d1) (dk_uses d1) (dk_entries d1) (dk_references d1) (dk_lengths d1) (dk_nextNumber d1) (dk_carried d1))) v21 A)) (wc := ((wdkF t h1 a1 (dk_settings d1) (dk_numbers d1) (dk_capacities d1) (dk_firsts d1) (dk_containers d1) (dk_codes d1) (dk_places d1) (dk_uses d1) (dk_entries d1) (dk_references d1) (dk_lengths d1) (dk_nextNumber d1) (dk_carried d1)))) (As := [.int v18]) (rest := [.int s2_.1, .ref (a0 0)]) ⟨hx, hb, hml, hown, hts⟩ hK hP hD [5, 6, 7, 8, 9, 10, 11, 12, 13, 14] nd_5_6_7_8_9_10_11_12_13_14 rfl (c_X1_homeOf l D t h1 a1 d1 _ v18 v21 e21) (cwV 1 hts (gcX1_homeOf w_526) rfl rfl rfl hdX1_homeOfV ⟨Nat.le_of_ble_eq_true rfl, Nat.le_of_ble_eq_true rfl⟩) (ci := 1) (q0 := 5) rfl rfl rfl hl.1 rfl (Nat.le_of_ble_eq_true rfl) (kd tdlX4_findHomes_0 13 rfl) ⟨Nat.zero_le _, Nat.zero_le _⟩) (fun H locs hP hS => ?_)
    obtain ⟨hi24, hF⟩ := kg hF
    refine va_iast (D := D) (tys := TY t) hx hb hK hP hD hS 1 0 rfl rfl hi24 (kd tdlX4_findHomes_0 14 rfl) (fun H locs hP hD hS => ?_)
    have hP : va_P D vwCl ((wplF t h0 a0 (upd s2_.2 (Int32.toNatClampNeg s2_.1) v21) (pl_entries d0) (pl_chunks d0) (pl_puts d0) (pl_newContainers d0) (pl_rivals d0) (pl_votes d0) (pl_rivalCount d0)) ++ (wdkF t h1 a1 (dk_settings d1) (dk_numbers d1) (dk_capacities d1) (dk_firsts d1) (dk_containers d1) (dk_codes d1) (dk_places d1) (dk_uses d1) (dk_entries d1) (dk_references d1) (dk_lengths d1) (dk_nextNumber d1) (dk_carried d1)) ++ (wsmF t h2 a2 (sm_worths d2) (sm_codes d2) (sm_letters d2) (sm_chunks d2))) H := hP
    have hD : va_D A ((wplF t h0 a0 (upd s2_.2 (Int32.toNatClampNeg s2_.1) v21) (pl_entries d0) (pl_chunks d0) (pl_puts d0) (pl_newContainers d0) (pl_rivals d0) (pl_votes d0) (pl_rivalCount d0)) ++ (wdkF t h1 a1 (dk_settings d1) (dk_numbers d1) (dk_capacities d1) (dk_firsts d1) (dk_containers d1) (dk_codes d1) (dk_places d1) (dk_uses d1) (dk_entries d1) (dk_references d1) (dk_lengths d1) (dk_nextNumber d1) (dk_carried d1)) ++ (wsmF t h2 a2 (sm_worths d2) (sm_codes d2) (sm_letters d2) (sm_chunks d2))) := hD
    refine lv_iinc (v := (s2_.1 + 1)) (lv' := [(3, .int (s2_.1 + 1)), (0, .ref h0), (1, .ref h1), (2, .ref h2)]) hx hb (kd tdlX4_findHomes_0 15 rfl) hl (k := 3) rfl rfl (by decide) rfl (fun ls hl => ?_)
    refine lv_goto (tgt := 2) hx hb (kd tdlX4_findHomes_0 16 rfl) (by decide) ?_
    exact ih2 ((s2_.1 + 1), (upd s2_.2 (Int32.toNatClampNeg s2_.1) v21)) hF _ _ _ hP hD hS (lv_sub hl [1, 2, 3, 0] rfl)
set_option maxHeartbeats 4000000 in
set_option maxRecDepth 100000 in
theorem c_X4_rivalAt (l : Launch) (D : va_G) (t : Nat → ClassId) (h0 : Nat) (a0 : Nat → Nat) (d0 : PLT) (sz : Nat) (p1 : Int32) (r : Int32) (hF : F_X4_rivalAt d0 p1 = some r) : Met l yX4_rivalAt wX4_rivalAt ({ frames := 0, cells := 0, slots := 0, locals := 0 } : Room) (kPc D (TY t) ((wpl t h0 a0 d0)) [.ref h0, .int p1] sz) (kQi D (TY t) ((wpl t h0 a0 d0)) r (va_A ((wpl t h0 a0 d0)) sz)) 0 0 (va_A ((wpl t h0 a0 d0)) sz) := by
  refine kE (cc := cX4_rivalAt) (maxL := 3) (ret := (some .int)) (Qx := fun A => kQi D (TY t) ((wpl t h0 a0 d0)) r A) (lv0 := [(0, .ref h0), (1, .int p1)]) RX4 rfl (by decide) rfl (Nat.le_of_ble_eq_true rfl) rfl ?_
  intro p e s m args below meth c A ls hx hb hml hr hlocks hown hts hA hK hP hD hS hl
  have L18 := hts (.fieldLink RX4 18 "ChunkCarriers$Plan" "rivals" "[I") (List.mem_cons_of_mem _ w_80)
  have L38 := hts (.fieldLink RX4 38 "ChunkCarriers$Plan" "rivalCount" "I") (List.mem_cons_of_mem _ w_513)
  have inX4_ : ∀ w ∈ wsX40, w ∈ wX4_rivalAt := fun w h => List.mem_cons_of_mem _ (inlX4 w h)
  have hP : va_P D vwCl ((wplF t h0 a0 (pl_places d0) (pl_entries d0) (pl_chunks d0) (pl_puts d0) (pl_newContainers d0) (pl_rivals d0) (pl_votes d0) (pl_rivalCount d0))) s.heap := hP
  have hD : va_D A ((wplF t h0 a0 (pl_places d0) (pl_entries d0) (pl_chunks d0) (pl_puts d0) (pl_newContainers d0) (pl_rivals d0) (pl_votes d0) (pl_rivalCount d0))) := hD
  refine lv_iconst (v := 0) hx hb (kd tdlX4_rivalAt_0 0 rfl) (by decide) ?_
  refine lv_istore_n (lv' := [(2, .int 0), (0, .ref h0), (1, .int p1)]) hx hb (kd tdlX4_rivalAt_0 1 rfl) rfl hl (by decide) rfl (fun ls hl => ?_)
  refine lp_ind (f := B_X4_rivalAt_2 d0 p1) (r := r) (P := fun s2_ => ∀ (H : Heap) (locs : List Loc) (ls : Array Slot), va_P D vwCl ((wplF t h0 a0 (pl_places d0) (pl_entries d0) (pl_chunks d0) (pl_puts d0) (pl_newContainers d0) (pl_rivals d0) (pl_votes d0) (pl_rivalCount d0))) H → va_D A ((wplF t h0 a0 (pl_places d0) (pl_entries d0) (pl_chunks d0) (pl_puts d0) (pl_newContainers d0) (pl_rivals d0) (pl_votes d0) (pl_rivalCount d0))) → va_S A s.heap H locs → lv_has ls 3 [(0, .ref h0), (1, .int p1), (2, .int s2_)] → W p l e ({ frames := 0, cells := 0, slots := 0, locals := 0 } : Room) s m args below meth c H locs 0 0 (MQ below (kQi D (TY t) ((wpl t h0 a0 d0)) r A) args s 0 0 A) (F0 m 2 ls [])) ?_ FU (0) hF _ _ _ hP hD hS (lv_sub hl [1, 2, 0] rfl)
  intro self2 ih2 s2_ hF H locs ls hP hD hS hl
  refine lv_iload_n hx hb (kd tdlX4_rivalAt_0 2 rfl) rfl (lv_at hl 2 rfl) ?_
  refine lv_aload_n hx hb (kd tdlX4_rivalAt_0 3 rfl) rfl (lv_at hl 0 rfl) ?_
  refine pl_g_rivalCount hx hb hts inX4_ hown hK hP L38 (kd tdlX4_rivalAt_0 4 rfl) ?_
  refine lv_icmp_ge (tgt := 28) hx hb (kd tdlX4_rivalAt_0 5 rfl) (by decide) (fun hc7 => ?_) (fun hc7 => ?_)
  · have hF := kt hc7 hF
    refine lv_aload_n hx hb (kd tdlX4_rivalAt_0 16 rfl) rfl (lv_at hl 0 rfl) ?_
    refine pl_g_rivalCount hx hb hts inX4_ hown hK hP L38 (kd tdlX4_rivalAt_0 17 rfl) ?_
    cases ko hF
    exact ke_i hx hb hr hlocks hK hP hD hS rfl (kd tdlX4_rivalAt_0 18 rfl)
  · have hF := kf hc7 hF
    refine lv_aload_n hx hb (kd tdlX4_rivalAt_0 6 rfl) rfl (lv_at hl 0 rfl) ?_
    refine pl_g_rivals hx hb hts inX4_ hown hK hP L18 (kd tdlX4_rivalAt_0 7 rfl) ?_
    refine lv_iload_n hx hb (kd tdlX4_rivalAt_0 8 rfl) rfl (lv_at hl 2 rfl) ?_
    obtain ⟨hi15, hF⟩ := kg hF
    refine pl_l_rivals hx hb hK hP hi15 (kd tdlX4_rivalAt_0 9 rfl) ?_
    refine lv_iload_n hx hb (kd tdlX4_rivalAt_0 10 rfl) rfl (lv_at hl 1 rfl) ?_
    refine lv_icmp_ne (tgt := 22) hx hb (kd tdlX4_rivalAt_0 11 rfl) (by decide) (fun hc17 => ?_) (fun hc17 => ?_)
    · have hF := kf hc17 hF
      refine lv_iinc (v := (s2_ + 1)) (lv' := [(2, .int (s2_ + 1)), (0, .ref h0), (1, .int p1)]) hx hb (kd tdlX4_rivalAt_0 14 rfl) hl (k := 2) rfl rfl (by decide) rfl (fun ls hl => ?_)
      refine lv_goto (tgt := 2) hx hb (kd tdlX4_rivalAt_0 15 rfl) (by decide) ?_
      exact ih2 ((s2_ + 1)) hF _ _ _ hP hD hS (lv_sub hl [1, 2, 0] rfl)
    · have hF := kt hc17 hF
      refine lv_iload_n hx hb (kd tdlX4_rivalAt_0 12 rfl) rfl (lv_at hl 2 rfl) ?_
      cases ko hF
      exact ke_i hx hb hr hlocks hK hP hD hS rfl (kd tdlX4_rivalAt_0 13 rfl)
set_option maxHeartbeats 4000000 in
set_option maxRecDepth 100000 in
theorem c_X4_countVotes (l : Launch) (D : va_G) (t : Nat → ClassId) (h0 : Nat) (a0 : Nat → Nat) (d0 : PLT) (sz : Nat)  (r : PLT) (hF : F_X4_countVotes d0 = some r) : Met l yX4_countVotes wX4_countVotes ({ frames := 1, cells := 0, slots := 0, locals := 22 } : Room) (kPc D (TY t) ((wpl t h0 a0 d0)) [.ref h0] sz) (kQv D (TY t) ((wpl t h0 a0 r)) (va_A ((wpl t h0 a0 d0)) sz)) 0 0 (va_A ((wpl t h0 a0 d0)) sz) := by
  refine kE (cc := cX4_countVotes) (maxL := 3) (ret := none) (Qx := fun A => kQv D (TY t) ((wpl t h0 a0 r)) A) (lv0 := [(0, .ref h0)]) RX4 rfl (by decide) rfl (Nat.le_of_ble_eq_true rfl) rfl ?_
  intro p e s m args below meth c A ls hx hb hml hr hlocks hown hts hA hK hP hD hS hl
  have L18 := hts (.fieldLink RX4 18 "ChunkCarriers$Plan" "rivals" "[I") (List.mem_cons_of_mem _ w_80)
  have L21 := hts (.fieldLink RX4 21 "ChunkCarriers$Plan" "votes" "[I") (List.mem_cons_of_mem _ w_81)
  have L30 := hts (.fieldLink RX4 30 "ChunkCarriers$Plan" "chunks" "I") (List.mem_cons_of_mem _ w_512)
  have L38 := hts (.fieldLink RX4 38 "ChunkCarriers$Plan" "rivalCount" "I") (List.mem_cons_of_mem _ w_513)
  have L9 := hts (.fieldLink RX4 9 "ChunkCarriers$Plan" "places" "[I") (List.mem_cons_of_mem _ w_78)
  have inX4_ : ∀ w ∈ wsX40, w ∈ wX4_countVotes := fun w h => List.mem_cons_of_mem _ (inlX4 w h)
  have hP : va_P D vwCl ((wplF t h0 a0 (pl_places d0) (pl_entries d0) (pl_chunks d0) (pl_puts d0) (pl_newContainers d0) (pl_rivals d0) (pl_votes d0) (pl_rivalCount d0))) s.heap := hP
  have hD : va_D A ((wplF t h0 a0 (pl_places d0) (pl_entries d0) (pl_chunks d0) (pl_puts d0) (pl_newContainers d0) (pl_rivals d0) (pl_votes d0) (pl_rivalCount d0))) := hD
  refine lv_aload_n hx hb (kd tdlX4_countVotes_0 0 rfl) rfl (lv_at hl 0 rfl) ?_
  refine lv_iconst (v := 0) hx hb (kd tdlX4_countVotes_0 1 rfl) (by decide) ?_
  refine pl_p_rivalCount hx hb hts inX4_ hown hK hP hD hS L38 (kd tdlX4_countVotes_0 2 rfl) (fun H locs hP hD hS => ?_)
  refine lv_iconst (v := 0) hx hb (kd tdlX4_countVotes_0 3 rfl) (by decide) ?_
  refine lv_istore_n (lv' := [(1, .int 0), (0, .ref h0)]) hx hb (kd tdlX4_countVotes_0 4 rfl) rfl hl (by decide) rfl (fun ls hl => ?_)
  refine lp_ind (f := B_X4_countVotes_7 d0) (r := r) (P := fun s7_ => ∀ (H : Heap) (locs : List Loc) (ls : Array Slot), va_P D vwCl ((wplF t h0 a0 (pl_places d0) (pl_entries d0) (pl_chunks d0) (pl_puts d0) (pl_newContainers d0) s7_.2.1 s7_.2.2.1 s7_.2.2.2)) H → va_D A ((wplF t h0 a0 (pl_places d0) (pl_entries d0) (pl_chunks d0) (pl_puts d0) (pl_newContainers d0) s7_.2.1 s7_.2.2.1 s7_.2.2.2)) → va_S A s.heap H locs → lv_has ls 3 [(0, .ref h0), (1, .int s7_.1)] → W p l e ({ frames := 1, cells := 0, slots := 0, locals := 22 } : Room) s m args below meth c H locs 0 0 (MQ below (kQv D (TY t) ((wpl t h0 a0 r)) A) args s 0 0 A) (F0 m 7 ls [])) ?_ FU (0, (pl_rivals d0), (pl_votes d0), 0) hF _ _ _ hP hD hS (lv_sub hl [1, 0] rfl)
  intro self7 ih7 s7_ hF H locs ls hP hD hS hl
  refine lv_iload_n hx hb (kd tdlX4_countVotes_0 5 rfl) rfl (lv_at hl 1 rfl) ?_
  refine lv_aload_n hx hb (kd tdlX4_countVotes_0 6 rfl) rfl (lv_at hl 0 rfl) ?_
  refine pl_g_chunks hx hb hts inX4_ hown hK hP L30 (kd tdlX4_countVotes_0 7 rfl) ?_
  refine lv_icmp_ge (tgt := 92) hx hb (kd tdlX4_countVotes_0 8 rfl) (by decide) (fun hc12 => ?_) (fun hc12 => ?_)
  · have hF := kt hc12 hF
    cases ko hF
    exact ke_v hx hb hr hlocks hK hP hD hS (kd tdlX4_countVotes_1 11 rfl)
  · have hF := kf hc12 hF
    refine lv_aload_n hx hb (kd tdlX4_countVotes_0 9 rfl) rfl (lv_at hl 0 rfl) ?_
    refine pl_g_places hx hb hts inX4_ hown hK hP L9 (kd tdlX4_countVotes_0 10 rfl) ?_
    refine lv_iload_n hx hb (kd tdlX4_countVotes_0 11 rfl) rfl (lv_at hl 1 rfl) ?_
    obtain ⟨hi20, hF⟩ := kg hF
    refine pl_l_places hx hb hK hP hi20 (kd tdlX4_countVotes_0 12 rfl) ?_
    refine lv_iconst (v := (-1)) hx hb (kd tdlX4_countVotes_0 13 rfl) (by decide) ?_
    refine lv_icmp_ne (tgt := 28) hx hb (kd tdlX4_countVotes_0 14 rfl) (by decide) (fun hc22 => ?_) (fun hc22 => ?_)
    · have hF := kf hc22 hF
      refine lv_aload_n hx hb (kd tdlX4_countVotes_0 16 rfl) rfl (lv_at hl 0 rfl) ?_
      refine lv_aload_n hx hb (kd tdlX4_countVotes_0 17 rfl) rfl (lv_at hl 0 rfl) ?_
      refine pl_g_places hx hb hts inX4_ hown hK hP L9 (kd tdlX4_countVotes_0 18 rfl) ?_
      refine lv_iload_n hx hb (kd tdlX4_countVotes_0 19 rfl) rfl (lv_at hl 1 rfl) ?_
      obtain ⟨hi34, hF⟩ := kg hF
      refine pl_l_places hx hb hK hP hi34 (kd tdlX4_countVotes_0 20 rfl) ?_
      obtain ⟨v35, e35, hF⟩ := kc hF
      refine kc_i0 (w1 := ((wplF t h0 a0 (pl_places d0) (pl_entries d0) (pl_chunks d0) (pl_puts d0) (pl_newContainers d0) s7_.2.1 s7_.2.2.1 s7_.2.2.2))) hP hD hS hA (kr_V0 (Qx := (fun A => kQi D (TY t) ((wplF t h0 a0 (pl_places d0) (pl_entries d0) (pl_chunks d0) (pl_puts d0) (pl_newContainers d0) s7_.2.1 s7_.2.2.1 s7_.2.2.2)) v35 A)) (As := [.int ((pl_places d0) (Int32.toNatClampNeg s7_.1))]) (rest := []) ⟨hx, hb, hml, hown, hts⟩ hK hP hD (c_X4_rivalAt l D t h0 a0 ((pl_places d0), (pl_entries d0), (pl_chunks d0), (pl_puts d0), (pl_newContainers d0), s7_.2.1, s7_.2.2.1, s7_.2.2.2) _ ((pl_places d0) (Int32.toNatClampNeg s7_.1)) v35 e35) (cwV 1 hts (gcX4_rivalAt w_534) rfl rfl rfl hdX4_rivalAtV ⟨Nat.le_of_ble_eq_true rfl, Nat.le_of_ble_eq_true rfl⟩) (ci := 3) (q0 := 0) rfl rfl rfl hl.1 rfl (Nat.le_of_ble_eq_true rfl) (kd tdlX4_countVotes_0 21 rfl) ⟨Nat.zero_le _, Nat.zero_le _⟩) (fun H locs hP hD hS => ?_)
      refine lv_istore_n (lv' := [(2, .int v35), (0, .ref h0), (1, .int s7_.1)]) hx hb (kd tdlX4_countVotes_0 22 rfl) rfl hl (by decide) rfl (fun ls hl => ?_)
      refine lv_iload_n hx hb (kd tdlX4_countVotes_0 23 rfl) rfl (lv_at hl 0 rfl) ?_
      refine lv_aload_n hx hb (kd tdlX4_countVotes_0 24 rfl) rfl (lv_at hl 1 rfl) ?_
      refine pl_g_rivalCount hx hb hts inX4_ hown hK hP L38 (kd tdlX4_countVotes_0 25 rfl) ?_
      have hJ76 : ∀ j76 : (Nat → Int32) × (Nat → Int32) × Int32, J_X4_countVotes_76 v35 self7 s7_ j76 = some r → ∀ (H : Heap) (locs : List Loc) (ls : Array Slot), va_P D vwCl ((wplF t h0 a0 (pl_places d0) (pl_entries d0) (pl_chunks d0) (pl_puts d0) (pl_newContainers d0) j76.1 j76.2.1 j76.2.2)) H → va_D A ((wplF t h0 a0 (pl_places d0) (pl_entries d0) (pl_chunks d0) (pl_puts d0) (pl_newContainers d0) j76.1 j76.2.1 j76.2.2)) → va_S A s.heap H locs → lv_has ls 3 [(0, .ref h0), (1, .int s7_.1), (2, .int v35)] → W p l e ({ frames := 1, cells := 0, slots := 0, locals := 22 } : Room) s m args below meth c H locs 0 0 (MQ below (kQv D (TY t) ((wpl t h0 a0 r)) A) args s 0 0 A) (F0 m 76 ls []) := by
        intro j76 hF H locs ls hP hD hS hl
        refine lv_aload_n hx hb (kd tdlX4_countVotes_1 1 rfl) rfl (lv_at hl 0 rfl) ?_
        refine pl_g_votes hx hb hts inX4_ hown hK hP L21 (kd tdlX4_countVotes_1 2 rfl) ?_
        refine lv_iload_n hx hb (kd tdlX4_countVotes_1 3 rfl) rfl (lv_at hl 2 rfl) ?_
        refine lv_dup2_11 hx hb (kd tdlX4_countVotes_1 4 rfl) rfl rfl ?_
        obtain ⟨hi82, hF⟩ := kg hF
        refine pl_l_votes hx hb hK hP hi82 (kd tdlX4_countVotes_1 5 rfl) ?_
        refine lv_iconst (v := 1) hx hb (kd tdlX4_countVotes_1 6 rfl) (by decide) ?_
        refine lv_iadd hx hb (kd tdlX4_countVotes_1 7 rfl) ?_
        obtain ⟨hi85, hF⟩ := kg hF
        refine pl_s_votes hx hb hK hP hD hS hi85 (kd tdlX4_countVotes_1 8 rfl) (fun H locs hP hD hS => ?_)
        refine lv_iinc (v := (s7_.1 + 1)) (lv' := [(1, .int (s7_.1 + 1)), (0, .ref h0), (2, .int v35)]) hx hb (kd tdlX4_countVotes_1 9 rfl) hl (k := 1) rfl rfl (by decide) rfl (fun ls hl => ?_)
        refine lv_goto (tgt := 7) hx hb (kd tdlX4_countVotes_1 10 rfl) (by decide) ?_
        exact ih7 ((s7_.1 + 1), j76.1, (upd j76.2.1 (Int32.toNatClampNeg v35) ((j76.2.1 (Int32.toNatClampNeg v35)) + 1)), j76.2.2) hF _ _ _ hP hD hS (lv_sub hl [1, 0] rfl)
      refine lv_icmp_ne (tgt := 76) hx hb (kd tdlX4_countVotes_0 26 rfl) (by decide) (fun hc44 => ?_) (fun hc44 => ?_)
      · have hF := kf hc44 hF
        exact hJ76 (s7_.2.1, s7_.2.2.1, s7_.2.2.2) hF _ _ _ hP hD hS (lv_sub hl [1, 2, 0] rfl)
      · have hF := kt hc44 hF
        refine lv_aload_n hx hb (kd tdlX4_countVotes_0 27 rfl) rfl (lv_at hl 1 rfl) ?_
        refine pl_g_rivals hx hb hts inX4_ hown hK hP L18 (kd tdlX4_countVotes_0 28 rfl) ?_
        refine lv_iload_n hx hb (kd tdlX4_countVotes_0 29 rfl) rfl (lv_at hl 0 rfl) ?_
        refine lv_aload_n hx hb (kd tdlX4_countVotes_0 30 rfl) rfl (lv_at hl 1 rfl) ?_
        refine pl_g_places hx hb hts inX4_ hown hK hP L9 (kd tdlX4_countVotes_0 31 rfl) ?_
        refine lv_iload_n hx hb (kd tdlX4_countVotes_0 32 rfl) rfl (lv_at hl 2 rfl) ?_
        obtain ⟨hi57, hF⟩ := kg hF
        refine pl_l_places hx hb hK hP hi57 (kd tdlX4_countVotes_0 33 rfl) ?_
        obtain ⟨hi58, hF⟩ := kg hF
        refine pl_s_rivals hx hb hK hP hD hS hi58 (kd tdlX4_countVotes_0 34 rfl) (fun H locs hP hD hS => ?_)
        refine lv_aload_n hx hb (kd tdlX4_countVotes_0 35 rfl) rfl (lv_at hl 1 rfl) ?_
        refine pl_g_votes hx hb hts inX4_ hown hK hP L21 (kd tdlX4_countVotes_0 36 rfl) ?_
        refine lv_iload_n hx hb (kd tdlX4_countVotes_0 37 rfl) rfl (lv_at hl 0 rfl) ?_
        refine lv_iconst (v := 0) hx hb (kd tdlX4_countVotes_0 38 rfl) (by decide) ?_
        obtain ⟨hi65, hF⟩ := kg hF
        refine pl_s_votes hx hb hK hP hD hS hi65 (kd tdlX4_countVotes_0 39 rfl) (fun H locs hP hD hS => ?_)
        refine lv_aload_n hx hb (kd tdlX4_countVotes_0 40 rfl) rfl (lv_at hl 1 rfl) ?_
        refine lv_dup hx hb (kd tdlX4_countVotes_0 41 rfl) rfl ?_
        refine pl_g_rivalCount hx hb hts inX4_ hown hK hP L38 (kd tdlX4_countVotes_0 42 rfl) ?_
        refine lv_iconst (v := 1) hx hb (kd tdlX4_countVotes_0 43 rfl) (by decide) ?_
        refine lv_iadd hx hb (kd tdlX4_countVotes_0 44 rfl) ?_
        refine pl_p_rivalCount hx hb hts inX4_ hown hK hP hD hS L38 (kd tdlX4_countVotes_1 0 rfl) (fun H locs hP hD hS => ?_)
        exact hJ76 ((upd s7_.2.1 (Int32.toNatClampNeg v35) ((pl_places d0) (Int32.toNatClampNeg s7_.1))), (upd s7_.2.2.1 (Int32.toNatClampNeg v35) 0), (s7_.2.2.2 + 1)) hF _ _ _ hP hD hS (lv_sub hl [1, 2, 0] rfl)
    · have hF := kt hc22 hF
      refine lv_goto (tgt := 86) hx hb (kd tdlX4_countVotes_0 15 rfl) (by decide) ?_
      refine lv_iinc (v := (s7_.1 + 1)) (lv' := [(1, .int (s7_.1 + 1)), (0, .ref h0)]) hx hb (kd tdlX4_countVotes_1 9 rfl) hl (k := 1) rfl rfl (by decide) rfl (fun ls hl => ?_)
      refine lv_goto (tgt := 7) hx hb (kd tdlX4_countVotes_1 10 rfl) (by decide) ?_
      exact ih7 ((s7_.1 + 1), s7_.2.1, s7_.2.2.1, s7_.2.2.2) hF _ _ _ hP hD hS (lv_sub hl [1, 0] rfl)
set_option maxHeartbeats 4000000 in
set_option maxRecDepth 100000 in
theorem c_X4_isWeaker (l : Launch) (D : va_G) (t : Nat → ClassId) (h0 : Nat) (a0 : Nat → Nat) (d0 : PLT) (sz : Nat) (p1 : Int32) (p2 : Int32) (r : Int32) (hF : F_X4_isWeaker d0 p1 p2 = some r) : Met l yX4_isWeaker wX4_isWeaker ({ frames := 0, cells := 0, slots := 0, locals := 0 } : Room) (kPc D (TY t) ((wpl t h0 a0 d0)) [.ref h0, .int p1, .int p2] sz) (kQi D (TY t) ((wpl t h0 a0 d0)) r (va_A ((wpl t h0 a0 d0)) sz)) 0 0 (va_A ((wpl t h0 a0 d0)) sz) := by
  refine kE (cc := cX4_isWeaker) (maxL := 3) (ret := (some .boolean)) (Qx := fun A => kQi D (TY t) ((wpl t h0 a0 d0)) r A) (lv0 := [(0, .ref h0), (1, .int p1), (2, .int p2)]) RX4 rfl (by decide) rfl (Nat.le_of_ble_eq_true rfl) rfl ?_
  intro p e s m args below meth c A ls hx hb hml hr hlocks hown hts hA hK hP hD hS hl
  have L18 := hts (.fieldLink RX4 18 "ChunkCarriers$Plan" "rivals" "[I") (List.mem_cons_of_mem _ w_80)
  have L21 := hts (.fieldLink RX4 21 "ChunkCarriers$Plan" "votes" "[I") (List.mem_cons_of_mem _ w_81)
  have inX4_ : ∀ w ∈ wsX40, w ∈ wX4_isWeaker := fun w h => List.mem_cons_of_mem _ (inlX4 w h)
  have hP : va_P D vwCl ((wplF t h0 a0 (pl_places d0) (pl_entries d0) (pl_chunks d0) (pl_puts d0) (pl_newContainers d0) (pl_rivals d0) (pl_votes d0) (pl_rivalCount d0))) s.heap := hP
  have hD : va_D A ((wplF t h0 a0 (pl_places d0) (pl_entries d0) (pl_chunks d0) (pl_puts d0) (pl_newContainers d0) (pl_rivals d0) (pl_votes d0) (pl_rivalCount d0))) := hD
  refine lv_aload_n hx hb (kd tdlX4_isWeaker_0 0 rfl) rfl (lv_at hl 0 rfl) ?_
  refine pl_g_votes hx hb hts inX4_ hown hK hP L21 (kd tdlX4_isWeaker_0 1 rfl) ?_
  refine lv_iload_n hx hb (kd tdlX4_isWeaker_0 2 rfl) rfl (lv_at hl 1 rfl) ?_
  obtain ⟨hi5, hF⟩ := kg hF
  refine pl_l_votes hx hb hK hP hi5 (kd tdlX4_isWeaker_0 3 rfl) ?_
  refine lv_aload_n hx hb (kd tdlX4_isWeaker_0 4 rfl) rfl (lv_at hl 0 rfl) ?_
  refine pl_g_votes hx hb hts inX4_ hown hK hP L21 (kd tdlX4_isWeaker_0 5 rfl) ?_
  refine lv_iload_n hx hb (kd tdlX4_isWeaker_0 6 rfl) rfl (lv_at hl 2 rfl) ?_
  obtain ⟨hi11, hF⟩ := kg hF
  refine pl_l_votes hx hb hK hP hi11 (kd tdlX4_isWeaker_0 7 rfl) ?_
  refine lv_icmp_lt (tgt := 45) hx hb (kd tdlX4_isWeaker_0 8 rfl) (by decide) (fun hc12 => ?_) (fun hc12 => ?_)
  · have hF := kt hc12 hF
    refine lv_iconst (v := 1) hx hb (kd tdlX4_isWeaker_0 27 rfl) (by decide) ?_
    refine lv_goto (tgt := 50) hx hb (kd tdlX4_isWeaker_0 28 rfl) (by decide) ?_
    cases ko hF
    exact ke_z hx hb hr hlocks rfl hK hP hD hS rfl (kd tdlX4_isWeaker_0 30 rfl)
  · have hF := kf hc12 hF
    refine lv_aload_n hx hb (kd tdlX4_isWeaker_0 9 rfl) rfl (lv_at hl 0 rfl) ?_
    refine pl_g_votes hx hb hts inX4_ hown hK hP L21 (kd tdlX4_isWeaker_0 10 rfl) ?_
    refine lv_iload_n hx hb (kd tdlX4_isWeaker_0 11 rfl) rfl (lv_at hl 1 rfl) ?_
    obtain ⟨hi20, hF⟩ := kg hF
    refine pl_l_votes hx hb hK hP hi20 (kd tdlX4_isWeaker_0 12 rfl) ?_
    refine lv_aload_n hx hb (kd tdlX4_isWeaker_0 13 rfl) rfl (lv_at hl 0 rfl) ?_
    refine pl_g_votes hx hb hts inX4_ hown hK hP L21 (kd tdlX4_isWeaker_0 14 rfl) ?_
    refine lv_iload_n hx hb (kd tdlX4_isWeaker_0 15 rfl) rfl (lv_at hl 2 rfl) ?_
    obtain ⟨hi26, hF⟩ := kg hF
    refine pl_l_votes hx hb hK hP hi26 (kd tdlX4_isWeaker_0 16 rfl) ?_
    refine lv_icmp_ne (tgt := 49) hx hb (kd tdlX4_isWeaker_0 17 rfl) (by decide) (fun hc27 => ?_) (fun hc27 => ?_)
    · have hF := kf hc27 hF
      refine lv_iconst (v := 0) hx hb (kd tdlX4_isWeaker_0 29 rfl) (by decide) ?_
      cases ko hF
      exact ke_z hx hb hr hlocks rfl hK hP hD hS rfl (kd tdlX4_isWeaker_0 30 rfl)
    · have hF := kt hc27 hF
      refine lv_aload_n hx hb (kd tdlX4_isWeaker_0 18 rfl) rfl (lv_at hl 0 rfl) ?_
      refine pl_g_rivals hx hb hts inX4_ hown hK hP L18 (kd tdlX4_isWeaker_0 19 rfl) ?_
      refine lv_iload_n hx hb (kd tdlX4_isWeaker_0 20 rfl) rfl (lv_at hl 1 rfl) ?_
      obtain ⟨hi35, hF⟩ := kg hF
      refine pl_l_rivals hx hb hK hP hi35 (kd tdlX4_isWeaker_0 21 rfl) ?_
      refine lv_aload_n hx hb (kd tdlX4_isWeaker_0 22 rfl) rfl (lv_at hl 0 rfl) ?_
      refine pl_g_rivals hx hb hts inX4_ hown hK hP L18 (kd tdlX4_isWeaker_0 23 rfl) ?_
      refine lv_iload_n hx hb (kd tdlX4_isWeaker_0 24 rfl) rfl (lv_at hl 2 rfl) ?_
      obtain ⟨hi41, hF⟩ := kg hF
      refine pl_l_rivals hx hb hK hP hi41 (kd tdlX4_isWeaker_0 25 rfl) ?_
      refine lv_icmp_ge (tgt := 49) hx hb (kd tdlX4_isWeaker_0 26 rfl) (by decide) (fun hc42 => ?_) (fun hc42 => ?_)
      · have hF := kt hc42 hF
        refine lv_iconst (v := 0) hx hb (kd tdlX4_isWeaker_0 29 rfl) (by decide) ?_
        cases ko hF
        exact ke_z hx hb hr hlocks rfl hK hP hD hS rfl (kd tdlX4_isWeaker_0 30 rfl)
      · have hF := kf hc42 hF
        refine lv_iconst (v := 1) hx hb (kd tdlX4_isWeaker_0 27 rfl) (by decide) ?_
        refine lv_goto (tgt := 50) hx hb (kd tdlX4_isWeaker_0 28 rfl) (by decide) ?_
        cases ko hF
        exact ke_z hx hb hr hlocks rfl hK hP hD hS rfl (kd tdlX4_isWeaker_0 30 rfl)
set_option maxHeartbeats 4000000 in
set_option maxRecDepth 100000 in
theorem c_X4_dropWeakest (l : Launch) (D : va_G) (t : Nat → ClassId) (h0 : Nat) (a0 : Nat → Nat) (d0 : PLT) (sz : Nat)  (r : PLT) (hF : F_X4_dropWeakest d0 = some r) : Met l yX4_dropWeakest wX4_dropWeakest ({ frames := 1, cells := 0, slots := 0, locals := 22 } : Room) (kPc D (TY t) ((wpl t h0 a0 d0)) [.ref h0] sz) (kQv D (TY t) ((wpl t h0 a0 r)) (va_A ((wpl t h0 a0 d0)) sz)) 0 0 (va_A ((wpl t h0 a0 d0)) sz) := by
  refine kE (cc := cX4_dropWeakest) (maxL := 3) (ret := none) (Qx := fun A => kQv D (TY t) ((wpl t h0 a0 r)) A) (lv0 := [(0, .ref h0)]) RX4 rfl (by decide) rfl (Nat.le_of_ble_eq_true rfl) rfl ?_
  intro p e s m args below meth c A ls hx hb hml hr hlocks hown hts hA hK hP hD hS hl
  have L18 := hts (.fieldLink RX4 18 "ChunkCarriers$Plan" "rivals" "[I") (List.mem_cons_of_mem _ w_80)
  have L21 := hts (.fieldLink RX4 21 "ChunkCarriers$Plan" "votes" "[I") (List.mem_cons_of_mem _ w_81)
  have L30 := hts (.fieldLink RX4 30 "ChunkCarriers$Plan" "chunks" "I") (List.mem_cons_of_mem _ w_512)
  have L38 := hts (.fieldLink RX4 38 "ChunkCarriers$Plan" "rivalCount" "I") (List.mem_cons_of_mem _ w_513)
  have L9 := hts (.fieldLink RX4 9 "ChunkCarriers$Plan" "places" "[I") (List.mem_cons_of_mem _ w_78)
  have inX4_ : ∀ w ∈ wsX40, w ∈ wX4_dropWeakest := fun w h => List.mem_cons_of_mem _ (inlX4 w h)
  have hP : va_P D vwCl ((wplF t h0 a0 (pl_places d0) (pl_entries d0) (pl_chunks d0) (pl_puts d0) (pl_newContainers d0) (pl_rivals d0) (pl_votes d0) (pl_rivalCount d0))) s.heap := hP
  have hD : va_D A ((wplF t h0 a0 (pl_places d0) (pl_entries d0) (pl_chunks d0) (pl_puts d0) (pl_newContainers d0) (pl_rivals d0) (pl_votes d0) (pl_rivalCount d0))) := hD
  refine lv_iconst (v := 0) hx hb (kd tdlX4_dropWeakest_0 0 rfl) (by decide) ?_
  refine lv_istore_n (lv' := [(1, .int 0), (0, .ref h0)]) hx hb (kd tdlX4_dropWeakest_0 1 rfl) rfl hl (by decide) rfl (fun ls hl => ?_)
  refine lv_iconst (v := 1) hx hb (kd tdlX4_dropWeakest_0 2 rfl) (by decide) ?_
  refine lv_istore_n (lv' := [(2, .int 1), (1, .int 0), (0, .ref h0)]) hx hb (kd tdlX4_dropWeakest_0 3 rfl) rfl hl (by decide) rfl (fun ls hl => ?_)
  have hK29 : ∀ k29 : Int32, K_X4_dropWeakest_29 d0 k29 = some r → ∀ (H : Heap) (locs : List Loc) (ls : Array Slot), va_P D vwCl ((wplF t h0 a0 (pl_places d0) (pl_entries d0) (pl_chunks d0) (pl_puts d0) (pl_newContainers d0) (pl_rivals d0) (pl_votes d0) (pl_rivalCount d0))) H → va_D A ((wplF t h0 a0 (pl_places d0) (pl_entries d0) (pl_chunks d0) (pl_puts d0) (pl_newContainers d0) (pl_rivals d0) (pl_votes d0) (pl_rivalCount d0))) → va_S A s.heap H locs → lv_has ls 3 [(0, .ref h0), (1, .int k29)] → W p l e ({ frames := 1, cells := 0, slots := 0, locals := 22 } : Room) s m args below meth c H locs 0 0 (MQ below (kQv D (TY t) ((wpl t h0 a0 r)) A) args s 0 0 A) (F0 m 29 ls []) := by
    intro k29 hF H locs ls hP hD hS hl
    refine lv_iconst (v := 0) hx hb (kd tdlX4_dropWeakest_0 17 rfl) (by decide) ?_
    refine lv_istore_n (lv' := [(2, .int 0), (0, .ref h0), (1, .int k29)]) hx hb (kd tdlX4_dropWeakest_0 18 rfl) rfl hl (by decide) rfl (fun ls hl => ?_)
    have hK67 : ∀ k67 : (Nat → Int32), K_X4_dropWeakest_67 d0 k29 k67 = some r → ∀ (H : Heap) (locs : List Loc) (ls : Array Slot), va_P D vwCl ((wplF t h0 a0 k67 (pl_entries d0) (pl_chunks d0) (pl_puts d0) (pl_newContainers d0) (pl_rivals d0) (pl_votes d0) (pl_rivalCount d0))) H → va_D A ((wplF t h0 a0 k67 (pl_entries d0) (pl_chunks d0) (pl_puts d0) (pl_newContainers d0) (pl_rivals d0) (pl_votes d0) (pl_rivalCount d0))) → va_S A s.heap H locs → lv_has ls 3 [(0, .ref h0), (1, .int k29)] → W p l e ({ frames := 1, cells := 0, slots := 0, locals := 22 } : Room) s m args below meth c H locs 0 0 (MQ below (kQv D (TY t) ((wpl t h0 a0 r)) A) args s 0 0 A) (F0 m 67 ls []) := by
      intro k67 hF H locs ls hP hD hS hl
      refine lv_aload_n hx hb (kd tdlX4_dropWeakest_0 39 rfl) rfl (lv_at hl 0 rfl) ?_
      refine lv_dup hx hb (kd tdlX4_dropWeakest_0 40 rfl) rfl ?_
      refine pl_g_rivalCount hx hb hts inX4_ hown hK hP L38 (kd tdlX4_dropWeakest_0 41 rfl) ?_
      refine lv_iconst (v := 1) hx hb (kd tdlX4_dropWeakest_0 42 rfl) (by decide) ?_
      refine lv_isub hx hb (kd tdlX4_dropWeakest_0 43 rfl) ?_
      refine pl_p_rivalCount hx hb hts inX4_ hown hK hP hD hS L38 (kd tdlX4_dropWeakest_0 44 rfl) (fun H locs hP hD hS => ?_)
      refine lv_aload_n hx hb (kd tdlX4_dropWeakest_1 0 rfl) rfl (lv_at hl 0 rfl) ?_
      refine pl_g_rivals hx hb hts inX4_ hown hK hP L18 (kd tdlX4_dropWeakest_1 1 rfl) ?_
      refine lv_iload_n hx hb (kd tdlX4_dropWeakest_1 2 rfl) rfl (lv_at hl 1 rfl) ?_
      refine lv_aload_n hx hb (kd tdlX4_dropWeakest_1 3 rfl) rfl (lv_at hl 0 rfl) ?_
      refine pl_g_rivals hx hb hts inX4_ hown hK hP L18 (kd tdlX4_dropWeakest_1 4 rfl) ?_
      refine lv_aload_n hx hb (kd tdlX4_dropWeakest_1 5 rfl) rfl (lv_at hl 0 rfl) ?_
      refine pl_g_rivalCount hx hb hts inX4_ hown hK hP L38 (kd tdlX4_dropWeakest_1 6 rfl) ?_
      obtain ⟨hi90, hF⟩ := kg hF
      refine pl_l_rivals hx hb hK hP hi90 (kd tdlX4_dropWeakest_1 7 rfl) ?_
      obtain ⟨hi91, hF⟩ := kg hF
      refine pl_s_rivals hx hb hK hP hD hS hi91 (kd tdlX4_dropWeakest_1 8 rfl) (fun H locs hP hD hS => ?_)
      refine lv_aload_n hx hb (kd tdlX4_dropWeakest_1 9 rfl) rfl (lv_at hl 0 rfl) ?_
      refine pl_g_votes hx hb hts inX4_ hown hK hP L21 (kd tdlX4_dropWeakest_1 10 rfl) ?_
      refine lv_iload_n hx hb (kd tdlX4_dropWeakest_1 11 rfl) rfl (lv_at hl 1 rfl) ?_
      refine lv_aload_n hx hb (kd tdlX4_dropWeakest_1 12 rfl) rfl (lv_at hl 0 rfl) ?_
      refine pl_g_votes hx hb hts inX4_ hown hK hP L21 (kd tdlX4_dropWeakest_1 13 rfl) ?_
      refine lv_aload_n hx hb (kd tdlX4_dropWeakest_1 14 rfl) rfl (lv_at hl 0 rfl) ?_
      refine pl_g_rivalCount hx hb hts inX4_ hown hK hP L38 (kd tdlX4_dropWeakest_1 15 rfl) ?_
      obtain ⟨hi105, hF⟩ := kg hF
      refine pl_l_votes hx hb hK hP hi105 (kd tdlX4_dropWeakest_1 16 rfl) ?_
      obtain ⟨hi106, hF⟩ := kg hF
      refine pl_s_votes hx hb hK hP hD hS hi106 (kd tdlX4_dropWeakest_1 17 rfl) (fun H locs hP hD hS => ?_)
      cases ko hF
      exact ke_v hx hb hr hlocks hK hP hD hS (kd tdlX4_dropWeakest_1 18 rfl)
    refine lp_ind (f := B_X4_dropWeakest_31 d0 k29 (K_X4_dropWeakest_67 d0 k29)) (r := r) (P := fun s31_ => ∀ (H : Heap) (locs : List Loc) (ls : Array Slot), va_P D vwCl ((wplF t h0 a0 s31_.2 (pl_entries d0) (pl_chunks d0) (pl_puts d0) (pl_newContainers d0) (pl_rivals d0) (pl_votes d0) (pl_rivalCount d0))) H → va_D A ((wplF t h0 a0 s31_.2 (pl_entries d0) (pl_chunks d0) (pl_puts d0) (pl_newContainers d0) (pl_rivals d0) (pl_votes d0) (pl_rivalCount d0))) → va_S A s.heap H locs → lv_has ls 3 [(0, .ref h0), (1, .int k29), (2, .int s31_.1)] → W p l e ({ frames := 1, cells := 0, slots := 0, locals := 22 } : Room) s m args below meth c H locs 0 0 (MQ below (kQv D (TY t) ((wpl t h0 a0 r)) A) args s 0 0 A) (F0 m 31 ls [])) ?_ FU (0, (pl_places d0)) hF _ _ _ hP hD hS (lv_sub hl [1, 2, 0] rfl)
    intro self31 ih31 s31_ hF H locs ls hP hD hS hl
    refine lv_iload_n hx hb (kd tdlX4_dropWeakest_0 19 rfl) rfl (lv_at hl 2 rfl) ?_
    refine lv_aload_n hx hb (kd tdlX4_dropWeakest_0 20 rfl) rfl (lv_at hl 0 rfl) ?_
    refine pl_g_chunks hx hb hts inX4_ hown hK hP L30 (kd tdlX4_dropWeakest_0 21 rfl) ?_
    refine lv_icmp_ge (tgt := 67) hx hb (kd tdlX4_dropWeakest_0 22 rfl) (by decide) (fun hc36 => ?_) (fun hc36 => ?_)
    · have hF := kt hc36 hF
      exact hK67 (s31_.2) hF _ _ _ hP hD hS (lv_sub hl [0, 1] rfl)
    · have hF := kf hc36 hF
      refine lv_aload_n hx hb (kd tdlX4_dropWeakest_0 23 rfl) rfl (lv_at hl 0 rfl) ?_
      refine pl_g_places hx hb hts inX4_ hown hK hP L9 (kd tdlX4_dropWeakest_0 24 rfl) ?_
      refine lv_iload_n hx hb (kd tdlX4_dropWeakest_0 25 rfl) rfl (lv_at hl 2 rfl) ?_
      obtain ⟨hi44, hF⟩ := kg hF
      refine pl_l_places hx hb hK hP hi44 (kd tdlX4_dropWeakest_0 26 rfl) ?_
      refine lv_aload_n hx hb (kd tdlX4_dropWeakest_0 27 rfl) rfl (lv_at hl 0 rfl) ?_
      refine pl_g_rivals hx hb hts inX4_ hown hK hP L18 (kd tdlX4_dropWeakest_0 28 rfl) ?_
      refine lv_iload_n hx hb (kd tdlX4_dropWeakest_0 29 rfl) rfl (lv_at hl 1 rfl) ?_
      obtain ⟨hi50, hF⟩ := kg hF
      refine pl_l_rivals hx hb hK hP hi50 (kd tdlX4_dropWeakest_0 30 rfl) ?_
      refine lv_icmp_ne (tgt := 61) hx hb (kd tdlX4_dropWeakest_0 31 rfl) (by decide) (fun hc51 => ?_) (fun hc51 => ?_)
      · have hF := kf hc51 hF
        refine lv_iinc (v := (s31_.1 + 1)) (lv' := [(2, .int (s31_.1 + 1)), (0, .ref h0), (1, .int k29)]) hx hb (kd tdlX4_dropWeakest_0 37 rfl) hl (k := 2) rfl rfl (by decide) rfl (fun ls hl => ?_)
        refine lv_goto (tgt := 31) hx hb (kd tdlX4_dropWeakest_0 38 rfl) (by decide) ?_
        exact ih31 ((s31_.1 + 1), s31_.2) hF _ _ _ hP hD hS (lv_sub hl [1, 2, 0] rfl)
      · have hF := kt hc51 hF
        refine lv_aload_n hx hb (kd tdlX4_dropWeakest_0 32 rfl) rfl (lv_at hl 0 rfl) ?_
        refine pl_g_places hx hb hts inX4_ hown hK hP L9 (kd tdlX4_dropWeakest_0 33 rfl) ?_
        refine lv_iload_n hx hb (kd tdlX4_dropWeakest_0 34 rfl) rfl (lv_at hl 2 rfl) ?_
        refine lv_iconst (v := (-1)) hx hb (kd tdlX4_dropWeakest_0 35 rfl) (by decide) ?_
        obtain ⟨hi60, hF⟩ := kg hF
        refine pl_s_places hx hb hK hP hD hS hi60 (kd tdlX4_dropWeakest_0 36 rfl) (fun H locs hP hD hS => ?_)
        refine lv_iinc (v := (s31_.1 + 1)) (lv' := [(2, .int (s31_.1 + 1)), (0, .ref h0), (1, .int k29)]) hx hb (kd tdlX4_dropWeakest_0 37 rfl) hl (k := 2) rfl rfl (by decide) rfl (fun ls hl => ?_)
        refine lv_goto (tgt := 31) hx hb (kd tdlX4_dropWeakest_0 38 rfl) (by decide) ?_
        exact ih31 ((s31_.1 + 1), (upd s31_.2 (Int32.toNatClampNeg s31_.1) (-1))) hF _ _ _ hP hD hS (lv_sub hl [1, 2, 0] rfl)
  refine lp_ind (f := B_X4_dropWeakest_4 d0 (K_X4_dropWeakest_29 d0)) (r := r) (P := fun s4_ => ∀ (H : Heap) (locs : List Loc) (ls : Array Slot), va_P D vwCl ((wplF t h0 a0 (pl_places d0) (pl_entries d0) (pl_chunks d0) (pl_puts d0) (pl_newContainers d0) (pl_rivals d0) (pl_votes d0) (pl_rivalCount d0))) H → va_D A ((wplF t h0 a0 (pl_places d0) (pl_entries d0) (pl_chunks d0) (pl_puts d0) (pl_newContainers d0) (pl_rivals d0) (pl_votes d0) (pl_rivalCount d0))) → va_S A s.heap H locs → lv_has ls 3 [(0, .ref h0), (1, .int s4_.1), (2, .int s4_.2)] → W p l e ({ frames := 1, cells := 0, slots := 0, locals := 22 } : Room) s m args below meth c H locs 0 0 (MQ below (kQv D (TY t) ((wpl t h0 a0 r)) A) args s 0 0 A) (F0 m 4 ls [])) ?_ FU (0, 1) hF _ _ _ hP hD hS (lv_sub hl [2, 1, 0] rfl)
  intro self4 ih4 s4_ hF H locs ls hP hD hS hl
  refine lv_iload_n hx hb (kd tdlX4_dropWeakest_0 4 rfl) rfl (lv_at hl 2 rfl) ?_
  refine lv_aload_n hx hb (kd tdlX4_dropWeakest_0 5 rfl) rfl (lv_at hl 0 rfl) ?_
  refine pl_g_rivalCount hx hb hts inX4_ hown hK hP L38 (kd tdlX4_dropWeakest_0 6 rfl) ?_
  refine lv_icmp_ge (tgt := 29) hx hb (kd tdlX4_dropWeakest_0 7 rfl) (by decide) (fun hc9 => ?_) (fun hc9 => ?_)
  · have hF := kt hc9 hF
    exact hK29 (s4_.1) hF _ _ _ hP hD hS (lv_sub hl [0, 1] rfl)
  · have hF := kf hc9 hF
    refine lv_aload_n hx hb (kd tdlX4_dropWeakest_0 8 rfl) rfl (lv_at hl 0 rfl) ?_
    refine lv_iload_n hx hb (kd tdlX4_dropWeakest_0 9 rfl) rfl (lv_at hl 2 rfl) ?_
    refine lv_iload_n hx hb (kd tdlX4_dropWeakest_0 10 rfl) rfl (lv_at hl 1 rfl) ?_
    obtain ⟨v15, e15, hF⟩ := kc hF
    refine kc_i0 (w1 := ((wplF t h0 a0 (pl_places d0) (pl_entries d0) (pl_chunks d0) (pl_puts d0) (pl_newContainers d0) (pl_rivals d0) (pl_votes d0) (pl_rivalCount d0)))) hP hD hS hA (kr_V0 (Qx := (fun A => kQi D (TY t) ((wplF t h0 a0 (pl_places d0) (pl_entries d0) (pl_chunks d0) (pl_puts d0) (pl_newContainers d0) (pl_rivals d0) (pl_votes d0) (pl_rivalCount d0))) v15 A)) (As := [.int s4_.2, .int s4_.1]) (rest := []) ⟨hx, hb, hml, hown, hts⟩ hK hP hD (c_X4_isWeaker l D t h0 a0 d0 _ s4_.2 s4_.1 v15 e15) (cwV 2 hts (gcX4_isWeaker w_542) rfl rfl rfl hdX4_isWeakerV ⟨Nat.le_of_ble_eq_true rfl, Nat.le_of_ble_eq_true rfl⟩) (ci := 3) (q0 := 0) rfl rfl rfl hl.1 rfl (Nat.le_of_ble_eq_true rfl) (kd tdlX4_dropWeakest_0 11 rfl) ⟨Nat.zero_le _, Nat.zero_le _⟩) (fun H locs hP hD hS => ?_)
    refine lv_if_eq (tgt := 23) hx hb (kd tdlX4_dropWeakest_0 12 rfl) (by decide) (fun hc18 => ?_) (fun hc18 => ?_)
    · have hF := kt hc18 hF
      refine lv_iinc (v := (s4_.2 + 1)) (lv' := [(2, .int (s4_.2 + 1)), (0, .ref h0), (1, .int s4_.1)]) hx hb (kd tdlX4_dropWeakest_0 15 rfl) hl (k := 2) rfl rfl (by decide) rfl (fun ls hl => ?_)
      refine lv_goto (tgt := 4) hx hb (kd tdlX4_dropWeakest_0 16 rfl) (by decide) ?_
      exact ih4 (s4_.1, (s4_.2 + 1)) hF _ _ _ hP hD hS (lv_sub hl [1, 2, 0] rfl)
    · have hF := kf hc18 hF
      refine lv_iload_n hx hb (kd tdlX4_dropWeakest_0 13 rfl) rfl (lv_at hl 2 rfl) ?_
      refine lv_istore_n (lv' := [(1, .int s4_.2), (0, .ref h0), (2, .int s4_.2)]) hx hb (kd tdlX4_dropWeakest_0 14 rfl) rfl hl (by decide) rfl (fun ls hl => ?_)
      refine lv_iinc (v := (s4_.2 + 1)) (lv' := [(2, .int (s4_.2 + 1)), (1, .int s4_.2), (0, .ref h0)]) hx hb (kd tdlX4_dropWeakest_0 15 rfl) hl (k := 2) rfl rfl (by decide) rfl (fun ls hl => ?_)
      refine lv_goto (tgt := 4) hx hb (kd tdlX4_dropWeakest_0 16 rfl) (by decide) ?_
      exact ih4 (s4_.2, (s4_.2 + 1)) hF _ _ _ hP hD hS (lv_sub hl [2, 1, 0] rfl)
set_option maxHeartbeats 4000000 in
set_option maxRecDepth 100000 in
theorem c_X4_repeats (l : Launch) (D : va_G) (t : Nat → ClassId) (h0 : Nat) (a0 : Nat → Nat) (d0 : PLT) (h1 : Nat) (a1 : Nat → Nat) (d1 : SMT) (sz : Nat) (p2 : Int32) (r : Int32 × PLT) (hF : F_X4_repeats d0 d1 p2 = some r) : Met l yX4_repeats wX4_repeats ({ frames := 1, cells := 0, slots := 0, locals := 21 } : Room) (kPc D (TY t) ((wpl t h0 a0 d0) ++ (wsm t h1 a1 d1)) [.ref h0, .ref h1, .int p2] sz) (kQi D (TY t) ((wpl t h0 a0 r.2) ++ (wsm t h1 a1 d1)) r.1 (va_A ((wpl t h0 a0 d0) ++ (wsm t h1 a1 d1)) sz)) 0 0 (va_A ((wpl t h0 a0 d0) ++ (wsm t h1 a1 d1)) sz) := by
  refine kE (cc := cX4_repeats) (maxL := 4) (ret := (some .boolean)) (Qx := fun A => kQi D (TY t) ((wpl t h0 a0 r.2) ++ (wsm t h1 a1 d1)) r.1 A) (lv0 := [(0, .ref h0), (1, .ref h1), (2, .int p2)]) RX4 rfl (by decide) rfl (Nat.le_of_ble_eq_true rfl) rfl ?_
  intro p e s m args below meth c A ls hx hb hml hr hlocks hown hts hA hK hP hD hS hl
  have L15 := hts (.fieldLink RX4 15 "ChunkCarriers$Plan" "entries" "[I") (List.mem_cons_of_mem _ w_79)
  have L9 := hts (.fieldLink RX4 9 "ChunkCarriers$Plan" "places" "[I") (List.mem_cons_of_mem _ w_78)
  have inX4_ : ∀ w ∈ wsX40, w ∈ wX4_repeats := fun w h => List.mem_cons_of_mem _ (inlX4 w h)
  have hP : va_P D vwCl ((wplF t h0 a0 (pl_places d0) (pl_entries d0) (pl_chunks d0) (pl_puts d0) (pl_newContainers d0) (pl_rivals d0) (pl_votes d0) (pl_rivalCount d0)) ++ (wsmF t h1 a1 (sm_worths d1) (sm_codes d1) (sm_letters d1) (sm_chunks d1))) s.heap := hP
  have hD : va_D A ((wplF t h0 a0 (pl_places d0) (pl_entries d0) (pl_chunks d0) (pl_puts d0) (pl_newContainers d0) (pl_rivals d0) (pl_votes d0) (pl_rivalCount d0)) ++ (wsmF t h1 a1 (sm_worths d1) (sm_codes d1) (sm_letters d1) (sm_chunks d1))) := hD
  refine lv_iconst (v := 0) hx hb (kd tdlX4_repeats_0 0 rfl) (by decide) ?_
  refine lv_istore_n (lv' := [(3, .int 0), (0, .ref h0), (1, .ref h1), (2, .int p2)]) hx hb (kd tdlX4_repeats_0 1 rfl) rfl hl (by decide) rfl (fun ls hl => ?_)
  have hK20 : ∀ k20 : Int32, K_X4_repeats_20 p2 d0 k20 = some r → ∀ (H : Heap) (locs : List Loc) (ls : Array Slot), va_P D vwCl ((wplF t h0 a0 (pl_places d0) (pl_entries d0) (pl_chunks d0) (pl_puts d0) (pl_newContainers d0) (pl_rivals d0) (pl_votes d0) (pl_rivalCount d0)) ++ (wsmF t h1 a1 (sm_worths d1) (sm_codes d1) (sm_letters d1) (sm_chunks d1))) H → va_D A ((wplF t h0 a0 (pl_places d0) (pl_entries d0) (pl_chunks d0) (pl_puts d0) (pl_newContainers d0) (pl_rivals d0) (pl_votes d0) (pl_rivalCount d0)) ++ (wsmF t h1 a1 (sm_worths d1) (sm_codes d1) (sm_letters d1) (sm_chunks d1))) → va_S A s.heap H locs → lv_has ls 4 [(0, .ref h0), (2, .int p2), (3, .int k20)] → W p l e ({ frames := 1, cells := 0, slots := 0, locals := 21 } : Room) s m args below meth c H locs 0 0 (MQ below (kQi D (TY t) ((wpl t h0 a0 r.2) ++ (wsm t h1 a1 d1)) r.1 A) args s 0 0 A) (F0 m 20 ls []) := by
    intro k20 hF H locs ls hP hD hS hl
    refine lv_aload_n hx hb (kd tdlX4_repeats_0 12 rfl) rfl (lv_at hl 0 rfl) ?_
    refine va_get (D := D) (ci := 3) (v := .ref (a0 0)) (C := RX4) (T := TX4) (N := 8) hx hb hts inX4_ hown hK hP 0 rfl rfl 0 (by decide) L9 (fun _ h9 => h9) rfl (kd tdlX4_repeats_0 13 rfl) ?_
    refine lv_iload_n hx hb (kd tdlX4_repeats_0 14 rfl) rfl (lv_at hl 1 rfl) ?_
    refine lv_aload_n hx hb (kd tdlX4_repeats_0 15 rfl) rfl (lv_at hl 0 rfl) ?_
    refine va_get (D := D) (ci := 3) (v := .ref (a0 0)) (C := RX4) (T := TX4) (N := 8) hx hb hts inX4_ hown hK hP 0 rfl rfl 0 (by decide) L9 (fun _ h9 => h9) rfl (kd tdlX4_repeats_0 16 rfl) ?_
    refine lv_iload_n hx hb (kd tdlX4_repeats_0 17 rfl) rfl (lv_at hl 2 rfl) ?_
    obtain ⟨hi30, hF⟩ := kg hF
    refine va_iald (D := D) (tys := TY t) hx hb hK hP 1 0 rfl rfl hi30 (kd tdlX4_repeats_0 18 rfl) ?_
    obtain ⟨hi31, hF⟩ := kg hF
    refine va_iast (D := D) (tys := TY t) hx hb hK hP hD hS 1 0 rfl rfl hi31 (kd tdlX4_repeats_0 19 rfl) (fun H locs hP hD hS => ?_)
    have hP : va_P D vwCl ((wplF t h0 a0 (upd (pl_places d0) (Int32.toNatClampNeg p2) ((pl_places d0) (Int32.toNatClampNeg k20))) (pl_entries d0) (pl_chunks d0) (pl_puts d0) (pl_newContainers d0) (pl_rivals d0) (pl_votes d0) (pl_rivalCount d0)) ++ (wsmF t h1 a1 (sm_worths d1) (sm_codes d1) (sm_letters d1) (sm_chunks d1))) H := hP
    have hD : va_D A ((wplF t h0 a0 (upd (pl_places d0) (Int32.toNatClampNeg p2) ((pl_places d0) (Int32.toNatClampNeg k20))) (pl_entries d0) (pl_chunks d0) (pl_puts d0) (pl_newContainers d0) (pl_rivals d0) (pl_votes d0) (pl_rivalCount d0)) ++ (wsmF t h1 a1 (sm_worths d1) (sm_codes d1) (sm_letters d1) (sm_chunks d1))) := hD
    refine lv_aload_n hx hb (kd tdlX4_repeats_0 20 rfl) rfl (lv_at hl 0 rfl) ?_
    refine va_get (D := D) (ci := 3) (v := .ref (a0 1)) (C := RX4) (T := TX4) (N := 8) hx hb hts inX4_ hown hK hP 0 rfl rfl 1 (by decide) L15 (fun _ h9 => h9) rfl (kd tdlX4_repeats_0 21 rfl) ?_
    refine lv_iload_n hx hb (kd tdlX4_repeats_0 22 rfl) rfl (lv_at hl 1 rfl) ?_
    refine lv_aload_n hx hb (kd tdlX4_repeats_0 23 rfl) rfl (lv_at hl 0 rfl) ?_
    refine va_get (D := D) (ci := 3) (v := .ref (a0 1)) (C := RX4) (T := TX4) (N := 8) hx hb hts inX4_ hown hK hP 0 rfl rfl 1 (by decide) L15 (fun _ h9 => h9) rfl (kd tdlX4_repeats_0 24 rfl) ?_
    refine lv_iload_n hx hb (kd tdlX4_repeats_0 25 rfl) rfl (lv_at hl 2 rfl) ?_
    obtain ⟨hi42, hF⟩ := kg hF
    refine va_iald (D := D) (tys := TY t) hx hb hK hP 2 0 rfl rfl hi42 (kd tdlX4_repeats_0 26 rfl) ?_
    obtain ⟨hi43, hF⟩ := kg hF
    refine va_iast (D := D) (tys := TY t) hx hb hK hP hD hS 2 0 rfl rfl hi43 (kd tdlX4_repeats_0 27 rfl) (fun H locs hP hD hS => ?_)
    have hP : va_P D vwCl ((wplF t h0 a0 (upd (pl_places d0) (Int32.toNatClampNeg p2) ((pl_places d0) (Int32.toNatClampNeg k20))) (upd (pl_entries d0) (Int32.toNatClampNeg p2) ((pl_entries d0) (Int32.toNatClampNeg k20))) (pl_chunks d0) (pl_puts d0) (pl_newContainers d0) (pl_rivals d0) (pl_votes d0) (pl_rivalCount d0)) ++ (wsmF t h1 a1 (sm_worths d1) (sm_codes d1) (sm_letters d1) (sm_chunks d1))) H := hP
    have hD : va_D A ((wplF t h0 a0 (upd (pl_places d0) (Int32.toNatClampNeg p2) ((pl_places d0) (Int32.toNatClampNeg k20))) (upd (pl_entries d0) (Int32.toNatClampNeg p2) ((pl_entries d0) (Int32.toNatClampNeg k20))) (pl_chunks d0) (pl_puts d0) (pl_newContainers d0) (pl_rivals d0) (pl_votes d0) (pl_rivalCount d0)) ++ (wsmF t h1 a1 (sm_worths d1) (sm_codes d1) (sm_letters d1) (sm_chunks d1))) := hD
    refine lv_iconst (v := 1) hx hb (kd tdlX4_repeats_0 28 rfl) (by decide) ?_
    cases ko hF
    exact ke_z hx hb hr hlocks rfl hK hP hD hS rfl (kd tdlX4_repeats_0 29 rfl)
  refine lp_ind (f := B_X4_repeats_2 p2 d0 d1 (K_X4_repeats_20 p2 d0)) (r := r) (P := fun s2_ => ∀ (H : Heap) (locs : List Loc) (ls : Array Slot), va_P D vwCl ((wplF t h0 a0 (pl_places d0) (pl_entries d0) (pl_chunks d0) (pl_puts d0) (pl_newContainers d0) (pl_rivals d0) (pl_votes d0) (pl_rivalCount d0)) ++ (wsmF t h1 a1 (sm_worths d1) (sm_codes d1) (sm_letters d1) (sm_chunks d1))) H → va_D A ((wplF t h0 a0 (pl_places d0) (pl_entries d0) (pl_chunks d0) (pl_puts d0) (pl_newContainers d0) (pl_rivals d0) (pl_votes d0) (pl_rivalCount d0)) ++ (wsmF t h1 a1 (sm_worths d1) (sm_codes d1) (sm_letters d1) (sm_chunks d1))) → va_S A s.heap H locs → lv_has ls 4 [(0, .ref h0), (1, .ref h1), (2, .int p2), (3, .int s2_)] → W p l e ({ frames := 1, cells := 0, slots := 0, locals := 21 } : Room) s m args below meth c H locs 0 0 (MQ below (kQi D (TY t) ((wpl t h0 a0 r.2) ++ (wsm t h1 a1 d1)) r.1 A) args s 0 0 A) (F0 m 2 ls [])) ?_ FU (0) hF _ _ _ hP hD hS (lv_sub hl [1, 2, 3, 0] rfl)
  intro self2 ih2 s2_ hF H locs ls hP hD hS hl
  refine lv_iload_n hx hb (kd tdlX4_repeats_0 2 rfl) rfl (lv_at hl 3 rfl) ?_
  refine lv_iload_n hx hb (kd tdlX4_repeats_0 3 rfl) rfl (lv_at hl 2 rfl) ?_
  refine lv_icmp_ge (tgt := 52) hx hb (kd tdlX4_repeats_0 4 rfl) (by decide) (fun hc4 => ?_) (fun hc4 => ?_)
  · have hF := kt hc4 hF
    refine lv_iconst (v := 0) hx hb (kd tdlX4_repeats_0 32 rfl) (by decide) ?_
    cases ko hF
    exact ke_z hx hb hr hlocks rfl hK hP hD hS rfl (kd tdlX4_repeats_0 33 rfl)
  · have hF := kf hc4 hF
    refine lv_aload_n hx hb (kd tdlX4_repeats_0 5 rfl) rfl (lv_at hl 1 rfl) ?_
    refine lv_iload_n hx hb (kd tdlX4_repeats_0 6 rfl) rfl (lv_at hl 3 rfl) ?_
    obtain ⟨v9, e9, hF⟩ := kc hF
    refine kc_iR hK hP hD hS hA [5, 6, 7] rfl (kr_V (Qx := (fun A => kQi D (TY t) ((wsmF t h1 a1 (sm_worths d1) (sm_codes d1) (sm_letters d1) (sm_chunks d1))) v9 A)) (wc := ((wsmF t h1 a1 (sm_worths d1) (sm_codes d1) (sm_letters d1) (sm_chunks d1)))) (As := [.int s2_]) (rest := []) ⟨hx, hb, hml, hown, hts⟩ hK hP hD [5, 6, 7] nd_5_6_7 rfl (c_X6_codeAt l D t h1 a1 d1 _ s2_ v9 e9) (cwV 1 hts (gcX6_codeAt w_522) rfl rfl rfl hdX6_codeAtV ⟨Nat.le_of_ble_eq_true rfl, Nat.le_of_ble_eq_true rfl⟩) (ci := 5) (q0 := 5) rfl rfl rfl hl.1 rfl (Nat.le_of_ble_eq_true rfl) (kd tdlX4_repeats_0 7 rfl) ⟨Nat.zero_le _, Nat.zero_le _⟩) (fun H locs hP hS => ?_)
    refine lv_aload_n hx hb (kd tdlX4_repeats_0 8 rfl) rfl (lv_at hl 1 rfl) ?_
    refine lv_iload_n hx hb (kd tdlX4_repeats_0 9 rfl) rfl (lv_at hl 2 rfl) ?_
    obtain ⟨v14, e14, hF⟩ := kc hF
    refine kc_iR hK hP hD hS hA [5, 6, 7] rfl (kr_V (Qx := (fun A => kQi D (TY t) ((wsmF t h1 a1 (sm_worths d1) (sm_codes d1) (sm_letters d1) (sm_chunks d1))) v14 A)) (wc := ((wsmF t h1 a1 (sm_worths d1) (sm_codes d1) (sm_letters d1) (sm_chunks d1)))) (As := [.int p2]) (rest := [.int v9]) ⟨hx, hb, hml, hown, hts⟩ hK hP hD [5, 6, 7] nd_5_6_7 rfl (c_X6_codeAt l D t h1 a1 d1 _ p2 v14 e14) (cwV 1 hts (gcX6_codeAt w_522) rfl rfl rfl hdX6_codeAtV ⟨Nat.le_of_ble_eq_true rfl, Nat.le_of_ble_eq_true rfl⟩) (ci := 5) (q0 := 5) rfl rfl rfl hl.1 rfl (Nat.le_of_ble_eq_true rfl) (kd tdlX4_repeats_0 10 rfl) ⟨Nat.zero_le _, Nat.zero_le _⟩) (fun H locs hP hS => ?_)
    refine lv_icmp_ne (tgt := 46) hx hb (kd tdlX4_repeats_0 11 rfl) (by decide) (fun hc17 => ?_) (fun hc17 => ?_)
    · have hF := kf hc17 hF
      refine lv_iinc (v := (s2_ + 1)) (lv' := [(3, .int (s2_ + 1)), (0, .ref h0), (1, .ref h1), (2, .int p2)]) hx hb (kd tdlX4_repeats_0 30 rfl) hl (k := 3) rfl rfl (by decide) rfl (fun ls hl => ?_)
      refine lv_goto (tgt := 2) hx hb (kd tdlX4_repeats_0 31 rfl) (by decide) ?_
      exact ih2 ((s2_ + 1)) hF _ _ _ hP hD hS (lv_sub hl [1, 2, 3, 0] rfl)
    · have hF := kt hc17 hF
      exact hK20 (s2_) hF _ _ _ hP hD hS (lv_sub hl [0, 2, 3] rfl)
set_option maxHeartbeats 4000000 in
set_option maxRecDepth 100000 in
theorem c_X4_layOut (l : Launch) (D : va_G) (t : Nat → ClassId) (h0 : Nat) (a0 : Nat → Nat) (d0 : PLT) (h1 : Nat) (a1 : Nat → Nat) (d1 : DKT) (h2 : Nat) (a2 : Nat → Nat) (d2 : SMT) (sz : Nat) (p3 : Int32) (r : PLT) (hF : F_X4_layOut d0 d1 d2 p3 = some r) : Met l yX4_layOut wX4_layOut ({ frames := 3, cells := 0, slots := 0, locals := 66 } : Room) (kPc D (TY t) ((wpl t h0 a0 d0) ++ (wdk t h1 a1 d1) ++ (wsm t h2 a2 d2)) [.ref h0, .ref h1, .ref h2, .int p3] sz) (kQv D (TY t) ((wpl t h0 a0 r) ++ (wdk t h1 a1 d1) ++ (wsm t h2 a2 d2)) (va_A ((wpl t h0 a0 d0) ++ (wdk t h1 a1 d1) ++ (wsm t h2 a2 d2)) sz)) 0 0 (va_A ((wpl t h0 a0 d0) ++ (wdk t h1 a1 d1) ++ (wsm t h2 a2 d2)) sz) := by
  refine kE (cc := cX4_layOut) (maxL := 7) (ret := none) (Qx := fun A => kQv D (TY t) ((wpl t h0 a0 r) ++ (wdk t h1 a1 d1) ++ (wsm t h2 a2 d2)) A) (lv0 := [(0, .ref h0), (1, .ref h1), (2, .ref h2), (3, .int p3)]) RX4 rfl (by decide) rfl (Nat.le_of_ble_eq_true rfl) rfl ?_
  intro p e s m args below meth c A ls hx hb hml hr hlocks hown hts hA hK hP hD hS hl
  have L15 := hts (.fieldLink RX4 15 "ChunkCarriers$Plan" "entries" "[I") (List.mem_cons_of_mem _ w_79)
  have L24 := hts (.fieldLink RX4 24 "ChunkCarriers$Stream" "chunks" "I") (List.mem_cons_of_mem _ w_511)
  have L30 := hts (.fieldLink RX4 30 "ChunkCarriers$Plan" "chunks" "I") (List.mem_cons_of_mem _ w_512)
  have L38 := hts (.fieldLink RX4 38 "ChunkCarriers$Plan" "rivalCount" "I") (List.mem_cons_of_mem _ w_513)
  have L44 := hts (.fieldLink RX4 44 "ChunkCarriers$Plan" "puts" "I") (List.mem_cons_of_mem _ w_514)
  have L47 := hts (.fieldLink RX4 47 "ChunkCarriers$Plan" "newContainers" "I") (List.mem_cons_of_mem _ w_515)
  have L71 := hts (.fieldLink RX4 71 "ChunkCarriers$Desk" "containers" "I") (List.mem_cons_of_mem _ w_516)
  have L74 := hts (.fieldLink RX4 74 "ChunkCarriers$Desk" "entries" "I") (List.mem_cons_of_mem _ w_517)
  have L9 := hts (.fieldLink RX4 9 "ChunkCarriers$Plan" "places" "[I") (List.mem_cons_of_mem _ w_78)
  have inX1_ : ∀ w ∈ wsX10, w ∈ wX4_layOut := fun w h => List.mem_cons_of_mem _ (inlX1 w h)
  have inX4_ : ∀ w ∈ wsX40, w ∈ wX4_layOut := fun w h => List.mem_cons_of_mem _ (inlX4 w h)
  have inX6_ : ∀ w ∈ wsX60, w ∈ wX4_layOut := fun w h => List.mem_cons_of_mem _ (inlX6 w h)
  have hP : va_P D vwCl ((wplF t h0 a0 (pl_places d0) (pl_entries d0) (pl_chunks d0) (pl_puts d0) (pl_newContainers d0) (pl_rivals d0) (pl_votes d0) (pl_rivalCount d0)) ++ (wdkF t h1 a1 (dk_settings d1) (dk_numbers d1) (dk_capacities d1) (dk_firsts d1) (dk_containers d1) (dk_codes d1) (dk_places d1) (dk_uses d1) (dk_entries d1) (dk_references d1) (dk_lengths d1) (dk_nextNumber d1) (dk_carried d1)) ++ (wsmF t h2 a2 (sm_worths d2) (sm_codes d2) (sm_letters d2) (sm_chunks d2))) s.heap := hP
  have hD : va_D A ((wplF t h0 a0 (pl_places d0) (pl_entries d0) (pl_chunks d0) (pl_puts d0) (pl_newContainers d0) (pl_rivals d0) (pl_votes d0) (pl_rivalCount d0)) ++ (wdkF t h1 a1 (dk_settings d1) (dk_numbers d1) (dk_capacities d1) (dk_firsts d1) (dk_containers d1) (dk_codes d1) (dk_places d1) (dk_uses d1) (dk_entries d1) (dk_references d1) (dk_lengths d1) (dk_nextNumber d1) (dk_carried d1)) ++ (wsmF t h2 a2 (sm_worths d2) (sm_codes d2) (sm_letters d2) (sm_chunks d2))) := hD
  refine lv_aload_n hx hb (kd tdlX4_layOut_0 0 rfl) rfl (lv_at hl 0 rfl) ?_
  refine lv_aload_n hx hb (kd tdlX4_layOut_0 1 rfl) rfl (lv_at hl 2 rfl) ?_
  refine va_get (D := D) (ci := 5) (v := .int (sm_chunks d2)) (C := RX6) (T := TX6) (N := 4) hx hb hts inX6_ hown hK hP 15 rfl rfl 3 (by decide) L24 (fun _ h9 => h9) rfl (kd tdlX4_layOut_0 2 rfl) ?_
  refine va_put (D := D) (ci := 3) (v := .int (sm_chunks d2)) (ty := .int) (C := RX4) (T := TX4) (N := 8) hx hb hts inX4_ tyX4 tyX4_ok nmX4 hown hK hP hD hS 0 rfl rfl 2 (by decide) L30 (fun _ h9 => h9) rfl (by decide +kernel) rfl rfl (Nat.le_of_ble_eq_true rfl) (kd tdlX4_layOut_0 3 rfl) (fun H locs hP hD hS => ?_)
  have hP : va_P D vwCl ((wplF t h0 a0 (pl_places d0) (pl_entries d0) (sm_chunks d2) (pl_puts d0) (pl_newContainers d0) (pl_rivals d0) (pl_votes d0) (pl_rivalCount d0)) ++ (wdkF t h1 a1 (dk_settings d1) (dk_numbers d1) (dk_capacities d1) (dk_firsts d1) (dk_containers d1) (dk_codes d1) (dk_places d1) (dk_uses d1) (dk_entries d1) (dk_references d1) (dk_lengths d1) (dk_nextNumber d1) (dk_carried d1)) ++ (wsmF t h2 a2 (sm_worths d2) (sm_codes d2) (sm_letters d2) (sm_chunks d2))) H := hP
  have hD : va_D A ((wplF t h0 a0 (pl_places d0) (pl_entries d0) (sm_chunks d2) (pl_puts d0) (pl_newContainers d0) (pl_rivals d0) (pl_votes d0) (pl_rivalCount d0)) ++ (wdkF t h1 a1 (dk_settings d1) (dk_numbers d1) (dk_capacities d1) (dk_firsts d1) (dk_containers d1) (dk_codes d1) (dk_places d1) (dk_uses d1) (dk_entries d1) (dk_references d1) (dk_lengths d1) (dk_nextNumber d1) (dk_carried d1)) ++ (wsmF t h2 a2 (sm_worths d2) (sm_codes d2) (sm_letters d2) (sm_chunks d2))) := hD
  refine lv_aload_n hx hb (kd tdlX4_layOut_0 4 rfl) rfl (lv_at hl 0 rfl) ?_
  refine lv_aload_n hx hb (kd tdlX4_layOut_0 5 rfl) rfl (lv_at hl 1 rfl) ?_
  refine lv_aload_n hx hb (kd tdlX4_layOut_0 6 rfl) rfl (lv_at hl 2 rfl) ?_
  obtain ⟨v11, e11, hF⟩ := kc hF
  refine kc_v0 (w1 := ((wplF t h0 a0 (pl_places v11) (pl_entries v11) (pl_chunks v11) (pl_puts v11) (pl_newContainers v11) (pl_rivals v11) (pl_votes v11) (pl_rivalCount v11)) ++ (wdkF t h1 a1 (dk_settings d1) (dk_numbers d1) (dk_capacities d1) (dk_firsts d1) (dk_containers d1) (dk_codes d1) (dk_places d1) (dk_uses d1) (dk_entries d1) (dk_references d1) (dk_lengths d1) (dk_nextNumber d1) (dk_carried d1)) ++ (wsmF t h2 a2 (sm_worths d2) (sm_codes d2) (sm_letters d2) (sm_chunks d2)))) hP hD hS hA (kr_V0 (Qx := (fun A => kQv D (TY t) ((wplF t h0 a0 (pl_places v11) (pl_entries v11) (pl_chunks v11) (pl_puts v11) (pl_newContainers v11) (pl_rivals v11) (pl_votes v11) (pl_rivalCount v11)) ++ (wdkF t h1 a1 (dk_settings d1) (dk_numbers d1) (dk_capacities d1) (dk_firsts d1) (dk_containers d1) (dk_codes d1) (dk_places d1) (dk_uses d1) (dk_entries d1) (dk_references d1) (dk_lengths d1) (dk_nextNumber d1) (dk_carried d1)) ++ (wsmF t h2 a2 (sm_worths d2) (sm_codes d2) (sm_letters d2) (sm_chunks d2))) A)) (As := [.ref h1, .ref h2]) (rest := []) ⟨hx, hb, hml, hown, hts⟩ hK hP hD (c_X4_findHomes l D t h0 a0 ((pl_places d0), (pl_entries d0), (sm_chunks d2), (pl_puts d0), (pl_newContainers d0), (pl_rivals d0), (pl_votes d0), (pl_rivalCount d0)) h1 a1 d1 h2 a2 d2 _  v11 e11) (cwV 2 hts (gcX4_findHomes w_518) rfl rfl rfl hdX4_findHomesV ⟨Nat.le_of_ble_eq_true rfl, Nat.le_of_ble_eq_true rfl⟩) (ci := 3) (q0 := 0) rfl rfl rfl hl.1 rfl (Nat.le_of_ble_eq_true rfl) (kd tdlX4_layOut_0 7 rfl) ⟨Nat.zero_le _, Nat.zero_le _⟩) (fun H locs hP hD hS => ?_)
  refine lv_aload_n hx hb (kd tdlX4_layOut_0 8 rfl) rfl (lv_at hl 0 rfl) ?_
  obtain ⟨v15, e15, hF⟩ := kc hF
  refine kc_v (w1 := ((wplF t h0 a0 (pl_places v15) (pl_entries v15) (pl_chunks v15) (pl_puts v15) (pl_newContainers v15) (pl_rivals v15) (pl_votes v15) (pl_rivalCount v15)))) (W1 := ((wplF t h0 a0 (pl_places v15) (pl_entries v15) (pl_chunks v15) (pl_puts v15) (pl_newContainers v15) (pl_rivals v15) (pl_votes v15) (pl_rivalCount v15)) ++ (wdkF t h1 a1 (dk_settings d1) (dk_numbers d1) (dk_capacities d1) (dk_firsts d1) (dk_containers d1) (dk_codes d1) (dk_places d1) (dk_uses d1) (dk_entries d1) (dk_references d1) (dk_lengths d1) (dk_nextNumber d1) (dk_carried d1)) ++ (wsmF t h2 a2 (sm_worths d2) (sm_codes d2) (sm_letters d2) (sm_chunks d2)))) hK hP hD hS hA [0, 1, 2, 3, 4] nd_0_1_2_3_4 rfl rfl rfl (kr_V (Qx := (fun A => kQv D (TY t) ((wplF t h0 a0 (pl_places v15) (pl_entries v15) (pl_chunks v15) (pl_puts v15) (pl_newContainers v15) (pl_rivals v15) (pl_votes v15) (pl_rivalCount v15))) A)) (wc := ((wplF t h0 a0 (pl_places v11) (pl_entries v11) (pl_chunks v11) (pl_puts v11) (pl_newContainers v11) (pl_rivals v11) (pl_votes v11) (pl_rivalCount v11)))) (As := []) (rest := []) ⟨hx, hb, hml, hown, hts⟩ hK hP hD [0, 1, 2, 3, 4] nd_0_1_2_3_4 rfl (c_X4_countVotes l D t h0 a0 v11 _  v15 e15) (cwV 0 hts (gcX4_countVotes w_530) rfl rfl rfl hdX4_countVotesV ⟨Nat.le_of_ble_eq_true rfl, Nat.le_of_ble_eq_true rfl⟩) (ci := 3) (q0 := 0) rfl rfl rfl hl.1 rfl (Nat.le_of_ble_eq_true rfl) (kd tdlX4_layOut_0 9 rfl) ⟨Nat.zero_le _, Nat.zero_le _⟩) (fun H locs hP hD hS => ?_)
  refine lv_aload_n hx hb (kd tdlX4_layOut_0 10 rfl) rfl (lv_at hl 0 rfl) ?_
  refine va_get (D := D) (ci := 3) (v := .int (pl_rivalCount v15)) (C := RX4) (T := TX4) (N := 8) hx hb hts inX4_ hown hK hP 0 rfl rfl 7 (by decide) L38 (fun _ h9 => h9) rfl (kd tdlX4_layOut_0 11 rfl) ?_
  refine lv_istore (lv' := [(4, .int (pl_rivalCount v15)), (0, .ref h0), (1, .ref h1), (2, .ref h2), (3, .int p3)]) hx hb (kd tdlX4_layOut_0 12 rfl) hl (by decide) rfl (fun ls hl => ?_)
  have hK40 : ∀ k40 : PLT, K_X4_layOut_40 d1 d2 k40 = some r → ∀ (H : Heap) (locs : List Loc) (ls : Array Slot), va_P D vwCl ((wplF t h0 a0 (pl_places k40) (pl_entries k40) (pl_chunks k40) (pl_puts k40) (pl_newContainers k40) (pl_rivals k40) (pl_votes k40) (pl_rivalCount k40)) ++ (wdkF t h1 a1 (dk_settings d1) (dk_numbers d1) (dk_capacities d1) (dk_firsts d1) (dk_containers d1) (dk_codes d1) (dk_places d1) (dk_uses d1) (dk_entries d1) (dk_references d1) (dk_lengths d1) (dk_nextNumber d1) (dk_carried d1)) ++ (wsmF t h2 a2 (sm_worths d2) (sm_codes d2) (sm_letters d2) (sm_chunks d2))) H → va_D A ((wplF t h0 a0 (pl_places k40) (pl_entries k40) (pl_chunks k40) (pl_puts k40) (pl_newContainers k40) (pl_rivals k40) (pl_votes k40) (pl_rivalCount k40)) ++ (wdkF t h1 a1 (dk_settings d1) (dk_numbers d1) (dk_capacities d1) (dk_firsts d1) (dk_containers d1) (dk_codes d1) (dk_places d1) (dk_uses d1) (dk_entries d1) (dk_references d1) (dk_lengths d1) (dk_nextNumber d1) (dk_carried d1)) ++ (wsmF t h2 a2 (sm_worths d2) (sm_codes d2) (sm_letters d2) (sm_chunks d2))) → va_S A s.heap H locs → lv_has ls 7 [(0, .ref h0), (1, .ref h1), (2, .ref h2)] → W p l e ({ frames := 3, cells := 0, slots := 0, locals := 66 } : Room) s m args below meth c H locs 0 0 (MQ below (kQv D (TY t) ((wpl t h0 a0 r) ++ (wdk t h1 a1 d1) ++ (wsm t h2 a2 d2)) A) args s 0 0 A) (F0 m 40 ls []) := by
    intro k40 hF H locs ls hP hD hS hl
    refine lv_aload_n hx hb (kd tdlX4_layOut_0 20 rfl) rfl (lv_at hl 0 rfl) ?_
    refine lv_iconst (v := 0) hx hb (kd tdlX4_layOut_0 21 rfl) (by decide) ?_
    refine va_put (D := D) (ci := 3) (v := .int 0) (ty := .int) (C := RX4) (T := TX4) (N := 8) hx hb hts inX4_ tyX4 tyX4_ok nmX4 hown hK hP hD hS 0 rfl rfl 3 (by decide) L44 (fun _ h9 => h9) rfl (by decide +kernel) rfl rfl (Nat.le_of_ble_eq_true rfl) (kd tdlX4_layOut_0 22 rfl) (fun H locs hP hD hS => ?_)
    have hP : va_P D vwCl ((wplF t h0 a0 (pl_places k40) (pl_entries k40) (pl_chunks k40) 0 (pl_newContainers k40) (pl_rivals k40) (pl_votes k40) (pl_rivalCount k40)) ++ (wdkF t h1 a1 (dk_settings d1) (dk_numbers d1) (dk_capacities d1) (dk_firsts d1) (dk_containers d1) (dk_codes d1) (dk_places d1) (dk_uses d1) (dk_entries d1) (dk_references d1) (dk_lengths d1) (dk_nextNumber d1) (dk_carried d1)) ++ (wsmF t h2 a2 (sm_worths d2) (sm_codes d2) (sm_letters d2) (sm_chunks d2))) H := hP
    have hD : va_D A ((wplF t h0 a0 (pl_places k40) (pl_entries k40) (pl_chunks k40) 0 (pl_newContainers k40) (pl_rivals k40) (pl_votes k40) (pl_rivalCount k40)) ++ (wdkF t h1 a1 (dk_settings d1) (dk_numbers d1) (dk_capacities d1) (dk_firsts d1) (dk_containers d1) (dk_codes d1) (dk_places d1) (dk_uses d1) (dk_entries d1) (dk_references d1) (dk_lengths d1) (dk_nextNumber d1) (dk_carried d1)) ++ (wsmF t h2 a2 (sm_worths d2) (sm_codes d2) (sm_letters d2) (sm_chunks d2))) := hD
    refine lv_aload_n hx hb (kd tdlX4_layOut_0 23 rfl) rfl (lv_at hl 0 rfl) ?_
    refine lv_iconst (v := 0) hx hb (kd tdlX4_layOut_0 24 rfl) (by decide) ?_
    refine va_put (D := D) (ci := 3) (v := .int 0) (ty := .int) (C := RX4) (T := TX4) (N := 8) hx hb hts inX4_ tyX4 tyX4_ok nmX4 hown hK hP hD hS 0 rfl rfl 4 (by decide) L47 (fun _ h9 => h9) rfl (by decide +kernel) rfl rfl (Nat.le_of_ble_eq_true rfl) (kd tdlX4_layOut_0 25 rfl) (fun H locs hP hD hS => ?_)
    have hP : va_P D vwCl ((wplF t h0 a0 (pl_places k40) (pl_entries k40) (pl_chunks k40) 0 0 (pl_rivals k40) (pl_votes k40) (pl_rivalCount k40)) ++ (wdkF t h1 a1 (dk_settings d1) (dk_numbers d1) (dk_capacities d1) (dk_firsts d1) (dk_containers d1) (dk_codes d1) (dk_places d1) (dk_uses d1) (dk_entries d1) (dk_references d1) (dk_lengths d1) (dk_nextNumber d1) (dk_carried d1)) ++ (wsmF t h2 a2 (sm_worths d2) (sm_codes d2) (sm_letters d2) (sm_chunks d2))) H := hP
    have hD : va_D A ((wplF t h0 a0 (pl_places k40) (pl_entries k40) (pl_chunks k40) 0 0 (pl_rivals k40) (pl_votes k40) (pl_rivalCount k40)) ++ (wdkF t h1 a1 (dk_settings d1) (dk_numbers d1) (dk_capacities d1) (dk_firsts d1) (dk_containers d1) (dk_codes d1) (dk_places d1) (dk_uses d1) (dk_entries d1) (dk_references d1) (dk_lengths d1) (dk_nextNumber d1) (dk_carried d1)) ++ (wsmF t h2 a2 (sm_worths d2) (sm_codes d2) (sm_letters d2) (sm_chunks d2))) := hD
    refine lv_aload_n hx hb (kd tdlX4_layOut_0 26 rfl) rfl (lv_at hl 1 rfl) ?_
    obtain ⟨v51, e51, hF⟩ := kc hF
    refine kc_iR hK hP hD hS hA [5, 6, 7, 8, 9, 10, 11, 12, 13, 14] rfl (kr_V (Qx := (fun A => kQi D (TY t) ((wdkF t h1 a1 (dk_settings d1) (dk_numbers d1) (dk_capacities d1) (dk_firsts d1) (dk_containers d1) (dk_codes d1) (dk_places d1) (dk_uses d1) (dk_entries d1) (dk_references d1) (dk_lengths d1) (dk_nextNumber d1) (dk_carried d1))) v51 A)) (wc := ((wdkF t h1 a1 (dk_settings d1) (dk_numbers d1) (dk_capacities d1) (dk_firsts d1) (dk_containers d1) (dk_codes d1) (dk_places d1) (dk_uses d1) (dk_entries d1) (dk_references d1) (dk_lengths d1) (dk_nextNumber d1) (dk_carried d1)))) (As := []) (rest := []) ⟨hx, hb, hml, hown, hts⟩ hK hP hD [5, 6, 7, 8, 9, 10, 11, 12, 13, 14] nd_5_6_7_8_9_10_11_12_13_14 rfl (c_X1_roomInLast l D t h1 a1 d1 _  v51 e51) (cwV 0 hts (gcX1_roomInLast w_546) rfl rfl rfl hdX1_roomInLastV ⟨Nat.le_of_ble_eq_true rfl, Nat.le_of_ble_eq_true rfl⟩) (ci := 1) (q0 := 5) rfl rfl rfl hl.1 rfl (Nat.le_of_ble_eq_true rfl) (kd tdlX4_layOut_0 27 rfl) ⟨Nat.zero_le _, Nat.zero_le _⟩) (fun H locs hP hS => ?_)
    refine lv_istore (lv' := [(4, .int v51), (0, .ref h0), (1, .ref h1), (2, .ref h2)]) hx hb (kd tdlX4_layOut_0 28 rfl) hl (by decide) rfl (fun ls hl => ?_)
    refine lv_iconst (v := 0) hx hb (kd tdlX4_layOut_0 29 rfl) (by decide) ?_
    refine lv_istore (lv' := [(5, .int 0), (4, .int v51), (0, .ref h0), (1, .ref h1), (2, .ref h2)]) hx hb (kd tdlX4_layOut_0 30 rfl) hl (by decide) rfl (fun ls hl => ?_)
    refine lp_ind (f := B_X4_layOut_59 d2 d1) (r := r) (P := fun s59_ => ∀ (H : Heap) (locs : List Loc) (ls : Array Slot), va_P D vwCl ((wplF t h0 a0 (pl_places s59_.2.2) (pl_entries s59_.2.2) (pl_chunks s59_.2.2) (pl_puts s59_.2.2) (pl_newContainers s59_.2.2) (pl_rivals s59_.2.2) (pl_votes s59_.2.2) (pl_rivalCount s59_.2.2)) ++ (wdkF t h1 a1 (dk_settings d1) (dk_numbers d1) (dk_capacities d1) (dk_firsts d1) (dk_containers d1) (dk_codes d1) (dk_places d1) (dk_uses d1) (dk_entries d1) (dk_references d1) (dk_lengths d1) (dk_nextNumber d1) (dk_carried d1)) ++ (wsmF t h2 a2 (sm_worths d2) (sm_codes d2) (sm_letters d2) (sm_chunks d2))) H → va_D A ((wplF t h0 a0 (pl_places s59_.2.2) (pl_entries s59_.2.2) (pl_chunks s59_.2.2) (pl_puts s59_.2.2) (pl_newContainers s59_.2.2) (pl_rivals s59_.2.2) (pl_votes s59_.2.2) (pl_rivalCount s59_.2.2)) ++ (wdkF t h1 a1 (dk_settings d1) (dk_numbers d1) (dk_capacities d1) (dk_firsts d1) (dk_containers d1) (dk_codes d1) (dk_places d1) (dk_uses d1) (dk_entries d1) (dk_references d1) (dk_lengths d1) (dk_nextNumber d1) (dk_carried d1)) ++ (wsmF t h2 a2 (sm_worths d2) (sm_codes d2) (sm_letters d2) (sm_chunks d2))) → va_S A s.heap H locs → lv_has ls 7 [(0, .ref h0), (1, .ref h1), (2, .ref h2), (4, .int s59_.1), (5, .int s59_.2.1)] → W p l e ({ frames := 3, cells := 0, slots := 0, locals := 66 } : Room) s m args below meth c H locs 0 0 (MQ below (kQv D (TY t) ((wpl t h0 a0 r) ++ (wdk t h1 a1 d1) ++ (wsm t h2 a2 d2)) A) args s 0 0 A) (F0 m 59 ls [])) ?_ FU (v51, 0, ((pl_places k40), (pl_entries k40), (pl_chunks k40), 0, 0, (pl_rivals k40), (pl_votes k40), (pl_rivalCount k40))) hF _ _ _ hP hD hS (lv_sub hl [2, 3, 4, 1, 0] rfl)
    intro self59 ih59 s59_ hF H locs ls hP hD hS hl
    refine lv_iload hx hb (kd tdlX4_layOut_0 31 rfl) (lv_at hl 4 rfl) ?_
    refine lv_aload_n hx hb (kd tdlX4_layOut_0 32 rfl) rfl (lv_at hl 0 rfl) ?_
    refine va_get (D := D) (ci := 3) (v := .int (pl_chunks s59_.2.2)) (C := RX4) (T := TX4) (N := 8) hx hb hts inX4_ hown hK hP 0 rfl rfl 2 (by decide) L30 (fun _ h9 => h9) rfl (kd tdlX4_layOut_0 33 rfl) ?_
    refine lv_icmp_ge (tgt := 195) hx hb (kd tdlX4_layOut_0 34 rfl) (by decide) (fun hc65 => ?_) (fun hc65 => ?_)
    · have hF := kt hc65 hF
      cases ko hF
      exact ke_v hx hb hr hlocks hK hP hD hS (kd tdlX4_layOut_2 13 rfl)
    · have hF := kf hc65 hF
      refine lv_aload_n hx hb (kd tdlX4_layOut_0 35 rfl) rfl (lv_at hl 2 rfl) ?_
      refine lv_iload hx hb (kd tdlX4_layOut_0 36 rfl) (lv_at hl 4 rfl) ?_
      obtain ⟨v71, e71, hF⟩ := kc hF
      refine kc_iR hK hP hD hS hA [15, 16, 17] rfl (kr_V (Qx := (fun A => kQi D (TY t) ((wsmF t h2 a2 (sm_worths d2) (sm_codes d2) (sm_letters d2) (sm_chunks d2))) v71 A)) (wc := ((wsmF t h2 a2 (sm_worths d2) (sm_codes d2) (sm_letters d2) (sm_chunks d2)))) (As := [.int s59_.2.1]) (rest := []) ⟨hx, hb, hml, hown, hts⟩ hK hP hD [15, 16, 17] nd_15_16_17 rfl (c_X6_codeAt l D t h2 a2 d2 _ s59_.2.1 v71 e71) (cwV 1 hts (gcX6_codeAt w_522) rfl rfl rfl hdX6_codeAtV ⟨Nat.le_of_ble_eq_true rfl, Nat.le_of_ble_eq_true rfl⟩) (ci := 5) (q0 := 15) rfl rfl rfl hl.1 rfl (Nat.le_of_ble_eq_true rfl) (kd tdlX4_layOut_0 37 rfl) ⟨Nat.zero_le _, Nat.zero_le _⟩) (fun H locs hP hS => ?_)
      refine lv_istore (lv' := [(6, .int v71), (0, .ref h0), (1, .ref h1), (2, .ref h2), (4, .int s59_.1), (5, .int s59_.2.1)]) hx hb (kd tdlX4_layOut_0 38 rfl) hl (by decide) rfl (fun ls hl => ?_)
      refine lv_aload_n hx hb (kd tdlX4_layOut_0 39 rfl) rfl (lv_at hl 1 rfl) ?_
      refine va_get (D := D) (ci := 3) (v := .ref (a0 0)) (C := RX4) (T := TX4) (N := 8) hx hb hts inX4_ hown hK hP 0 rfl rfl 0 (by decide) L9 (fun _ h9 => h9) rfl (kd tdlX4_layOut_0 40 rfl) ?_
      refine lv_iload hx hb (kd tdlX4_layOut_0 41 rfl) (lv_at hl 5 rfl) ?_
      obtain ⟨hi82, hF⟩ := kg hF
      refine va_iald (D := D) (tys := TY t) hx hb hK hP 1 0 rfl rfl hi82 (kd tdlX4_layOut_0 42 rfl) ?_
      refine lv_iconst (v := (-1)) hx hb (kd tdlX4_layOut_0 43 rfl) (by decide) ?_
      refine lv_icmp_eq (tgt := 110) hx hb (kd tdlX4_layOut_0 44 rfl) (by decide) (fun hc84 => ?_) (fun hc84 => ?_)
      · have hF := kt hc84 hF
        refine lv_aload_n hx hb (kd tdlX4_layOut_1 12 rfl) rfl (lv_at hl 1 rfl) ?_
        refine lv_aload_n hx hb (kd tdlX4_layOut_1 13 rfl) rfl (lv_at hl 3 rfl) ?_
        refine lv_iload hx hb (kd tdlX4_layOut_1 14 rfl) (lv_at hl 5 rfl) ?_
        obtain ⟨v114, e114, hF⟩ := kc hF
        refine kc_i (w1 := ((wplF t h0 a0 (pl_places v114.2) (pl_entries v114.2) (pl_chunks v114.2) (pl_puts v114.2) (pl_newContainers v114.2) (pl_rivals v114.2) (pl_votes v114.2) (pl_rivalCount v114.2)) ++ (wsmF t h2 a2 (sm_worths d2) (sm_codes d2) (sm_letters d2) (sm_chunks d2)))) (W1 := ((wplF t h0 a0 (pl_places v114.2) (pl_entries v114.2) (pl_chunks v114.2) (pl_puts v114.2) (pl_newContainers v114.2) (pl_rivals v114.2) (pl_votes v114.2) (pl_rivalCount v114.2)) ++ (wdkF t h1 a1 (dk_settings d1) (dk_numbers d1) (dk_capacities d1) (dk_firsts d1) (dk_containers d1) (dk_codes d1) (dk_places d1) (dk_uses d1) (dk_entries d1) (dk_references d1) (dk_lengths d1) (dk_nextNumber d1) (dk_carried d1)) ++ (wsmF t h2 a2 (sm_worths d2) (sm_codes d2) (sm_letters d2) (sm_chunks d2)))) hK hP hD hS hA [0, 1, 2, 3, 4, 15, 16, 17] nd_0_1_2_3_4_15_16_17 rfl rfl rfl (kr_V (Qx := (fun A => kQi D (TY t) ((wplF t h0 a0 (pl_places v114.2) (pl_entries v114.2) (pl_chunks v114.2) (pl_puts v114.2) (pl_newContainers v114.2) (pl_rivals v114.2) (pl_votes v114.2) (pl_rivalCount v114.2)) ++ (wsmF t h2 a2 (sm_worths d2) (sm_codes d2) (sm_letters d2) (sm_chunks d2))) v114.1 A)) (wc := ((wplF t h0 a0 (pl_places s59_.2.2) (pl_entries s59_.2.2) (pl_chunks s59_.2.2) (pl_puts s59_.2.2) (pl_newContainers s59_.2.2) (pl_rivals s59_.2.2) (pl_votes s59_.2.2) (pl_rivalCount s59_.2.2)) ++ (wsmF t h2 a2 (sm_worths d2) (sm_codes d2) (sm_letters d2) (sm_chunks d2)))) (As := [.ref h2, .int s59_.2.1]) (rest := []) ⟨hx, hb, hml, hown, hts⟩ hK hP hD [0, 1, 2, 3, 4, 15, 16, 17] nd_0_1_2_3_4_15_16_17 rfl (c_X4_repeats l D t h0 a0 s59_.2.2 h2 a2 d2 _ s59_.2.1 v114 e114) (cwV 2 hts (gcX4_repeats w_551) rfl rfl rfl hdX4_repeatsV ⟨Nat.le_of_ble_eq_true rfl, Nat.le_of_ble_eq_true rfl⟩) (ci := 3) (q0 := 0) rfl rfl rfl hl.1 rfl (Nat.le_of_ble_eq_true rfl) (kd tdlX4_layOut_1 15 rfl) ⟨Nat.zero_le _, Nat.zero_le _⟩) (fun H locs hP hD hS => ?_)
        refine lv_if_ne (tgt := 189) hx hb (kd tdlX4_layOut_1 16 rfl) (by decide) (fun hc117 => ?_) (fun hc117 => ?_)
        · have hF := kf hc117 hF
          refine lv_iinc (v := (s59_.2.1 + 1)) (lv' := [(5, .int (s59_.2.1 + 1)), (6, .int v71), (0, .ref h0), (1, .ref h1), (2, .ref h2), (4, .int s59_.1)]) hx hb (kd tdlX4_layOut_2 11 rfl) hl (k := 5) rfl rfl (by decide) rfl (fun ls hl => ?_)
          refine lv_goto (tgt := 59) hx hb (kd tdlX4_layOut_2 12 rfl) (by decide) ?_
          exact ih59 (s59_.1, (s59_.2.1 + 1), v114.2) hF _ _ _ hP hD hS (lv_sub hl [2, 3, 4, 5, 0] rfl)
        · have hF := kt hc117 hF
          refine lv_iload hx hb (kd tdlX4_layOut_1 17 rfl) (lv_at hl 4 rfl) ?_
          have hJ142 : ∀ j142 : Int32 × Int32, J_X4_layOut_142 s59_ self59 v114 d1 j142 = some r → ∀ (H : Heap) (locs : List Loc) (ls : Array Slot), va_P D vwCl ((wplF t h0 a0 (pl_places v114.2) (pl_entries v114.2) (pl_chunks v114.2) (pl_puts v114.2) j142.2 (pl_rivals v114.2) (pl_votes v114.2) (pl_rivalCount v114.2)) ++ (wdkF t h1 a1 (dk_settings d1) (dk_numbers d1) (dk_capacities d1) (dk_firsts d1) (dk_containers d1) (dk_codes d1) (dk_places d1) (dk_uses d1) (dk_entries d1) (dk_references d1) (dk_lengths d1) (dk_nextNumber d1) (dk_carried d1)) ++ (wsmF t h2 a2 (sm_worths d2) (sm_codes d2) (sm_letters d2) (sm_chunks d2))) H → va_D A ((wplF t h0 a0 (pl_places v114.2) (pl_entries v114.2) (pl_chunks v114.2) (pl_puts v114.2) j142.2 (pl_rivals v114.2) (pl_votes v114.2) (pl_rivalCount v114.2)) ++ (wdkF t h1 a1 (dk_settings d1) (dk_numbers d1) (dk_capacities d1) (dk_firsts d1) (dk_containers d1) (dk_codes d1) (dk_places d1) (dk_uses d1) (dk_entries d1) (dk_references d1) (dk_lengths d1) (dk_nextNumber d1) (dk_carried d1)) ++ (wsmF t h2 a2 (sm_worths d2) (sm_codes d2) (sm_letters d2) (sm_chunks d2))) → va_S A s.heap H locs → lv_has ls 7 [(0, .ref h0), (1, .ref h1), (2, .ref h2), (4, .int j142.1), (5, .int s59_.2.1)] → W p l e ({ frames := 3, cells := 0, slots := 0, locals := 66 } : Room) s m args below meth c H locs 0 0 (MQ below (kQv D (TY t) ((wpl t h0 a0 r) ++ (wdk t h1 a1 d1) ++ (wsm t h2 a2 d2)) A) args s 0 0 A) (F0 m 142 ls []) := by
            intro j142 hF H locs ls hP hD hS hl
            refine lv_iinc (v := (j142.1 + (-1))) (lv' := [(4, .int (j142.1 + (-1))), (0, .ref h0), (1, .ref h1), (2, .ref h2), (5, .int s59_.2.1)]) hx hb (kd tdlX4_layOut_1 29 rfl) hl (k := 3) rfl rfl (by decide) rfl (fun ls hl => ?_)
            refine lv_aload_n hx hb (kd tdlX4_layOut_1 30 rfl) rfl (lv_at hl 1 rfl) ?_
            refine va_get (D := D) (ci := 3) (v := .ref (a0 0)) (C := RX4) (T := TX4) (N := 8) hx hb hts inX4_ hown hK hP 0 rfl rfl 0 (by decide) L9 (fun _ h9 => h9) rfl (kd tdlX4_layOut_1 31 rfl) ?_
            refine lv_iload hx hb (kd tdlX4_layOut_1 32 rfl) (lv_at hl 4 rfl) ?_
            refine lv_aload_n hx hb (kd tdlX4_layOut_1 33 rfl) rfl (lv_at hl 2 rfl) ?_
            refine va_get (D := D) (ci := 1) (v := .int (dk_containers d1)) (C := RX1) (T := TX1) (N := 13) hx hb hts inX1_ hown hK hP 5 rfl rfl 4 (by decide) L71 (fun _ h9 => h9) rfl (kd tdlX4_layOut_1 34 rfl) ?_
            refine lv_aload_n hx hb (kd tdlX4_layOut_1 35 rfl) rfl (lv_at hl 1 rfl) ?_
            refine va_get (D := D) (ci := 3) (v := .int j142.2) (C := RX4) (T := TX4) (N := 8) hx hb hts inX4_ hown hK hP 0 rfl rfl 4 (by decide) L47 (fun _ h9 => h9) rfl (kd tdlX4_layOut_1 36 rfl) ?_
            refine lv_iadd hx hb (kd tdlX4_layOut_1 37 rfl) ?_
            refine lv_iconst (v := 1) hx hb (kd tdlX4_layOut_1 38 rfl) (by decide) ?_
            refine lv_isub hx hb (kd tdlX4_layOut_1 39 rfl) ?_
            obtain ⟨hi162, hF⟩ := kg hF
            refine va_iast (D := D) (tys := TY t) hx hb hK hP hD hS 1 0 rfl rfl hi162 (kd tdlX4_layOut_1 40 rfl) (fun H locs hP hD hS => ?_)
            have hP : va_P D vwCl ((wplF t h0 a0 (upd (pl_places v114.2) (Int32.toNatClampNeg s59_.2.1) (((dk_containers d1) + j142.2) - 1)) (pl_entries v114.2) (pl_chunks v114.2) (pl_puts v114.2) j142.2 (pl_rivals v114.2) (pl_votes v114.2) (pl_rivalCount v114.2)) ++ (wdkF t h1 a1 (dk_settings d1) (dk_numbers d1) (dk_capacities d1) (dk_firsts d1) (dk_containers d1) (dk_codes d1) (dk_places d1) (dk_uses d1) (dk_entries d1) (dk_references d1) (dk_lengths d1) (dk_nextNumber d1) (dk_carried d1)) ++ (wsmF t h2 a2 (sm_worths d2) (sm_codes d2) (sm_letters d2) (sm_chunks d2))) H := hP
            have hD : va_D A ((wplF t h0 a0 (upd (pl_places v114.2) (Int32.toNatClampNeg s59_.2.1) (((dk_containers d1) + j142.2) - 1)) (pl_entries v114.2) (pl_chunks v114.2) (pl_puts v114.2) j142.2 (pl_rivals v114.2) (pl_votes v114.2) (pl_rivalCount v114.2)) ++ (wdkF t h1 a1 (dk_settings d1) (dk_numbers d1) (dk_capacities d1) (dk_firsts d1) (dk_containers d1) (dk_codes d1) (dk_places d1) (dk_uses d1) (dk_entries d1) (dk_references d1) (dk_lengths d1) (dk_nextNumber d1) (dk_carried d1)) ++ (wsmF t h2 a2 (sm_worths d2) (sm_codes d2) (sm_letters d2) (sm_chunks d2))) := hD
            refine lv_aload_n hx hb (kd tdlX4_layOut_1 41 rfl) rfl (lv_at hl 1 rfl) ?_
            refine va_get (D := D) (ci := 3) (v := .ref (a0 1)) (C := RX4) (T := TX4) (N := 8) hx hb hts inX4_ hown hK hP 0 rfl rfl 1 (by decide) L15 (fun _ h9 => h9) rfl (kd tdlX4_layOut_1 42 rfl) ?_
            refine lv_iload hx hb (kd tdlX4_layOut_1 43 rfl) (lv_at hl 4 rfl) ?_
            refine lv_aload_n hx hb (kd tdlX4_layOut_1 44 rfl) rfl (lv_at hl 2 rfl) ?_
            refine va_get (D := D) (ci := 1) (v := .int (dk_entries d1)) (C := RX1) (T := TX1) (N := 13) hx hb hts inX1_ hown hK hP 5 rfl rfl 8 (by decide) L74 (fun _ h9 => h9) rfl (kd tdlX4_layOut_2 0 rfl) ?_
            refine lv_aload_n hx hb (kd tdlX4_layOut_2 1 rfl) rfl (lv_at hl 1 rfl) ?_
            refine va_get (D := D) (ci := 3) (v := .int (pl_puts v114.2)) (C := RX4) (T := TX4) (N := 8) hx hb hts inX4_ hown hK hP 0 rfl rfl 3 (by decide) L44 (fun _ h9 => h9) rfl (kd tdlX4_layOut_2 2 rfl) ?_
            refine lv_iadd hx hb (kd tdlX4_layOut_2 3 rfl) ?_
            obtain ⟨hi178, hF⟩ := kg hF
            refine va_iast (D := D) (tys := TY t) hx hb hK hP hD hS 2 0 rfl rfl hi178 (kd tdlX4_layOut_2 4 rfl) (fun H locs hP hD hS => ?_)
            have hP : va_P D vwCl ((wplF t h0 a0 (upd (pl_places v114.2) (Int32.toNatClampNeg s59_.2.1) (((dk_containers d1) + j142.2) - 1)) (upd (pl_entries v114.2) (Int32.toNatClampNeg s59_.2.1) ((dk_entries d1) + (pl_puts v114.2))) (pl_chunks v114.2) (pl_puts v114.2) j142.2 (pl_rivals v114.2) (pl_votes v114.2) (pl_rivalCount v114.2)) ++ (wdkF t h1 a1 (dk_settings d1) (dk_numbers d1) (dk_capacities d1) (dk_firsts d1) (dk_containers d1) (dk_codes d1) (dk_places d1) (dk_uses d1) (dk_entries d1) (dk_references d1) (dk_lengths d1) (dk_nextNumber d1) (dk_carried d1)) ++ (wsmF t h2 a2 (sm_worths d2) (sm_codes d2) (sm_letters d2) (sm_chunks d2))) H := hP
            have hD : va_D A ((wplF t h0 a0 (upd (pl_places v114.2) (Int32.toNatClampNeg s59_.2.1) (((dk_containers d1) + j142.2) - 1)) (upd (pl_entries v114.2) (Int32.toNatClampNeg s59_.2.1) ((dk_entries d1) + (pl_puts v114.2))) (pl_chunks v114.2) (pl_puts v114.2) j142.2 (pl_rivals v114.2) (pl_votes v114.2) (pl_rivalCount v114.2)) ++ (wdkF t h1 a1 (dk_settings d1) (dk_numbers d1) (dk_capacities d1) (dk_firsts d1) (dk_containers d1) (dk_codes d1) (dk_places d1) (dk_uses d1) (dk_entries d1) (dk_references d1) (dk_lengths d1) (dk_nextNumber d1) (dk_carried d1)) ++ (wsmF t h2 a2 (sm_worths d2) (sm_codes d2) (sm_letters d2) (sm_chunks d2))) := hD
            refine lv_aload_n hx hb (kd tdlX4_layOut_2 5 rfl) rfl (lv_at hl 1 rfl) ?_
            refine lv_dup hx hb (kd tdlX4_layOut_2 6 rfl) rfl ?_
            refine va_get (D := D) (ci := 3) (v := .int (pl_puts v114.2)) (C := RX4) (T := TX4) (N := 8) hx hb hts inX4_ hown hK hP 0 rfl rfl 3 (by decide) L44 (fun _ h9 => h9) rfl (kd tdlX4_layOut_2 7 rfl) ?_
            refine lv_iconst (v := 1) hx hb (kd tdlX4_layOut_2 8 rfl) (by decide) ?_
            refine lv_iadd hx hb (kd tdlX4_layOut_2 9 rfl) ?_
            refine va_put (D := D) (ci := 3) (v := .int ((pl_puts v114.2) + 1)) (ty := .int) (C := RX4) (T := TX4) (N := 8) hx hb hts inX4_ tyX4 tyX4_ok nmX4 hown hK hP hD hS 0 rfl rfl 3 (by decide) L44 (fun _ h9 => h9) rfl (by decide +kernel) rfl rfl (Nat.le_of_ble_eq_true rfl) (kd tdlX4_layOut_2 10 rfl) (fun H locs hP hD hS => ?_)
            have hP : va_P D vwCl ((wplF t h0 a0 (upd (pl_places v114.2) (Int32.toNatClampNeg s59_.2.1) (((dk_containers d1) + j142.2) - 1)) (upd (pl_entries v114.2) (Int32.toNatClampNeg s59_.2.1) ((dk_entries d1) + (pl_puts v114.2))) (pl_chunks v114.2) ((pl_puts v114.2) + 1) j142.2 (pl_rivals v114.2) (pl_votes v114.2) (pl_rivalCount v114.2)) ++ (wdkF t h1 a1 (dk_settings d1) (dk_numbers d1) (dk_capacities d1) (dk_firsts d1) (dk_containers d1) (dk_codes d1) (dk_places d1) (dk_uses d1) (dk_entries d1) (dk_references d1) (dk_lengths d1) (dk_nextNumber d1) (dk_carried d1)) ++ (wsmF t h2 a2 (sm_worths d2) (sm_codes d2) (sm_letters d2) (sm_chunks d2))) H := hP
            have hD : va_D A ((wplF t h0 a0 (upd (pl_places v114.2) (Int32.toNatClampNeg s59_.2.1) (((dk_containers d1) + j142.2) - 1)) (upd (pl_entries v114.2) (Int32.toNatClampNeg s59_.2.1) ((dk_entries d1) + (pl_puts v114.2))) (pl_chunks v114.2) ((pl_puts v114.2) + 1) j142.2 (pl_rivals v114.2) (pl_votes v114.2) (pl_rivalCount v114.2)) ++ (wdkF t h1 a1 (dk_settings d1) (dk_numbers d1) (dk_capacities d1) (dk_firsts d1) (dk_containers d1) (dk_codes d1) (dk_places d1) (dk_uses d1) (dk_entries d1) (dk_references d1) (dk_lengths d1) (dk_nextNumber d1) (dk_carried d1)) ++ (wsmF t h2 a2 (sm_worths d2) (sm_codes d2) (sm_letters d2) (sm_chunks d2))) := hD
            refine lv_iinc (v := (s59_.2.1 + 1)) (lv' := [(5, .int (s59_.2.1 + 1)), (4, .int (j142.1 + (-1))), (0, .ref h0), (1, .ref h1), (2, .ref h2)]) hx hb (kd tdlX4_layOut_2 11 rfl) hl (k := 4) rfl rfl (by decide) rfl (fun ls hl => ?_)
            refine lv_goto (tgt := 59) hx hb (kd tdlX4_layOut_2 12 rfl) (by decide) ?_
            exact ih59 ((j142.1 + (-1)), (s59_.2.1 + 1), ((upd (pl_places v114.2) (Int32.toNatClampNeg s59_.2.1) (((dk_containers d1) + j142.2) - 1)), (upd (pl_entries v114.2) (Int32.toNatClampNeg s59_.2.1) ((dk_entries d1) + (pl_puts v114.2))), (pl_chunks v114.2), ((pl_puts v114.2) + 1), j142.2, (pl_rivals v114.2), (pl_votes v114.2), (pl_rivalCount v114.2))) hF _ _ _ hP hD hS (lv_sub hl [2, 3, 4, 1, 0] rfl)
          refine lv_if_ne (tgt := 142) hx hb (kd tdlX4_layOut_1 18 rfl) (by decide) (fun hc122 => ?_) (fun hc122 => ?_)
          · have hF := kf hc122 hF
            exact hJ142 (s59_.1, (pl_newContainers v114.2)) hF _ _ _ hP hD hS (lv_sub hl [1, 2, 3, 4, 5] rfl)
          · have hF := kt hc122 hF
            refine lv_aload_n hx hb (kd tdlX4_layOut_1 19 rfl) rfl (lv_at hl 1 rfl) ?_
            refine lv_dup hx hb (kd tdlX4_layOut_1 20 rfl) rfl ?_
            refine va_get (D := D) (ci := 3) (v := .int (pl_newContainers v114.2)) (C := RX4) (T := TX4) (N := 8) hx hb hts inX4_ hown hK hP 0 rfl rfl 4 (by decide) L47 (fun _ h9 => h9) rfl (kd tdlX4_layOut_1 21 rfl) ?_
            refine lv_iconst (v := 1) hx hb (kd tdlX4_layOut_1 22 rfl) (by decide) ?_
            refine lv_iadd hx hb (kd tdlX4_layOut_1 23 rfl) ?_
            refine va_put (D := D) (ci := 3) (v := .int ((pl_newContainers v114.2) + 1)) (ty := .int) (C := RX4) (T := TX4) (N := 8) hx hb hts inX4_ tyX4 tyX4_ok nmX4 hown hK hP hD hS 0 rfl rfl 4 (by decide) L47 (fun _ h9 => h9) rfl (by decide +kernel) rfl rfl (Nat.le_of_ble_eq_true rfl) (kd tdlX4_layOut_1 24 rfl) (fun H locs hP hD hS => ?_)
            have hP : va_P D vwCl ((wplF t h0 a0 (pl_places v114.2) (pl_entries v114.2) (pl_chunks v114.2) (pl_puts v114.2) ((pl_newContainers v114.2) + 1) (pl_rivals v114.2) (pl_votes v114.2) (pl_rivalCount v114.2)) ++ (wdkF t h1 a1 (dk_settings d1) (dk_numbers d1) (dk_capacities d1) (dk_firsts d1) (dk_containers d1) (dk_codes d1) (dk_places d1) (dk_uses d1) (dk_entries d1) (dk_references d1) (dk_lengths d1) (dk_nextNumber d1) (dk_carried d1)) ++ (wsmF t h2 a2 (sm_worths d2) (sm_codes d2) (sm_letters d2) (sm_chunks d2))) H := hP
            have hD : va_D A ((wplF t h0 a0 (pl_places v114.2) (pl_entries v114.2) (pl_chunks v114.2) (pl_puts v114.2) ((pl_newContainers v114.2) + 1) (pl_rivals v114.2) (pl_votes v114.2) (pl_rivalCount v114.2)) ++ (wdkF t h1 a1 (dk_settings d1) (dk_numbers d1) (dk_capacities d1) (dk_firsts d1) (dk_containers d1) (dk_codes d1) (dk_places d1) (dk_uses d1) (dk_entries d1) (dk_references d1) (dk_lengths d1) (dk_nextNumber d1) (dk_carried d1)) ++ (wsmF t h2 a2 (sm_worths d2) (sm_codes d2) (sm_letters d2) (sm_chunks d2))) := hD
            refine lv_aload_n hx hb (kd tdlX4_layOut_1 25 rfl) rfl (lv_at hl 2 rfl) ?_
            refine lv_iconst (v := 1) hx hb (kd tdlX4_layOut_1 26 rfl) (by decide) ?_
            obtain ⟨v137, e137, hF⟩ := kc hF
            refine kc_iR hK hP hD hS hA [5, 6, 7, 8, 9, 10, 11, 12, 13, 14] rfl (kr_V (Qx := (fun A => kQi D (TY t) ((wdkF t h1 a1 (dk_settings d1) (dk_numbers d1) (dk_capacities d1) (dk_firsts d1) (dk_containers d1) (dk_codes d1) (dk_places d1) (dk_uses d1) (dk_entries d1) (dk_references d1) (dk_lengths d1) (dk_nextNumber d1) (dk_carried d1))) v137 A)) (wc := ((wdkF t h1 a1 (dk_settings d1) (dk_numbers d1) (dk_capacities d1) (dk_firsts d1) (dk_containers d1) (dk_codes d1) (dk_places d1) (dk_uses d1) (dk_entries d1) (dk_references d1) (dk_lengths d1) (dk_nextNumber d1) (dk_carried d1)))) (As := [.int 1]) (rest := []) ⟨hx, hb, hml, hown, hts⟩ hK hP hD [5, 6, 7, 8, 9, 10, 11, 12, 13, 14] nd_5_6_7_8_9_10_11_12_13_14 rfl (c_X1_settingAt l D t h1 a1 d1 _ 1 v137 e137) (cwV 1 hts (gcX1_settingAt w_555) rfl rfl rfl hdX1_settingAtV ⟨Nat.le_of_ble_eq_true rfl, Nat.le_of_ble_eq_true rfl⟩) (ci := 1) (q0 := 5) rfl rfl rfl hl.1 rfl (Nat.le_of_ble_eq_true rfl) (kd tdlX4_layOut_1 27 rfl) ⟨Nat.zero_le _, Nat.zero_le _⟩) (fun H locs hP hS => ?_)
            refine lv_istore (lv' := [(4, .int v137), (6, .int v71), (0, .ref h0), (1, .ref h1), (2, .ref h2), (5, .int s59_.2.1)]) hx hb (kd tdlX4_layOut_1 28 rfl) hl (by decide) rfl (fun ls hl => ?_)
            exact hJ142 (v137, ((pl_newContainers v114.2) + 1)) hF _ _ _ hP hD hS (lv_sub hl [2, 3, 4, 0, 5] rfl)
      · have hF := kf hc84 hF
        refine lv_aload_n hx hb (kd tdlX4_layOut_1 0 rfl) rfl (lv_at hl 1 rfl) ?_
        refine va_get (D := D) (ci := 3) (v := .ref (a0 1)) (C := RX4) (T := TX4) (N := 8) hx hb hts inX4_ hown hK hP 0 rfl rfl 1 (by decide) L15 (fun _ h9 => h9) rfl (kd tdlX4_layOut_1 1 rfl) ?_
        refine lv_iload hx hb (kd tdlX4_layOut_1 2 rfl) (lv_at hl 5 rfl) ?_
        refine lv_aload_n hx hb (kd tdlX4_layOut_1 3 rfl) rfl (lv_at hl 2 rfl) ?_
        refine lv_iload hx hb (kd tdlX4_layOut_1 4 rfl) (lv_at hl 0 rfl) ?_
        refine lv_aload_n hx hb (kd tdlX4_layOut_1 5 rfl) rfl (lv_at hl 1 rfl) ?_
        refine va_get (D := D) (ci := 3) (v := .ref (a0 0)) (C := RX4) (T := TX4) (N := 8) hx hb hts inX4_ hown hK hP 0 rfl rfl 0 (by decide) L9 (fun _ h9 => h9) rfl (kd tdlX4_layOut_1 6 rfl) ?_
        refine lv_iload hx hb (kd tdlX4_layOut_1 7 rfl) (lv_at hl 5 rfl) ?_
        obtain ⟨hi102, hF⟩ := kg hF
        refine va_iald (D := D) (tys := TY t) hx hb hK hP 1 0 rfl rfl hi102 (kd tdlX4_layOut_1 8 rfl) ?_
        obtain ⟨v103, e103, hF⟩ := kc hF
        refine kc_iR hK hP hD hS hA [5, 6, 7, 8, 9, 10, 11, 12, 13, 14] rfl (kr_V (Qx := (fun A => kQi D (TY t) ((wdkF t h1 a1 (dk_settings d1) (dk_numbers d1) (dk_capacities d1) (dk_firsts d1) (dk_containers d1) (dk_codes d1) (dk_places d1) (dk_uses d1) (dk_entries d1) (dk_references d1) (dk_lengths d1) (dk_nextNumber d1) (dk_carried d1))) v103 A)) (wc := ((wdkF t h1 a1 (dk_settings d1) (dk_numbers d1) (dk_capacities d1) (dk_firsts d1) (dk_containers d1) (dk_codes d1) (dk_places d1) (dk_uses d1) (dk_entries d1) (dk_references d1) (dk_lengths d1) (dk_nextNumber d1) (dk_carried d1)))) (As := [.int v71, .int ((pl_places s59_.2.2) (Int32.toNatClampNeg s59_.2.1))]) (rest := [.int s59_.2.1, .ref (a0 1)]) ⟨hx, hb, hml, hown, hts⟩ hK hP hD [5, 6, 7, 8, 9, 10, 11, 12, 13, 14] nd_5_6_7_8_9_10_11_12_13_14 rfl (c_X1_firstEntryWith l D t h1 a1 d1 _ v71 ((pl_places s59_.2.2) (Int32.toNatClampNeg s59_.2.1)) v103 e103) (cwV 2 hts (gcX1_firstEntryWith w_547) rfl rfl rfl hdX1_firstEntryWithV ⟨Nat.le_of_ble_eq_true rfl, Nat.le_of_ble_eq_true rfl⟩) (ci := 1) (q0 := 5) rfl rfl rfl hl.1 rfl (Nat.le_of_ble_eq_true rfl) (kd tdlX4_layOut_1 9 rfl) ⟨Nat.zero_le _, Nat.zero_le _⟩) (fun H locs hP hS => ?_)
        obtain ⟨hi106, hF⟩ := kg hF
        refine va_iast (D := D) (tys := TY t) hx hb hK hP hD hS 2 0 rfl rfl hi106 (kd tdlX4_layOut_1 10 rfl) (fun H locs hP hD hS => ?_)
        have hP : va_P D vwCl ((wplF t h0 a0 (pl_places s59_.2.2) (upd (pl_entries s59_.2.2) (Int32.toNatClampNeg s59_.2.1) v103) (pl_chunks s59_.2.2) (pl_puts s59_.2.2) (pl_newContainers s59_.2.2) (pl_rivals s59_.2.2) (pl_votes s59_.2.2) (pl_rivalCount s59_.2.2)) ++ (wdkF t h1 a1 (dk_settings d1) (dk_numbers d1) (dk_capacities d1) (dk_firsts d1) (dk_containers d1) (dk_codes d1) (dk_places d1) (dk_uses d1) (dk_entries d1) (dk_references d1) (dk_lengths d1) (dk_nextNumber d1) (dk_carried d1)) ++ (wsmF t h2 a2 (sm_worths d2) (sm_codes d2) (sm_letters d2) (sm_chunks d2))) H := hP
        have hD : va_D A ((wplF t h0 a0 (pl_places s59_.2.2) (upd (pl_entries s59_.2.2) (Int32.toNatClampNeg s59_.2.1) v103) (pl_chunks s59_.2.2) (pl_puts s59_.2.2) (pl_newContainers s59_.2.2) (pl_rivals s59_.2.2) (pl_votes s59_.2.2) (pl_rivalCount s59_.2.2)) ++ (wdkF t h1 a1 (dk_settings d1) (dk_numbers d1) (dk_capacities d1) (dk_firsts d1) (dk_containers d1) (dk_codes d1) (dk_places d1) (dk_uses d1) (dk_entries d1) (dk_references d1) (dk_lengths d1) (dk_nextNumber d1) (dk_carried d1)) ++ (wsmF t h2 a2 (sm_worths d2) (sm_codes d2) (sm_letters d2) (sm_chunks d2))) := hD
        refine lv_goto (tgt := 189) hx hb (kd tdlX4_layOut_1 11 rfl) (by decide) ?_
        refine lv_iinc (v := (s59_.2.1 + 1)) (lv' := [(5, .int (s59_.2.1 + 1)), (6, .int v71), (0, .ref h0), (1, .ref h1), (2, .ref h2), (4, .int s59_.1)]) hx hb (kd tdlX4_layOut_2 11 rfl) hl (k := 5) rfl rfl (by decide) rfl (fun ls hl => ?_)
        refine lv_goto (tgt := 59) hx hb (kd tdlX4_layOut_2 12 rfl) (by decide) ?_
        exact ih59 (s59_.1, (s59_.2.1 + 1), ((pl_places s59_.2.2), (upd (pl_entries s59_.2.2) (Int32.toNatClampNeg s59_.2.1) v103), (pl_chunks s59_.2.2), (pl_puts s59_.2.2), (pl_newContainers s59_.2.2), (pl_rivals s59_.2.2), (pl_votes s59_.2.2), (pl_rivalCount s59_.2.2))) hF _ _ _ hP hD hS (lv_sub hl [2, 3, 4, 5, 0] rfl)
  refine lp_ind (f := B_X4_layOut_24 p3 (K_X4_layOut_40 d1 d2)) (r := r) (P := fun s24_ => ∀ (H : Heap) (locs : List Loc) (ls : Array Slot), va_P D vwCl ((wplF t h0 a0 (pl_places s24_.2) (pl_entries s24_.2) (pl_chunks s24_.2) (pl_puts s24_.2) (pl_newContainers s24_.2) (pl_rivals s24_.2) (pl_votes s24_.2) (pl_rivalCount s24_.2)) ++ (wdkF t h1 a1 (dk_settings d1) (dk_numbers d1) (dk_capacities d1) (dk_firsts d1) (dk_containers d1) (dk_codes d1) (dk_places d1) (dk_uses d1) (dk_entries d1) (dk_references d1) (dk_lengths d1) (dk_nextNumber d1) (dk_carried d1)) ++ (wsmF t h2 a2 (sm_worths d2) (sm_codes d2) (sm_letters d2) (sm_chunks d2))) H → va_D A ((wplF t h0 a0 (pl_places s24_.2) (pl_entries s24_.2) (pl_chunks s24_.2) (pl_puts s24_.2) (pl_newContainers s24_.2) (pl_rivals s24_.2) (pl_votes s24_.2) (pl_rivalCount s24_.2)) ++ (wdkF t h1 a1 (dk_settings d1) (dk_numbers d1) (dk_capacities d1) (dk_firsts d1) (dk_containers d1) (dk_codes d1) (dk_places d1) (dk_uses d1) (dk_entries d1) (dk_references d1) (dk_lengths d1) (dk_nextNumber d1) (dk_carried d1)) ++ (wsmF t h2 a2 (sm_worths d2) (sm_codes d2) (sm_letters d2) (sm_chunks d2))) → va_S A s.heap H locs → lv_has ls 7 [(0, .ref h0), (1, .ref h1), (2, .ref h2), (3, .int p3), (4, .int s24_.1)] → W p l e ({ frames := 3, cells := 0, slots := 0, locals := 66 } : Room) s m args below meth c H locs 0 0 (MQ below (kQv D (TY t) ((wpl t h0 a0 r) ++ (wdk t h1 a1 d1) ++ (wsm t h2 a2 d2)) A) args s 0 0 A) (F0 m 24 ls [])) ?_ FU ((pl_rivalCount v15), v15) hF _ _ _ hP hD hS (lv_sub hl [1, 2, 3, 4, 0] rfl)
  intro self24 ih24 s24_ hF H locs ls hP hD hS hl
  refine lv_iload hx hb (kd tdlX4_layOut_0 13 rfl) (lv_at hl 4 rfl) ?_
  refine lv_iload_n hx hb (kd tdlX4_layOut_0 14 rfl) rfl (lv_at hl 3 rfl) ?_
  refine lv_icmp_le (tgt := 40) hx hb (kd tdlX4_layOut_0 15 rfl) (by decide) (fun hc27 => ?_) (fun hc27 => ?_)
  · have hF := kt hc27 hF
    exact hK40 (s24_.2) hF _ _ _ hP hD hS (lv_sub hl [0, 1, 2] rfl)
  · have hF := kf hc27 hF
    refine lv_aload_n hx hb (kd tdlX4_layOut_0 16 rfl) rfl (lv_at hl 0 rfl) ?_
    obtain ⟨v31, e31, hF⟩ := kc hF
    refine kc_v (w1 := ((wplF t h0 a0 (pl_places v31) (pl_entries v31) (pl_chunks v31) (pl_puts v31) (pl_newContainers v31) (pl_rivals v31) (pl_votes v31) (pl_rivalCount v31)))) (W1 := ((wplF t h0 a0 (pl_places v31) (pl_entries v31) (pl_chunks v31) (pl_puts v31) (pl_newContainers v31) (pl_rivals v31) (pl_votes v31) (pl_rivalCount v31)) ++ (wdkF t h1 a1 (dk_settings d1) (dk_numbers d1) (dk_capacities d1) (dk_firsts d1) (dk_containers d1) (dk_codes d1) (dk_places d1) (dk_uses d1) (dk_entries d1) (dk_references d1) (dk_lengths d1) (dk_nextNumber d1) (dk_carried d1)) ++ (wsmF t h2 a2 (sm_worths d2) (sm_codes d2) (sm_letters d2) (sm_chunks d2)))) hK hP hD hS hA [0, 1, 2, 3, 4] nd_0_1_2_3_4 rfl rfl rfl (kr_V (Qx := (fun A => kQv D (TY t) ((wplF t h0 a0 (pl_places v31) (pl_entries v31) (pl_chunks v31) (pl_puts v31) (pl_newContainers v31) (pl_rivals v31) (pl_votes v31) (pl_rivalCount v31))) A)) (wc := ((wplF t h0 a0 (pl_places s24_.2) (pl_entries s24_.2) (pl_chunks s24_.2) (pl_puts s24_.2) (pl_newContainers s24_.2) (pl_rivals s24_.2) (pl_votes s24_.2) (pl_rivalCount s24_.2)))) (As := []) (rest := []) ⟨hx, hb, hml, hown, hts⟩ hK hP hD [0, 1, 2, 3, 4] nd_0_1_2_3_4 rfl (c_X4_dropWeakest l D t h0 a0 s24_.2 _  v31 e31) (cwV 0 hts (gcX4_dropWeakest w_538) rfl rfl rfl hdX4_dropWeakestV ⟨Nat.le_of_ble_eq_true rfl, Nat.le_of_ble_eq_true rfl⟩) (ci := 3) (q0 := 0) rfl rfl rfl hl.1 rfl (Nat.le_of_ble_eq_true rfl) (kd tdlX4_layOut_0 17 rfl) ⟨Nat.zero_le _, Nat.zero_le _⟩) (fun H locs hP hD hS => ?_)
    refine lv_iinc (v := (s24_.1 + (-1))) (lv' := [(4, .int (s24_.1 + (-1))), (0, .ref h0), (1, .ref h1), (2, .ref h2), (3, .int p3)]) hx hb (kd tdlX4_layOut_0 18 rfl) hl (k := 4) rfl rfl (by decide) rfl (fun ls hl => ?_)
    refine lv_goto (tgt := 24) hx hb (kd tdlX4_layOut_0 19 rfl) (by decide) ?_
    exact ih24 ((s24_.1 + (-1)), v31) hF _ _ _ hP hD hS (lv_sub hl [1, 2, 3, 4, 0] rfl)
set_option maxHeartbeats 4000000 in
set_option maxRecDepth 100000 in
theorem c_X4_passThrough (l : Launch) (D : va_G) (t : Nat → ClassId) (h0 : Nat) (a0 : Nat → Nat) (d0 : PLT) (h1 : Nat) (a1 : Nat → Nat) (d1 : SOT) (sz : Nat)  (r : SOT) (hF : F_X4_passThrough d0 d1 = some r) : Met l yX4_passThrough wX4_passThrough ({ frames := 2, cells := 0, slots := 0, locals := 45 } : Room) (kPc D (TY t) ((wpl t h0 a0 d0) ++ (wso t h1 a1 d1)) [.ref h0, .ref h1] sz) (kQv D (TY t) ((wpl t h0 a0 d0) ++ (wso t h1 a1 r)) (va_A ((wpl t h0 a0 d0) ++ (wso t h1 a1 d1)) sz)) 0 0 (va_A ((wpl t h0 a0 d0) ++ (wso t h1 a1 d1)) sz) := by
  refine kE (cc := cX4_passThrough) (maxL := 3) (ret := none) (Qx := fun A => kQv D (TY t) ((wpl t h0 a0 d0) ++ (wso t h1 a1 r)) A) (lv0 := [(0, .ref h0), (1, .ref h1)]) RX4 rfl (by decide) rfl (Nat.le_of_ble_eq_true rfl) rfl ?_
  intro p e s m args below meth c A ls hx hb hml hr hlocks hown hts hA hK hP hD hS hl
  have L30 := hts (.fieldLink RX4 30 "ChunkCarriers$Plan" "chunks" "I") (List.mem_cons_of_mem _ w_512)
  have L9 := hts (.fieldLink RX4 9 "ChunkCarriers$Plan" "places" "[I") (List.mem_cons_of_mem _ w_78)
  have inX4_ : ∀ w ∈ wsX40, w ∈ wX4_passThrough := fun w h => List.mem_cons_of_mem _ (inlX4 w h)
  have hP : va_P D vwCl ((wplF t h0 a0 (pl_places d0) (pl_entries d0) (pl_chunks d0) (pl_puts d0) (pl_newContainers d0) (pl_rivals d0) (pl_votes d0) (pl_rivalCount d0)) ++ (wsoF t h1 a1 (so_loaded d1) (so_room d1) (so_held d1) (so_before d1) (so_loads d1) (so_jumps d1))) s.heap := hP
  have hD : va_D A ((wplF t h0 a0 (pl_places d0) (pl_entries d0) (pl_chunks d0) (pl_puts d0) (pl_newContainers d0) (pl_rivals d0) (pl_votes d0) (pl_rivalCount d0)) ++ (wsoF t h1 a1 (so_loaded d1) (so_room d1) (so_held d1) (so_before d1) (so_loads d1) (so_jumps d1))) := hD
  refine lv_iconst (v := 0) hx hb (kd tdlX4_passThrough_0 0 rfl) (by decide) ?_
  refine lv_istore_n (lv' := [(2, .int 0), (0, .ref h0), (1, .ref h1)]) hx hb (kd tdlX4_passThrough_0 1 rfl) rfl hl (by decide) rfl (fun ls hl => ?_)
  refine lp_ind (f := B_X4_passThrough_2 d0) (r := r) (P := fun s2_ => ∀ (H : Heap) (locs : List Loc) (ls : Array Slot), va_P D vwCl ((wplF t h0 a0 (pl_places d0) (pl_entries d0) (pl_chunks d0) (pl_puts d0) (pl_newContainers d0) (pl_rivals d0) (pl_votes d0) (pl_rivalCount d0)) ++ (wsoF t h1 a1 (so_loaded s2_.2) (so_room s2_.2) (so_held s2_.2) (so_before s2_.2) (so_loads s2_.2) (so_jumps s2_.2))) H → va_D A ((wplF t h0 a0 (pl_places d0) (pl_entries d0) (pl_chunks d0) (pl_puts d0) (pl_newContainers d0) (pl_rivals d0) (pl_votes d0) (pl_rivalCount d0)) ++ (wsoF t h1 a1 (so_loaded s2_.2) (so_room s2_.2) (so_held s2_.2) (so_before s2_.2) (so_loads s2_.2) (so_jumps s2_.2))) → va_S A s.heap H locs → lv_has ls 3 [(0, .ref h0), (1, .ref h1), (2, .int s2_.1)] → W p l e ({ frames := 2, cells := 0, slots := 0, locals := 45 } : Room) s m args below meth c H locs 0 0 (MQ below (kQv D (TY t) ((wpl t h0 a0 d0) ++ (wso t h1 a1 r)) A) args s 0 0 A) (F0 m 2 ls [])) ?_ FU (0, d1) hF _ _ _ hP hD hS (lv_sub hl [1, 2, 0] rfl)
  intro self2 ih2 s2_ hF H locs ls hP hD hS hl
  refine lv_iload_n hx hb (kd tdlX4_passThrough_0 2 rfl) rfl (lv_at hl 2 rfl) ?_
  refine lv_aload_n hx hb (kd tdlX4_passThrough_0 3 rfl) rfl (lv_at hl 0 rfl) ?_
  refine va_get (D := D) (ci := 3) (v := .int (pl_chunks d0)) (C := RX4) (T := TX4) (N := 8) hx hb hts inX4_ hown hK hP 0 rfl rfl 2 (by decide) L30 (fun _ h9 => h9) rfl (kd tdlX4_passThrough_0 4 rfl) ?_
  refine lv_icmp_ge (tgt := 26) hx hb (kd tdlX4_passThrough_0 5 rfl) (by decide) (fun hc7 => ?_) (fun hc7 => ?_)
  · have hF := kt hc7 hF
    cases ko hF
    exact ke_v hx hb hr hlocks hK hP hD hS (kd tdlX4_passThrough_0 14 rfl)
  · have hF := kf hc7 hF
    refine lv_aload_n hx hb (kd tdlX4_passThrough_0 6 rfl) rfl (lv_at hl 1 rfl) ?_
    refine lv_aload_n hx hb (kd tdlX4_passThrough_0 7 rfl) rfl (lv_at hl 0 rfl) ?_
    refine va_get (D := D) (ci := 3) (v := .ref (a0 0)) (C := RX4) (T := TX4) (N := 8) hx hb hts inX4_ hown hK hP 0 rfl rfl 0 (by decide) L9 (fun _ h9 => h9) rfl (kd tdlX4_passThrough_0 8 rfl) ?_
    refine lv_iload_n hx hb (kd tdlX4_passThrough_0 9 rfl) rfl (lv_at hl 2 rfl) ?_
    obtain ⟨hi16, hF⟩ := kg hF
    refine va_iald (D := D) (tys := TY t) hx hb hK hP 1 0 rfl rfl hi16 (kd tdlX4_passThrough_0 10 rfl) ?_
    obtain ⟨v17, e17, hF⟩ := kc hF
    refine kc_v (w1 := ((wsoF t h1 a1 (so_loaded v17) (so_room v17) (so_held v17) (so_before v17) (so_loads v17) (so_jumps v17)))) (W1 := ((wplF t h0 a0 (pl_places d0) (pl_entries d0) (pl_chunks d0) (pl_puts d0) (pl_newContainers d0) (pl_rivals d0) (pl_votes d0) (pl_rivalCount d0)) ++ (wsoF t h1 a1 (so_loaded v17) (so_room v17) (so_held v17) (so_before v17) (so_loads v17) (so_jumps v17)))) hK hP hD hS hA [5, 6] nd_5_6 rfl rfl rfl (kr_V (Qx := (fun A => kQv D (TY t) ((wsoF t h1 a1 (so_loaded v17) (so_room v17) (so_held v17) (so_before v17) (so_loads v17) (so_jumps v17))) A)) (wc := ((wsoF t h1 a1 (so_loaded s2_.2) (so_room s2_.2) (so_held s2_.2) (so_before s2_.2) (so_loads s2_.2) (so_jumps s2_.2)))) (As := [.int ((pl_places d0) (Int32.toNatClampNeg s2_.1))]) (rest := []) ⟨hx, hb, hml, hown, hts⟩ hK hP hD [5, 6] nd_5_6 rfl (c_X5_use l D t h1 a1 s2_.2 _ ((pl_places d0) (Int32.toNatClampNeg s2_.1)) v17 e17) (cwV 1 hts (gcX5_use w_643) rfl rfl rfl hdX5_useV ⟨Nat.le_of_ble_eq_true rfl, Nat.le_of_ble_eq_true rfl⟩) (ci := 4) (q0 := 5) rfl rfl rfl hl.1 rfl (Nat.le_of_ble_eq_true rfl) (kd tdlX4_passThrough_0 11 rfl) ⟨Nat.zero_le _, Nat.zero_le _⟩) (fun H locs hP hD hS => ?_)
    refine lv_iinc (v := (s2_.1 + 1)) (lv' := [(2, .int (s2_.1 + 1)), (0, .ref h0), (1, .ref h1)]) hx hb (kd tdlX4_passThrough_0 12 rfl) hl (k := 2) rfl rfl (by decide) rfl (fun ls hl => ?_)
    refine lv_goto (tgt := 2) hx hb (kd tdlX4_passThrough_0 13 rfl) (by decide) ?_
    exact ih2 ((s2_.1 + 1), v17) hF _ _ _ hP hD hS (lv_sub hl [1, 2, 0] rfl)
