set_option maxHeartbeats 4000000 in
set_option maxRecDepth 100000 in
theorem c_X1_allows (l : Launch) (D : va_G) (t : Nat → ClassId) (h0 : Nat) (a0 : Nat → Nat) (d0 : DKT) (h1 : Nat) (a1 : Nat → Nat) (d1 : PLT) (sz : Nat)  (r : Int32) (hF : F_X1_allows d0 d1 = some r) : Met l yX1_allows wX1_allows ({ frames := 1, cells := 0, slots := 0, locals := 21 } : Room) (kPc D (TY t) ((wdk t h0 a0 d0) ++ (wpl t h1 a1 d1)) [.ref h0, .ref h1] sz) (kQi D (TY t) ((wdk t h0 a0 d0) ++ (wpl t h1 a1 d1)) r (va_A ((wdk t h0 a0 d0) ++ (wpl t h1 a1 d1)) sz)) 0 0 (va_A ((wdk t h0 a0 d0) ++ (wpl t h1 a1 d1)) sz) := by
  refine kE (cc := cX1_allows) (maxL := 2) (ret := (some .boolean)) (Qx := fun A => kQi D (TY t) ((wdk t h0 a0 d0) ++ (wpl t h1 a1 d1)) r A) (lv0 := [(0, .ref h0), (1, .ref h1)]) RX1 rfl (by decide) rfl (Nat.le_of_ble_eq_true rfl) rfl ?_
  intro p e s m args below meth c A ls hx hb hml hr hlocks hown hts hA hK hP hD hS hl
  have L150 := hts (.fieldLink RX1 150 "ChunkCarriers$Plan" "newContainers" "I") (List.mem_cons_of_mem _ w_564)
  have L53 := hts (.fieldLink RX1 53 "ChunkCarriers$Desk" "containers" "I") (List.mem_cons_of_mem _ w_108)
  have inX1_ : ∀ w ∈ wsX10, w ∈ wX1_allows := fun w h => List.mem_cons_of_mem _ (inlX1 w h)
  have inX4_ : ∀ w ∈ wsX40, w ∈ wX1_allows := fun w h => List.mem_cons_of_mem _ (inlX4 w h)
  have hP : va_P D vwCl ((wdkF t h0 a0 (dk_settings d0) (dk_numbers d0) (dk_capacities d0) (dk_firsts d0) (dk_containers d0) (dk_codes d0) (dk_places d0) (dk_uses d0) (dk_entries d0) (dk_references d0) (dk_lengths d0) (dk_nextNumber d0) (dk_carried d0)) ++ (wplF t h1 a1 (pl_places d1) (pl_entries d1) (pl_chunks d1) (pl_puts d1) (pl_newContainers d1) (pl_rivals d1) (pl_votes d1) (pl_rivalCount d1))) s.heap := hP
  have hD : va_D A ((wdkF t h0 a0 (dk_settings d0) (dk_numbers d0) (dk_capacities d0) (dk_firsts d0) (dk_containers d0) (dk_codes d0) (dk_places d0) (dk_uses d0) (dk_entries d0) (dk_references d0) (dk_lengths d0) (dk_nextNumber d0) (dk_carried d0)) ++ (wplF t h1 a1 (pl_places d1) (pl_entries d1) (pl_chunks d1) (pl_puts d1) (pl_newContainers d1) (pl_rivals d1) (pl_votes d1) (pl_rivalCount d1))) := hD
  refine lv_aload_n hx hb (kd tdlX1_allows_0 0 rfl) rfl (lv_at hl 0 rfl) ?_
  obtain ⟨v1, e1, hF⟩ := kc hF
  refine kc_iR hK hP hD hS hA [0, 1, 2, 3, 4, 5, 6, 7, 8, 9] rfl (kr_V (Qx := (fun A => kQi D (TY t) ((wdkF t h0 a0 (dk_settings d0) (dk_numbers d0) (dk_capacities d0) (dk_firsts d0) (dk_containers d0) (dk_codes d0) (dk_places d0) (dk_uses d0) (dk_entries d0) (dk_references d0) (dk_lengths d0) (dk_nextNumber d0) (dk_carried d0))) v1 A)) (wc := ((wdkF t h0 a0 (dk_settings d0) (dk_numbers d0) (dk_capacities d0) (dk_firsts d0) (dk_containers d0) (dk_codes d0) (dk_places d0) (dk_uses d0) (dk_entries d0) (dk_references d0) (dk_lengths d0) (dk_nextNumber d0) (dk_carried d0)))) (As := []) (rest := []) ⟨hx, hb, hml, hown, hts⟩ hK hP hD [0, 1, 2, 3, 4, 5, 6, 7, 8, 9] nd_0_1_2_3_4_5_6_7_8_9 rfl (c_X1_freeBackup l D t h0 a0 d0 _  v1 e1) (cwV 0 hts (gcX1_freeBackup w_565) rfl rfl rfl hdX1_freeBackupV ⟨Nat.le_of_ble_eq_true rfl, Nat.le_of_ble_eq_true rfl⟩) (ci := 1) (q0 := 0) rfl rfl rfl hl.1 rfl (Nat.le_of_ble_eq_true rfl) (kd tdlX1_allows_0 1 rfl) ⟨Nat.zero_le _, Nat.zero_le _⟩) (fun H locs hP hS => ?_)
  refine lv_iconst (v := (-1)) hx hb (kd tdlX1_allows_0 2 rfl) (by decide) ?_
  refine lv_icmp_eq (tgt := 26) hx hb (kd tdlX1_allows_0 3 rfl) (by decide) (fun hc5 => ?_) (fun hc5 => ?_)
  · have hF := kt hc5 hF
    refine lv_iconst (v := 0) hx hb (kd tdlX1_allows_0 13 rfl) (by decide) ?_
    cases ko hF
    exact ke_z hx hb hr hlocks rfl hK hP hD hS rfl (kd tdlX1_allows_0 14 rfl)
  · have hF := kf hc5 hF
    refine lv_aload_n hx hb (kd tdlX1_allows_0 4 rfl) rfl (lv_at hl 0 rfl) ?_
    refine va_get (D := D) (ci := 1) (v := .int (dk_containers d0)) (C := RX1) (T := TX1) (N := 13) hx hb hts inX1_ hown hK hP 0 rfl rfl 4 (by decide) L53 (fun _ h9 => h9) rfl (kd tdlX1_allows_0 5 rfl) ?_
    refine lv_aload_n hx hb (kd tdlX1_allows_0 6 rfl) rfl (lv_at hl 1 rfl) ?_
    refine va_get (D := D) (ci := 3) (v := .int (pl_newContainers d1)) (C := RX4) (T := TX4) (N := 8) hx hb hts inX4_ hown hK hP 10 rfl rfl 4 (by decide) L150 (fun _ h9 => h9) rfl (kd tdlX1_allows_0 7 rfl) ?_
    refine lv_iadd hx hb (kd tdlX1_allows_0 8 rfl) ?_
    refine lv_bipush (v := 24) hx hb (kd tdlX1_allows_0 9 rfl) (by decide) ?_
    refine lv_icmp_gt (tgt := 26) hx hb (kd tdlX1_allows_0 10 rfl) (by decide) (fun hc19 => ?_) (fun hc19 => ?_)
    · have hF := kt hc19 hF
      refine lv_iconst (v := 0) hx hb (kd tdlX1_allows_0 13 rfl) (by decide) ?_
      cases ko hF
      exact ke_z hx hb hr hlocks rfl hK hP hD hS rfl (kd tdlX1_allows_0 14 rfl)
    · have hF := kf hc19 hF
      refine lv_iconst (v := 1) hx hb (kd tdlX1_allows_0 11 rfl) (by decide) ?_
      refine lv_goto (tgt := 27) hx hb (kd tdlX1_allows_0 12 rfl) (by decide) ?_
      cases ko hF
      exact ke_z hx hb hr hlocks rfl hK hP hD hS rfl (kd tdlX1_allows_0 14 rfl)
set_option maxHeartbeats 4000000 in
set_option maxRecDepth 100000 in
theorem c_X1_addBackup (l : Launch) (D : va_G) (t : Nat → ClassId) (h0 : Nat) (a0 : Nat → Nat) (d0 : DKT) (h1 : Nat) (a1 : Nat → Nat) (d1 : PLT) (h2 : Nat) (a2 : Nat → Nat) (d2 : SMT) (sz : Nat)  (r : Int32 × DKT) (hF : F_X1_addBackup d0 d1 d2 = some r) : Met l yX1_addBackup wX1_addBackup ({ frames := 2, cells := 0, slots := 0, locals := 42 } : Room) (kPc D (TY t) ((wdk t h0 a0 d0) ++ (wpl t h1 a1 d1) ++ (wsm t h2 a2 d2)) [.ref h0, .ref h1, .ref h2] sz) (kQi D (TY t) ((wdk t h0 a0 r.2) ++ (wpl t h1 a1 d1) ++ (wsm t h2 a2 d2)) r.1 (va_A ((wdk t h0 a0 d0) ++ (wpl t h1 a1 d1) ++ (wsm t h2 a2 d2)) sz)) 0 0 (va_A ((wdk t h0 a0 d0) ++ (wpl t h1 a1 d1) ++ (wsm t h2 a2 d2)) sz) := by
  refine kE (cc := cX1_addBackup) (maxL := 5) (ret := (some .int)) (Qx := fun A => kQi D (TY t) ((wdk t h0 a0 r.2) ++ (wpl t h1 a1 d1) ++ (wsm t h2 a2 d2)) r.1 A) (lv0 := [(0, .ref h0), (1, .ref h1), (2, .ref h2)]) RX1 rfl (by decide) rfl (Nat.le_of_ble_eq_true rfl) rfl ?_
  intro p e s m args below meth c A ls hx hb hml hr hlocks hown hts hA hK hP hD hS hl
  have L155 := hts (.fieldLink RX1 155 "ChunkCarriers$Plan" "chunks" "I") (List.mem_cons_of_mem _ w_573)
  have L158 := hts (.fieldLink RX1 158 "ChunkCarriers$Plan" "entries" "[I") (List.mem_cons_of_mem _ w_574)
  have L38 := hts (.fieldLink RX1 38 "ChunkCarriers$Desk" "uses" "[I") (List.mem_cons_of_mem _ w_62)
  have L41 := hts (.fieldLink RX1 41 "ChunkCarriers$Desk" "references" "[I") (List.mem_cons_of_mem _ w_63)
  have L44 := hts (.fieldLink RX1 44 "ChunkCarriers$Desk" "lengths" "[I") (List.mem_cons_of_mem _ w_64)
  have L57 := hts (.fieldLink RX1 57 "ChunkCarriers$Desk" "entries" "I") (List.mem_cons_of_mem _ w_109)
  have inX1_ : ∀ w ∈ wsX10, w ∈ wX1_addBackup := fun w h => List.mem_cons_of_mem _ (inlX1 w h)
  have inX4_ : ∀ w ∈ wsX40, w ∈ wX1_addBackup := fun w h => List.mem_cons_of_mem _ (inlX4 w h)
  have hP : va_P D vwCl ((wdkF t h0 a0 (dk_settings d0) (dk_numbers d0) (dk_capacities d0) (dk_firsts d0) (dk_containers d0) (dk_codes d0) (dk_places d0) (dk_uses d0) (dk_entries d0) (dk_references d0) (dk_lengths d0) (dk_nextNumber d0) (dk_carried d0)) ++ (wplF t h1 a1 (pl_places d1) (pl_entries d1) (pl_chunks d1) (pl_puts d1) (pl_newContainers d1) (pl_rivals d1) (pl_votes d1) (pl_rivalCount d1)) ++ (wsmF t h2 a2 (sm_worths d2) (sm_codes d2) (sm_letters d2) (sm_chunks d2))) s.heap := hP
  have hD : va_D A ((wdkF t h0 a0 (dk_settings d0) (dk_numbers d0) (dk_capacities d0) (dk_firsts d0) (dk_containers d0) (dk_codes d0) (dk_places d0) (dk_uses d0) (dk_entries d0) (dk_references d0) (dk_lengths d0) (dk_nextNumber d0) (dk_carried d0)) ++ (wplF t h1 a1 (pl_places d1) (pl_entries d1) (pl_chunks d1) (pl_puts d1) (pl_newContainers d1) (pl_rivals d1) (pl_votes d1) (pl_rivalCount d1)) ++ (wsmF t h2 a2 (sm_worths d2) (sm_codes d2) (sm_letters d2) (sm_chunks d2))) := hD
  refine lv_aload_n hx hb (kd tdlX1_addBackup_0 0 rfl) rfl (lv_at hl 0 rfl) ?_
  obtain ⟨v1, e1, hF⟩ := kc hF
  refine kc_iR hK hP hD hS hA [0, 1, 2, 3, 4, 5, 6, 7, 8, 9] rfl (kr_V (Qx := (fun A => kQi D (TY t) ((wdkF t h0 a0 (dk_settings d0) (dk_numbers d0) (dk_capacities d0) (dk_firsts d0) (dk_containers d0) (dk_codes d0) (dk_places d0) (dk_uses d0) (dk_entries d0) (dk_references d0) (dk_lengths d0) (dk_nextNumber d0) (dk_carried d0))) v1 A)) (wc := ((wdkF t h0 a0 (dk_settings d0) (dk_numbers d0) (dk_capacities d0) (dk_firsts d0) (dk_containers d0) (dk_codes d0) (dk_places d0) (dk_uses d0) (dk_entries d0) (dk_references d0) (dk_lengths d0) (dk_nextNumber d0) (dk_carried d0)))) (As := []) (rest := []) ⟨hx, hb, hml, hown, hts⟩ hK hP hD [0, 1, 2, 3, 4, 5, 6, 7, 8, 9] nd_0_1_2_3_4_5_6_7_8_9 rfl (c_X1_freeBackup l D t h0 a0 d0 _  v1 e1) (cwV 0 hts (gcX1_freeBackup w_565) rfl rfl rfl hdX1_freeBackupV ⟨Nat.le_of_ble_eq_true rfl, Nat.le_of_ble_eq_true rfl⟩) (ci := 1) (q0 := 0) rfl rfl rfl hl.1 rfl (Nat.le_of_ble_eq_true rfl) (kd tdlX1_addBackup_0 1 rfl) ⟨Nat.zero_le _, Nat.zero_le _⟩) (fun H locs hP hS => ?_)
  refine lv_istore_n (lv' := [(3, .int v1), (0, .ref h0), (1, .ref h1), (2, .ref h2)]) hx hb (kd tdlX1_addBackup_0 2 rfl) rfl hl (by decide) rfl (fun ls hl => ?_)
  refine lv_iload_n hx hb (kd tdlX1_addBackup_0 3 rfl) rfl (lv_at hl 0 rfl) ?_
  refine lv_iconst (v := (-1)) hx hb (kd tdlX1_addBackup_0 4 rfl) (by decide) ?_
  refine lv_icmp_ne (tgt := 12) hx hb (kd tdlX1_addBackup_0 5 rfl) (by decide) (fun hc7 => ?_) (fun hc7 => ?_)
  · have hF := kf hc7 hF
    refine lv_iconst (v := 0) hx hb (kd tdlX1_addBackup_0 8 rfl) (by decide) ?_
    refine lv_istore (lv' := [(4, .int 0), (3, .int v1), (0, .ref h0), (1, .ref h1), (2, .ref h2)]) hx hb (kd tdlX1_addBackup_0 9 rfl) hl (by decide) rfl (fun ls hl => ?_)
    have hK104 : ∀ k104 : DKT, K_X1_addBackup_104 v1 d1 k104 = some r → ∀ (H : Heap) (locs : List Loc) (ls : Array Slot), va_P D vwCl ((wdkF t h0 a0 (dk_settings k104) (dk_numbers k104) (dk_capacities k104) (dk_firsts k104) (dk_containers k104) (dk_codes k104) (dk_places k104) (dk_uses k104) (dk_entries k104) (dk_references k104) (dk_lengths k104) (dk_nextNumber k104) (dk_carried k104)) ++ (wplF t h1 a1 (pl_places d1) (pl_entries d1) (pl_chunks d1) (pl_puts d1) (pl_newContainers d1) (pl_rivals d1) (pl_votes d1) (pl_rivalCount d1)) ++ (wsmF t h2 a2 (sm_worths d2) (sm_codes d2) (sm_letters d2) (sm_chunks d2))) H → va_D A ((wdkF t h0 a0 (dk_settings k104) (dk_numbers k104) (dk_capacities k104) (dk_firsts k104) (dk_containers k104) (dk_codes k104) (dk_places k104) (dk_uses k104) (dk_entries k104) (dk_references k104) (dk_lengths k104) (dk_nextNumber k104) (dk_carried k104)) ++ (wplF t h1 a1 (pl_places d1) (pl_entries d1) (pl_chunks d1) (pl_puts d1) (pl_newContainers d1) (pl_rivals d1) (pl_votes d1) (pl_rivalCount d1)) ++ (wsmF t h2 a2 (sm_worths d2) (sm_codes d2) (sm_letters d2) (sm_chunks d2))) → va_S A s.heap H locs → lv_has ls 5 [(0, .ref h0), (1, .ref h1), (3, .int v1)] → W p l e ({ frames := 2, cells := 0, slots := 0, locals := 42 } : Room) s m args below meth c H locs 0 0 (MQ below (kQi D (TY t) ((wdk t h0 a0 r.2) ++ (wpl t h1 a1 d1) ++ (wsm t h2 a2 d2)) r.1 A) args s 0 0 A) (F0 m 104 ls []) := by
      intro k104 hF H locs ls hP hD hS hl
      refine lv_aload_n hx hb (kd tdlX1_addBackup_1 14 rfl) rfl (lv_at hl 0 rfl) ?_
      refine va_get (D := D) (ci := 1) (v := .ref (a0 8)) (C := RX1) (T := TX1) (N := 13) hx hb hts inX1_ hown hK hP 0 rfl rfl 10 (by decide) L44 (fun _ h9 => h9) rfl (kd tdlX1_addBackup_1 15 rfl) ?_
      refine lv_iload_n hx hb (kd tdlX1_addBackup_1 16 rfl) rfl (lv_at hl 2 rfl) ?_
      refine lv_aload_n hx hb (kd tdlX1_addBackup_1 17 rfl) rfl (lv_at hl 1 rfl) ?_
      refine va_get (D := D) (ci := 3) (v := .int (pl_chunks d1)) (C := RX4) (T := TX4) (N := 8) hx hb hts inX4_ hown hK hP 10 rfl rfl 2 (by decide) L155 (fun _ h9 => h9) rfl (kd tdlX1_addBackup_1 18 rfl) ?_
      obtain ⟨hi113, hF⟩ := kg hF
      refine va_iast (D := D) (tys := TY t) hx hb hK hP hD hS 9 0 rfl rfl hi113 (kd tdlX1_addBackup_1 19 rfl) (fun H locs hP hD hS => ?_)
      have hP : va_P D vwCl ((wdkF t h0 a0 (dk_settings k104) (dk_numbers k104) (dk_capacities k104) (dk_firsts k104) (dk_containers k104) (dk_codes k104) (dk_places k104) (dk_uses k104) (dk_entries k104) (dk_references k104) (upd (dk_lengths k104) (Int32.toNatClampNeg v1) (pl_chunks d1)) (dk_nextNumber k104) (dk_carried k104)) ++ (wplF t h1 a1 (pl_places d1) (pl_entries d1) (pl_chunks d1) (pl_puts d1) (pl_newContainers d1) (pl_rivals d1) (pl_votes d1) (pl_rivalCount d1)) ++ (wsmF t h2 a2 (sm_worths d2) (sm_codes d2) (sm_letters d2) (sm_chunks d2))) H := hP
      have hD : va_D A ((wdkF t h0 a0 (dk_settings k104) (dk_numbers k104) (dk_capacities k104) (dk_firsts k104) (dk_containers k104) (dk_codes k104) (dk_places k104) (dk_uses k104) (dk_entries k104) (dk_references k104) (upd (dk_lengths k104) (Int32.toNatClampNeg v1) (pl_chunks d1)) (dk_nextNumber k104) (dk_carried k104)) ++ (wplF t h1 a1 (pl_places d1) (pl_entries d1) (pl_chunks d1) (pl_puts d1) (pl_newContainers d1) (pl_rivals d1) (pl_votes d1) (pl_rivalCount d1)) ++ (wsmF t h2 a2 (sm_worths d2) (sm_codes d2) (sm_letters d2) (sm_chunks d2))) := hD
      refine lv_iload_n hx hb (kd tdlX1_addBackup_1 20 rfl) rfl (lv_at hl 2 rfl) ?_
      cases ko hF
      exact ke_i hx hb hr hlocks hK hP hD hS rfl (kd tdlX1_addBackup_1 21 rfl)
    refine lp_ind (f := B_X1_addBackup_15 d1 d2 v1 (K_X1_addBackup_104 v1 d1)) (r := r) (P := fun s15_ => ∀ (H : Heap) (locs : List Loc) (ls : Array Slot), va_P D vwCl ((wdkF t h0 a0 (dk_settings s15_.2) (dk_numbers s15_.2) (dk_capacities s15_.2) (dk_firsts s15_.2) (dk_containers s15_.2) (dk_codes s15_.2) (dk_places s15_.2) (dk_uses s15_.2) (dk_entries s15_.2) (dk_references s15_.2) (dk_lengths s15_.2) (dk_nextNumber s15_.2) (dk_carried s15_.2)) ++ (wplF t h1 a1 (pl_places d1) (pl_entries d1) (pl_chunks d1) (pl_puts d1) (pl_newContainers d1) (pl_rivals d1) (pl_votes d1) (pl_rivalCount d1)) ++ (wsmF t h2 a2 (sm_worths d2) (sm_codes d2) (sm_letters d2) (sm_chunks d2))) H → va_D A ((wdkF t h0 a0 (dk_settings s15_.2) (dk_numbers s15_.2) (dk_capacities s15_.2) (dk_firsts s15_.2) (dk_containers s15_.2) (dk_codes s15_.2) (dk_places s15_.2) (dk_uses s15_.2) (dk_entries s15_.2) (dk_references s15_.2) (dk_lengths s15_.2) (dk_nextNumber s15_.2) (dk_carried s15_.2)) ++ (wplF t h1 a1 (pl_places d1) (pl_entries d1) (pl_chunks d1) (pl_puts d1) (pl_newContainers d1) (pl_rivals d1) (pl_votes d1) (pl_rivalCount d1)) ++ (wsmF t h2 a2 (sm_worths d2) (sm_codes d2) (sm_letters d2) (sm_chunks d2))) → va_S A s.heap H locs → lv_has ls 5 [(0, .ref h0), (1, .ref h1), (2, .ref h2), (3, .int v1), (4, .int s15_.1)] → W p l e ({ frames := 2, cells := 0, slots := 0, locals := 42 } : Room) s m args below meth c H locs 0 0 (MQ below (kQi D (TY t) ((wdk t h0 a0 r.2) ++ (wpl t h1 a1 d1) ++ (wsm t h2 a2 d2)) r.1 A) args s 0 0 A) (F0 m 15 ls [])) ?_ FU (0, d0) hF _ _ _ hP hD hS (lv_sub hl [2, 3, 4, 1, 0] rfl)
    intro self15 ih15 s15_ hF H locs ls hP hD hS hl
    refine lv_iload hx hb (kd tdlX1_addBackup_0 10 rfl) (lv_at hl 4 rfl) ?_
    refine lv_aload_n hx hb (kd tdlX1_addBackup_0 11 rfl) rfl (lv_at hl 1 rfl) ?_
    refine va_get (D := D) (ci := 3) (v := .int (pl_chunks d1)) (C := RX4) (T := TX4) (N := 8) hx hb hts inX4_ hown hK hP 10 rfl rfl 2 (by decide) L155 (fun _ h9 => h9) rfl (kd tdlX1_addBackup_0 12 rfl) ?_
    refine lv_icmp_ge (tgt := 104) hx hb (kd tdlX1_addBackup_0 13 rfl) (by decide) (fun hc21 => ?_) (fun hc21 => ?_)
    · have hF := kt hc21 hF
      exact hK104 (s15_.2) hF _ _ _ hP hD hS (lv_sub hl [0, 1, 3] rfl)
    · have hF := kf hc21 hF
      refine lv_aload_n hx hb (kd tdlX1_addBackup_0 14 rfl) rfl (lv_at hl 1 rfl) ?_
      refine va_get (D := D) (ci := 3) (v := .ref (a1 1)) (C := RX4) (T := TX4) (N := 8) hx hb hts inX4_ hown hK hP 10 rfl rfl 1 (by decide) L158 (fun _ h9 => h9) rfl (kd tdlX1_addBackup_0 15 rfl) ?_
      refine lv_iload hx hb (kd tdlX1_addBackup_0 16 rfl) (lv_at hl 4 rfl) ?_
      obtain ⟨hi30, hF⟩ := kg hF
      refine va_iald (D := D) (tys := TY t) hx hb hK hP 12 0 rfl rfl hi30 (kd tdlX1_addBackup_0 17 rfl) ?_
      refine lv_aload_n hx hb (kd tdlX1_addBackup_0 18 rfl) rfl (lv_at hl 0 rfl) ?_
      refine va_get (D := D) (ci := 1) (v := .int (dk_entries s15_.2)) (C := RX1) (T := TX1) (N := 13) hx hb hts inX1_ hown hK hP 0 rfl rfl 8 (by decide) L57 (fun _ h9 => h9) rfl (kd tdlX1_addBackup_0 19 rfl) ?_
      have hJ49 : ∀ j49 : DKT, J_X1_addBackup_49 s15_ v1 d1 self15 j49 = some r → ∀ (H : Heap) (locs : List Loc) (ls : Array Slot), va_P D vwCl ((wdkF t h0 a0 (dk_settings j49) (dk_numbers j49) (dk_capacities j49) (dk_firsts j49) (dk_containers j49) (dk_codes j49) (dk_places j49) (dk_uses j49) (dk_entries j49) (dk_references j49) (dk_lengths j49) (dk_nextNumber j49) (dk_carried j49)) ++ (wplF t h1 a1 (pl_places d1) (pl_entries d1) (pl_chunks d1) (pl_puts d1) (pl_newContainers d1) (pl_rivals d1) (pl_votes d1) (pl_rivalCount d1)) ++ (wsmF t h2 a2 (sm_worths d2) (sm_codes d2) (sm_letters d2) (sm_chunks d2))) H → va_D A ((wdkF t h0 a0 (dk_settings j49) (dk_numbers j49) (dk_capacities j49) (dk_firsts j49) (dk_containers j49) (dk_codes j49) (dk_places j49) (dk_uses j49) (dk_entries j49) (dk_references j49) (dk_lengths j49) (dk_nextNumber j49) (dk_carried j49)) ++ (wplF t h1 a1 (pl_places d1) (pl_entries d1) (pl_chunks d1) (pl_puts d1) (pl_newContainers d1) (pl_rivals d1) (pl_votes d1) (pl_rivalCount d1)) ++ (wsmF t h2 a2 (sm_worths d2) (sm_codes d2) (sm_letters d2) (sm_chunks d2))) → va_S A s.heap H locs → lv_has ls 5 [(0, .ref h0), (1, .ref h1), (2, .ref h2), (3, .int v1), (4, .int s15_.1)] → W p l e ({ frames := 2, cells := 0, slots := 0, locals := 42 } : Room) s m args below meth c H locs 0 0 (MQ below (kQi D (TY t) ((wdk t h0 a0 r.2) ++ (wpl t h1 a1 d1) ++ (wsm t h2 a2 d2)) r.1 A) args s 0 0 A) (F0 m 49 ls []) := by
        intro j49 hF H locs ls hP hD hS hl
        refine lv_aload_n hx hb (kd tdlX1_addBackup_0 27 rfl) rfl (lv_at hl 0 rfl) ?_
        refine va_get (D := D) (ci := 1) (v := .ref (a0 7)) (C := RX1) (T := TX1) (N := 13) hx hb hts inX1_ hown hK hP 0 rfl rfl 9 (by decide) L41 (fun _ h9 => h9) rfl (kd tdlX1_addBackup_0 28 rfl) ?_
        refine lv_iload_n hx hb (kd tdlX1_addBackup_0 29 rfl) rfl (lv_at hl 3 rfl) ?_
        refine lv_bipush (v := 15) hx hb (kd tdlX1_addBackup_0 30 rfl) (by decide) ?_
        refine lv_imul hx hb (kd tdlX1_addBackup_0 31 rfl) ?_
        refine lv_iload hx hb (kd tdlX1_addBackup_0 32 rfl) (lv_at hl 4 rfl) ?_
        refine lv_iadd hx hb (kd tdlX1_addBackup_0 33 rfl) ?_
        refine lv_aload_n hx hb (kd tdlX1_addBackup_0 34 rfl) rfl (lv_at hl 1 rfl) ?_
        refine va_get (D := D) (ci := 3) (v := .ref (a1 1)) (C := RX4) (T := TX4) (N := 8) hx hb hts inX4_ hown hK hP 10 rfl rfl 1 (by decide) L158 (fun _ h9 => h9) rfl (kd tdlX1_addBackup_0 35 rfl) ?_
        refine lv_iload hx hb (kd tdlX1_addBackup_0 36 rfl) (lv_at hl 4 rfl) ?_
        obtain ⟨hi66, hF⟩ := kg hF
        refine va_iald (D := D) (tys := TY t) hx hb hK hP 12 0 rfl rfl hi66 (kd tdlX1_addBackup_0 37 rfl) ?_
        obtain ⟨hi67, hF⟩ := kg hF
        refine va_iast (D := D) (tys := TY t) hx hb hK hP hD hS 8 0 rfl rfl hi67 (kd tdlX1_addBackup_0 38 rfl) (fun H locs hP hD hS => ?_)
        have hP : va_P D vwCl ((wdkF t h0 a0 (dk_settings j49) (dk_numbers j49) (dk_capacities j49) (dk_firsts j49) (dk_containers j49) (dk_codes j49) (dk_places j49) (dk_uses j49) (dk_entries j49) (upd (dk_references j49) (Int32.toNatClampNeg ((v1 * 15) + s15_.1)) ((pl_entries d1) (Int32.toNatClampNeg s15_.1))) (dk_lengths j49) (dk_nextNumber j49) (dk_carried j49)) ++ (wplF t h1 a1 (pl_places d1) (pl_entries d1) (pl_chunks d1) (pl_puts d1) (pl_newContainers d1) (pl_rivals d1) (pl_votes d1) (pl_rivalCount d1)) ++ (wsmF t h2 a2 (sm_worths d2) (sm_codes d2) (sm_letters d2) (sm_chunks d2))) H := hP
        have hD : va_D A ((wdkF t h0 a0 (dk_settings j49) (dk_numbers j49) (dk_capacities j49) (dk_firsts j49) (dk_containers j49) (dk_codes j49) (dk_places j49) (dk_uses j49) (dk_entries j49) (upd (dk_references j49) (Int32.toNatClampNeg ((v1 * 15) + s15_.1)) ((pl_entries d1) (Int32.toNatClampNeg s15_.1))) (dk_lengths j49) (dk_nextNumber j49) (dk_carried j49)) ++ (wplF t h1 a1 (pl_places d1) (pl_entries d1) (pl_chunks d1) (pl_puts d1) (pl_newContainers d1) (pl_rivals d1) (pl_votes d1) (pl_rivalCount d1)) ++ (wsmF t h2 a2 (sm_worths d2) (sm_codes d2) (sm_letters d2) (sm_chunks d2))) := hD
        refine lv_aload_n hx hb (kd tdlX1_addBackup_0 39 rfl) rfl (lv_at hl 0 rfl) ?_
        refine lv_aload_n hx hb (kd tdlX1_addBackup_0 40 rfl) rfl (lv_at hl 1 rfl) ?_
        refine va_get (D := D) (ci := 3) (v := .ref (a1 1)) (C := RX4) (T := TX4) (N := 8) hx hb hts inX4_ hown hK hP 10 rfl rfl 1 (by decide) L158 (fun _ h9 => h9) rfl (kd tdlX1_addBackup_0 41 rfl) ?_
        refine lv_iload hx hb (kd tdlX1_addBackup_0 42 rfl) (lv_at hl 4 rfl) ?_
        obtain ⟨hi75, hF⟩ := kg hF
        refine va_iald (D := D) (tys := TY t) hx hb hK hP 12 0 rfl rfl hi75 (kd tdlX1_addBackup_0 43 rfl) ?_
        obtain ⟨v76, e76, hF⟩ := kc hF
        refine kc_iR hK hP hD hS hA [0, 1, 2, 3, 4, 5, 6, 7, 8, 9] rfl (kr_V (Qx := (fun A => kQi D (TY t) ((wdkF t h0 a0 (dk_settings j49) (dk_numbers j49) (dk_capacities j49) (dk_firsts j49) (dk_containers j49) (dk_codes j49) (dk_places j49) (dk_uses j49) (dk_entries j49) (upd (dk_references j49) (Int32.toNatClampNeg ((v1 * 15) + s15_.1)) ((pl_entries d1) (Int32.toNatClampNeg s15_.1))) (dk_lengths j49) (dk_nextNumber j49) (dk_carried j49))) v76 A)) (wc := ((wdkF t h0 a0 (dk_settings j49) (dk_numbers j49) (dk_capacities j49) (dk_firsts j49) (dk_containers j49) (dk_codes j49) (dk_places j49) (dk_uses j49) (dk_entries j49) (upd (dk_references j49) (Int32.toNatClampNeg ((v1 * 15) + s15_.1)) ((pl_entries d1) (Int32.toNatClampNeg s15_.1))) (dk_lengths j49) (dk_nextNumber j49) (dk_carried j49)))) (As := [.int ((pl_entries d1) (Int32.toNatClampNeg s15_.1))]) (rest := []) ⟨hx, hb, hml, hown, hts⟩ hK hP hD [0, 1, 2, 3, 4, 5, 6, 7, 8, 9] nd_0_1_2_3_4_5_6_7_8_9 rfl (c_X1_hasEntry l D t h0 a0 ((dk_settings j49), (dk_numbers j49), (dk_capacities j49), (dk_firsts j49), (dk_containers j49), (dk_codes j49), (dk_places j49), (dk_uses j49), (dk_entries j49), (upd (dk_references j49) (Int32.toNatClampNeg ((v1 * 15) + s15_.1)) ((pl_entries d1) (Int32.toNatClampNeg s15_.1))), (dk_lengths j49), (dk_nextNumber j49), (dk_carried j49)) _ ((pl_entries d1) (Int32.toNatClampNeg s15_.1)) v76 e76) (cwV 1 hts (gcX1_hasEntry w_169) rfl rfl rfl hdX1_hasEntryV ⟨Nat.le_of_ble_eq_true rfl, Nat.le_of_ble_eq_true rfl⟩) (ci := 1) (q0 := 0) rfl rfl rfl hl.1 rfl (Nat.le_of_ble_eq_true rfl) (kd tdlX1_addBackup_0 44 rfl) ⟨Nat.zero_le _, Nat.zero_le _⟩) (fun H locs hP hS => ?_)
        refine lv_if_eq (tgt := 98) hx hb (kd tdlX1_addBackup_1 0 rfl) (by decide) (fun hc79 => ?_) (fun hc79 => ?_)
        · have hF := kt hc79 hF
          refine lv_iinc (v := (s15_.1 + 1)) (lv' := [(4, .int (s15_.1 + 1)), (0, .ref h0), (1, .ref h1), (2, .ref h2), (3, .int v1)]) hx hb (kd tdlX1_addBackup_1 12 rfl) hl (k := 4) rfl rfl (by decide) rfl (fun ls hl => ?_)
          refine lv_goto (tgt := 15) hx hb (kd tdlX1_addBackup_1 13 rfl) (by decide) ?_
          exact ih15 ((s15_.1 + 1), ((dk_settings j49), (dk_numbers j49), (dk_capacities j49), (dk_firsts j49), (dk_containers j49), (dk_codes j49), (dk_places j49), (dk_uses j49), (dk_entries j49), (upd (dk_references j49) (Int32.toNatClampNeg ((v1 * 15) + s15_.1)) ((pl_entries d1) (Int32.toNatClampNeg s15_.1))), (dk_lengths j49), (dk_nextNumber j49), (dk_carried j49))) hF _ _ _ hP hD hS (lv_sub hl [1, 2, 3, 4, 0] rfl)
        · have hF := kf hc79 hF
          refine lv_aload_n hx hb (kd tdlX1_addBackup_1 1 rfl) rfl (lv_at hl 0 rfl) ?_
          refine va_get (D := D) (ci := 1) (v := .ref (a0 6)) (C := RX1) (T := TX1) (N := 13) hx hb hts inX1_ hown hK hP 0 rfl rfl 7 (by decide) L38 (fun _ h9 => h9) rfl (kd tdlX1_addBackup_1 2 rfl) ?_
          refine lv_aload_n hx hb (kd tdlX1_addBackup_1 3 rfl) rfl (lv_at hl 1 rfl) ?_
          refine va_get (D := D) (ci := 3) (v := .ref (a1 1)) (C := RX4) (T := TX4) (N := 8) hx hb hts inX4_ hown hK hP 10 rfl rfl 1 (by decide) L158 (fun _ h9 => h9) rfl (kd tdlX1_addBackup_1 4 rfl) ?_
          refine lv_iload hx hb (kd tdlX1_addBackup_1 5 rfl) (lv_at hl 4 rfl) ?_
          obtain ⟨hi92, hF⟩ := kg hF
          refine va_iald (D := D) (tys := TY t) hx hb hK hP 12 0 rfl rfl hi92 (kd tdlX1_addBackup_1 6 rfl) ?_
          refine lv_dup2_11 hx hb (kd tdlX1_addBackup_1 7 rfl) rfl rfl ?_
          obtain ⟨hi94, hF⟩ := kg hF
          refine va_iald (D := D) (tys := TY t) hx hb hK hP 7 0 rfl rfl hi94 (kd tdlX1_addBackup_1 8 rfl) ?_
          refine lv_iconst (v := 1) hx hb (kd tdlX1_addBackup_1 9 rfl) (by decide) ?_
          refine lv_iadd hx hb (kd tdlX1_addBackup_1 10 rfl) ?_
          obtain ⟨hi97, hF⟩ := kg hF
          refine va_iast (D := D) (tys := TY t) hx hb hK hP hD hS 7 0 rfl rfl hi97 (kd tdlX1_addBackup_1 11 rfl) (fun H locs hP hD hS => ?_)
          have hP : va_P D vwCl ((wdkF t h0 a0 (dk_settings j49) (dk_numbers j49) (dk_capacities j49) (dk_firsts j49) (dk_containers j49) (dk_codes j49) (dk_places j49) (upd (dk_uses j49) (Int32.toNatClampNeg ((pl_entries d1) (Int32.toNatClampNeg s15_.1))) (((dk_uses j49) (Int32.toNatClampNeg ((pl_entries d1) (Int32.toNatClampNeg s15_.1)))) + 1)) (dk_entries j49) (upd (dk_references j49) (Int32.toNatClampNeg ((v1 * 15) + s15_.1)) ((pl_entries d1) (Int32.toNatClampNeg s15_.1))) (dk_lengths j49) (dk_nextNumber j49) (dk_carried j49)) ++ (wplF t h1 a1 (pl_places d1) (pl_entries d1) (pl_chunks d1) (pl_puts d1) (pl_newContainers d1) (pl_rivals d1) (pl_votes d1) (pl_rivalCount d1)) ++ (wsmF t h2 a2 (sm_worths d2) (sm_codes d2) (sm_letters d2) (sm_chunks d2))) H := hP
          have hD : va_D A ((wdkF t h0 a0 (dk_settings j49) (dk_numbers j49) (dk_capacities j49) (dk_firsts j49) (dk_containers j49) (dk_codes j49) (dk_places j49) (upd (dk_uses j49) (Int32.toNatClampNeg ((pl_entries d1) (Int32.toNatClampNeg s15_.1))) (((dk_uses j49) (Int32.toNatClampNeg ((pl_entries d1) (Int32.toNatClampNeg s15_.1)))) + 1)) (dk_entries j49) (upd (dk_references j49) (Int32.toNatClampNeg ((v1 * 15) + s15_.1)) ((pl_entries d1) (Int32.toNatClampNeg s15_.1))) (dk_lengths j49) (dk_nextNumber j49) (dk_carried j49)) ++ (wplF t h1 a1 (pl_places d1) (pl_entries d1) (pl_chunks d1) (pl_puts d1) (pl_newContainers d1) (pl_rivals d1) (pl_votes d1) (pl_rivalCount d1)) ++ (wsmF t h2 a2 (sm_worths d2) (sm_codes d2) (sm_letters d2) (sm_chunks d2))) := hD
          refine lv_iinc (v := (s15_.1 + 1)) (lv' := [(4, .int (s15_.1 + 1)), (0, .ref h0), (1, .ref h1), (2, .ref h2), (3, .int v1)]) hx hb (kd tdlX1_addBackup_1 12 rfl) hl (k := 4) rfl rfl (by decide) rfl (fun ls hl => ?_)
          refine lv_goto (tgt := 15) hx hb (kd tdlX1_addBackup_1 13 rfl) (by decide) ?_
          exact ih15 ((s15_.1 + 1), ((dk_settings j49), (dk_numbers j49), (dk_capacities j49), (dk_firsts j49), (dk_containers j49), (dk_codes j49), (dk_places j49), (upd (dk_uses j49) (Int32.toNatClampNeg ((pl_entries d1) (Int32.toNatClampNeg s15_.1))) (((dk_uses j49) (Int32.toNatClampNeg ((pl_entries d1) (Int32.toNatClampNeg s15_.1)))) + 1)), (dk_entries j49), (upd (dk_references j49) (Int32.toNatClampNeg ((v1 * 15) + s15_.1)) ((pl_entries d1) (Int32.toNatClampNeg s15_.1))), (dk_lengths j49), (dk_nextNumber j49), (dk_carried j49))) hF _ _ _ hP hD hS (lv_sub hl [1, 2, 3, 4, 0] rfl)
      refine lv_icmp_ne (tgt := 49) hx hb (kd tdlX1_addBackup_0 20 rfl) (by decide) (fun hc35 => ?_) (fun hc35 => ?_)
      · have hF := kf hc35 hF
        exact hJ49 (s15_.2) hF _ _ _ hP hD hS (lv_sub hl [0, 1, 2, 3, 4] rfl)
      · have hF := kt hc35 hF
        refine lv_aload_n hx hb (kd tdlX1_addBackup_0 21 rfl) rfl (lv_at hl 0 rfl) ?_
        refine lv_aload_n hx hb (kd tdlX1_addBackup_0 22 rfl) rfl (lv_at hl 2 rfl) ?_
        refine lv_iload hx hb (kd tdlX1_addBackup_0 23 rfl) (lv_at hl 4 rfl) ?_
        obtain ⟨v42, e42, hF⟩ := kc hF
        refine kc_iR hK hP hD hS hA [15, 16, 17] rfl (kr_V (Qx := (fun A => kQi D (TY t) ((wsmF t h2 a2 (sm_worths d2) (sm_codes d2) (sm_letters d2) (sm_chunks d2))) v42 A)) (wc := ((wsmF t h2 a2 (sm_worths d2) (sm_codes d2) (sm_letters d2) (sm_chunks d2)))) (As := [.int s15_.1]) (rest := [.ref h0]) ⟨hx, hb, hml, hown, hts⟩ hK hP hD [15, 16, 17] nd_15_16_17 rfl (c_X6_codeAt l D t h2 a2 d2 _ s15_.1 v42 e42) (cwV 1 hts (gcX6_codeAt w_575) rfl rfl rfl hdX6_codeAtV ⟨Nat.le_of_ble_eq_true rfl, Nat.le_of_ble_eq_true rfl⟩) (ci := 5) (q0 := 15) rfl rfl rfl hl.1 rfl (Nat.le_of_ble_eq_true rfl) (kd tdlX1_addBackup_0 24 rfl) ⟨Nat.zero_le _, Nat.zero_le _⟩) (fun H locs hP hS => ?_)
        obtain ⟨v45, e45, hF⟩ := kc hF
        refine kc_i (w1 := ((wdkF t h0 a0 (dk_settings v45.2) (dk_numbers v45.2) (dk_capacities v45.2) (dk_firsts v45.2) (dk_containers v45.2) (dk_codes v45.2) (dk_places v45.2) (dk_uses v45.2) (dk_entries v45.2) (dk_references v45.2) (dk_lengths v45.2) (dk_nextNumber v45.2) (dk_carried v45.2)))) (W1 := ((wdkF t h0 a0 (dk_settings v45.2) (dk_numbers v45.2) (dk_capacities v45.2) (dk_firsts v45.2) (dk_containers v45.2) (dk_codes v45.2) (dk_places v45.2) (dk_uses v45.2) (dk_entries v45.2) (dk_references v45.2) (dk_lengths v45.2) (dk_nextNumber v45.2) (dk_carried v45.2)) ++ (wplF t h1 a1 (pl_places d1) (pl_entries d1) (pl_chunks d1) (pl_puts d1) (pl_newContainers d1) (pl_rivals d1) (pl_votes d1) (pl_rivalCount d1)) ++ (wsmF t h2 a2 (sm_worths d2) (sm_codes d2) (sm_letters d2) (sm_chunks d2)))) hK hP hD hS hA [0, 1, 2, 3, 4, 5, 6, 7, 8, 9] nd_0_1_2_3_4_5_6_7_8_9 rfl rfl rfl (kr_V (Qx := (fun A => kQi D (TY t) ((wdkF t h0 a0 (dk_settings v45.2) (dk_numbers v45.2) (dk_capacities v45.2) (dk_firsts v45.2) (dk_containers v45.2) (dk_codes v45.2) (dk_places v45.2) (dk_uses v45.2) (dk_entries v45.2) (dk_references v45.2) (dk_lengths v45.2) (dk_nextNumber v45.2) (dk_carried v45.2))) v45.1 A)) (wc := ((wdkF t h0 a0 (dk_settings s15_.2) (dk_numbers s15_.2) (dk_capacities s15_.2) (dk_firsts s15_.2) (dk_containers s15_.2) (dk_codes s15_.2) (dk_places s15_.2) (dk_uses s15_.2) (dk_entries s15_.2) (dk_references s15_.2) (dk_lengths s15_.2) (dk_nextNumber s15_.2) (dk_carried s15_.2)))) (As := [.int v42]) (rest := []) ⟨hx, hb, hml, hown, hts⟩ hK hP hD [0, 1, 2, 3, 4, 5, 6, 7, 8, 9] nd_0_1_2_3_4_5_6_7_8_9 rfl (c_X1_putAway l D t h0 a0 s15_.2 _ v42 v45 e45) (cwV 1 hts (gcX1_putAway w_576) rfl rfl rfl hdX1_putAwayV ⟨Nat.le_of_ble_eq_true rfl, Nat.le_of_ble_eq_true rfl⟩) (ci := 1) (q0 := 0) rfl rfl rfl hl.1 rfl (Nat.le_of_ble_eq_true rfl) (kd tdlX1_addBackup_0 25 rfl) ⟨Nat.zero_le _, Nat.zero_le _⟩) (fun H locs hP hD hS => ?_)
        refine lv_pop hx hb (kd tdlX1_addBackup_0 26 rfl) rfl ?_
        exact hJ49 (v45.2) hF _ _ _ hP hD hS (lv_sub hl [0, 1, 2, 3, 4] rfl)
  · have hF := kt hc7 hF
    refine lv_iconst (v := (-1)) hx hb (kd tdlX1_addBackup_0 6 rfl) (by decide) ?_
    cases ko hF
    exact ke_i hx hb hr hlocks hK hP hD hS rfl (kd tdlX1_addBackup_0 7 rfl)
set_option maxHeartbeats 4000000 in
set_option maxRecDepth 100000 in
theorem c_X1_removeBackup (l : Launch) (D : va_G) (t : Nat → ClassId) (h0 : Nat) (a0 : Nat → Nat) (d0 : DKT) (sz : Nat) (p1 : Int32) (r : Int32 × DKT) (hF : F_X1_removeBackup d0 p1 = some r) : Met l yX1_removeBackup wX1_removeBackup ({ frames := 3, cells := 0, slots := 0, locals := 64 } : Room) (kPc D (TY t) ((wdk t h0 a0 d0)) [.ref h0, .int p1] sz) (kQi D (TY t) ((wdk t h0 a0 r.2)) r.1 (va_A ((wdk t h0 a0 d0)) sz)) 0 0 (va_A ((wdk t h0 a0 d0)) sz) := by
  refine kE (cc := cX1_removeBackup) (maxL := 5) (ret := (some .int)) (Qx := fun A => kQi D (TY t) ((wdk t h0 a0 r.2)) r.1 A) (lv0 := [(0, .ref h0), (1, .int p1)]) RX1 rfl (by decide) rfl (Nat.le_of_ble_eq_true rfl) rfl ?_
  intro p e s m args below meth c A ls hx hb hml hr hlocks hown hts hA hK hP hD hS hl
  have L38 := hts (.fieldLink RX1 38 "ChunkCarriers$Desk" "uses" "[I") (List.mem_cons_of_mem _ w_62)
  have L44 := hts (.fieldLink RX1 44 "ChunkCarriers$Desk" "lengths" "[I") (List.mem_cons_of_mem _ w_64)
  have inX1_ : ∀ w ∈ wsX10, w ∈ wX1_removeBackup := fun w h => List.mem_cons_of_mem _ (inlX1 w h)
  have hP : va_P D vwCl ((wdkF t h0 a0 (dk_settings d0) (dk_numbers d0) (dk_capacities d0) (dk_firsts d0) (dk_containers d0) (dk_codes d0) (dk_places d0) (dk_uses d0) (dk_entries d0) (dk_references d0) (dk_lengths d0) (dk_nextNumber d0) (dk_carried d0))) s.heap := hP
  have hD : va_D A ((wdkF t h0 a0 (dk_settings d0) (dk_numbers d0) (dk_capacities d0) (dk_firsts d0) (dk_containers d0) (dk_codes d0) (dk_places d0) (dk_uses d0) (dk_entries d0) (dk_references d0) (dk_lengths d0) (dk_nextNumber d0) (dk_carried d0))) := hD
  refine lv_iconst (v := 0) hx hb (kd tdlX1_removeBackup_0 0 rfl) (by decide) ?_
  refine lv_istore_n (lv' := [(2, .int 0), (0, .ref h0), (1, .int p1)]) hx hb (kd tdlX1_removeBackup_0 1 rfl) rfl hl (by decide) rfl (fun ls hl => ?_)
  refine lv_iconst (v := 0) hx hb (kd tdlX1_removeBackup_0 2 rfl) (by decide) ?_
  refine lv_istore_n (lv' := [(3, .int 0), (2, .int 0), (0, .ref h0), (1, .int p1)]) hx hb (kd tdlX1_removeBackup_0 3 rfl) rfl hl (by decide) rfl (fun ls hl => ?_)
  have hK63 : ∀ k63 : Int32 × (Nat → Int32), K_X1_removeBackup_63 d0 p1 k63 = some r → ∀ (H : Heap) (locs : List Loc) (ls : Array Slot), va_P D vwCl ((wdkF t h0 a0 (dk_settings d0) (dk_numbers d0) (dk_capacities d0) (dk_firsts d0) (dk_containers d0) (dk_codes d0) (dk_places d0) k63.2 (dk_entries d0) (dk_references d0) (dk_lengths d0) (dk_nextNumber d0) (dk_carried d0))) H → va_D A ((wdkF t h0 a0 (dk_settings d0) (dk_numbers d0) (dk_capacities d0) (dk_firsts d0) (dk_containers d0) (dk_codes d0) (dk_places d0) k63.2 (dk_entries d0) (dk_references d0) (dk_lengths d0) (dk_nextNumber d0) (dk_carried d0))) → va_S A s.heap H locs → lv_has ls 5 [(0, .ref h0), (1, .int p1), (2, .int k63.1)] → W p l e ({ frames := 3, cells := 0, slots := 0, locals := 64 } : Room) s m args below meth c H locs 0 0 (MQ below (kQi D (TY t) ((wdk t h0 a0 r.2)) r.1 A) args s 0 0 A) (F0 m 63 ls []) := by
    intro k63 hF H locs ls hP hD hS hl
    refine lv_aload_n hx hb (kd tdlX1_removeBackup_0 35 rfl) rfl (lv_at hl 0 rfl) ?_
    refine lv_iload_n hx hb (kd tdlX1_removeBackup_0 36 rfl) rfl (lv_at hl 1 rfl) ?_
    obtain ⟨v65, e65, hF⟩ := kc hF
    refine kc_i0 (w1 := ((wdkF t h0 a0 (dk_settings d0) (dk_numbers d0) (dk_capacities d0) (dk_firsts d0) (dk_containers d0) (dk_codes d0) (dk_places d0) k63.2 (dk_entries d0) (dk_references d0) (dk_lengths d0) (dk_nextNumber d0) (dk_carried d0)))) hP hD hS hA (kr_V0 (Qx := (fun A => kQi D (TY t) ((wdkF t h0 a0 (dk_settings d0) (dk_numbers d0) (dk_capacities d0) (dk_firsts d0) (dk_containers d0) (dk_codes d0) (dk_places d0) k63.2 (dk_entries d0) (dk_references d0) (dk_lengths d0) (dk_nextNumber d0) (dk_carried d0))) v65 A)) (As := [.int p1]) (rest := []) ⟨hx, hb, hml, hown, hts⟩ hK hP hD (c_X1_hasBackup l D t h0 a0 ((dk_settings d0), (dk_numbers d0), (dk_capacities d0), (dk_firsts d0), (dk_containers d0), (dk_codes d0), (dk_places d0), k63.2, (dk_entries d0), (dk_references d0), (dk_lengths d0), (dk_nextNumber d0), (dk_carried d0)) _ p1 v65 e65) (cwV 1 hts (gcX1_hasBackup w_236) rfl rfl rfl hdX1_hasBackupV ⟨Nat.le_of_ble_eq_true rfl, Nat.le_of_ble_eq_true rfl⟩) (ci := 1) (q0 := 0) rfl rfl rfl hl.1 rfl (Nat.le_of_ble_eq_true rfl) (kd tdlX1_removeBackup_0 37 rfl) ⟨Nat.zero_le _, Nat.zero_le _⟩) (fun H locs hP hD hS => ?_)
    refine lv_if_eq (tgt := 78) hx hb (kd tdlX1_removeBackup_0 38 rfl) (by decide) (fun hc68 => ?_) (fun hc68 => ?_)
    · have hF := kt hc68 hF
      refine lv_iload_n hx hb (kd tdlX1_removeBackup_0 44 rfl) rfl (lv_at hl 2 rfl) ?_
      cases ko hF
      exact ke_i hx hb hr hlocks hK hP hD hS rfl (kd tdlX1_removeBackup_1 0 rfl)
    · have hF := kf hc68 hF
      refine lv_aload_n hx hb (kd tdlX1_removeBackup_0 39 rfl) rfl (lv_at hl 0 rfl) ?_
      refine dk_g_lengths hx hb hts inX1_ hown hK hP L44 (kd tdlX1_removeBackup_0 40 rfl) ?_
      refine lv_iload_n hx hb (kd tdlX1_removeBackup_0 41 rfl) rfl (lv_at hl 1 rfl) ?_
      refine lv_iconst (v := 0) hx hb (kd tdlX1_removeBackup_0 42 rfl) (by decide) ?_
      obtain ⟨hi77, hF⟩ := kg hF
      refine dk_s_lengths hx hb hK hP hD hS hi77 (kd tdlX1_removeBackup_0 43 rfl) (fun H locs hP hD hS => ?_)
      refine lv_iload_n hx hb (kd tdlX1_removeBackup_0 44 rfl) rfl (lv_at hl 2 rfl) ?_
      cases ko hF
      exact ke_i hx hb hr hlocks hK hP hD hS rfl (kd tdlX1_removeBackup_1 0 rfl)
  refine lp_ind (f := B_X1_removeBackup_4 d0 p1 (K_X1_removeBackup_63 d0 p1)) (r := r) (P := fun s4_ => ∀ (H : Heap) (locs : List Loc) (ls : Array Slot), va_P D vwCl ((wdkF t h0 a0 (dk_settings d0) (dk_numbers d0) (dk_capacities d0) (dk_firsts d0) (dk_containers d0) (dk_codes d0) (dk_places d0) s4_.2.2 (dk_entries d0) (dk_references d0) (dk_lengths d0) (dk_nextNumber d0) (dk_carried d0))) H → va_D A ((wdkF t h0 a0 (dk_settings d0) (dk_numbers d0) (dk_capacities d0) (dk_firsts d0) (dk_containers d0) (dk_codes d0) (dk_places d0) s4_.2.2 (dk_entries d0) (dk_references d0) (dk_lengths d0) (dk_nextNumber d0) (dk_carried d0))) → va_S A s.heap H locs → lv_has ls 5 [(0, .ref h0), (1, .int p1), (2, .int s4_.1), (3, .int s4_.2.1)] → W p l e ({ frames := 3, cells := 0, slots := 0, locals := 64 } : Room) s m args below meth c H locs 0 0 (MQ below (kQi D (TY t) ((wdk t h0 a0 r.2)) r.1 A) args s 0 0 A) (F0 m 4 ls [])) ?_ FU (0, 0, (dk_uses d0)) hF _ _ _ hP hD hS (lv_sub hl [2, 3, 1, 0] rfl)
  intro self4 ih4 s4_ hF H locs ls hP hD hS hl
  refine lv_iload_n hx hb (kd tdlX1_removeBackup_0 4 rfl) rfl (lv_at hl 3 rfl) ?_
  refine lv_aload_n hx hb (kd tdlX1_removeBackup_0 5 rfl) rfl (lv_at hl 0 rfl) ?_
  refine lv_iload_n hx hb (kd tdlX1_removeBackup_0 6 rfl) rfl (lv_at hl 1 rfl) ?_
  obtain ⟨v7, e7, hF⟩ := kc hF
  refine kc_i0 (w1 := ((wdkF t h0 a0 (dk_settings d0) (dk_numbers d0) (dk_capacities d0) (dk_firsts d0) (dk_containers d0) (dk_codes d0) (dk_places d0) s4_.2.2 (dk_entries d0) (dk_references d0) (dk_lengths d0) (dk_nextNumber d0) (dk_carried d0)))) hP hD hS hA (kr_V0 (Qx := (fun A => kQi D (TY t) ((wdkF t h0 a0 (dk_settings d0) (dk_numbers d0) (dk_capacities d0) (dk_firsts d0) (dk_containers d0) (dk_codes d0) (dk_places d0) s4_.2.2 (dk_entries d0) (dk_references d0) (dk_lengths d0) (dk_nextNumber d0) (dk_carried d0))) v7 A)) (As := [.int p1]) (rest := [.int s4_.2.1]) ⟨hx, hb, hml, hown, hts⟩ hK hP hD (c_X1_chunksOf l D t h0 a0 ((dk_settings d0), (dk_numbers d0), (dk_capacities d0), (dk_firsts d0), (dk_containers d0), (dk_codes d0), (dk_places d0), s4_.2.2, (dk_entries d0), (dk_references d0), (dk_lengths d0), (dk_nextNumber d0), (dk_carried d0)) _ p1 v7 e7) (cwV 1 hts (gcX1_chunksOf w_232) rfl rfl rfl hdX1_chunksOfV ⟨Nat.le_of_ble_eq_true rfl, Nat.le_of_ble_eq_true rfl⟩) (ci := 1) (q0 := 0) rfl rfl rfl hl.1 rfl (Nat.le_of_ble_eq_true rfl) (kd tdlX1_removeBackup_0 7 rfl) ⟨Nat.zero_le _, Nat.zero_le _⟩) (fun H locs hP hD hS => ?_)
  refine lv_icmp_ge (tgt := 63) hx hb (kd tdlX1_removeBackup_0 8 rfl) (by decide) (fun hc10 => ?_) (fun hc10 => ?_)
  · have hF := kt hc10 hF
    exact hK63 (s4_.1, s4_.2.2) hF _ _ _ hP hD hS (lv_sub hl [0, 1, 2] rfl)
  · have hF := kf hc10 hF
    refine lv_aload_n hx hb (kd tdlX1_removeBackup_0 9 rfl) rfl (lv_at hl 0 rfl) ?_
    refine lv_iload_n hx hb (kd tdlX1_removeBackup_0 10 rfl) rfl (lv_at hl 1 rfl) ?_
    refine lv_iload_n hx hb (kd tdlX1_removeBackup_0 11 rfl) rfl (lv_at hl 3 rfl) ?_
    obtain ⟨v16, e16, hF⟩ := kc hF
    refine kc_i0 (w1 := ((wdkF t h0 a0 (dk_settings d0) (dk_numbers d0) (dk_capacities d0) (dk_firsts d0) (dk_containers d0) (dk_codes d0) (dk_places d0) s4_.2.2 (dk_entries d0) (dk_references d0) (dk_lengths d0) (dk_nextNumber d0) (dk_carried d0)))) hP hD hS hA (kr_V0 (Qx := (fun A => kQi D (TY t) ((wdkF t h0 a0 (dk_settings d0) (dk_numbers d0) (dk_capacities d0) (dk_firsts d0) (dk_containers d0) (dk_codes d0) (dk_places d0) s4_.2.2 (dk_entries d0) (dk_references d0) (dk_lengths d0) (dk_nextNumber d0) (dk_carried d0))) v16 A)) (As := [.int p1, .int s4_.2.1]) (rest := []) ⟨hx, hb, hml, hown, hts⟩ hK hP hD (c_X1_entryReferred l D t h0 a0 ((dk_settings d0), (dk_numbers d0), (dk_capacities d0), (dk_firsts d0), (dk_containers d0), (dk_codes d0), (dk_places d0), s4_.2.2, (dk_entries d0), (dk_references d0), (dk_lengths d0), (dk_nextNumber d0), (dk_carried d0)) _ p1 s4_.2.1 v16 e16) (cwV 2 hts (gcX1_entryReferred w_240) rfl rfl rfl hdX1_entryReferredV ⟨Nat.le_of_ble_eq_true rfl, Nat.le_of_ble_eq_true rfl⟩) (ci := 1) (q0 := 0) rfl rfl rfl hl.1 rfl (Nat.le_of_ble_eq_true rfl) (kd tdlX1_removeBackup_0 12 rfl) ⟨Nat.zero_le _, Nat.zero_le _⟩) (fun H locs hP hD hS => ?_)
    refine lv_istore (lv' := [(4, .int v16), (0, .ref h0), (1, .int p1), (2, .int s4_.1), (3, .int s4_.2.1)]) hx hb (kd tdlX1_removeBackup_0 13 rfl) hl (by decide) rfl (fun ls hl => ?_)
    refine lv_aload_n hx hb (kd tdlX1_removeBackup_0 14 rfl) rfl (lv_at hl 1 rfl) ?_
    refine lv_iload hx hb (kd tdlX1_removeBackup_0 15 rfl) (lv_at hl 0 rfl) ?_
    obtain ⟨v24, e24, hF⟩ := kc hF
    refine kc_i0 (w1 := ((wdkF t h0 a0 (dk_settings d0) (dk_numbers d0) (dk_capacities d0) (dk_firsts d0) (dk_containers d0) (dk_codes d0) (dk_places d0) s4_.2.2 (dk_entries d0) (dk_references d0) (dk_lengths d0) (dk_nextNumber d0) (dk_carried d0)))) hP hD hS hA (kr_V0 (Qx := (fun A => kQi D (TY t) ((wdkF t h0 a0 (dk_settings d0) (dk_numbers d0) (dk_capacities d0) (dk_firsts d0) (dk_containers d0) (dk_codes d0) (dk_places d0) s4_.2.2 (dk_entries d0) (dk_references d0) (dk_lengths d0) (dk_nextNumber d0) (dk_carried d0))) v24 A)) (As := [.int v16]) (rest := []) ⟨hx, hb, hml, hown, hts⟩ hK hP hD (c_X1_hasEntry l D t h0 a0 ((dk_settings d0), (dk_numbers d0), (dk_capacities d0), (dk_firsts d0), (dk_containers d0), (dk_codes d0), (dk_places d0), s4_.2.2, (dk_entries d0), (dk_references d0), (dk_lengths d0), (dk_nextNumber d0), (dk_carried d0)) _ v16 v24 e24) (cwV 1 hts (gcX1_hasEntry w_169) rfl rfl rfl hdX1_hasEntryV ⟨Nat.le_of_ble_eq_true rfl, Nat.le_of_ble_eq_true rfl⟩) (ci := 1) (q0 := 0) rfl rfl rfl hl.1 rfl (Nat.le_of_ble_eq_true rfl) (kd tdlX1_removeBackup_0 16 rfl) ⟨Nat.zero_le _, Nat.zero_le _⟩) (fun H locs hP hD hS => ?_)
    refine lv_if_ne (tgt := 33) hx hb (kd tdlX1_removeBackup_0 17 rfl) (by decide) (fun hc27 => ?_) (fun hc27 => ?_)
    · have hF := kf hc27 hF
      refine lv_aload_n hx hb (kd tdlX1_removeBackup_0 19 rfl) rfl (lv_at hl 1 rfl) ?_
      refine dk_g_uses hx hb hts inX1_ hown hK hP L38 (kd tdlX1_removeBackup_0 20 rfl) ?_
      refine lv_iload hx hb (kd tdlX1_removeBackup_0 21 rfl) (lv_at hl 0 rfl) ?_
      refine lv_dup2_11 hx hb (kd tdlX1_removeBackup_0 22 rfl) rfl rfl ?_
      obtain ⟨hi40, hF⟩ := kg hF
      refine dk_l_uses hx hb hK hP hi40 (kd tdlX1_removeBackup_0 23 rfl) ?_
      refine lv_iconst (v := 1) hx hb (kd tdlX1_removeBackup_0 24 rfl) (by decide) ?_
      refine lv_isub hx hb (kd tdlX1_removeBackup_0 25 rfl) ?_
      obtain ⟨hi43, hF⟩ := kg hF
      refine dk_s_uses hx hb hK hP hD hS hi43 (kd tdlX1_removeBackup_0 26 rfl) (fun H locs hP hD hS => ?_)
      refine lv_aload_n hx hb (kd tdlX1_removeBackup_0 27 rfl) rfl (lv_at hl 1 rfl) ?_
      refine dk_g_uses hx hb hts inX1_ hown hK hP L38 (kd tdlX1_removeBackup_0 28 rfl) ?_
      refine lv_iload hx hb (kd tdlX1_removeBackup_0 29 rfl) (lv_at hl 0 rfl) ?_
      obtain ⟨hi50, hF⟩ := kg hF
      refine dk_l_uses hx hb hK hP hi50 (kd tdlX1_removeBackup_0 30 rfl) ?_
      refine lv_if_ne (tgt := 57) hx hb (kd tdlX1_removeBackup_0 31 rfl) (by decide) (fun hc51 => ?_) (fun hc51 => ?_)
      · have hF := kf hc51 hF
        refine lv_iinc (v := (s4_.2.1 + 1)) (lv' := [(3, .int (s4_.2.1 + 1)), (4, .int v16), (0, .ref h0), (1, .int p1), (2, .int s4_.1)]) hx hb (kd tdlX1_removeBackup_0 33 rfl) hl (k := 4) rfl rfl (by decide) rfl (fun ls hl => ?_)
        refine lv_goto (tgt := 4) hx hb (kd tdlX1_removeBackup_0 34 rfl) (by decide) ?_
        exact ih4 (s4_.1, (s4_.2.1 + 1), (upd s4_.2.2 (Int32.toNatClampNeg v16) ((s4_.2.2 (Int32.toNatClampNeg v16)) - 1))) hF _ _ _ hP hD hS (lv_sub hl [2, 3, 4, 0] rfl)
      · have hF := kt hc51 hF
        refine lv_iinc (v := (s4_.1 + 1)) (lv' := [(2, .int (s4_.1 + 1)), (4, .int v16), (0, .ref h0), (1, .int p1), (3, .int s4_.2.1)]) hx hb (kd tdlX1_removeBackup_0 32 rfl) hl (k := 3) rfl rfl (by decide) rfl (fun ls hl => ?_)
        refine lv_iinc (v := (s4_.2.1 + 1)) (lv' := [(3, .int (s4_.2.1 + 1)), (2, .int (s4_.1 + 1)), (4, .int v16), (0, .ref h0), (1, .int p1)]) hx hb (kd tdlX1_removeBackup_0 33 rfl) hl (k := 4) rfl rfl (by decide) rfl (fun ls hl => ?_)
        refine lv_goto (tgt := 4) hx hb (kd tdlX1_removeBackup_0 34 rfl) (by decide) ?_
        exact ih4 ((s4_.1 + 1), (s4_.2.1 + 1), (upd s4_.2.2 (Int32.toNatClampNeg v16) ((s4_.2.2 (Int32.toNatClampNeg v16)) - 1))) hF _ _ _ hP hD hS (lv_sub hl [3, 4, 1, 0] rfl)
    · have hF := kt hc27 hF
      refine lv_goto (tgt := 57) hx hb (kd tdlX1_removeBackup_0 18 rfl) (by decide) ?_
      refine lv_iinc (v := (s4_.2.1 + 1)) (lv' := [(3, .int (s4_.2.1 + 1)), (4, .int v16), (0, .ref h0), (1, .int p1), (2, .int s4_.1)]) hx hb (kd tdlX1_removeBackup_0 33 rfl) hl (k := 4) rfl rfl (by decide) rfl (fun ls hl => ?_)
      refine lv_goto (tgt := 4) hx hb (kd tdlX1_removeBackup_0 34 rfl) (by decide) ?_
      exact ih4 (s4_.1, (s4_.2.1 + 1), s4_.2.2) hF _ _ _ hP hD hS (lv_sub hl [2, 3, 4, 0] rfl)
set_option maxHeartbeats 4000000 in
set_option maxRecDepth 100000 in
theorem c_X1_redirect (l : Launch) (D : va_G) (t : Nat → ClassId) (h0 : Nat) (a0 : Nat → Nat) (d0 : DKT) (h1 n1 : Nat) (d1 : Nat → Int32) (sz : Nat)  (r : DKT) (hF : F_X1_redirect d0 n1 d1 = some r) : Met l yX1_redirect wX1_redirect ({ frames := 1, cells := 0, slots := 0, locals := 21 } : Room) (kPc D (TY t) ((wdk t h0 a0 d0) ++ (wrw t h1 n1 d1)) [.ref h0, .ref h1] sz) (kQv D (TY t) ((wdk t h0 a0 r) ++ (wrw t h1 n1 d1)) (va_A ((wdk t h0 a0 d0) ++ (wrw t h1 n1 d1)) sz)) 0 0 (va_A ((wdk t h0 a0 d0) ++ (wrw t h1 n1 d1)) sz) := by
  refine kE (cc := cX1_redirect) (maxL := 6) (ret := none) (Qx := fun A => kQv D (TY t) ((wdk t h0 a0 r) ++ (wrw t h1 n1 d1)) A) (lv0 := [(0, .ref h0), (1, .ref h1)]) RX1 rfl (by decide) rfl (Nat.le_of_ble_eq_true rfl) rfl ?_
  intro p e s m args below meth c A ls hx hb hml hr hlocks hown hts hA hK hP hD hS hl
  have L38 := hts (.fieldLink RX1 38 "ChunkCarriers$Desk" "uses" "[I") (List.mem_cons_of_mem _ w_62)
  have L41 := hts (.fieldLink RX1 41 "ChunkCarriers$Desk" "references" "[I") (List.mem_cons_of_mem _ w_63)
  have L44 := hts (.fieldLink RX1 44 "ChunkCarriers$Desk" "lengths" "[I") (List.mem_cons_of_mem _ w_64)
  have L57 := hts (.fieldLink RX1 57 "ChunkCarriers$Desk" "entries" "I") (List.mem_cons_of_mem _ w_109)
  have inX1_ : ∀ w ∈ wsX10, w ∈ wX1_redirect := fun w h => List.mem_cons_of_mem _ (inlX1 w h)
  have hP : va_P D vwCl ((wdkF t h0 a0 (dk_settings d0) (dk_numbers d0) (dk_capacities d0) (dk_firsts d0) (dk_containers d0) (dk_codes d0) (dk_places d0) (dk_uses d0) (dk_entries d0) (dk_references d0) (dk_lengths d0) (dk_nextNumber d0) (dk_carried d0)) ++ (wrw t h1 n1 d1)) s.heap := hP
  have hD : va_D A ((wdkF t h0 a0 (dk_settings d0) (dk_numbers d0) (dk_capacities d0) (dk_firsts d0) (dk_containers d0) (dk_codes d0) (dk_places d0) (dk_uses d0) (dk_entries d0) (dk_references d0) (dk_lengths d0) (dk_nextNumber d0) (dk_carried d0)) ++ (wrw t h1 n1 d1)) := hD
  refine lv_iconst (v := 0) hx hb (kd tdlX1_redirect_0 0 rfl) (by decide) ?_
  refine lv_istore_n (lv' := [(2, .int 0), (0, .ref h0), (1, .ref h1)]) hx hb (kd tdlX1_redirect_0 1 rfl) rfl hl (by decide) rfl (fun ls hl => ?_)
  have hK23 : ∀ k23 : (Nat → Int32), K_X1_redirect_23 d0 n1 d1 k23 = some r → ∀ (H : Heap) (locs : List Loc) (ls : Array Slot), va_P D vwCl ((wdkF t h0 a0 (dk_settings d0) (dk_numbers d0) (dk_capacities d0) (dk_firsts d0) (dk_containers d0) (dk_codes d0) (dk_places d0) k23 (dk_entries d0) (dk_references d0) (dk_lengths d0) (dk_nextNumber d0) (dk_carried d0)) ++ (wrw t h1 n1 d1)) H → va_D A ((wdkF t h0 a0 (dk_settings d0) (dk_numbers d0) (dk_capacities d0) (dk_firsts d0) (dk_containers d0) (dk_codes d0) (dk_places d0) k23 (dk_entries d0) (dk_references d0) (dk_lengths d0) (dk_nextNumber d0) (dk_carried d0)) ++ (wrw t h1 n1 d1)) → va_S A s.heap H locs → lv_has ls 6 [(0, .ref h0), (1, .ref h1)] → W p l e ({ frames := 1, cells := 0, slots := 0, locals := 21 } : Room) s m args below meth c H locs 0 0 (MQ below (kQv D (TY t) ((wdk t h0 a0 r) ++ (wrw t h1 n1 d1)) A) args s 0 0 A) (F0 m 23 ls []) := by
    intro k23 hF H locs ls hP hD hS hl
    refine lv_iconst (v := 0) hx hb (kd tdlX1_redirect_0 13 rfl) (by decide) ?_
    refine lv_istore_n (lv' := [(2, .int 0), (0, .ref h0), (1, .ref h1)]) hx hb (kd tdlX1_redirect_0 14 rfl) rfl hl (by decide) rfl (fun ls hl => ?_)
    refine lp_ind (f := B_X1_redirect_25 d0 n1 d1) (r := r) (P := fun s25_ => ∀ (H : Heap) (locs : List Loc) (ls : Array Slot), va_P D vwCl ((wdkF t h0 a0 (dk_settings d0) (dk_numbers d0) (dk_capacities d0) (dk_firsts d0) (dk_containers d0) (dk_codes d0) (dk_places d0) s25_.2.1 (dk_entries d0) s25_.2.2 (dk_lengths d0) (dk_nextNumber d0) (dk_carried d0)) ++ (wrw t h1 n1 d1)) H → va_D A ((wdkF t h0 a0 (dk_settings d0) (dk_numbers d0) (dk_capacities d0) (dk_firsts d0) (dk_containers d0) (dk_codes d0) (dk_places d0) s25_.2.1 (dk_entries d0) s25_.2.2 (dk_lengths d0) (dk_nextNumber d0) (dk_carried d0)) ++ (wrw t h1 n1 d1)) → va_S A s.heap H locs → lv_has ls 6 [(0, .ref h0), (1, .ref h1), (2, .int s25_.1)] → W p l e ({ frames := 1, cells := 0, slots := 0, locals := 21 } : Room) s m args below meth c H locs 0 0 (MQ below (kQv D (TY t) ((wdk t h0 a0 r) ++ (wrw t h1 n1 d1)) A) args s 0 0 A) (F0 m 25 ls [])) ?_ FU (0, k23, (dk_references d0)) hF _ _ _ hP hD hS (lv_sub hl [1, 2, 0] rfl)
    intro self25 ih25 s25_ hF H locs ls hP hD hS hl
    refine lv_iload_n hx hb (kd tdlX1_redirect_0 15 rfl) rfl (lv_at hl 2 rfl) ?_
    refine lv_bipush (v := 8) hx hb (kd tdlX1_redirect_0 16 rfl) (by decide) ?_
    refine lv_icmp_ge (tgt := 122) hx hb (kd tdlX1_redirect_0 17 rfl) (by decide) (fun hc28 => ?_) (fun hc28 => ?_)
    · have hF := kt hc28 hF
      cases ko hF
      exact ke_v hx hb hr hlocks hK hP hD hS (kd tdlX1_redirect_1 26 rfl)
    · have hF := kf hc28 hF
      refine lv_iconst (v := 0) hx hb (kd tdlX1_redirect_0 18 rfl) (by decide) ?_
      refine lv_istore_n (lv' := [(3, .int 0), (0, .ref h0), (1, .ref h1), (2, .int s25_.1)]) hx hb (kd tdlX1_redirect_0 19 rfl) rfl hl (by decide) rfl (fun ls hl => ?_)
      refine lp_ind (f := B_X1_redirect_33 s25_ d0 self25 n1 d1) (r := r) (P := fun s33_ => ∀ (H : Heap) (locs : List Loc) (ls : Array Slot), va_P D vwCl ((wdkF t h0 a0 (dk_settings d0) (dk_numbers d0) (dk_capacities d0) (dk_firsts d0) (dk_containers d0) (dk_codes d0) (dk_places d0) s33_.2.1 (dk_entries d0) s33_.2.2 (dk_lengths d0) (dk_nextNumber d0) (dk_carried d0)) ++ (wrw t h1 n1 d1)) H → va_D A ((wdkF t h0 a0 (dk_settings d0) (dk_numbers d0) (dk_capacities d0) (dk_firsts d0) (dk_containers d0) (dk_codes d0) (dk_places d0) s33_.2.1 (dk_entries d0) s33_.2.2 (dk_lengths d0) (dk_nextNumber d0) (dk_carried d0)) ++ (wrw t h1 n1 d1)) → va_S A s.heap H locs → lv_has ls 6 [(0, .ref h0), (1, .ref h1), (2, .int s25_.1), (3, .int s33_.1)] → W p l e ({ frames := 1, cells := 0, slots := 0, locals := 21 } : Room) s m args below meth c H locs 0 0 (MQ below (kQv D (TY t) ((wdk t h0 a0 r) ++ (wrw t h1 n1 d1)) A) args s 0 0 A) (F0 m 33 ls [])) ?_ FU (0, s25_.2.1, s25_.2.2) hF _ _ _ hP hD hS (lv_sub hl [1, 2, 3, 0] rfl)
      intro self33 ih33 s33_ hF H locs ls hP hD hS hl
      refine lv_iload_n hx hb (kd tdlX1_redirect_0 20 rfl) rfl (lv_at hl 3 rfl) ?_
      refine lv_aload_n hx hb (kd tdlX1_redirect_0 21 rfl) rfl (lv_at hl 0 rfl) ?_
      refine va_get (D := D) (ci := 1) (v := .ref (a0 8)) (C := RX1) (T := TX1) (N := 13) hx hb hts inX1_ hown hK hP 0 rfl rfl 10 (by decide) L44 (fun _ h9 => h9) rfl (kd tdlX1_redirect_0 22 rfl) ?_
      refine lv_iload_n hx hb (kd tdlX1_redirect_0 23 rfl) rfl (lv_at hl 2 rfl) ?_
      obtain ⟨hi39, hF⟩ := kg hF
      refine va_iald (D := D) (tys := TY t) hx hb hK hP 9 0 rfl rfl hi39 (kd tdlX1_redirect_0 24 rfl) ?_
      refine lv_icmp_ge (tgt := 116) hx hb (kd tdlX1_redirect_0 25 rfl) (by decide) (fun hc40 => ?_) (fun hc40 => ?_)
      · have hF := kt hc40 hF
        refine lv_iinc (v := (s25_.1 + 1)) (lv' := [(2, .int (s25_.1 + 1)), (0, .ref h0), (1, .ref h1), (3, .int s33_.1)]) hx hb (kd tdlX1_redirect_1 24 rfl) hl (k := 2) rfl rfl (by decide) rfl (fun ls hl => ?_)
        refine lv_goto (tgt := 25) hx hb (kd tdlX1_redirect_1 25 rfl) (by decide) ?_
        exact ih25 ((s25_.1 + 1), s33_.2.1, s33_.2.2) hF _ _ _ hP hD hS (lv_sub hl [1, 2, 0] rfl)
      · have hF := kf hc40 hF
        refine lv_aload_n hx hb (kd tdlX1_redirect_0 26 rfl) rfl (lv_at hl 0 rfl) ?_
        refine va_get (D := D) (ci := 1) (v := .ref (a0 7)) (C := RX1) (T := TX1) (N := 13) hx hb hts inX1_ hown hK hP 0 rfl rfl 9 (by decide) L41 (fun _ h9 => h9) rfl (kd tdlX1_redirect_0 27 rfl) ?_
        refine lv_iload_n hx hb (kd tdlX1_redirect_0 28 rfl) rfl (lv_at hl 2 rfl) ?_
        refine lv_bipush (v := 15) hx hb (kd tdlX1_redirect_0 29 rfl) (by decide) ?_
        refine lv_imul hx hb (kd tdlX1_redirect_0 30 rfl) ?_
        refine lv_iload_n hx hb (kd tdlX1_redirect_0 31 rfl) rfl (lv_at hl 3 rfl) ?_
        refine lv_iadd hx hb (kd tdlX1_redirect_0 32 rfl) ?_
        obtain ⟨hi53, hF⟩ := kg hF
        refine va_iald (D := D) (tys := TY t) hx hb hK hP 8 0 rfl rfl hi53 (kd tdlX1_redirect_0 33 rfl) ?_
        refine lv_istore (lv' := [(4, .int (s33_.2.2 (Int32.toNatClampNeg ((s25_.1 * 15) + s33_.1)))), (0, .ref h0), (1, .ref h1), (2, .int s25_.1), (3, .int s33_.1)]) hx hb (kd tdlX1_redirect_0 34 rfl) hl (by decide) rfl (fun ls hl => ?_)
        refine lv_iload hx hb (kd tdlX1_redirect_0 35 rfl) (lv_at hl 0 rfl) ?_
        refine lv_if_lt (tgt := 110) hx hb (kd tdlX1_redirect_0 36 rfl) (by decide) (fun hc58 => ?_) (fun hc58 => ?_)
        · have hF := kt hc58 hF
          refine lv_iinc (v := (s33_.1 + 1)) (lv' := [(3, .int (s33_.1 + 1)), (4, .int (s33_.2.2 (Int32.toNatClampNeg ((s25_.1 * 15) + s33_.1)))), (0, .ref h0), (1, .ref h1), (2, .int s25_.1)]) hx hb (kd tdlX1_redirect_1 22 rfl) hl (k := 4) rfl rfl (by decide) rfl (fun ls hl => ?_)
          refine lv_goto (tgt := 33) hx hb (kd tdlX1_redirect_1 23 rfl) (by decide) ?_
          exact ih33 ((s33_.1 + 1), s33_.2.1, s33_.2.2) hF _ _ _ hP hD hS (lv_sub hl [2, 3, 4, 0] rfl)
        · have hF := kf hc58 hF
          refine lv_iload hx hb (kd tdlX1_redirect_0 37 rfl) (lv_at hl 0 rfl) ?_
          refine lv_aload_n hx hb (kd tdlX1_redirect_0 38 rfl) rfl (lv_at hl 2 rfl) ?_
          refine va_alen (v := (Int32.ofNat n1)) (D := D) (tys := TY t) hx hb hK hP 10 0 rfl rfl rfl (kd tdlX1_redirect_0 39 rfl) ?_
          refine lv_icmp_lt (tgt := 71) hx hb (kd tdlX1_redirect_0 40 rfl) (by decide) (fun hc65 => ?_) (fun hc65 => ?_)
          · have hF := kt hc65 hF
            refine lv_aload_n hx hb (kd tdlX1_redirect_0 42 rfl) rfl (lv_at hl 2 rfl) ?_
            refine lv_iload hx hb (kd tdlX1_redirect_0 43 rfl) (lv_at hl 0 rfl) ?_
            obtain ⟨hi74, hF⟩ := kg hF
            refine va_iald (D := D) (tys := TY t) hx hb hK hP 10 0 rfl rfl hi74 (kd tdlX1_redirect_0 44 rfl) ?_
            refine lv_istore (lv' := [(5, .int (d1 (Int32.toNatClampNeg (s33_.2.2 (Int32.toNatClampNeg ((s25_.1 * 15) + s33_.1)))))), (4, .int (s33_.2.2 (Int32.toNatClampNeg ((s25_.1 * 15) + s33_.1)))), (0, .ref h0), (1, .ref h1), (2, .int s25_.1), (3, .int s33_.1)]) hx hb (kd tdlX1_redirect_1 0 rfl) hl (by decide) rfl (fun ls hl => ?_)
            refine lv_aload_n hx hb (kd tdlX1_redirect_1 1 rfl) rfl (lv_at hl 2 rfl) ?_
            refine va_get (D := D) (ci := 1) (v := .ref (a0 7)) (C := RX1) (T := TX1) (N := 13) hx hb hts inX1_ hown hK hP 0 rfl rfl 9 (by decide) L41 (fun _ h9 => h9) rfl (kd tdlX1_redirect_1 2 rfl) ?_
            refine lv_iload_n hx hb (kd tdlX1_redirect_1 3 rfl) rfl (lv_at hl 4 rfl) ?_
            refine lv_bipush (v := 15) hx hb (kd tdlX1_redirect_1 4 rfl) (by decide) ?_
            refine lv_imul hx hb (kd tdlX1_redirect_1 5 rfl) ?_
            refine lv_iload_n hx hb (kd tdlX1_redirect_1 6 rfl) rfl (lv_at hl 5 rfl) ?_
            refine lv_iadd hx hb (kd tdlX1_redirect_1 7 rfl) ?_
            refine lv_iload hx hb (kd tdlX1_redirect_1 8 rfl) (lv_at hl 0 rfl) ?_
            obtain ⟨hi89, hF⟩ := kg hF
            refine va_iast (D := D) (tys := TY t) hx hb hK hP hD hS 8 0 rfl rfl hi89 (kd tdlX1_redirect_1 9 rfl) (fun H locs hP hD hS => ?_)
            have hP : va_P D vwCl ((wdkF t h0 a0 (dk_settings d0) (dk_numbers d0) (dk_capacities d0) (dk_firsts d0) (dk_containers d0) (dk_codes d0) (dk_places d0) s33_.2.1 (dk_entries d0) (upd s33_.2.2 (Int32.toNatClampNeg ((s25_.1 * 15) + s33_.1)) (d1 (Int32.toNatClampNeg (s33_.2.2 (Int32.toNatClampNeg ((s25_.1 * 15) + s33_.1)))))) (dk_lengths d0) (dk_nextNumber d0) (dk_carried d0)) ++ (wrw t h1 n1 d1)) H := hP
            have hD : va_D A ((wdkF t h0 a0 (dk_settings d0) (dk_numbers d0) (dk_capacities d0) (dk_firsts d0) (dk_containers d0) (dk_codes d0) (dk_places d0) s33_.2.1 (dk_entries d0) (upd s33_.2.2 (Int32.toNatClampNeg ((s25_.1 * 15) + s33_.1)) (d1 (Int32.toNatClampNeg (s33_.2.2 (Int32.toNatClampNeg ((s25_.1 * 15) + s33_.1)))))) (dk_lengths d0) (dk_nextNumber d0) (dk_carried d0)) ++ (wrw t h1 n1 d1)) := hD
            refine lv_aload_n hx hb (kd tdlX1_redirect_1 10 rfl) rfl (lv_at hl 2 rfl) ?_
            refine lv_iload hx hb (kd tdlX1_redirect_1 11 rfl) (lv_at hl 0 rfl) ?_
            obtain ⟨v93, e93, hF⟩ := kc hF
            refine kc_iR hK hP hD hS hA [0, 1, 2, 3, 4, 5, 6, 7, 8, 9] rfl (kr_V (Qx := (fun A => kQi D (TY t) ((wdkF t h0 a0 (dk_settings d0) (dk_numbers d0) (dk_capacities d0) (dk_firsts d0) (dk_containers d0) (dk_codes d0) (dk_places d0) s33_.2.1 (dk_entries d0) (upd s33_.2.2 (Int32.toNatClampNeg ((s25_.1 * 15) + s33_.1)) (d1 (Int32.toNatClampNeg (s33_.2.2 (Int32.toNatClampNeg ((s25_.1 * 15) + s33_.1)))))) (dk_lengths d0) (dk_nextNumber d0) (dk_carried d0))) v93 A)) (wc := ((wdkF t h0 a0 (dk_settings d0) (dk_numbers d0) (dk_capacities d0) (dk_firsts d0) (dk_containers d0) (dk_codes d0) (dk_places d0) s33_.2.1 (dk_entries d0) (upd s33_.2.2 (Int32.toNatClampNeg ((s25_.1 * 15) + s33_.1)) (d1 (Int32.toNatClampNeg (s33_.2.2 (Int32.toNatClampNeg ((s25_.1 * 15) + s33_.1)))))) (dk_lengths d0) (dk_nextNumber d0) (dk_carried d0)))) (As := [.int (d1 (Int32.toNatClampNeg (s33_.2.2 (Int32.toNatClampNeg ((s25_.1 * 15) + s33_.1)))))]) (rest := []) ⟨hx, hb, hml, hown, hts⟩ hK hP hD [0, 1, 2, 3, 4, 5, 6, 7, 8, 9] nd_0_1_2_3_4_5_6_7_8_9 rfl (c_X1_hasEntry l D t h0 a0 ((dk_settings d0), (dk_numbers d0), (dk_capacities d0), (dk_firsts d0), (dk_containers d0), (dk_codes d0), (dk_places d0), s33_.2.1, (dk_entries d0), (upd s33_.2.2 (Int32.toNatClampNeg ((s25_.1 * 15) + s33_.1)) (d1 (Int32.toNatClampNeg (s33_.2.2 (Int32.toNatClampNeg ((s25_.1 * 15) + s33_.1)))))), (dk_lengths d0), (dk_nextNumber d0), (dk_carried d0)) _ (d1 (Int32.toNatClampNeg (s33_.2.2 (Int32.toNatClampNeg ((s25_.1 * 15) + s33_.1))))) v93 e93) (cwV 1 hts (gcX1_hasEntry w_169) rfl rfl rfl hdX1_hasEntryV ⟨Nat.le_of_ble_eq_true rfl, Nat.le_of_ble_eq_true rfl⟩) (ci := 1) (q0 := 0) rfl rfl rfl hl.1 rfl (Nat.le_of_ble_eq_true rfl) (kd tdlX1_redirect_1 12 rfl) ⟨Nat.zero_le _, Nat.zero_le _⟩) (fun H locs hP hS => ?_)
            refine lv_if_eq (tgt := 110) hx hb (kd tdlX1_redirect_1 13 rfl) (by decide) (fun hc96 => ?_) (fun hc96 => ?_)
            · have hF := kt hc96 hF
              refine lv_iinc (v := (s33_.1 + 1)) (lv' := [(3, .int (s33_.1 + 1)), (5, .int (d1 (Int32.toNatClampNeg (s33_.2.2 (Int32.toNatClampNeg ((s25_.1 * 15) + s33_.1)))))), (4, .int (s33_.2.2 (Int32.toNatClampNeg ((s25_.1 * 15) + s33_.1)))), (0, .ref h0), (1, .ref h1), (2, .int s25_.1)]) hx hb (kd tdlX1_redirect_1 22 rfl) hl (k := 5) rfl rfl (by decide) rfl (fun ls hl => ?_)
              refine lv_goto (tgt := 33) hx hb (kd tdlX1_redirect_1 23 rfl) (by decide) ?_
              exact ih33 ((s33_.1 + 1), s33_.2.1, (upd s33_.2.2 (Int32.toNatClampNeg ((s25_.1 * 15) + s33_.1)) (d1 (Int32.toNatClampNeg (s33_.2.2 (Int32.toNatClampNeg ((s25_.1 * 15) + s33_.1))))))) hF _ _ _ hP hD hS (lv_sub hl [3, 4, 5, 0] rfl)
            · have hF := kf hc96 hF
              refine lv_aload_n hx hb (kd tdlX1_redirect_1 14 rfl) rfl (lv_at hl 2 rfl) ?_
              refine va_get (D := D) (ci := 1) (v := .ref (a0 6)) (C := RX1) (T := TX1) (N := 13) hx hb hts inX1_ hown hK hP 0 rfl rfl 7 (by decide) L38 (fun _ h9 => h9) rfl (kd tdlX1_redirect_1 15 rfl) ?_
              refine lv_iload hx hb (kd tdlX1_redirect_1 16 rfl) (lv_at hl 0 rfl) ?_
              refine lv_dup2_11 hx hb (kd tdlX1_redirect_1 17 rfl) rfl rfl ?_
              obtain ⟨hi106, hF⟩ := kg hF
              refine va_iald (D := D) (tys := TY t) hx hb hK hP 7 0 rfl rfl hi106 (kd tdlX1_redirect_1 18 rfl) ?_
              refine lv_iconst (v := 1) hx hb (kd tdlX1_redirect_1 19 rfl) (by decide) ?_
              refine lv_iadd hx hb (kd tdlX1_redirect_1 20 rfl) ?_
              obtain ⟨hi109, hF⟩ := kg hF
              refine va_iast (D := D) (tys := TY t) hx hb hK hP hD hS 7 0 rfl rfl hi109 (kd tdlX1_redirect_1 21 rfl) (fun H locs hP hD hS => ?_)
              have hP : va_P D vwCl ((wdkF t h0 a0 (dk_settings d0) (dk_numbers d0) (dk_capacities d0) (dk_firsts d0) (dk_containers d0) (dk_codes d0) (dk_places d0) (upd s33_.2.1 (Int32.toNatClampNeg (d1 (Int32.toNatClampNeg (s33_.2.2 (Int32.toNatClampNeg ((s25_.1 * 15) + s33_.1)))))) ((s33_.2.1 (Int32.toNatClampNeg (d1 (Int32.toNatClampNeg (s33_.2.2 (Int32.toNatClampNeg ((s25_.1 * 15) + s33_.1))))))) + 1)) (dk_entries d0) (upd s33_.2.2 (Int32.toNatClampNeg ((s25_.1 * 15) + s33_.1)) (d1 (Int32.toNatClampNeg (s33_.2.2 (Int32.toNatClampNeg ((s25_.1 * 15) + s33_.1)))))) (dk_lengths d0) (dk_nextNumber d0) (dk_carried d0)) ++ (wrw t h1 n1 d1)) H := hP
              have hD : va_D A ((wdkF t h0 a0 (dk_settings d0) (dk_numbers d0) (dk_capacities d0) (dk_firsts d0) (dk_containers d0) (dk_codes d0) (dk_places d0) (upd s33_.2.1 (Int32.toNatClampNeg (d1 (Int32.toNatClampNeg (s33_.2.2 (Int32.toNatClampNeg ((s25_.1 * 15) + s33_.1)))))) ((s33_.2.1 (Int32.toNatClampNeg (d1 (Int32.toNatClampNeg (s33_.2.2 (Int32.toNatClampNeg ((s25_.1 * 15) + s33_.1))))))) + 1)) (dk_entries d0) (upd s33_.2.2 (Int32.toNatClampNeg ((s25_.1 * 15) + s33_.1)) (d1 (Int32.toNatClampNeg (s33_.2.2 (Int32.toNatClampNeg ((s25_.1 * 15) + s33_.1)))))) (dk_lengths d0) (dk_nextNumber d0) (dk_carried d0)) ++ (wrw t h1 n1 d1)) := hD
              refine lv_iinc (v := (s33_.1 + 1)) (lv' := [(3, .int (s33_.1 + 1)), (5, .int (d1 (Int32.toNatClampNeg (s33_.2.2 (Int32.toNatClampNeg ((s25_.1 * 15) + s33_.1)))))), (4, .int (s33_.2.2 (Int32.toNatClampNeg ((s25_.1 * 15) + s33_.1)))), (0, .ref h0), (1, .ref h1), (2, .int s25_.1)]) hx hb (kd tdlX1_redirect_1 22 rfl) hl (k := 5) rfl rfl (by decide) rfl (fun ls hl => ?_)
              refine lv_goto (tgt := 33) hx hb (kd tdlX1_redirect_1 23 rfl) (by decide) ?_
              exact ih33 ((s33_.1 + 1), (upd s33_.2.1 (Int32.toNatClampNeg (d1 (Int32.toNatClampNeg (s33_.2.2 (Int32.toNatClampNeg ((s25_.1 * 15) + s33_.1)))))) ((s33_.2.1 (Int32.toNatClampNeg (d1 (Int32.toNatClampNeg (s33_.2.2 (Int32.toNatClampNeg ((s25_.1 * 15) + s33_.1))))))) + 1)), (upd s33_.2.2 (Int32.toNatClampNeg ((s25_.1 * 15) + s33_.1)) (d1 (Int32.toNatClampNeg (s33_.2.2 (Int32.toNatClampNeg ((s25_.1 * 15) + s33_.1))))))) hF _ _ _ hP hD hS (lv_sub hl [3, 4, 5, 0] rfl)
          · have hF := kf hc65 hF
            refine lv_goto (tgt := 110) hx hb (kd tdlX1_redirect_0 41 rfl) (by decide) ?_
            refine lv_iinc (v := (s33_.1 + 1)) (lv' := [(3, .int (s33_.1 + 1)), (4, .int (s33_.2.2 (Int32.toNatClampNeg ((s25_.1 * 15) + s33_.1)))), (0, .ref h0), (1, .ref h1), (2, .int s25_.1)]) hx hb (kd tdlX1_redirect_1 22 rfl) hl (k := 4) rfl rfl (by decide) rfl (fun ls hl => ?_)
            refine lv_goto (tgt := 33) hx hb (kd tdlX1_redirect_1 23 rfl) (by decide) ?_
            exact ih33 ((s33_.1 + 1), s33_.2.1, s33_.2.2) hF _ _ _ hP hD hS (lv_sub hl [2, 3, 4, 0] rfl)
  refine lp_ind (f := B_X1_redirect_2 d0 (K_X1_redirect_23 d0 n1 d1)) (r := r) (P := fun s2_ => ∀ (H : Heap) (locs : List Loc) (ls : Array Slot), va_P D vwCl ((wdkF t h0 a0 (dk_settings d0) (dk_numbers d0) (dk_capacities d0) (dk_firsts d0) (dk_containers d0) (dk_codes d0) (dk_places d0) s2_.2 (dk_entries d0) (dk_references d0) (dk_lengths d0) (dk_nextNumber d0) (dk_carried d0)) ++ (wrw t h1 n1 d1)) H → va_D A ((wdkF t h0 a0 (dk_settings d0) (dk_numbers d0) (dk_capacities d0) (dk_firsts d0) (dk_containers d0) (dk_codes d0) (dk_places d0) s2_.2 (dk_entries d0) (dk_references d0) (dk_lengths d0) (dk_nextNumber d0) (dk_carried d0)) ++ (wrw t h1 n1 d1)) → va_S A s.heap H locs → lv_has ls 6 [(0, .ref h0), (1, .ref h1), (2, .int s2_.1)] → W p l e ({ frames := 1, cells := 0, slots := 0, locals := 21 } : Room) s m args below meth c H locs 0 0 (MQ below (kQv D (TY t) ((wdk t h0 a0 r) ++ (wrw t h1 n1 d1)) A) args s 0 0 A) (F0 m 2 ls [])) ?_ FU (0, (dk_uses d0)) hF _ _ _ hP hD hS (lv_sub hl [1, 2, 0] rfl)
  intro self2 ih2 s2_ hF H locs ls hP hD hS hl
  refine lv_iload_n hx hb (kd tdlX1_redirect_0 2 rfl) rfl (lv_at hl 2 rfl) ?_
  refine lv_aload_n hx hb (kd tdlX1_redirect_0 3 rfl) rfl (lv_at hl 0 rfl) ?_
  refine va_get (D := D) (ci := 1) (v := .int (dk_entries d0)) (C := RX1) (T := TX1) (N := 13) hx hb hts inX1_ hown hK hP 0 rfl rfl 8 (by decide) L57 (fun _ h9 => h9) rfl (kd tdlX1_redirect_0 4 rfl) ?_
  refine lv_icmp_ge (tgt := 23) hx hb (kd tdlX1_redirect_0 5 rfl) (by decide) (fun hc7 => ?_) (fun hc7 => ?_)
  · have hF := kt hc7 hF
    exact hK23 (s2_.2) hF _ _ _ hP hD hS (lv_sub hl [0, 1] rfl)
  · have hF := kf hc7 hF
    refine lv_aload_n hx hb (kd tdlX1_redirect_0 6 rfl) rfl (lv_at hl 0 rfl) ?_
    refine va_get (D := D) (ci := 1) (v := .ref (a0 6)) (C := RX1) (T := TX1) (N := 13) hx hb hts inX1_ hown hK hP 0 rfl rfl 7 (by decide) L38 (fun _ h9 => h9) rfl (kd tdlX1_redirect_0 7 rfl) ?_
    refine lv_iload_n hx hb (kd tdlX1_redirect_0 8 rfl) rfl (lv_at hl 2 rfl) ?_
    refine lv_iconst (v := 0) hx hb (kd tdlX1_redirect_0 9 rfl) (by decide) ?_
    obtain ⟨hi16, hF⟩ := kg hF
    refine va_iast (D := D) (tys := TY t) hx hb hK hP hD hS 7 0 rfl rfl hi16 (kd tdlX1_redirect_0 10 rfl) (fun H locs hP hD hS => ?_)
    have hP : va_P D vwCl ((wdkF t h0 a0 (dk_settings d0) (dk_numbers d0) (dk_capacities d0) (dk_firsts d0) (dk_containers d0) (dk_codes d0) (dk_places d0) (upd s2_.2 (Int32.toNatClampNeg s2_.1) 0) (dk_entries d0) (dk_references d0) (dk_lengths d0) (dk_nextNumber d0) (dk_carried d0)) ++ (wrw t h1 n1 d1)) H := hP
    have hD : va_D A ((wdkF t h0 a0 (dk_settings d0) (dk_numbers d0) (dk_capacities d0) (dk_firsts d0) (dk_containers d0) (dk_codes d0) (dk_places d0) (upd s2_.2 (Int32.toNatClampNeg s2_.1) 0) (dk_entries d0) (dk_references d0) (dk_lengths d0) (dk_nextNumber d0) (dk_carried d0)) ++ (wrw t h1 n1 d1)) := hD
    refine lv_iinc (v := (s2_.1 + 1)) (lv' := [(2, .int (s2_.1 + 1)), (0, .ref h0), (1, .ref h1)]) hx hb (kd tdlX1_redirect_0 11 rfl) hl (k := 2) rfl rfl (by decide) rfl (fun ls hl => ?_)
    refine lv_goto (tgt := 2) hx hb (kd tdlX1_redirect_0 12 rfl) (by decide) ?_
    exact ih2 ((s2_.1 + 1), (upd s2_.2 (Int32.toNatClampNeg s2_.1) 0)) hF _ _ _ hP hD hS (lv_sub hl [1, 2, 0] rfl)
