set_option maxHeartbeats 4000000 in
set_option maxRecDepth 100000 in
theorem c_X0_collectLiving (l : Launch) (D : va_G) (t : Nat → ClassId) (h0 : Nat) (a0 : Nat → Nat) (d0 : CRT) (h1 : Nat) (a1 : Nat → Nat) (d1 : DKT) (sz : Nat) (p2 : Int32) (p3 : Int32) (r : CRT) (hF : F_X0_collectLiving d0 d1 p2 p3 = some r) : Met l yX0_collectLiving wX0_collectLiving ({ frames := 2, cells := 0, slots := 0, locals := 42 } : Room) (kPc D (TY t) ((wcr t h0 a0 d0) ++ (wdk t h1 a1 d1)) [.ref h0, .ref h1, .int p2, .int p3] sz) (kQv D (TY t) ((wcr t h0 a0 r) ++ (wdk t h1 a1 d1)) (va_A ((wcr t h0 a0 d0) ++ (wdk t h1 a1 d1)) sz)) 0 0 (va_A ((wcr t h0 a0 d0) ++ (wdk t h1 a1 d1)) sz) := by
  refine kE (cc := cX0_collectLiving) (maxL := 5) (ret := none) (Qx := fun A => kQv D (TY t) ((wcr t h0 a0 r) ++ (wdk t h1 a1 d1)) A) (lv0 := [(0, .ref h0), (1, .ref h1), (2, .int p2), (3, .int p3)]) RX0 rfl (by decide) rfl (Nat.le_of_ble_eq_true rfl) rfl ?_
  intro p e s m args below meth c A ls hx hb hml hr hlocks hown hts hA hK hP hD hS hl
  have L19 := hts (.fieldLink RX0 19 "ChunkCarriers$Carrier" "waiting" "[I") (List.mem_cons_of_mem _ w_92)
  have L22 := hts (.fieldLink RX0 22 "ChunkCarriers$Carrier" "waitingCodes" "[I") (List.mem_cons_of_mem _ w_93)
  have L42 := hts (.fieldLink RX0 42 "ChunkCarriers$Carrier" "waitingCount" "I") (List.mem_cons_of_mem _ w_366)
  have inX0_ : ∀ w ∈ wsX00, w ∈ wX0_collectLiving := fun w h => List.mem_cons_of_mem _ (inlX0 w h)
  have hP : va_P D vwCl ((wcrF t h0 a0 (cr_thin d0) (cr_goesTo d0) (cr_waiting d0) (cr_waitingCodes d0) (cr_waitingCount d0)) ++ (wdkF t h1 a1 (dk_settings d1) (dk_numbers d1) (dk_capacities d1) (dk_firsts d1) (dk_containers d1) (dk_codes d1) (dk_places d1) (dk_uses d1) (dk_entries d1) (dk_references d1) (dk_lengths d1) (dk_nextNumber d1) (dk_carried d1))) s.heap := hP
  have hD : va_D A ((wcrF t h0 a0 (cr_thin d0) (cr_goesTo d0) (cr_waiting d0) (cr_waitingCodes d0) (cr_waitingCount d0)) ++ (wdkF t h1 a1 (dk_settings d1) (dk_numbers d1) (dk_capacities d1) (dk_firsts d1) (dk_containers d1) (dk_codes d1) (dk_places d1) (dk_uses d1) (dk_entries d1) (dk_references d1) (dk_lengths d1) (dk_nextNumber d1) (dk_carried d1))) := hD
  refine lv_iload_n hx hb (kd tdlX0_collectLiving_0 0 rfl) rfl (lv_at hl 2 rfl) ?_
  refine lv_istore (lv' := [(4, .int p2), (0, .ref h0), (1, .ref h1), (2, .int p2), (3, .int p3)]) hx hb (kd tdlX0_collectLiving_0 1 rfl) hl (by decide) rfl (fun ls hl => ?_)
  refine lp_ind (f := B_X0_collectLiving_3 p3 d0 d1) (r := r) (P := fun s3_ => ∀ (H : Heap) (locs : List Loc) (ls : Array Slot), va_P D vwCl ((wcrF t h0 a0 (cr_thin d0) (cr_goesTo d0) s3_.2.1 s3_.2.2.1 s3_.2.2.2) ++ (wdkF t h1 a1 (dk_settings d1) (dk_numbers d1) (dk_capacities d1) (dk_firsts d1) (dk_containers d1) (dk_codes d1) (dk_places d1) (dk_uses d1) (dk_entries d1) (dk_references d1) (dk_lengths d1) (dk_nextNumber d1) (dk_carried d1))) H → va_D A ((wcrF t h0 a0 (cr_thin d0) (cr_goesTo d0) s3_.2.1 s3_.2.2.1 s3_.2.2.2) ++ (wdkF t h1 a1 (dk_settings d1) (dk_numbers d1) (dk_capacities d1) (dk_firsts d1) (dk_containers d1) (dk_codes d1) (dk_places d1) (dk_uses d1) (dk_entries d1) (dk_references d1) (dk_lengths d1) (dk_nextNumber d1) (dk_carried d1))) → va_S A s.heap H locs → lv_has ls 5 [(0, .ref h0), (1, .ref h1), (3, .int p3), (4, .int s3_.1)] → W p l e ({ frames := 2, cells := 0, slots := 0, locals := 42 } : Room) s m args below meth c H locs 0 0 (MQ below (kQv D (TY t) ((wcr t h0 a0 r) ++ (wdk t h1 a1 d1)) A) args s 0 0 A) (F0 m 3 ls [])) ?_ FU (p2, (cr_waiting d0), (cr_waitingCodes d0), (cr_waitingCount d0)) hF _ _ _ hP hD hS (lv_sub hl [1, 2, 4, 0] rfl)
  intro self3 ih3 s3_ hF H locs ls hP hD hS hl
  refine lv_iload hx hb (kd tdlX0_collectLiving_0 2 rfl) (lv_at hl 3 rfl) ?_
  refine lv_iload_n hx hb (kd tdlX0_collectLiving_0 3 rfl) rfl (lv_at hl 2 rfl) ?_
  refine lv_icmp_ge (tgt := 75) hx hb (kd tdlX0_collectLiving_0 4 rfl) (by decide) (fun hc6 => ?_) (fun hc6 => ?_)
  · have hF := kt hc6 hF
    cases ko hF
    exact ke_v hx hb hr hlocks hK hP hD hS (kd tdlX0_collectLiving_0 38 rfl)
  · have hF := kf hc6 hF
    refine lv_aload_n hx hb (kd tdlX0_collectLiving_0 5 rfl) rfl (lv_at hl 1 rfl) ?_
    refine lv_iload hx hb (kd tdlX0_collectLiving_0 6 rfl) (lv_at hl 3 rfl) ?_
    obtain ⟨v12, e12, hF⟩ := kc hF
    refine kc_iR hK hP hD hS hA [5, 6, 7, 8, 9, 10, 11, 12, 13, 14] rfl (kr_V (Qx := (fun A => kQi D (TY t) ((wdkF t h1 a1 (dk_settings d1) (dk_numbers d1) (dk_capacities d1) (dk_firsts d1) (dk_containers d1) (dk_codes d1) (dk_places d1) (dk_uses d1) (dk_entries d1) (dk_references d1) (dk_lengths d1) (dk_nextNumber d1) (dk_carried d1))) v12 A)) (wc := ((wdkF t h1 a1 (dk_settings d1) (dk_numbers d1) (dk_capacities d1) (dk_firsts d1) (dk_containers d1) (dk_codes d1) (dk_places d1) (dk_uses d1) (dk_entries d1) (dk_references d1) (dk_lengths d1) (dk_nextNumber d1) (dk_carried d1)))) (As := [.int s3_.1]) (rest := []) ⟨hx, hb, hml, hown, hts⟩ hK hP hD [5, 6, 7, 8, 9, 10, 11, 12, 13, 14] nd_5_6_7_8_9_10_11_12_13_14 rfl (c_X1_usesOfEntry l D t h1 a1 d1 _ s3_.1 v12 e12) (cwV 1 hts (gcX1_usesOfEntry w_378) rfl rfl rfl hdX1_usesOfEntryV ⟨Nat.le_of_ble_eq_true rfl, Nat.le_of_ble_eq_true rfl⟩) (ci := 1) (q0 := 5) rfl rfl rfl hl.1 rfl (Nat.le_of_ble_eq_true rfl) (kd tdlX0_collectLiving_0 7 rfl) ⟨Nat.zero_le _, Nat.zero_le _⟩) (fun H locs hP hS => ?_)
    refine lv_if_eq (tgt := 69) hx hb (kd tdlX0_collectLiving_0 8 rfl) (by decide) (fun hc15 => ?_) (fun hc15 => ?_)
    · have hF := kt hc15 hF
      refine lv_iinc (v := (s3_.1 + 1)) (lv' := [(4, .int (s3_.1 + 1)), (0, .ref h0), (1, .ref h1), (3, .int p3)]) hx hb (kd tdlX0_collectLiving_0 36 rfl) hl (k := 3) rfl rfl (by decide) rfl (fun ls hl => ?_)
      refine lv_goto (tgt := 3) hx hb (kd tdlX0_collectLiving_0 37 rfl) (by decide) ?_
      exact ih3 ((s3_.1 + 1), s3_.2.1, s3_.2.2.1, s3_.2.2.2) hF _ _ _ hP hD hS (lv_sub hl [1, 2, 3, 0] rfl)
    · have hF := kf hc15 hF
      refine lv_aload_n hx hb (kd tdlX0_collectLiving_0 9 rfl) rfl (lv_at hl 0 rfl) ?_
      refine va_get (D := D) (ci := 0) (v := .int s3_.2.2.2) (C := RX0) (T := TX0) (N := 5) hx hb hts inX0_ hown hK hP 0 rfl rfl 4 (by decide) L42 (fun _ h9 => h9) rfl (kd tdlX0_collectLiving_0 10 rfl) ?_
      refine lv_aload_n hx hb (kd tdlX0_collectLiving_0 11 rfl) rfl (lv_at hl 0 rfl) ?_
      refine va_get (D := D) (ci := 0) (v := .ref (a0 2)) (C := RX0) (T := TX0) (N := 5) hx hb hts inX0_ hown hK hP 0 rfl rfl 2 (by decide) L19 (fun _ h9 => h9) rfl (kd tdlX0_collectLiving_0 12 rfl) ?_
      refine va_alen (v := 192) (D := D) (tys := TY t) hx hb hK hP 3 0 rfl rfl rfl (kd tdlX0_collectLiving_0 13 rfl) ?_
      refine lv_icmp_lt (tgt := 33) hx hb (kd tdlX0_collectLiving_0 14 rfl) (by decide) (fun hc27 => ?_) (fun hc27 => ?_)
      · have hF := kt hc27 hF
        refine lv_aload_n hx hb (kd tdlX0_collectLiving_0 16 rfl) rfl (lv_at hl 0 rfl) ?_
        refine va_get (D := D) (ci := 0) (v := .ref (a0 2)) (C := RX0) (T := TX0) (N := 5) hx hb hts inX0_ hown hK hP 0 rfl rfl 2 (by decide) L19 (fun _ h9 => h9) rfl (kd tdlX0_collectLiving_0 17 rfl) ?_
        refine lv_aload_n hx hb (kd tdlX0_collectLiving_0 18 rfl) rfl (lv_at hl 0 rfl) ?_
        refine va_get (D := D) (ci := 0) (v := .int s3_.2.2.2) (C := RX0) (T := TX0) (N := 5) hx hb hts inX0_ hown hK hP 0 rfl rfl 4 (by decide) L42 (fun _ h9 => h9) rfl (kd tdlX0_collectLiving_0 19 rfl) ?_
        refine lv_iload hx hb (kd tdlX0_collectLiving_0 20 rfl) (lv_at hl 3 rfl) ?_
        obtain ⟨hi43, hF⟩ := kg hF
        refine va_iast (D := D) (tys := TY t) hx hb hK hP hD hS 3 0 rfl rfl hi43 (kd tdlX0_collectLiving_0 21 rfl) (fun H locs hP hD hS => ?_)
        have hP : va_P D vwCl ((wcrF t h0 a0 (cr_thin d0) (cr_goesTo d0) (upd s3_.2.1 (Int32.toNatClampNeg s3_.2.2.2) s3_.1) s3_.2.2.1 s3_.2.2.2) ++ (wdkF t h1 a1 (dk_settings d1) (dk_numbers d1) (dk_capacities d1) (dk_firsts d1) (dk_containers d1) (dk_codes d1) (dk_places d1) (dk_uses d1) (dk_entries d1) (dk_references d1) (dk_lengths d1) (dk_nextNumber d1) (dk_carried d1))) H := hP
        have hD : va_D A ((wcrF t h0 a0 (cr_thin d0) (cr_goesTo d0) (upd s3_.2.1 (Int32.toNatClampNeg s3_.2.2.2) s3_.1) s3_.2.2.1 s3_.2.2.2) ++ (wdkF t h1 a1 (dk_settings d1) (dk_numbers d1) (dk_capacities d1) (dk_firsts d1) (dk_containers d1) (dk_codes d1) (dk_places d1) (dk_uses d1) (dk_entries d1) (dk_references d1) (dk_lengths d1) (dk_nextNumber d1) (dk_carried d1))) := hD
        refine lv_aload_n hx hb (kd tdlX0_collectLiving_0 22 rfl) rfl (lv_at hl 0 rfl) ?_
        refine va_get (D := D) (ci := 0) (v := .ref (a0 3)) (C := RX0) (T := TX0) (N := 5) hx hb hts inX0_ hown hK hP 0 rfl rfl 3 (by decide) L22 (fun _ h9 => h9) rfl (kd tdlX0_collectLiving_0 23 rfl) ?_
        refine lv_aload_n hx hb (kd tdlX0_collectLiving_0 24 rfl) rfl (lv_at hl 0 rfl) ?_
        refine va_get (D := D) (ci := 0) (v := .int s3_.2.2.2) (C := RX0) (T := TX0) (N := 5) hx hb hts inX0_ hown hK hP 0 rfl rfl 4 (by decide) L42 (fun _ h9 => h9) rfl (kd tdlX0_collectLiving_0 25 rfl) ?_
        refine lv_aload_n hx hb (kd tdlX0_collectLiving_0 26 rfl) rfl (lv_at hl 1 rfl) ?_
        refine lv_iload hx hb (kd tdlX0_collectLiving_0 27 rfl) (lv_at hl 3 rfl) ?_
        obtain ⟨v55, e55, hF⟩ := kc hF
        refine kc_iR hK hP hD hS hA [5, 6, 7, 8, 9, 10, 11, 12, 13, 14] rfl (kr_V (Qx := (fun A => kQi D (TY t) ((wdkF t h1 a1 (dk_settings d1) (dk_numbers d1) (dk_capacities d1) (dk_firsts d1) (dk_containers d1) (dk_codes d1) (dk_places d1) (dk_uses d1) (dk_entries d1) (dk_references d1) (dk_lengths d1) (dk_nextNumber d1) (dk_carried d1))) v55 A)) (wc := ((wdkF t h1 a1 (dk_settings d1) (dk_numbers d1) (dk_capacities d1) (dk_firsts d1) (dk_containers d1) (dk_codes d1) (dk_places d1) (dk_uses d1) (dk_entries d1) (dk_references d1) (dk_lengths d1) (dk_nextNumber d1) (dk_carried d1)))) (As := [.int s3_.1]) (rest := [.int s3_.2.2.2, .ref (a0 3)]) ⟨hx, hb, hml, hown, hts⟩ hK hP hD [5, 6, 7, 8, 9, 10, 11, 12, 13, 14] nd_5_6_7_8_9_10_11_12_13_14 rfl (c_X1_codeOfEntry l D t h1 a1 d1 _ s3_.1 v55 e55) (cwV 1 hts (gcX1_codeOfEntry w_379) rfl rfl rfl hdX1_codeOfEntryV ⟨Nat.le_of_ble_eq_true rfl, Nat.le_of_ble_eq_true rfl⟩) (ci := 1) (q0 := 5) rfl rfl rfl hl.1 rfl (Nat.le_of_ble_eq_true rfl) (kd tdlX0_collectLiving_0 28 rfl) ⟨Nat.zero_le _, Nat.zero_le _⟩) (fun H locs hP hS => ?_)
        obtain ⟨hi58, hF⟩ := kg hF
        refine va_iast (D := D) (tys := TY t) hx hb hK hP hD hS 4 0 rfl rfl hi58 (kd tdlX0_collectLiving_0 29 rfl) (fun H locs hP hD hS => ?_)
        have hP : va_P D vwCl ((wcrF t h0 a0 (cr_thin d0) (cr_goesTo d0) (upd s3_.2.1 (Int32.toNatClampNeg s3_.2.2.2) s3_.1) (upd s3_.2.2.1 (Int32.toNatClampNeg s3_.2.2.2) v55) s3_.2.2.2) ++ (wdkF t h1 a1 (dk_settings d1) (dk_numbers d1) (dk_capacities d1) (dk_firsts d1) (dk_containers d1) (dk_codes d1) (dk_places d1) (dk_uses d1) (dk_entries d1) (dk_references d1) (dk_lengths d1) (dk_nextNumber d1) (dk_carried d1))) H := hP
        have hD : va_D A ((wcrF t h0 a0 (cr_thin d0) (cr_goesTo d0) (upd s3_.2.1 (Int32.toNatClampNeg s3_.2.2.2) s3_.1) (upd s3_.2.2.1 (Int32.toNatClampNeg s3_.2.2.2) v55) s3_.2.2.2) ++ (wdkF t h1 a1 (dk_settings d1) (dk_numbers d1) (dk_capacities d1) (dk_firsts d1) (dk_containers d1) (dk_codes d1) (dk_places d1) (dk_uses d1) (dk_entries d1) (dk_references d1) (dk_lengths d1) (dk_nextNumber d1) (dk_carried d1))) := hD
        refine lv_aload_n hx hb (kd tdlX0_collectLiving_0 30 rfl) rfl (lv_at hl 0 rfl) ?_
        refine lv_dup hx hb (kd tdlX0_collectLiving_0 31 rfl) rfl ?_
        refine va_get (D := D) (ci := 0) (v := .int s3_.2.2.2) (C := RX0) (T := TX0) (N := 5) hx hb hts inX0_ hown hK hP 0 rfl rfl 4 (by decide) L42 (fun _ h9 => h9) rfl (kd tdlX0_collectLiving_0 32 rfl) ?_
        refine lv_iconst (v := 1) hx hb (kd tdlX0_collectLiving_0 33 rfl) (by decide) ?_
        refine lv_iadd hx hb (kd tdlX0_collectLiving_0 34 rfl) ?_
        refine va_put (D := D) (ci := 0) (v := .int (s3_.2.2.2 + 1)) (ty := .int) (C := RX0) (T := TX0) (N := 5) hx hb hts inX0_ tyX0 tyX0_ok nmX0 hown hK hP hD hS 0 rfl rfl 4 (by decide) L42 (fun _ h9 => h9) rfl (by decide +kernel) rfl rfl (Nat.le_of_ble_eq_true rfl) (kd tdlX0_collectLiving_0 35 rfl) (fun H locs hP hD hS => ?_)
        have hP : va_P D vwCl ((wcrF t h0 a0 (cr_thin d0) (cr_goesTo d0) (upd s3_.2.1 (Int32.toNatClampNeg s3_.2.2.2) s3_.1) (upd s3_.2.2.1 (Int32.toNatClampNeg s3_.2.2.2) v55) (s3_.2.2.2 + 1)) ++ (wdkF t h1 a1 (dk_settings d1) (dk_numbers d1) (dk_capacities d1) (dk_firsts d1) (dk_containers d1) (dk_codes d1) (dk_places d1) (dk_uses d1) (dk_entries d1) (dk_references d1) (dk_lengths d1) (dk_nextNumber d1) (dk_carried d1))) H := hP
        have hD : va_D A ((wcrF t h0 a0 (cr_thin d0) (cr_goesTo d0) (upd s3_.2.1 (Int32.toNatClampNeg s3_.2.2.2) s3_.1) (upd s3_.2.2.1 (Int32.toNatClampNeg s3_.2.2.2) v55) (s3_.2.2.2 + 1)) ++ (wdkF t h1 a1 (dk_settings d1) (dk_numbers d1) (dk_capacities d1) (dk_firsts d1) (dk_containers d1) (dk_codes d1) (dk_places d1) (dk_uses d1) (dk_entries d1) (dk_references d1) (dk_lengths d1) (dk_nextNumber d1) (dk_carried d1))) := hD
        refine lv_iinc (v := (s3_.1 + 1)) (lv' := [(4, .int (s3_.1 + 1)), (0, .ref h0), (1, .ref h1), (3, .int p3)]) hx hb (kd tdlX0_collectLiving_0 36 rfl) hl (k := 3) rfl rfl (by decide) rfl (fun ls hl => ?_)
        refine lv_goto (tgt := 3) hx hb (kd tdlX0_collectLiving_0 37 rfl) (by decide) ?_
        exact ih3 ((s3_.1 + 1), (upd s3_.2.1 (Int32.toNatClampNeg s3_.2.2.2) s3_.1), (upd s3_.2.2.1 (Int32.toNatClampNeg s3_.2.2.2) v55), (s3_.2.2.2 + 1)) hF _ _ _ hP hD hS (lv_sub hl [1, 2, 3, 0] rfl)
      · have hF := kf hc27 hF
        refine lv_goto (tgt := 69) hx hb (kd tdlX0_collectLiving_0 15 rfl) (by decide) ?_
        refine lv_iinc (v := (s3_.1 + 1)) (lv' := [(4, .int (s3_.1 + 1)), (0, .ref h0), (1, .ref h1), (3, .int p3)]) hx hb (kd tdlX0_collectLiving_0 36 rfl) hl (k := 3) rfl rfl (by decide) rfl (fun ls hl => ?_)
        refine lv_goto (tgt := 3) hx hb (kd tdlX0_collectLiving_0 37 rfl) (by decide) ?_
        exact ih3 ((s3_.1 + 1), s3_.2.1, s3_.2.2.1, s3_.2.2.2) hF _ _ _ hP hD hS (lv_sub hl [1, 2, 3, 0] rfl)
set_option maxHeartbeats 4000000 in
set_option maxRecDepth 100000 in
theorem c_X0_collectWaiting (l : Launch) (D : va_G) (t : Nat → ClassId) (h0 : Nat) (a0 : Nat → Nat) (d0 : CRT) (h1 : Nat) (a1 : Nat → Nat) (d1 : DKT) (sz : Nat)  (r : CRT) (hF : F_X0_collectWaiting d0 d1 = some r) : Met l yX0_collectWaiting wX0_collectWaiting ({ frames := 3, cells := 0, slots := 0, locals := 66 } : Room) (kPc D (TY t) ((wcr t h0 a0 d0) ++ (wdk t h1 a1 d1)) [.ref h0, .ref h1] sz) (kQv D (TY t) ((wcr t h0 a0 r) ++ (wdk t h1 a1 d1)) (va_A ((wcr t h0 a0 d0) ++ (wdk t h1 a1 d1)) sz)) 0 0 (va_A ((wcr t h0 a0 d0) ++ (wdk t h1 a1 d1)) sz) := by
  refine kE (cc := cX0_collectWaiting) (maxL := 3) (ret := none) (Qx := fun A => kQv D (TY t) ((wcr t h0 a0 r) ++ (wdk t h1 a1 d1)) A) (lv0 := [(0, .ref h0), (1, .ref h1)]) RX0 rfl (by decide) rfl (Nat.le_of_ble_eq_true rfl) rfl ?_
  intro p e s m args below meth c A ls hx hb hml hr hlocks hown hts hA hK hP hD hS hl
  have L25 := hts (.fieldLink RX0 25 "ChunkCarriers$Desk" "containers" "I") (List.mem_cons_of_mem _ w_365)
  have L42 := hts (.fieldLink RX0 42 "ChunkCarriers$Carrier" "waitingCount" "I") (List.mem_cons_of_mem _ w_366)
  have L9 := hts (.fieldLink RX0 9 "ChunkCarriers$Carrier" "thin" "[Z") (List.mem_cons_of_mem _ w_90)
  have inX0_ : ∀ w ∈ wsX00, w ∈ wX0_collectWaiting := fun w h => List.mem_cons_of_mem _ (inlX0 w h)
  have inX1_ : ∀ w ∈ wsX10, w ∈ wX0_collectWaiting := fun w h => List.mem_cons_of_mem _ (inlX1 w h)
  have hP : va_P D vwCl ((wcrF t h0 a0 (cr_thin d0) (cr_goesTo d0) (cr_waiting d0) (cr_waitingCodes d0) (cr_waitingCount d0)) ++ (wdkF t h1 a1 (dk_settings d1) (dk_numbers d1) (dk_capacities d1) (dk_firsts d1) (dk_containers d1) (dk_codes d1) (dk_places d1) (dk_uses d1) (dk_entries d1) (dk_references d1) (dk_lengths d1) (dk_nextNumber d1) (dk_carried d1))) s.heap := hP
  have hD : va_D A ((wcrF t h0 a0 (cr_thin d0) (cr_goesTo d0) (cr_waiting d0) (cr_waitingCodes d0) (cr_waitingCount d0)) ++ (wdkF t h1 a1 (dk_settings d1) (dk_numbers d1) (dk_capacities d1) (dk_firsts d1) (dk_containers d1) (dk_codes d1) (dk_places d1) (dk_uses d1) (dk_entries d1) (dk_references d1) (dk_lengths d1) (dk_nextNumber d1) (dk_carried d1))) := hD
  refine lv_aload_n hx hb (kd tdlX0_collectWaiting_0 0 rfl) rfl (lv_at hl 0 rfl) ?_
  refine lv_iconst (v := 0) hx hb (kd tdlX0_collectWaiting_0 1 rfl) (by decide) ?_
  refine va_put (D := D) (ci := 0) (v := .int 0) (ty := .int) (C := RX0) (T := TX0) (N := 5) hx hb hts inX0_ tyX0 tyX0_ok nmX0 hown hK hP hD hS 0 rfl rfl 4 (by decide) L42 (fun _ h9 => h9) rfl (by decide +kernel) rfl rfl (Nat.le_of_ble_eq_true rfl) (kd tdlX0_collectWaiting_0 2 rfl) (fun H locs hP hD hS => ?_)
  have hP : va_P D vwCl ((wcrF t h0 a0 (cr_thin d0) (cr_goesTo d0) (cr_waiting d0) (cr_waitingCodes d0) 0) ++ (wdkF t h1 a1 (dk_settings d1) (dk_numbers d1) (dk_capacities d1) (dk_firsts d1) (dk_containers d1) (dk_codes d1) (dk_places d1) (dk_uses d1) (dk_entries d1) (dk_references d1) (dk_lengths d1) (dk_nextNumber d1) (dk_carried d1))) H := hP
  have hD : va_D A ((wcrF t h0 a0 (cr_thin d0) (cr_goesTo d0) (cr_waiting d0) (cr_waitingCodes d0) 0) ++ (wdkF t h1 a1 (dk_settings d1) (dk_numbers d1) (dk_capacities d1) (dk_firsts d1) (dk_containers d1) (dk_codes d1) (dk_places d1) (dk_uses d1) (dk_entries d1) (dk_references d1) (dk_lengths d1) (dk_nextNumber d1) (dk_carried d1))) := hD
  refine lv_iconst (v := 0) hx hb (kd tdlX0_collectWaiting_0 3 rfl) (by decide) ?_
  refine lv_istore_n (lv' := [(2, .int 0), (0, .ref h0), (1, .ref h1)]) hx hb (kd tdlX0_collectWaiting_0 4 rfl) rfl hl (by decide) rfl (fun ls hl => ?_)
  refine lp_ind (f := B_X0_collectWaiting_7 d1) (r := r) (P := fun s7_ => ∀ (H : Heap) (locs : List Loc) (ls : Array Slot), va_P D vwCl ((wcrF t h0 a0 (cr_thin s7_.2) (cr_goesTo s7_.2) (cr_waiting s7_.2) (cr_waitingCodes s7_.2) (cr_waitingCount s7_.2)) ++ (wdkF t h1 a1 (dk_settings d1) (dk_numbers d1) (dk_capacities d1) (dk_firsts d1) (dk_containers d1) (dk_codes d1) (dk_places d1) (dk_uses d1) (dk_entries d1) (dk_references d1) (dk_lengths d1) (dk_nextNumber d1) (dk_carried d1))) H → va_D A ((wcrF t h0 a0 (cr_thin s7_.2) (cr_goesTo s7_.2) (cr_waiting s7_.2) (cr_waitingCodes s7_.2) (cr_waitingCount s7_.2)) ++ (wdkF t h1 a1 (dk_settings d1) (dk_numbers d1) (dk_capacities d1) (dk_firsts d1) (dk_containers d1) (dk_codes d1) (dk_places d1) (dk_uses d1) (dk_entries d1) (dk_references d1) (dk_lengths d1) (dk_nextNumber d1) (dk_carried d1))) → va_S A s.heap H locs → lv_has ls 3 [(0, .ref h0), (1, .ref h1), (2, .int s7_.1)] → W p l e ({ frames := 3, cells := 0, slots := 0, locals := 66 } : Room) s m args below meth c H locs 0 0 (MQ below (kQv D (TY t) ((wcr t h0 a0 r) ++ (wdk t h1 a1 d1)) A) args s 0 0 A) (F0 m 7 ls [])) ?_ FU (0, ((cr_thin d0), (cr_goesTo d0), (cr_waiting d0), (cr_waitingCodes d0), 0)) hF _ _ _ hP hD hS (lv_sub hl [1, 2, 0] rfl)
  intro self7 ih7 s7_ hF H locs ls hP hD hS hl
  refine lv_iload_n hx hb (kd tdlX0_collectWaiting_0 5 rfl) rfl (lv_at hl 2 rfl) ?_
  refine lv_aload_n hx hb (kd tdlX0_collectWaiting_0 6 rfl) rfl (lv_at hl 1 rfl) ?_
  refine va_get (D := D) (ci := 1) (v := .int (dk_containers d1)) (C := RX1) (T := TX1) (N := 13) hx hb hts inX1_ hown hK hP 5 rfl rfl 4 (by decide) L25 (fun _ h9 => h9) rfl (kd tdlX0_collectWaiting_0 7 rfl) ?_
  refine lv_icmp_ge (tgt := 47) hx hb (kd tdlX0_collectWaiting_0 8 rfl) (by decide) (fun hc12 => ?_) (fun hc12 => ?_)
  · have hF := kt hc12 hF
    cases ko hF
    exact ke_v hx hb hr hlocks hK hP hD hS (kd tdlX0_collectWaiting_0 27 rfl)
  · have hF := kf hc12 hF
    refine lv_aload_n hx hb (kd tdlX0_collectWaiting_0 9 rfl) rfl (lv_at hl 0 rfl) ?_
    refine va_get (D := D) (ci := 0) (v := .ref (a0 0)) (C := RX0) (T := TX0) (N := 5) hx hb hts inX0_ hown hK hP 0 rfl rfl 0 (by decide) L9 (fun _ h9 => h9) rfl (kd tdlX0_collectWaiting_0 10 rfl) ?_
    refine lv_iload_n hx hb (kd tdlX0_collectWaiting_0 11 rfl) rfl (lv_at hl 2 rfl) ?_
    obtain ⟨hi20, hF⟩ := kg hF
    refine va_zald (D := D) (tys := TY t) hx hb hK hP 1 2 rfl rfl hi20 (kd tdlX0_collectWaiting_0 12 rfl) ?_
    refine lv_if_eq (tgt := 41) hx hb (kd tdlX0_collectWaiting_0 13 rfl) (by decide) (fun hc21 => ?_) (fun hc21 => ?_)
    · have hF := kt hc21 hF
      refine lv_iinc (v := (s7_.1 + 1)) (lv' := [(2, .int (s7_.1 + 1)), (0, .ref h0), (1, .ref h1)]) hx hb (kd tdlX0_collectWaiting_0 25 rfl) hl (k := 2) rfl rfl (by decide) rfl (fun ls hl => ?_)
      refine lv_goto (tgt := 7) hx hb (kd tdlX0_collectWaiting_0 26 rfl) (by decide) ?_
      exact ih7 ((s7_.1 + 1), s7_.2) hF _ _ _ hP hD hS (lv_sub hl [1, 2, 0] rfl)
    · have hF := kf hc21 hF
      refine lv_aload_n hx hb (kd tdlX0_collectWaiting_0 14 rfl) rfl (lv_at hl 0 rfl) ?_
      refine lv_aload_n hx hb (kd tdlX0_collectWaiting_0 15 rfl) rfl (lv_at hl 1 rfl) ?_
      refine lv_aload_n hx hb (kd tdlX0_collectWaiting_0 16 rfl) rfl (lv_at hl 1 rfl) ?_
      refine lv_iload_n hx hb (kd tdlX0_collectWaiting_0 17 rfl) rfl (lv_at hl 2 rfl) ?_
      obtain ⟨v28, e28, hF⟩ := kc hF
      refine kc_iR hK hP hD hS hA [5, 6, 7, 8, 9, 10, 11, 12, 13, 14] rfl (kr_V (Qx := (fun A => kQi D (TY t) ((wdkF t h1 a1 (dk_settings d1) (dk_numbers d1) (dk_capacities d1) (dk_firsts d1) (dk_containers d1) (dk_codes d1) (dk_places d1) (dk_uses d1) (dk_entries d1) (dk_references d1) (dk_lengths d1) (dk_nextNumber d1) (dk_carried d1))) v28 A)) (wc := ((wdkF t h1 a1 (dk_settings d1) (dk_numbers d1) (dk_capacities d1) (dk_firsts d1) (dk_containers d1) (dk_codes d1) (dk_places d1) (dk_uses d1) (dk_entries d1) (dk_references d1) (dk_lengths d1) (dk_nextNumber d1) (dk_carried d1)))) (As := [.int s7_.1]) (rest := [.ref h1, .ref h0]) ⟨hx, hb, hml, hown, hts⟩ hK hP hD [5, 6, 7, 8, 9, 10, 11, 12, 13, 14] nd_5_6_7_8_9_10_11_12_13_14 rfl (c_X1_firstEntryAt l D t h1 a1 d1 _ s7_.1 v28 e28) (cwV 1 hts (gcX1_firstEntryAt w_373) rfl rfl rfl hdX1_firstEntryAtV ⟨Nat.le_of_ble_eq_true rfl, Nat.le_of_ble_eq_true rfl⟩) (ci := 1) (q0 := 5) rfl rfl rfl hl.1 rfl (Nat.le_of_ble_eq_true rfl) (kd tdlX0_collectWaiting_0 18 rfl) ⟨Nat.zero_le _, Nat.zero_le _⟩) (fun H locs hP hS => ?_)
      refine lv_aload_n hx hb (kd tdlX0_collectWaiting_0 19 rfl) rfl (lv_at hl 1 rfl) ?_
      refine lv_iload_n hx hb (kd tdlX0_collectWaiting_0 20 rfl) rfl (lv_at hl 2 rfl) ?_
      refine lv_iconst (v := 1) hx hb (kd tdlX0_collectWaiting_0 21 rfl) (by decide) ?_
      refine lv_iadd hx hb (kd tdlX0_collectWaiting_0 22 rfl) ?_
      obtain ⟨v35, e35, hF⟩ := kc hF
      refine kc_iR hK hP hD hS hA [5, 6, 7, 8, 9, 10, 11, 12, 13, 14] rfl (kr_V (Qx := (fun A => kQi D (TY t) ((wdkF t h1 a1 (dk_settings d1) (dk_numbers d1) (dk_capacities d1) (dk_firsts d1) (dk_containers d1) (dk_codes d1) (dk_places d1) (dk_uses d1) (dk_entries d1) (dk_references d1) (dk_lengths d1) (dk_nextNumber d1) (dk_carried d1))) v35 A)) (wc := ((wdkF t h1 a1 (dk_settings d1) (dk_numbers d1) (dk_capacities d1) (dk_firsts d1) (dk_containers d1) (dk_codes d1) (dk_places d1) (dk_uses d1) (dk_entries d1) (dk_references d1) (dk_lengths d1) (dk_nextNumber d1) (dk_carried d1)))) (As := [.int (s7_.1 + 1)]) (rest := [.int v28, .ref h1, .ref h0]) ⟨hx, hb, hml, hown, hts⟩ hK hP hD [5, 6, 7, 8, 9, 10, 11, 12, 13, 14] nd_5_6_7_8_9_10_11_12_13_14 rfl (c_X1_firstEntryAt l D t h1 a1 d1 _ (s7_.1 + 1) v35 e35) (cwV 1 hts (gcX1_firstEntryAt w_373) rfl rfl rfl hdX1_firstEntryAtV ⟨Nat.le_of_ble_eq_true rfl, Nat.le_of_ble_eq_true rfl⟩) (ci := 1) (q0 := 5) rfl rfl rfl hl.1 rfl (Nat.le_of_ble_eq_true rfl) (kd tdlX0_collectWaiting_0 23 rfl) ⟨Nat.zero_le _, Nat.zero_le _⟩) (fun H locs hP hS => ?_)
      obtain ⟨v38, e38, hF⟩ := kc hF
      refine kc_v0 (w1 := ((wcrF t h0 a0 (cr_thin v38) (cr_goesTo v38) (cr_waiting v38) (cr_waitingCodes v38) (cr_waitingCount v38)) ++ (wdkF t h1 a1 (dk_settings d1) (dk_numbers d1) (dk_capacities d1) (dk_firsts d1) (dk_containers d1) (dk_codes d1) (dk_places d1) (dk_uses d1) (dk_entries d1) (dk_references d1) (dk_lengths d1) (dk_nextNumber d1) (dk_carried d1)))) hP hD hS hA (kr_V0 (Qx := (fun A => kQv D (TY t) ((wcrF t h0 a0 (cr_thin v38) (cr_goesTo v38) (cr_waiting v38) (cr_waitingCodes v38) (cr_waitingCount v38)) ++ (wdkF t h1 a1 (dk_settings d1) (dk_numbers d1) (dk_capacities d1) (dk_firsts d1) (dk_containers d1) (dk_codes d1) (dk_places d1) (dk_uses d1) (dk_entries d1) (dk_references d1) (dk_lengths d1) (dk_nextNumber d1) (dk_carried d1))) A)) (As := [.ref h1, .int v28, .int v35]) (rest := []) ⟨hx, hb, hml, hown, hts⟩ hK hP hD (c_X0_collectLiving l D t h0 a0 s7_.2 h1 a1 d1 _ v28 v35 v38 e38) (cwV 3 hts (gcX0_collectLiving w_374) rfl rfl rfl hdX0_collectLivingV ⟨Nat.le_of_ble_eq_true rfl, Nat.le_of_ble_eq_true rfl⟩) (ci := 0) (q0 := 0) rfl rfl rfl hl.1 rfl (Nat.le_of_ble_eq_true rfl) (kd tdlX0_collectWaiting_0 24 rfl) ⟨Nat.zero_le _, Nat.zero_le _⟩) (fun H locs hP hD hS => ?_)
      refine lv_iinc (v := (s7_.1 + 1)) (lv' := [(2, .int (s7_.1 + 1)), (0, .ref h0), (1, .ref h1)]) hx hb (kd tdlX0_collectWaiting_0 25 rfl) hl (k := 2) rfl rfl (by decide) rfl (fun ls hl => ?_)
      refine lv_goto (tgt := 7) hx hb (kd tdlX0_collectWaiting_0 26 rfl) (by decide) ?_
      exact ih7 ((s7_.1 + 1), v38) hF _ _ _ hP hD hS (lv_sub hl [1, 2, 0] rfl)
set_option maxHeartbeats 4000000 in
set_option maxRecDepth 100000 in
theorem c_X0_keepContainer (l : Launch) (D : va_G) (t : Nat → ClassId) (h0 : Nat) (a0 : Nat → Nat) (d0 : CRT) (h1 : Nat) (a1 : Nat → Nat) (d1 : DKT) (sz : Nat) (p2 : Int32) (p3 : Int32) (p4 : Int32) (r : CRT × DKT) (hF : F_X0_keepContainer d0 d1 p2 p3 p4 = some r) : Met l yX0_keepContainer wX0_keepContainer ({ frames := 0, cells := 0, slots := 0, locals := 0 } : Room) (kPc D (TY t) ((wcr t h0 a0 d0) ++ (wdk t h1 a1 d1)) [.ref h0, .ref h1, .int p2, .int p3, .int p4] sz) (kQv D (TY t) ((wcr t h0 a0 r.1) ++ (wdk t h1 a1 r.2)) (va_A ((wcr t h0 a0 d0) ++ (wdk t h1 a1 d1)) sz)) 0 0 (va_A ((wcr t h0 a0 d0) ++ (wdk t h1 a1 d1)) sz) := by
  refine kE (cc := cX0_keepContainer) (maxL := 7) (ret := none) (Qx := fun A => kQv D (TY t) ((wcr t h0 a0 r.1) ++ (wdk t h1 a1 r.2)) A) (lv0 := [(0, .ref h0), (1, .ref h1), (2, .int p2), (3, .int p3), (4, .int p4)]) RX0 rfl (by decide) rfl (Nat.le_of_ble_eq_true rfl) rfl ?_
  intro p e s m args below meth c A ls hx hb hml hr hlocks hown hts hA hK hP hD hS hl
  have L15 := hts (.fieldLink RX0 15 "ChunkCarriers$Carrier" "goesTo" "[I") (List.mem_cons_of_mem _ w_91)
  have L25 := hts (.fieldLink RX0 25 "ChunkCarriers$Desk" "containers" "I") (List.mem_cons_of_mem _ w_365)
  have L73 := hts (.fieldLink RX0 73 "ChunkCarriers$Desk" "entries" "I") (List.mem_cons_of_mem _ w_384)
  have L76 := hts (.fieldLink RX0 76 "ChunkCarriers$Desk" "firsts" "[I") (List.mem_cons_of_mem _ w_385)
  have L83 := hts (.fieldLink RX0 83 "ChunkCarriers$Desk" "numbers" "[I") (List.mem_cons_of_mem _ w_390)
  have L86 := hts (.fieldLink RX0 86 "ChunkCarriers$Desk" "capacities" "[I") (List.mem_cons_of_mem _ w_391)
  have L89 := hts (.fieldLink RX0 89 "ChunkCarriers$Desk" "codes" "[I") (List.mem_cons_of_mem _ w_392)
  have L92 := hts (.fieldLink RX0 92 "ChunkCarriers$Desk" "places" "[I") (List.mem_cons_of_mem _ w_393)
  have inX0_ : ∀ w ∈ wsX00, w ∈ wX0_keepContainer := fun w h => List.mem_cons_of_mem _ (inlX0 w h)
  have inX1_ : ∀ w ∈ wsX10, w ∈ wX0_keepContainer := fun w h => List.mem_cons_of_mem _ (inlX1 w h)
  have hP : va_P D vwCl ((wcrF t h0 a0 (cr_thin d0) (cr_goesTo d0) (cr_waiting d0) (cr_waitingCodes d0) (cr_waitingCount d0)) ++ (wdkF t h1 a1 (dk_settings d1) (dk_numbers d1) (dk_capacities d1) (dk_firsts d1) (dk_containers d1) (dk_codes d1) (dk_places d1) (dk_uses d1) (dk_entries d1) (dk_references d1) (dk_lengths d1) (dk_nextNumber d1) (dk_carried d1))) s.heap := hP
  have hD : va_D A ((wcrF t h0 a0 (cr_thin d0) (cr_goesTo d0) (cr_waiting d0) (cr_waitingCodes d0) (cr_waitingCount d0)) ++ (wdkF t h1 a1 (dk_settings d1) (dk_numbers d1) (dk_capacities d1) (dk_firsts d1) (dk_containers d1) (dk_codes d1) (dk_places d1) (dk_uses d1) (dk_entries d1) (dk_references d1) (dk_lengths d1) (dk_nextNumber d1) (dk_carried d1))) := hD
  refine lv_aload_n hx hb (kd tdlX0_keepContainer_0 0 rfl) rfl (lv_at hl 1 rfl) ?_
  refine va_get (D := D) (ci := 1) (v := .int (dk_containers d1)) (C := RX1) (T := TX1) (N := 13) hx hb hts inX1_ hown hK hP 5 rfl rfl 4 (by decide) L25 (fun _ h9 => h9) rfl (kd tdlX0_keepContainer_0 1 rfl) ?_
  refine lv_istore (lv' := [(5, .int (dk_containers d1)), (0, .ref h0), (1, .ref h1), (2, .int p2), (3, .int p3), (4, .int p4)]) hx hb (kd tdlX0_keepContainer_0 2 rfl) hl (by decide) rfl (fun ls hl => ?_)
  refine lv_aload_n hx hb (kd tdlX0_keepContainer_0 3 rfl) rfl (lv_at hl 2 rfl) ?_
  refine va_get (D := D) (ci := 1) (v := .ref (a1 1)) (C := RX1) (T := TX1) (N := 13) hx hb hts inX1_ hown hK hP 5 rfl rfl 1 (by decide) L83 (fun _ h9 => h9) rfl (kd tdlX0_keepContainer_0 4 rfl) ?_
  refine lv_iload hx hb (kd tdlX0_keepContainer_0 5 rfl) (lv_at hl 0 rfl) ?_
  refine lv_aload_n hx hb (kd tdlX0_keepContainer_0 6 rfl) rfl (lv_at hl 2 rfl) ?_
  refine va_get (D := D) (ci := 1) (v := .ref (a1 1)) (C := RX1) (T := TX1) (N := 13) hx hb hts inX1_ hown hK hP 5 rfl rfl 1 (by decide) L83 (fun _ h9 => h9) rfl (kd tdlX0_keepContainer_0 7 rfl) ?_
  refine lv_iload_n hx hb (kd tdlX0_keepContainer_0 8 rfl) rfl (lv_at hl 3 rfl) ?_
  obtain ⟨hi17, hF⟩ := kg hF
  refine va_iald (D := D) (tys := TY t) hx hb hK hP 7 0 rfl rfl hi17 (kd tdlX0_keepContainer_0 9 rfl) ?_
  obtain ⟨hi18, hF⟩ := kg hF
  refine va_iast (D := D) (tys := TY t) hx hb hK hP hD hS 7 0 rfl rfl hi18 (kd tdlX0_keepContainer_0 10 rfl) (fun H locs hP hD hS => ?_)
  have hP : va_P D vwCl ((wcrF t h0 a0 (cr_thin d0) (cr_goesTo d0) (cr_waiting d0) (cr_waitingCodes d0) (cr_waitingCount d0)) ++ (wdkF t h1 a1 (dk_settings d1) (upd (dk_numbers d1) (Int32.toNatClampNeg (dk_containers d1)) ((dk_numbers d1) (Int32.toNatClampNeg p2))) (dk_capacities d1) (dk_firsts d1) (dk_containers d1) (dk_codes d1) (dk_places d1) (dk_uses d1) (dk_entries d1) (dk_references d1) (dk_lengths d1) (dk_nextNumber d1) (dk_carried d1))) H := hP
  have hD : va_D A ((wcrF t h0 a0 (cr_thin d0) (cr_goesTo d0) (cr_waiting d0) (cr_waitingCodes d0) (cr_waitingCount d0)) ++ (wdkF t h1 a1 (dk_settings d1) (upd (dk_numbers d1) (Int32.toNatClampNeg (dk_containers d1)) ((dk_numbers d1) (Int32.toNatClampNeg p2))) (dk_capacities d1) (dk_firsts d1) (dk_containers d1) (dk_codes d1) (dk_places d1) (dk_uses d1) (dk_entries d1) (dk_references d1) (dk_lengths d1) (dk_nextNumber d1) (dk_carried d1))) := hD
  refine lv_aload_n hx hb (kd tdlX0_keepContainer_0 11 rfl) rfl (lv_at hl 2 rfl) ?_
  refine va_get (D := D) (ci := 1) (v := .ref (a1 2)) (C := RX1) (T := TX1) (N := 13) hx hb hts inX1_ hown hK hP 5 rfl rfl 2 (by decide) L86 (fun _ h9 => h9) rfl (kd tdlX0_keepContainer_0 12 rfl) ?_
  refine lv_iload hx hb (kd tdlX0_keepContainer_0 13 rfl) (lv_at hl 0 rfl) ?_
  refine lv_aload_n hx hb (kd tdlX0_keepContainer_0 14 rfl) rfl (lv_at hl 2 rfl) ?_
  refine va_get (D := D) (ci := 1) (v := .ref (a1 2)) (C := RX1) (T := TX1) (N := 13) hx hb hts inX1_ hown hK hP 5 rfl rfl 2 (by decide) L86 (fun _ h9 => h9) rfl (kd tdlX0_keepContainer_0 15 rfl) ?_
  refine lv_iload_n hx hb (kd tdlX0_keepContainer_0 16 rfl) rfl (lv_at hl 3 rfl) ?_
  obtain ⟨hi30, hF⟩ := kg hF
  refine va_iald (D := D) (tys := TY t) hx hb hK hP 8 0 rfl rfl hi30 (kd tdlX0_keepContainer_0 17 rfl) ?_
  obtain ⟨hi31, hF⟩ := kg hF
  refine va_iast (D := D) (tys := TY t) hx hb hK hP hD hS 8 0 rfl rfl hi31 (kd tdlX0_keepContainer_0 18 rfl) (fun H locs hP hD hS => ?_)
  have hP : va_P D vwCl ((wcrF t h0 a0 (cr_thin d0) (cr_goesTo d0) (cr_waiting d0) (cr_waitingCodes d0) (cr_waitingCount d0)) ++ (wdkF t h1 a1 (dk_settings d1) (upd (dk_numbers d1) (Int32.toNatClampNeg (dk_containers d1)) ((dk_numbers d1) (Int32.toNatClampNeg p2))) (upd (dk_capacities d1) (Int32.toNatClampNeg (dk_containers d1)) ((dk_capacities d1) (Int32.toNatClampNeg p2))) (dk_firsts d1) (dk_containers d1) (dk_codes d1) (dk_places d1) (dk_uses d1) (dk_entries d1) (dk_references d1) (dk_lengths d1) (dk_nextNumber d1) (dk_carried d1))) H := hP
  have hD : va_D A ((wcrF t h0 a0 (cr_thin d0) (cr_goesTo d0) (cr_waiting d0) (cr_waitingCodes d0) (cr_waitingCount d0)) ++ (wdkF t h1 a1 (dk_settings d1) (upd (dk_numbers d1) (Int32.toNatClampNeg (dk_containers d1)) ((dk_numbers d1) (Int32.toNatClampNeg p2))) (upd (dk_capacities d1) (Int32.toNatClampNeg (dk_containers d1)) ((dk_capacities d1) (Int32.toNatClampNeg p2))) (dk_firsts d1) (dk_containers d1) (dk_codes d1) (dk_places d1) (dk_uses d1) (dk_entries d1) (dk_references d1) (dk_lengths d1) (dk_nextNumber d1) (dk_carried d1))) := hD
  refine lv_aload_n hx hb (kd tdlX0_keepContainer_0 19 rfl) rfl (lv_at hl 2 rfl) ?_
  refine va_get (D := D) (ci := 1) (v := .ref (a1 3)) (C := RX1) (T := TX1) (N := 13) hx hb hts inX1_ hown hK hP 5 rfl rfl 3 (by decide) L76 (fun _ h9 => h9) rfl (kd tdlX0_keepContainer_0 20 rfl) ?_
  refine lv_iload hx hb (kd tdlX0_keepContainer_0 21 rfl) (lv_at hl 0 rfl) ?_
  refine lv_aload_n hx hb (kd tdlX0_keepContainer_0 22 rfl) rfl (lv_at hl 2 rfl) ?_
  refine va_get (D := D) (ci := 1) (v := .int (dk_entries d1)) (C := RX1) (T := TX1) (N := 13) hx hb hts inX1_ hown hK hP 5 rfl rfl 8 (by decide) L73 (fun _ h9 => h9) rfl (kd tdlX0_keepContainer_0 23 rfl) ?_
  obtain ⟨hi42, hF⟩ := kg hF
  refine va_iast (D := D) (tys := TY t) hx hb hK hP hD hS 9 0 rfl rfl hi42 (kd tdlX0_keepContainer_0 24 rfl) (fun H locs hP hD hS => ?_)
  have hP : va_P D vwCl ((wcrF t h0 a0 (cr_thin d0) (cr_goesTo d0) (cr_waiting d0) (cr_waitingCodes d0) (cr_waitingCount d0)) ++ (wdkF t h1 a1 (dk_settings d1) (upd (dk_numbers d1) (Int32.toNatClampNeg (dk_containers d1)) ((dk_numbers d1) (Int32.toNatClampNeg p2))) (upd (dk_capacities d1) (Int32.toNatClampNeg (dk_containers d1)) ((dk_capacities d1) (Int32.toNatClampNeg p2))) (upd (dk_firsts d1) (Int32.toNatClampNeg (dk_containers d1)) (dk_entries d1)) (dk_containers d1) (dk_codes d1) (dk_places d1) (dk_uses d1) (dk_entries d1) (dk_references d1) (dk_lengths d1) (dk_nextNumber d1) (dk_carried d1))) H := hP
  have hD : va_D A ((wcrF t h0 a0 (cr_thin d0) (cr_goesTo d0) (cr_waiting d0) (cr_waitingCodes d0) (cr_waitingCount d0)) ++ (wdkF t h1 a1 (dk_settings d1) (upd (dk_numbers d1) (Int32.toNatClampNeg (dk_containers d1)) ((dk_numbers d1) (Int32.toNatClampNeg p2))) (upd (dk_capacities d1) (Int32.toNatClampNeg (dk_containers d1)) ((dk_capacities d1) (Int32.toNatClampNeg p2))) (upd (dk_firsts d1) (Int32.toNatClampNeg (dk_containers d1)) (dk_entries d1)) (dk_containers d1) (dk_codes d1) (dk_places d1) (dk_uses d1) (dk_entries d1) (dk_references d1) (dk_lengths d1) (dk_nextNumber d1) (dk_carried d1))) := hD
  refine lv_aload_n hx hb (kd tdlX0_keepContainer_0 25 rfl) rfl (lv_at hl 2 rfl) ?_
  refine lv_dup hx hb (kd tdlX0_keepContainer_0 26 rfl) rfl ?_
  refine va_get (D := D) (ci := 1) (v := .int (dk_containers d1)) (C := RX1) (T := TX1) (N := 13) hx hb hts inX1_ hown hK hP 5 rfl rfl 4 (by decide) L25 (fun _ h9 => h9) rfl (kd tdlX0_keepContainer_0 27 rfl) ?_
  refine lv_iconst (v := 1) hx hb (kd tdlX0_keepContainer_0 28 rfl) (by decide) ?_
  refine lv_iadd hx hb (kd tdlX0_keepContainer_0 29 rfl) ?_
  refine va_put (D := D) (ci := 1) (v := .int ((dk_containers d1) + 1)) (ty := .int) (C := RX1) (T := TX1) (N := 13) hx hb hts inX1_ tyX1 tyX1_ok nmX1 hown hK hP hD hS 5 rfl rfl 4 (by decide) L25 (fun _ h9 => h9) rfl (by decide +kernel) rfl rfl (Nat.le_of_ble_eq_true rfl) (kd tdlX0_keepContainer_0 30 rfl) (fun H locs hP hD hS => ?_)
  have hP : va_P D vwCl ((wcrF t h0 a0 (cr_thin d0) (cr_goesTo d0) (cr_waiting d0) (cr_waitingCodes d0) (cr_waitingCount d0)) ++ (wdkF t h1 a1 (dk_settings d1) (upd (dk_numbers d1) (Int32.toNatClampNeg (dk_containers d1)) ((dk_numbers d1) (Int32.toNatClampNeg p2))) (upd (dk_capacities d1) (Int32.toNatClampNeg (dk_containers d1)) ((dk_capacities d1) (Int32.toNatClampNeg p2))) (upd (dk_firsts d1) (Int32.toNatClampNeg (dk_containers d1)) (dk_entries d1)) ((dk_containers d1) + 1) (dk_codes d1) (dk_places d1) (dk_uses d1) (dk_entries d1) (dk_references d1) (dk_lengths d1) (dk_nextNumber d1) (dk_carried d1))) H := hP
  have hD : va_D A ((wcrF t h0 a0 (cr_thin d0) (cr_goesTo d0) (cr_waiting d0) (cr_waitingCodes d0) (cr_waitingCount d0)) ++ (wdkF t h1 a1 (dk_settings d1) (upd (dk_numbers d1) (Int32.toNatClampNeg (dk_containers d1)) ((dk_numbers d1) (Int32.toNatClampNeg p2))) (upd (dk_capacities d1) (Int32.toNatClampNeg (dk_containers d1)) ((dk_capacities d1) (Int32.toNatClampNeg p2))) (upd (dk_firsts d1) (Int32.toNatClampNeg (dk_containers d1)) (dk_entries d1)) ((dk_containers d1) + 1) (dk_codes d1) (dk_places d1) (dk_uses d1) (dk_entries d1) (dk_references d1) (dk_lengths d1) (dk_nextNumber d1) (dk_carried d1))) := hD
  refine lv_iload_n hx hb (kd tdlX0_keepContainer_0 31 rfl) rfl (lv_at hl 4 rfl) ?_
  refine lv_istore (lv' := [(6, .int p3), (5, .int (dk_containers d1)), (0, .ref h0), (1, .ref h1), (2, .int p2), (3, .int p3), (4, .int p4)]) hx hb (kd tdlX0_keepContainer_0 32 rfl) hl (by decide) rfl (fun ls hl => ?_)
  refine lp_ind (f := B_X0_keepContainer_56 p4 d0 d1 p2) (r := r) (P := fun s56_ => ∀ (H : Heap) (locs : List Loc) (ls : Array Slot), va_P D vwCl ((wcrF t h0 a0 (cr_thin d0) s56_.2.1 (cr_waiting d0) (cr_waitingCodes d0) (cr_waitingCount d0)) ++ (wdkF t h1 a1 (dk_settings d1) (upd (dk_numbers d1) (Int32.toNatClampNeg (dk_containers d1)) ((dk_numbers d1) (Int32.toNatClampNeg p2))) (upd (dk_capacities d1) (Int32.toNatClampNeg (dk_containers d1)) ((dk_capacities d1) (Int32.toNatClampNeg p2))) (upd (dk_firsts d1) (Int32.toNatClampNeg (dk_containers d1)) (dk_entries d1)) ((dk_containers d1) + 1) s56_.2.2.1 s56_.2.2.2.1 (dk_uses d1) s56_.2.2.2.2 (dk_references d1) (dk_lengths d1) (dk_nextNumber d1) (dk_carried d1))) H → va_D A ((wcrF t h0 a0 (cr_thin d0) s56_.2.1 (cr_waiting d0) (cr_waitingCodes d0) (cr_waitingCount d0)) ++ (wdkF t h1 a1 (dk_settings d1) (upd (dk_numbers d1) (Int32.toNatClampNeg (dk_containers d1)) ((dk_numbers d1) (Int32.toNatClampNeg p2))) (upd (dk_capacities d1) (Int32.toNatClampNeg (dk_containers d1)) ((dk_capacities d1) (Int32.toNatClampNeg p2))) (upd (dk_firsts d1) (Int32.toNatClampNeg (dk_containers d1)) (dk_entries d1)) ((dk_containers d1) + 1) s56_.2.2.1 s56_.2.2.2.1 (dk_uses d1) s56_.2.2.2.2 (dk_references d1) (dk_lengths d1) (dk_nextNumber d1) (dk_carried d1))) → va_S A s.heap H locs → lv_has ls 7 [(0, .ref h0), (1, .ref h1), (4, .int p4), (5, .int (dk_containers d1)), (6, .int s56_.1)] → W p l e ({ frames := 0, cells := 0, slots := 0, locals := 0 } : Room) s m args below meth c H locs 0 0 (MQ below (kQv D (TY t) ((wcr t h0 a0 r.1) ++ (wdk t h1 a1 r.2)) A) args s 0 0 A) (F0 m 56 ls [])) ?_ FU (p3, (cr_goesTo d0), (dk_codes d1), (dk_places d1), (dk_entries d1)) hF _ _ _ hP hD hS (lv_sub hl [2, 3, 6, 1, 0] rfl)
  intro self56 ih56 s56_ hF H locs ls hP hD hS hl
  refine lv_iload hx hb (kd tdlX0_keepContainer_0 33 rfl) (lv_at hl 4 rfl) ?_
  refine lv_iload hx hb (kd tdlX0_keepContainer_0 34 rfl) (lv_at hl 2 rfl) ?_
  refine lv_icmp_ge (tgt := 117) hx hb (kd tdlX0_keepContainer_0 35 rfl) (by decide) (fun hc60 => ?_) (fun hc60 => ?_)
  · have hF := kt hc60 hF
    cases ko hF
    exact ke_v hx hb hr hlocks hK hP hD hS (kd tdlX0_keepContainer_1 20 rfl)
  · have hF := kf hc60 hF
    refine lv_aload_n hx hb (kd tdlX0_keepContainer_0 36 rfl) rfl (lv_at hl 1 rfl) ?_
    refine va_get (D := D) (ci := 1) (v := .ref (a1 4)) (C := RX1) (T := TX1) (N := 13) hx hb hts inX1_ hown hK hP 5 rfl rfl 5 (by decide) L89 (fun _ h9 => h9) rfl (kd tdlX0_keepContainer_0 37 rfl) ?_
    refine lv_aload_n hx hb (kd tdlX0_keepContainer_0 38 rfl) rfl (lv_at hl 1 rfl) ?_
    refine va_get (D := D) (ci := 1) (v := .int s56_.2.2.2.2) (C := RX1) (T := TX1) (N := 13) hx hb hts inX1_ hown hK hP 5 rfl rfl 8 (by decide) L73 (fun _ h9 => h9) rfl (kd tdlX0_keepContainer_0 39 rfl) ?_
    refine lv_aload_n hx hb (kd tdlX0_keepContainer_0 40 rfl) rfl (lv_at hl 1 rfl) ?_
    refine va_get (D := D) (ci := 1) (v := .ref (a1 4)) (C := RX1) (T := TX1) (N := 13) hx hb hts inX1_ hown hK hP 5 rfl rfl 5 (by decide) L89 (fun _ h9 => h9) rfl (kd tdlX0_keepContainer_0 41 rfl) ?_
    refine lv_iload hx hb (kd tdlX0_keepContainer_0 42 rfl) (lv_at hl 4 rfl) ?_
    obtain ⟨hi77, hF⟩ := kg hF
    refine va_iald (D := D) (tys := TY t) hx hb hK hP 10 0 rfl rfl hi77 (kd tdlX0_keepContainer_0 43 rfl) ?_
    obtain ⟨hi78, hF⟩ := kg hF
    refine va_iast (D := D) (tys := TY t) hx hb hK hP hD hS 10 0 rfl rfl hi78 (kd tdlX0_keepContainer_0 44 rfl) (fun H locs hP hD hS => ?_)
    have hP : va_P D vwCl ((wcrF t h0 a0 (cr_thin d0) s56_.2.1 (cr_waiting d0) (cr_waitingCodes d0) (cr_waitingCount d0)) ++ (wdkF t h1 a1 (dk_settings d1) (upd (dk_numbers d1) (Int32.toNatClampNeg (dk_containers d1)) ((dk_numbers d1) (Int32.toNatClampNeg p2))) (upd (dk_capacities d1) (Int32.toNatClampNeg (dk_containers d1)) ((dk_capacities d1) (Int32.toNatClampNeg p2))) (upd (dk_firsts d1) (Int32.toNatClampNeg (dk_containers d1)) (dk_entries d1)) ((dk_containers d1) + 1) (upd s56_.2.2.1 (Int32.toNatClampNeg s56_.2.2.2.2) (s56_.2.2.1 (Int32.toNatClampNeg s56_.1))) s56_.2.2.2.1 (dk_uses d1) s56_.2.2.2.2 (dk_references d1) (dk_lengths d1) (dk_nextNumber d1) (dk_carried d1))) H := hP
    have hD : va_D A ((wcrF t h0 a0 (cr_thin d0) s56_.2.1 (cr_waiting d0) (cr_waitingCodes d0) (cr_waitingCount d0)) ++ (wdkF t h1 a1 (dk_settings d1) (upd (dk_numbers d1) (Int32.toNatClampNeg (dk_containers d1)) ((dk_numbers d1) (Int32.toNatClampNeg p2))) (upd (dk_capacities d1) (Int32.toNatClampNeg (dk_containers d1)) ((dk_capacities d1) (Int32.toNatClampNeg p2))) (upd (dk_firsts d1) (Int32.toNatClampNeg (dk_containers d1)) (dk_entries d1)) ((dk_containers d1) + 1) (upd s56_.2.2.1 (Int32.toNatClampNeg s56_.2.2.2.2) (s56_.2.2.1 (Int32.toNatClampNeg s56_.1))) s56_.2.2.2.1 (dk_uses d1) s56_.2.2.2.2 (dk_references d1) (dk_lengths d1) (dk_nextNumber d1) (dk_carried d1))) := hD
    refine lv_aload_n hx hb (kd tdlX0_keepContainer_1 0 rfl) rfl (lv_at hl 1 rfl) ?_
    refine va_get (D := D) (ci := 1) (v := .ref (a1 5)) (C := RX1) (T := TX1) (N := 13) hx hb hts inX1_ hown hK hP 5 rfl rfl 6 (by decide) L92 (fun _ h9 => h9) rfl (kd tdlX0_keepContainer_1 1 rfl) ?_
    refine lv_aload_n hx hb (kd tdlX0_keepContainer_1 2 rfl) rfl (lv_at hl 1 rfl) ?_
    refine va_get (D := D) (ci := 1) (v := .int s56_.2.2.2.2) (C := RX1) (T := TX1) (N := 13) hx hb hts inX1_ hown hK hP 5 rfl rfl 8 (by decide) L73 (fun _ h9 => h9) rfl (kd tdlX0_keepContainer_1 3 rfl) ?_
    refine lv_iload hx hb (kd tdlX0_keepContainer_1 4 rfl) (lv_at hl 3 rfl) ?_
    obtain ⟨hi89, hF⟩ := kg hF
    refine va_iast (D := D) (tys := TY t) hx hb hK hP hD hS 11 0 rfl rfl hi89 (kd tdlX0_keepContainer_1 5 rfl) (fun H locs hP hD hS => ?_)
    have hP : va_P D vwCl ((wcrF t h0 a0 (cr_thin d0) s56_.2.1 (cr_waiting d0) (cr_waitingCodes d0) (cr_waitingCount d0)) ++ (wdkF t h1 a1 (dk_settings d1) (upd (dk_numbers d1) (Int32.toNatClampNeg (dk_containers d1)) ((dk_numbers d1) (Int32.toNatClampNeg p2))) (upd (dk_capacities d1) (Int32.toNatClampNeg (dk_containers d1)) ((dk_capacities d1) (Int32.toNatClampNeg p2))) (upd (dk_firsts d1) (Int32.toNatClampNeg (dk_containers d1)) (dk_entries d1)) ((dk_containers d1) + 1) (upd s56_.2.2.1 (Int32.toNatClampNeg s56_.2.2.2.2) (s56_.2.2.1 (Int32.toNatClampNeg s56_.1))) (upd s56_.2.2.2.1 (Int32.toNatClampNeg s56_.2.2.2.2) (dk_containers d1)) (dk_uses d1) s56_.2.2.2.2 (dk_references d1) (dk_lengths d1) (dk_nextNumber d1) (dk_carried d1))) H := hP
    have hD : va_D A ((wcrF t h0 a0 (cr_thin d0) s56_.2.1 (cr_waiting d0) (cr_waitingCodes d0) (cr_waitingCount d0)) ++ (wdkF t h1 a1 (dk_settings d1) (upd (dk_numbers d1) (Int32.toNatClampNeg (dk_containers d1)) ((dk_numbers d1) (Int32.toNatClampNeg p2))) (upd (dk_capacities d1) (Int32.toNatClampNeg (dk_containers d1)) ((dk_capacities d1) (Int32.toNatClampNeg p2))) (upd (dk_firsts d1) (Int32.toNatClampNeg (dk_containers d1)) (dk_entries d1)) ((dk_containers d1) + 1) (upd s56_.2.2.1 (Int32.toNatClampNeg s56_.2.2.2.2) (s56_.2.2.1 (Int32.toNatClampNeg s56_.1))) (upd s56_.2.2.2.1 (Int32.toNatClampNeg s56_.2.2.2.2) (dk_containers d1)) (dk_uses d1) s56_.2.2.2.2 (dk_references d1) (dk_lengths d1) (dk_nextNumber d1) (dk_carried d1))) := hD
    refine lv_aload_n hx hb (kd tdlX0_keepContainer_1 6 rfl) rfl (lv_at hl 0 rfl) ?_
    refine va_get (D := D) (ci := 0) (v := .ref (a0 1)) (C := RX0) (T := TX0) (N := 5) hx hb hts inX0_ hown hK hP 0 rfl rfl 1 (by decide) L15 (fun _ h9 => h9) rfl (kd tdlX0_keepContainer_1 7 rfl) ?_
    refine lv_iload hx hb (kd tdlX0_keepContainer_1 8 rfl) (lv_at hl 4 rfl) ?_
    refine lv_aload_n hx hb (kd tdlX0_keepContainer_1 9 rfl) rfl (lv_at hl 1 rfl) ?_
    refine va_get (D := D) (ci := 1) (v := .int s56_.2.2.2.2) (C := RX1) (T := TX1) (N := 13) hx hb hts inX1_ hown hK hP 5 rfl rfl 8 (by decide) L73 (fun _ h9 => h9) rfl (kd tdlX0_keepContainer_1 10 rfl) ?_
    obtain ⟨hi100, hF⟩ := kg hF
    refine va_iast (D := D) (tys := TY t) hx hb hK hP hD hS 2 0 rfl rfl hi100 (kd tdlX0_keepContainer_1 11 rfl) (fun H locs hP hD hS => ?_)
    have hP : va_P D vwCl ((wcrF t h0 a0 (cr_thin d0) (upd s56_.2.1 (Int32.toNatClampNeg s56_.1) s56_.2.2.2.2) (cr_waiting d0) (cr_waitingCodes d0) (cr_waitingCount d0)) ++ (wdkF t h1 a1 (dk_settings d1) (upd (dk_numbers d1) (Int32.toNatClampNeg (dk_containers d1)) ((dk_numbers d1) (Int32.toNatClampNeg p2))) (upd (dk_capacities d1) (Int32.toNatClampNeg (dk_containers d1)) ((dk_capacities d1) (Int32.toNatClampNeg p2))) (upd (dk_firsts d1) (Int32.toNatClampNeg (dk_containers d1)) (dk_entries d1)) ((dk_containers d1) + 1) (upd s56_.2.2.1 (Int32.toNatClampNeg s56_.2.2.2.2) (s56_.2.2.1 (Int32.toNatClampNeg s56_.1))) (upd s56_.2.2.2.1 (Int32.toNatClampNeg s56_.2.2.2.2) (dk_containers d1)) (dk_uses d1) s56_.2.2.2.2 (dk_references d1) (dk_lengths d1) (dk_nextNumber d1) (dk_carried d1))) H := hP
    have hD : va_D A ((wcrF t h0 a0 (cr_thin d0) (upd s56_.2.1 (Int32.toNatClampNeg s56_.1) s56_.2.2.2.2) (cr_waiting d0) (cr_waitingCodes d0) (cr_waitingCount d0)) ++ (wdkF t h1 a1 (dk_settings d1) (upd (dk_numbers d1) (Int32.toNatClampNeg (dk_containers d1)) ((dk_numbers d1) (Int32.toNatClampNeg p2))) (upd (dk_capacities d1) (Int32.toNatClampNeg (dk_containers d1)) ((dk_capacities d1) (Int32.toNatClampNeg p2))) (upd (dk_firsts d1) (Int32.toNatClampNeg (dk_containers d1)) (dk_entries d1)) ((dk_containers d1) + 1) (upd s56_.2.2.1 (Int32.toNatClampNeg s56_.2.2.2.2) (s56_.2.2.1 (Int32.toNatClampNeg s56_.1))) (upd s56_.2.2.2.1 (Int32.toNatClampNeg s56_.2.2.2.2) (dk_containers d1)) (dk_uses d1) s56_.2.2.2.2 (dk_references d1) (dk_lengths d1) (dk_nextNumber d1) (dk_carried d1))) := hD
    refine lv_aload_n hx hb (kd tdlX0_keepContainer_1 12 rfl) rfl (lv_at hl 1 rfl) ?_
    refine lv_dup hx hb (kd tdlX0_keepContainer_1 13 rfl) rfl ?_
    refine va_get (D := D) (ci := 1) (v := .int s56_.2.2.2.2) (C := RX1) (T := TX1) (N := 13) hx hb hts inX1_ hown hK hP 5 rfl rfl 8 (by decide) L73 (fun _ h9 => h9) rfl (kd tdlX0_keepContainer_1 14 rfl) ?_
    refine lv_iconst (v := 1) hx hb (kd tdlX0_keepContainer_1 15 rfl) (by decide) ?_
    refine lv_iadd hx hb (kd tdlX0_keepContainer_1 16 rfl) ?_
    refine va_put (D := D) (ci := 1) (v := .int (s56_.2.2.2.2 + 1)) (ty := .int) (C := RX1) (T := TX1) (N := 13) hx hb hts inX1_ tyX1 tyX1_ok nmX1 hown hK hP hD hS 5 rfl rfl 8 (by decide) L73 (fun _ h9 => h9) rfl (by decide +kernel) rfl rfl (Nat.le_of_ble_eq_true rfl) (kd tdlX0_keepContainer_1 17 rfl) (fun H locs hP hD hS => ?_)
    have hP : va_P D vwCl ((wcrF t h0 a0 (cr_thin d0) (upd s56_.2.1 (Int32.toNatClampNeg s56_.1) s56_.2.2.2.2) (cr_waiting d0) (cr_waitingCodes d0) (cr_waitingCount d0)) ++ (wdkF t h1 a1 (dk_settings d1) (upd (dk_numbers d1) (Int32.toNatClampNeg (dk_containers d1)) ((dk_numbers d1) (Int32.toNatClampNeg p2))) (upd (dk_capacities d1) (Int32.toNatClampNeg (dk_containers d1)) ((dk_capacities d1) (Int32.toNatClampNeg p2))) (upd (dk_firsts d1) (Int32.toNatClampNeg (dk_containers d1)) (dk_entries d1)) ((dk_containers d1) + 1) (upd s56_.2.2.1 (Int32.toNatClampNeg s56_.2.2.2.2) (s56_.2.2.1 (Int32.toNatClampNeg s56_.1))) (upd s56_.2.2.2.1 (Int32.toNatClampNeg s56_.2.2.2.2) (dk_containers d1)) (dk_uses d1) (s56_.2.2.2.2 + 1) (dk_references d1) (dk_lengths d1) (dk_nextNumber d1) (dk_carried d1))) H := hP
    have hD : va_D A ((wcrF t h0 a0 (cr_thin d0) (upd s56_.2.1 (Int32.toNatClampNeg s56_.1) s56_.2.2.2.2) (cr_waiting d0) (cr_waitingCodes d0) (cr_waitingCount d0)) ++ (wdkF t h1 a1 (dk_settings d1) (upd (dk_numbers d1) (Int32.toNatClampNeg (dk_containers d1)) ((dk_numbers d1) (Int32.toNatClampNeg p2))) (upd (dk_capacities d1) (Int32.toNatClampNeg (dk_containers d1)) ((dk_capacities d1) (Int32.toNatClampNeg p2))) (upd (dk_firsts d1) (Int32.toNatClampNeg (dk_containers d1)) (dk_entries d1)) ((dk_containers d1) + 1) (upd s56_.2.2.1 (Int32.toNatClampNeg s56_.2.2.2.2) (s56_.2.2.1 (Int32.toNatClampNeg s56_.1))) (upd s56_.2.2.2.1 (Int32.toNatClampNeg s56_.2.2.2.2) (dk_containers d1)) (dk_uses d1) (s56_.2.2.2.2 + 1) (dk_references d1) (dk_lengths d1) (dk_nextNumber d1) (dk_carried d1))) := hD
    refine lv_iinc (v := (s56_.1 + 1)) (lv' := [(6, .int (s56_.1 + 1)), (0, .ref h0), (1, .ref h1), (4, .int p4), (5, .int (dk_containers d1))]) hx hb (kd tdlX0_keepContainer_1 18 rfl) hl (k := 4) rfl rfl (by decide) rfl (fun ls hl => ?_)
    refine lv_goto (tgt := 56) hx hb (kd tdlX0_keepContainer_1 19 rfl) (by decide) ?_
    exact ih56 ((s56_.1 + 1), (upd s56_.2.1 (Int32.toNatClampNeg s56_.1) s56_.2.2.2.2), (upd s56_.2.2.1 (Int32.toNatClampNeg s56_.2.2.2.2) (s56_.2.2.1 (Int32.toNatClampNeg s56_.1))), (upd s56_.2.2.2.1 (Int32.toNatClampNeg s56_.2.2.2.2) (dk_containers d1)), (s56_.2.2.2.2 + 1)) hF _ _ _ hP hD hS (lv_sub hl [1, 2, 3, 4, 0] rfl)
set_option maxHeartbeats 4000000 in
set_option maxRecDepth 100000 in
theorem c_X0_takeOutThin (l : Launch) (D : va_G) (t : Nat → ClassId) (h0 : Nat) (a0 : Nat → Nat) (d0 : CRT) (h1 : Nat) (a1 : Nat → Nat) (d1 : DKT) (sz : Nat)  (r : CRT × DKT) (hF : F_X0_takeOutThin d0 d1 = some r) : Met l yX0_takeOutThin wX0_takeOutThin ({ frames := 1, cells := 0, slots := 0, locals := 26 } : Room) (kPc D (TY t) ((wcr t h0 a0 d0) ++ (wdk t h1 a1 d1)) [.ref h0, .ref h1] sz) (kQv D (TY t) ((wcr t h0 a0 r.1) ++ (wdk t h1 a1 r.2)) (va_A ((wcr t h0 a0 d0) ++ (wdk t h1 a1 d1)) sz)) 0 0 (va_A ((wcr t h0 a0 d0) ++ (wdk t h1 a1 d1)) sz) := by
  refine kE (cc := cX0_takeOutThin) (maxL := 7) (ret := none) (Qx := fun A => kQv D (TY t) ((wcr t h0 a0 r.1) ++ (wdk t h1 a1 r.2)) A) (lv0 := [(0, .ref h0), (1, .ref h1)]) RX0 rfl (by decide) rfl (Nat.le_of_ble_eq_true rfl) rfl ?_
  intro p e s m args below meth c A ls hx hb hml hr hlocks hown hts hA hK hP hD hS hl
  have L25 := hts (.fieldLink RX0 25 "ChunkCarriers$Desk" "containers" "I") (List.mem_cons_of_mem _ w_365)
  have L73 := hts (.fieldLink RX0 73 "ChunkCarriers$Desk" "entries" "I") (List.mem_cons_of_mem _ w_384)
  have L76 := hts (.fieldLink RX0 76 "ChunkCarriers$Desk" "firsts" "[I") (List.mem_cons_of_mem _ w_385)
  have L9 := hts (.fieldLink RX0 9 "ChunkCarriers$Carrier" "thin" "[Z") (List.mem_cons_of_mem _ w_90)
  have inX0_ : ∀ w ∈ wsX00, w ∈ wX0_takeOutThin := fun w h => List.mem_cons_of_mem _ (inlX0 w h)
  have inX1_ : ∀ w ∈ wsX10, w ∈ wX0_takeOutThin := fun w h => List.mem_cons_of_mem _ (inlX1 w h)
  have hP : va_P D vwCl ((wcrF t h0 a0 (cr_thin d0) (cr_goesTo d0) (cr_waiting d0) (cr_waitingCodes d0) (cr_waitingCount d0)) ++ (wdkF t h1 a1 (dk_settings d1) (dk_numbers d1) (dk_capacities d1) (dk_firsts d1) (dk_containers d1) (dk_codes d1) (dk_places d1) (dk_uses d1) (dk_entries d1) (dk_references d1) (dk_lengths d1) (dk_nextNumber d1) (dk_carried d1))) s.heap := hP
  have hD : va_D A ((wcrF t h0 a0 (cr_thin d0) (cr_goesTo d0) (cr_waiting d0) (cr_waitingCodes d0) (cr_waitingCount d0)) ++ (wdkF t h1 a1 (dk_settings d1) (dk_numbers d1) (dk_capacities d1) (dk_firsts d1) (dk_containers d1) (dk_codes d1) (dk_places d1) (dk_uses d1) (dk_entries d1) (dk_references d1) (dk_lengths d1) (dk_nextNumber d1) (dk_carried d1))) := hD
  refine lv_aload_n hx hb (kd tdlX0_takeOutThin_0 0 rfl) rfl (lv_at hl 1 rfl) ?_
  refine va_get (D := D) (ci := 1) (v := .int (dk_containers d1)) (C := RX1) (T := TX1) (N := 13) hx hb hts inX1_ hown hK hP 5 rfl rfl 4 (by decide) L25 (fun _ h9 => h9) rfl (kd tdlX0_takeOutThin_0 1 rfl) ?_
  refine lv_istore_n (lv' := [(2, .int (dk_containers d1)), (0, .ref h0), (1, .ref h1)]) hx hb (kd tdlX0_takeOutThin_0 2 rfl) rfl hl (by decide) rfl (fun ls hl => ?_)
  refine lv_aload_n hx hb (kd tdlX0_takeOutThin_0 3 rfl) rfl (lv_at hl 2 rfl) ?_
  refine va_get (D := D) (ci := 1) (v := .int (dk_entries d1)) (C := RX1) (T := TX1) (N := 13) hx hb hts inX1_ hown hK hP 5 rfl rfl 8 (by decide) L73 (fun _ h9 => h9) rfl (kd tdlX0_takeOutThin_0 4 rfl) ?_
  refine lv_istore_n (lv' := [(3, .int (dk_entries d1)), (2, .int (dk_containers d1)), (0, .ref h0), (1, .ref h1)]) hx hb (kd tdlX0_takeOutThin_0 5 rfl) rfl hl (by decide) rfl (fun ls hl => ?_)
  refine lv_iconst (v := 0) hx hb (kd tdlX0_takeOutThin_0 6 rfl) (by decide) ?_
  refine lv_istore (lv' := [(4, .int 0), (3, .int (dk_entries d1)), (2, .int (dk_containers d1)), (0, .ref h0), (1, .ref h1)]) hx hb (kd tdlX0_takeOutThin_0 7 rfl) hl (by decide) rfl (fun ls hl => ?_)
  refine lv_aload_n hx hb (kd tdlX0_takeOutThin_0 8 rfl) rfl (lv_at hl 4 rfl) ?_
  refine lv_iconst (v := 0) hx hb (kd tdlX0_takeOutThin_0 9 rfl) (by decide) ?_
  refine va_put (D := D) (ci := 1) (v := .int 0) (ty := .int) (C := RX1) (T := TX1) (N := 13) hx hb hts inX1_ tyX1 tyX1_ok nmX1 hown hK hP hD hS 5 rfl rfl 4 (by decide) L25 (fun _ h9 => h9) rfl (by decide +kernel) rfl rfl (Nat.le_of_ble_eq_true rfl) (kd tdlX0_takeOutThin_0 10 rfl) (fun H locs hP hD hS => ?_)
  have hP : va_P D vwCl ((wcrF t h0 a0 (cr_thin d0) (cr_goesTo d0) (cr_waiting d0) (cr_waitingCodes d0) (cr_waitingCount d0)) ++ (wdkF t h1 a1 (dk_settings d1) (dk_numbers d1) (dk_capacities d1) (dk_firsts d1) 0 (dk_codes d1) (dk_places d1) (dk_uses d1) (dk_entries d1) (dk_references d1) (dk_lengths d1) (dk_nextNumber d1) (dk_carried d1))) H := hP
  have hD : va_D A ((wcrF t h0 a0 (cr_thin d0) (cr_goesTo d0) (cr_waiting d0) (cr_waitingCodes d0) (cr_waitingCount d0)) ++ (wdkF t h1 a1 (dk_settings d1) (dk_numbers d1) (dk_capacities d1) (dk_firsts d1) 0 (dk_codes d1) (dk_places d1) (dk_uses d1) (dk_entries d1) (dk_references d1) (dk_lengths d1) (dk_nextNumber d1) (dk_carried d1))) := hD
  refine lv_aload_n hx hb (kd tdlX0_takeOutThin_0 11 rfl) rfl (lv_at hl 4 rfl) ?_
  refine lv_iconst (v := 0) hx hb (kd tdlX0_takeOutThin_0 12 rfl) (by decide) ?_
  refine va_put (D := D) (ci := 1) (v := .int 0) (ty := .int) (C := RX1) (T := TX1) (N := 13) hx hb hts inX1_ tyX1 tyX1_ok nmX1 hown hK hP hD hS 5 rfl rfl 8 (by decide) L73 (fun _ h9 => h9) rfl (by decide +kernel) rfl rfl (Nat.le_of_ble_eq_true rfl) (kd tdlX0_takeOutThin_0 13 rfl) (fun H locs hP hD hS => ?_)
  have hP : va_P D vwCl ((wcrF t h0 a0 (cr_thin d0) (cr_goesTo d0) (cr_waiting d0) (cr_waitingCodes d0) (cr_waitingCount d0)) ++ (wdkF t h1 a1 (dk_settings d1) (dk_numbers d1) (dk_capacities d1) (dk_firsts d1) 0 (dk_codes d1) (dk_places d1) (dk_uses d1) 0 (dk_references d1) (dk_lengths d1) (dk_nextNumber d1) (dk_carried d1))) H := hP
  have hD : va_D A ((wcrF t h0 a0 (cr_thin d0) (cr_goesTo d0) (cr_waiting d0) (cr_waitingCodes d0) (cr_waitingCount d0)) ++ (wdkF t h1 a1 (dk_settings d1) (dk_numbers d1) (dk_capacities d1) (dk_firsts d1) 0 (dk_codes d1) (dk_places d1) (dk_uses d1) 0 (dk_references d1) (dk_lengths d1) (dk_nextNumber d1) (dk_carried d1))) := hD
  refine lv_iconst (v := 0) hx hb (kd tdlX0_takeOutThin_0 14 rfl) (by decide) ?_
  refine lv_istore (lv' := [(5, .int 0), (4, .int 0), (3, .int (dk_entries d1)), (2, .int (dk_containers d1)), (0, .ref h0), (1, .ref h1)]) hx hb (kd tdlX0_takeOutThin_0 15 rfl) hl (by decide) rfl (fun ls hl => ?_)
  refine lp_ind (f := B_X0_takeOutThin_26 d1) (r := r) (P := fun s26_ => ∀ (H : Heap) (locs : List Loc) (ls : Array Slot), va_P D vwCl ((wcrF t h0 a0 (cr_thin s26_.2.2.1) (cr_goesTo s26_.2.2.1) (cr_waiting s26_.2.2.1) (cr_waitingCodes s26_.2.2.1) (cr_waitingCount s26_.2.2.1)) ++ (wdkF t h1 a1 (dk_settings s26_.2.2.2) (dk_numbers s26_.2.2.2) (dk_capacities s26_.2.2.2) (dk_firsts s26_.2.2.2) (dk_containers s26_.2.2.2) (dk_codes s26_.2.2.2) (dk_places s26_.2.2.2) (dk_uses s26_.2.2.2) (dk_entries s26_.2.2.2) (dk_references s26_.2.2.2) (dk_lengths s26_.2.2.2) (dk_nextNumber s26_.2.2.2) (dk_carried s26_.2.2.2))) H → va_D A ((wcrF t h0 a0 (cr_thin s26_.2.2.1) (cr_goesTo s26_.2.2.1) (cr_waiting s26_.2.2.1) (cr_waitingCodes s26_.2.2.1) (cr_waitingCount s26_.2.2.1)) ++ (wdkF t h1 a1 (dk_settings s26_.2.2.2) (dk_numbers s26_.2.2.2) (dk_capacities s26_.2.2.2) (dk_firsts s26_.2.2.2) (dk_containers s26_.2.2.2) (dk_codes s26_.2.2.2) (dk_places s26_.2.2.2) (dk_uses s26_.2.2.2) (dk_entries s26_.2.2.2) (dk_references s26_.2.2.2) (dk_lengths s26_.2.2.2) (dk_nextNumber s26_.2.2.2) (dk_carried s26_.2.2.2))) → va_S A s.heap H locs → lv_has ls 7 [(0, .ref h0), (1, .ref h1), (2, .int (dk_containers d1)), (3, .int (dk_entries d1)), (4, .int s26_.1), (5, .int s26_.2.1)] → W p l e ({ frames := 1, cells := 0, slots := 0, locals := 26 } : Room) s m args below meth c H locs 0 0 (MQ below (kQv D (TY t) ((wcr t h0 a0 r.1) ++ (wdk t h1 a1 r.2)) A) args s 0 0 A) (F0 m 26 ls [])) ?_ FU (0, 0, d0, ((dk_settings d1), (dk_numbers d1), (dk_capacities d1), (dk_firsts d1), 0, (dk_codes d1), (dk_places d1), (dk_uses d1), 0, (dk_references d1), (dk_lengths d1), (dk_nextNumber d1), (dk_carried d1))) hF _ _ _ hP hD hS (lv_sub hl [4, 5, 3, 2, 1, 0] rfl)
  intro self26 ih26 s26_ hF H locs ls hP hD hS hl
  refine lv_iload hx hb (kd tdlX0_takeOutThin_0 16 rfl) (lv_at hl 5 rfl) ?_
  refine lv_iload_n hx hb (kd tdlX0_takeOutThin_0 17 rfl) rfl (lv_at hl 2 rfl) ?_
  refine lv_icmp_ge (tgt := 86) hx hb (kd tdlX0_takeOutThin_0 18 rfl) (by decide) (fun hc29 => ?_) (fun hc29 => ?_)
  · have hF := kt hc29 hF
    cases ko hF
    exact ke_v hx hb hr hlocks hK hP hD hS (kd tdlX0_takeOutThin_1 3 rfl)
  · have hF := kf hc29 hF
    refine lv_iload hx hb (kd tdlX0_takeOutThin_0 19 rfl) (lv_at hl 5 rfl) ?_
    refine lv_iconst (v := 1) hx hb (kd tdlX0_takeOutThin_0 20 rfl) (by decide) ?_
    refine lv_iadd hx hb (kd tdlX0_takeOutThin_0 21 rfl) ?_
    refine lv_iload_n hx hb (kd tdlX0_takeOutThin_0 22 rfl) rfl (lv_at hl 2 rfl) ?_
    have hJ53 : ∀ j53 : Int32, J_X0_takeOutThin_53 s26_ self26 j53 = some r → ∀ (H : Heap) (locs : List Loc) (ls : Array Slot), va_P D vwCl ((wcrF t h0 a0 (cr_thin s26_.2.2.1) (cr_goesTo s26_.2.2.1) (cr_waiting s26_.2.2.1) (cr_waitingCodes s26_.2.2.1) (cr_waitingCount s26_.2.2.1)) ++ (wdkF t h1 a1 (dk_settings s26_.2.2.2) (dk_numbers s26_.2.2.2) (dk_capacities s26_.2.2.2) (dk_firsts s26_.2.2.2) (dk_containers s26_.2.2.2) (dk_codes s26_.2.2.2) (dk_places s26_.2.2.2) (dk_uses s26_.2.2.2) (dk_entries s26_.2.2.2) (dk_references s26_.2.2.2) (dk_lengths s26_.2.2.2) (dk_nextNumber s26_.2.2.2) (dk_carried s26_.2.2.2))) H → va_D A ((wcrF t h0 a0 (cr_thin s26_.2.2.1) (cr_goesTo s26_.2.2.1) (cr_waiting s26_.2.2.1) (cr_waitingCodes s26_.2.2.1) (cr_waitingCount s26_.2.2.1)) ++ (wdkF t h1 a1 (dk_settings s26_.2.2.2) (dk_numbers s26_.2.2.2) (dk_capacities s26_.2.2.2) (dk_firsts s26_.2.2.2) (dk_containers s26_.2.2.2) (dk_codes s26_.2.2.2) (dk_places s26_.2.2.2) (dk_uses s26_.2.2.2) (dk_entries s26_.2.2.2) (dk_references s26_.2.2.2) (dk_lengths s26_.2.2.2) (dk_nextNumber s26_.2.2.2) (dk_carried s26_.2.2.2))) → va_S A s.heap H locs → lv_has ls 7 [(0, .ref h0), (1, .ref h1), (2, .int (dk_containers d1)), (3, .int (dk_entries d1)), (4, .int s26_.1), (5, .int s26_.2.1)] → W p l e ({ frames := 1, cells := 0, slots := 0, locals := 26 } : Room) s m args below meth c H locs 0 0 (MQ below (kQv D (TY t) ((wcr t h0 a0 r.1) ++ (wdk t h1 a1 r.2)) A) args s 0 0 A) (F0 m 53 ls [.int j53]) := by
      intro j53 hF H locs ls hP hD hS hl
      refine lv_istore (lv' := [(6, .int j53), (0, .ref h0), (1, .ref h1), (2, .int (dk_containers d1)), (3, .int (dk_entries d1)), (4, .int s26_.1), (5, .int s26_.2.1)]) hx hb (kd tdlX0_takeOutThin_0 32 rfl) hl (by decide) rfl (fun ls hl => ?_)
      refine lv_aload_n hx hb (kd tdlX0_takeOutThin_0 33 rfl) rfl (lv_at hl 1 rfl) ?_
      refine va_get (D := D) (ci := 0) (v := .ref (a0 0)) (C := RX0) (T := TX0) (N := 5) hx hb hts inX0_ hown hK hP 0 rfl rfl 0 (by decide) L9 (fun _ h9 => h9) rfl (kd tdlX0_takeOutThin_0 34 rfl) ?_
      refine lv_iload hx hb (kd tdlX0_takeOutThin_0 35 rfl) (lv_at hl 6 rfl) ?_
      obtain ⟨hi61, hF⟩ := kg hF
      refine va_zald (D := D) (tys := TY t) hx hb hK hP 1 2 rfl rfl hi61 (kd tdlX0_takeOutThin_0 36 rfl) ?_
      refine lv_if_ne (tgt := 76) hx hb (kd tdlX0_takeOutThin_0 37 rfl) (by decide) (fun hc62 => ?_) (fun hc62 => ?_)
      · have hF := kf hc62 hF
        refine lv_iload hx hb (kd tdlX0_takeOutThin_0 44 rfl) (lv_at hl 0 rfl) ?_
        refine lv_istore (lv' := [(4, .int j53), (6, .int j53), (0, .ref h0), (1, .ref h1), (2, .int (dk_containers d1)), (3, .int (dk_entries d1)), (5, .int s26_.2.1)]) hx hb (kd tdlX0_takeOutThin_1 0 rfl) hl (by decide) rfl (fun ls hl => ?_)
        refine lv_iinc (v := (s26_.2.1 + 1)) (lv' := [(5, .int (s26_.2.1 + 1)), (4, .int j53), (6, .int j53), (0, .ref h0), (1, .ref h1), (2, .int (dk_containers d1)), (3, .int (dk_entries d1))]) hx hb (kd tdlX0_takeOutThin_1 1 rfl) hl (k := 6) rfl rfl (by decide) rfl (fun ls hl => ?_)
        refine lv_goto (tgt := 26) hx hb (kd tdlX0_takeOutThin_1 2 rfl) (by decide) ?_
        exact ih26 (j53, (s26_.2.1 + 1), s26_.2.2.1, s26_.2.2.2) hF _ _ _ hP hD hS (lv_sub hl [3, 4, 5, 6, 1, 0] rfl)
      · have hF := kt hc62 hF
        refine lv_aload_n hx hb (kd tdlX0_takeOutThin_0 38 rfl) rfl (lv_at hl 1 rfl) ?_
        refine lv_aload_n hx hb (kd tdlX0_takeOutThin_0 39 rfl) rfl (lv_at hl 2 rfl) ?_
        refine lv_iload hx hb (kd tdlX0_takeOutThin_0 40 rfl) (lv_at hl 6 rfl) ?_
        refine lv_iload hx hb (kd tdlX0_takeOutThin_0 41 rfl) (lv_at hl 5 rfl) ?_
        refine lv_iload hx hb (kd tdlX0_takeOutThin_0 42 rfl) (lv_at hl 0 rfl) ?_
        obtain ⟨v73, e73, hF⟩ := kc hF
        refine kc_v0 (w1 := ((wcrF t h0 a0 (cr_thin v73.1) (cr_goesTo v73.1) (cr_waiting v73.1) (cr_waitingCodes v73.1) (cr_waitingCount v73.1)) ++ (wdkF t h1 a1 (dk_settings v73.2) (dk_numbers v73.2) (dk_capacities v73.2) (dk_firsts v73.2) (dk_containers v73.2) (dk_codes v73.2) (dk_places v73.2) (dk_uses v73.2) (dk_entries v73.2) (dk_references v73.2) (dk_lengths v73.2) (dk_nextNumber v73.2) (dk_carried v73.2)))) hP hD hS hA (kr_V0 (Qx := (fun A => kQv D (TY t) ((wcrF t h0 a0 (cr_thin v73.1) (cr_goesTo v73.1) (cr_waiting v73.1) (cr_waitingCodes v73.1) (cr_waitingCount v73.1)) ++ (wdkF t h1 a1 (dk_settings v73.2) (dk_numbers v73.2) (dk_capacities v73.2) (dk_firsts v73.2) (dk_containers v73.2) (dk_codes v73.2) (dk_places v73.2) (dk_uses v73.2) (dk_entries v73.2) (dk_references v73.2) (dk_lengths v73.2) (dk_nextNumber v73.2) (dk_carried v73.2))) A)) (As := [.ref h1, .int s26_.2.1, .int s26_.1, .int j53]) (rest := []) ⟨hx, hb, hml, hown, hts⟩ hK hP hD (c_X0_keepContainer l D t h0 a0 s26_.2.2.1 h1 a1 s26_.2.2.2 _ s26_.2.1 s26_.1 j53 v73 e73) (cwV 4 hts (gcX0_keepContainer w_386) rfl rfl rfl hdX0_keepContainerV ⟨Nat.le_of_ble_eq_true rfl, Nat.le_of_ble_eq_true rfl⟩) (ci := 0) (q0 := 0) rfl rfl rfl hl.1 rfl (Nat.le_of_ble_eq_true rfl) (kd tdlX0_takeOutThin_0 43 rfl) ⟨Nat.zero_le _, Nat.zero_le _⟩) (fun H locs hP hD hS => ?_)
        refine lv_iload hx hb (kd tdlX0_takeOutThin_0 44 rfl) (lv_at hl 0 rfl) ?_
        refine lv_istore (lv' := [(4, .int j53), (6, .int j53), (0, .ref h0), (1, .ref h1), (2, .int (dk_containers d1)), (3, .int (dk_entries d1)), (5, .int s26_.2.1)]) hx hb (kd tdlX0_takeOutThin_1 0 rfl) hl (by decide) rfl (fun ls hl => ?_)
        refine lv_iinc (v := (s26_.2.1 + 1)) (lv' := [(5, .int (s26_.2.1 + 1)), (4, .int j53), (6, .int j53), (0, .ref h0), (1, .ref h1), (2, .int (dk_containers d1)), (3, .int (dk_entries d1))]) hx hb (kd tdlX0_takeOutThin_1 1 rfl) hl (k := 6) rfl rfl (by decide) rfl (fun ls hl => ?_)
        refine lv_goto (tgt := 26) hx hb (kd tdlX0_takeOutThin_1 2 rfl) (by decide) ?_
        exact ih26 (j53, (s26_.2.1 + 1), v73.1, v73.2) hF _ _ _ hP hD hS (lv_sub hl [3, 4, 5, 6, 1, 0] rfl)
    refine lv_icmp_ge (tgt := 52) hx hb (kd tdlX0_takeOutThin_0 23 rfl) (by decide) (fun hc37 => ?_) (fun hc37 => ?_)
    · have hF := kt hc37 hF
      refine lv_iload_n hx hb (kd tdlX0_takeOutThin_0 31 rfl) rfl (lv_at hl 3 rfl) ?_
      exact hJ53 ((dk_entries d1)) hF _ _ _ hP hD hS (lv_sub hl [0, 1, 2, 3, 4, 5] rfl)
    · have hF := kf hc37 hF
      refine lv_aload_n hx hb (kd tdlX0_takeOutThin_0 24 rfl) rfl (lv_at hl 1 rfl) ?_
      refine va_get (D := D) (ci := 1) (v := .ref (a1 3)) (C := RX1) (T := TX1) (N := 13) hx hb hts inX1_ hown hK hP 5 rfl rfl 3 (by decide) L76 (fun _ h9 => h9) rfl (kd tdlX0_takeOutThin_0 25 rfl) ?_
      refine lv_iload hx hb (kd tdlX0_takeOutThin_0 26 rfl) (lv_at hl 5 rfl) ?_
      refine lv_iconst (v := 1) hx hb (kd tdlX0_takeOutThin_0 27 rfl) (by decide) ?_
      refine lv_iadd hx hb (kd tdlX0_takeOutThin_0 28 rfl) ?_
      obtain ⟨hi48, hF⟩ := kg hF
      refine va_iald (D := D) (tys := TY t) hx hb hK hP 9 0 rfl rfl hi48 (kd tdlX0_takeOutThin_0 29 rfl) ?_
      refine lv_goto (tgt := 53) hx hb (kd tdlX0_takeOutThin_0 30 rfl) (by decide) ?_
      exact hJ53 (((dk_firsts s26_.2.2.2) (Int32.toNatClampNeg (s26_.2.1 + 1)))) hF _ _ _ hP hD hS (lv_sub hl [0, 1, 2, 3, 4, 5] rfl)
set_option maxHeartbeats 4000000 in
set_option maxRecDepth 100000 in
theorem c_X0_leads (l : Launch) (D : va_G) (t : Nat → ClassId) (h0 : Nat) (a0 : Nat → Nat) (d0 : CRT) (sz : Nat) (p1 : Int32) (p2 : Int32) (r : CRT) (hF : F_X0_leads d0 p1 p2 = some r) : Met l yX0_leads wX0_leads ({ frames := 0, cells := 0, slots := 0, locals := 0 } : Room) (kPc D (TY t) ((wcr t h0 a0 d0)) [.ref h0, .int p1, .int p2] sz) (kQv D (TY t) ((wcr t h0 a0 r)) (va_A ((wcr t h0 a0 d0)) sz)) 0 0 (va_A ((wcr t h0 a0 d0)) sz) := by
  refine kE (cc := cX0_leads) (maxL := 3) (ret := none) (Qx := fun A => kQv D (TY t) ((wcr t h0 a0 r)) A) (lv0 := [(0, .ref h0), (1, .int p1), (2, .int p2)]) RX0 rfl (by decide) rfl (Nat.le_of_ble_eq_true rfl) rfl ?_
  intro p e s m args below meth c A ls hx hb hml hr hlocks hown hts hA hK hP hD hS hl
  have L15 := hts (.fieldLink RX0 15 "ChunkCarriers$Carrier" "goesTo" "[I") (List.mem_cons_of_mem _ w_91)
  have inX0_ : ∀ w ∈ wsX00, w ∈ wX0_leads := fun w h => List.mem_cons_of_mem _ (inlX0 w h)
  have hP : va_P D vwCl ((wcrF t h0 a0 (cr_thin d0) (cr_goesTo d0) (cr_waiting d0) (cr_waitingCodes d0) (cr_waitingCount d0))) s.heap := hP
  have hD : va_D A ((wcrF t h0 a0 (cr_thin d0) (cr_goesTo d0) (cr_waiting d0) (cr_waitingCodes d0) (cr_waitingCount d0))) := hD
  refine lv_iload_n hx hb (kd tdlX0_leads_0 0 rfl) rfl (lv_at hl 1 rfl) ?_
  refine lv_if_lt (tgt := 20) hx hb (kd tdlX0_leads_0 1 rfl) (by decide) (fun hc1 => ?_) (fun hc1 => ?_)
  · have hF := kt hc1 hF
    cases ko hF
    exact ke_v hx hb hr hlocks hK hP hD hS (kd tdlX0_leads_0 12 rfl)
  · have hF := kf hc1 hF
    refine lv_iload_n hx hb (kd tdlX0_leads_0 2 rfl) rfl (lv_at hl 1 rfl) ?_
    refine lv_aload_n hx hb (kd tdlX0_leads_0 3 rfl) rfl (lv_at hl 0 rfl) ?_
    refine cr_g_goesTo hx hb hts inX0_ hown hK hP L15 (kd tdlX0_leads_0 4 rfl) ?_
    refine va_alen (v := 192) (D := D) (tys := TY t) hx hb hK hP 2 0 rfl rfl rfl (kd tdlX0_leads_0 5 rfl) ?_
    refine lv_icmp_ge (tgt := 20) hx hb (kd tdlX0_leads_0 6 rfl) (by decide) (fun hc10 => ?_) (fun hc10 => ?_)
    · have hF := kt hc10 hF
      cases ko hF
      exact ke_v hx hb hr hlocks hK hP hD hS (kd tdlX0_leads_0 12 rfl)
    · have hF := kf hc10 hF
      refine lv_aload_n hx hb (kd tdlX0_leads_0 7 rfl) rfl (lv_at hl 0 rfl) ?_
      refine cr_g_goesTo hx hb hts inX0_ hown hK hP L15 (kd tdlX0_leads_0 8 rfl) ?_
      refine lv_iload_n hx hb (kd tdlX0_leads_0 9 rfl) rfl (lv_at hl 1 rfl) ?_
      refine lv_iload_n hx hb (kd tdlX0_leads_0 10 rfl) rfl (lv_at hl 2 rfl) ?_
      obtain ⟨hi19, hF⟩ := kg hF
      refine cr_s_goesTo hx hb hK hP hD hS hi19 (kd tdlX0_leads_0 11 rfl) (fun H locs hP hD hS => ?_)
      cases ko hF
      exact ke_v hx hb hr hlocks hK hP hD hS (kd tdlX0_leads_0 12 rfl)
set_option maxHeartbeats 4000000 in
set_option maxRecDepth 100000 in
theorem c_X0_carryForward (l : Launch) (D : va_G) (t : Nat → ClassId) (h0 : Nat) (a0 : Nat → Nat) (d0 : CRT) (h1 : Nat) (a1 : Nat → Nat) (d1 : DKT) (sz : Nat)  (r : Int32 × CRT × DKT) (hF : F_X0_carryForward d0 d1 = some r) : Met l yX0_carryForward wX0_carryForward ({ frames := 4, cells := 0, slots := 0, locals := 88 } : Room) (kPc D (TY t) ((wcr t h0 a0 d0) ++ (wdk t h1 a1 d1)) [.ref h0, .ref h1] sz) (kQi D (TY t) ((wcr t h0 a0 r.2.1) ++ (wdk t h1 a1 r.2.2)) r.1 (va_A ((wcr t h0 a0 d0) ++ (wdk t h1 a1 d1)) sz)) 0 0 (va_A ((wcr t h0 a0 d0) ++ (wdk t h1 a1 d1)) sz) := by
  refine kE (cc := cX0_carryForward) (maxL := 3) (ret := (some .int)) (Qx := fun A => kQi D (TY t) ((wcr t h0 a0 r.2.1) ++ (wdk t h1 a1 r.2.2)) r.1 A) (lv0 := [(0, .ref h0), (1, .ref h1)]) RX0 rfl (by decide) rfl (Nat.le_of_ble_eq_true rfl) rfl ?_
  intro p e s m args below meth c A ls hx hb hml hr hlocks hown hts hA hK hP hD hS hl
  have L15 := hts (.fieldLink RX0 15 "ChunkCarriers$Carrier" "goesTo" "[I") (List.mem_cons_of_mem _ w_91)
  have L19 := hts (.fieldLink RX0 19 "ChunkCarriers$Carrier" "waiting" "[I") (List.mem_cons_of_mem _ w_92)
  have L22 := hts (.fieldLink RX0 22 "ChunkCarriers$Carrier" "waitingCodes" "[I") (List.mem_cons_of_mem _ w_93)
  have L25 := hts (.fieldLink RX0 25 "ChunkCarriers$Desk" "containers" "I") (List.mem_cons_of_mem _ w_365)
  have L42 := hts (.fieldLink RX0 42 "ChunkCarriers$Carrier" "waitingCount" "I") (List.mem_cons_of_mem _ w_366)
  have L57 := hts (.fieldLink RX0 57 "ChunkCarriers$Desk" "carried" "I") (List.mem_cons_of_mem _ w_367)
  have L9 := hts (.fieldLink RX0 9 "ChunkCarriers$Carrier" "thin" "[Z") (List.mem_cons_of_mem _ w_90)
  have inX0_ : ∀ w ∈ wsX00, w ∈ wX0_carryForward := fun w h => List.mem_cons_of_mem _ (inlX0 w h)
  have inX1_ : ∀ w ∈ wsX10, w ∈ wX0_carryForward := fun w h => List.mem_cons_of_mem _ (inlX1 w h)
  have hP : va_P D vwCl ((wcrF t h0 a0 (cr_thin d0) (cr_goesTo d0) (cr_waiting d0) (cr_waitingCodes d0) (cr_waitingCount d0)) ++ (wdkF t h1 a1 (dk_settings d1) (dk_numbers d1) (dk_capacities d1) (dk_firsts d1) (dk_containers d1) (dk_codes d1) (dk_places d1) (dk_uses d1) (dk_entries d1) (dk_references d1) (dk_lengths d1) (dk_nextNumber d1) (dk_carried d1))) s.heap := hP
  have hD : va_D A ((wcrF t h0 a0 (cr_thin d0) (cr_goesTo d0) (cr_waiting d0) (cr_waitingCodes d0) (cr_waitingCount d0)) ++ (wdkF t h1 a1 (dk_settings d1) (dk_numbers d1) (dk_capacities d1) (dk_firsts d1) (dk_containers d1) (dk_codes d1) (dk_places d1) (dk_uses d1) (dk_entries d1) (dk_references d1) (dk_lengths d1) (dk_nextNumber d1) (dk_carried d1))) := hD
  refine lv_iconst (v := 0) hx hb (kd tdlX0_carryForward_0 0 rfl) (by decide) ?_
  refine lv_istore_n (lv' := [(2, .int 0), (0, .ref h0), (1, .ref h1)]) hx hb (kd tdlX0_carryForward_0 1 rfl) rfl hl (by decide) rfl (fun ls hl => ?_)
  have hK27 : ∀ k27 : (Nat → Int32), K_X0_carryForward_27 d0 d1 k27 = some r → ∀ (H : Heap) (locs : List Loc) (ls : Array Slot), va_P D vwCl ((wcrF t h0 a0 k27 (cr_goesTo d0) (cr_waiting d0) (cr_waitingCodes d0) (cr_waitingCount d0)) ++ (wdkF t h1 a1 (dk_settings d1) (dk_numbers d1) (dk_capacities d1) (dk_firsts d1) (dk_containers d1) (dk_codes d1) (dk_places d1) (dk_uses d1) (dk_entries d1) (dk_references d1) (dk_lengths d1) (dk_nextNumber d1) (dk_carried d1))) H → va_D A ((wcrF t h0 a0 k27 (cr_goesTo d0) (cr_waiting d0) (cr_waitingCodes d0) (cr_waitingCount d0)) ++ (wdkF t h1 a1 (dk_settings d1) (dk_numbers d1) (dk_capacities d1) (dk_firsts d1) (dk_containers d1) (dk_codes d1) (dk_places d1) (dk_uses d1) (dk_entries d1) (dk_references d1) (dk_lengths d1) (dk_nextNumber d1) (dk_carried d1))) → va_S A s.heap H locs → lv_has ls 3 [(0, .ref h0), (1, .ref h1)] → W p l e ({ frames := 4, cells := 0, slots := 0, locals := 88 } : Room) s m args below meth c H locs 0 0 (MQ below (kQi D (TY t) ((wcr t h0 a0 r.2.1) ++ (wdk t h1 a1 r.2.2)) r.1 A) args s 0 0 A) (F0 m 27 ls []) := by
    intro k27 hF H locs ls hP hD hS hl
    refine lv_aload_n hx hb (kd tdlX0_carryForward_0 15 rfl) rfl (lv_at hl 0 rfl) ?_
    refine lv_aload_n hx hb (kd tdlX0_carryForward_0 16 rfl) rfl (lv_at hl 1 rfl) ?_
    obtain ⟨v29, e29, hF⟩ := kc hF
    refine kc_v0 (w1 := ((wcrF t h0 a0 (cr_thin v29) (cr_goesTo v29) (cr_waiting v29) (cr_waitingCodes v29) (cr_waitingCount v29)) ++ (wdkF t h1 a1 (dk_settings d1) (dk_numbers d1) (dk_capacities d1) (dk_firsts d1) (dk_containers d1) (dk_codes d1) (dk_places d1) (dk_uses d1) (dk_entries d1) (dk_references d1) (dk_lengths d1) (dk_nextNumber d1) (dk_carried d1)))) hP hD hS hA (kr_V0 (Qx := (fun A => kQv D (TY t) ((wcrF t h0 a0 (cr_thin v29) (cr_goesTo v29) (cr_waiting v29) (cr_waitingCodes v29) (cr_waitingCount v29)) ++ (wdkF t h1 a1 (dk_settings d1) (dk_numbers d1) (dk_capacities d1) (dk_firsts d1) (dk_containers d1) (dk_codes d1) (dk_places d1) (dk_uses d1) (dk_entries d1) (dk_references d1) (dk_lengths d1) (dk_nextNumber d1) (dk_carried d1))) A)) (As := [.ref h1]) (rest := []) ⟨hx, hb, hml, hown, hts⟩ hK hP hD (c_X0_collectWaiting l D t h0 a0 (k27, (cr_goesTo d0), (cr_waiting d0), (cr_waitingCodes d0), (cr_waitingCount d0)) h1 a1 d1 _  v29 e29) (cwV 1 hts (gcX0_collectWaiting w_369) rfl rfl rfl hdX0_collectWaitingV ⟨Nat.le_of_ble_eq_true rfl, Nat.le_of_ble_eq_true rfl⟩) (ci := 0) (q0 := 0) rfl rfl rfl hl.1 rfl (Nat.le_of_ble_eq_true rfl) (kd tdlX0_carryForward_0 17 rfl) ⟨Nat.zero_le _, Nat.zero_le _⟩) (fun H locs hP hD hS => ?_)
    refine lv_aload_n hx hb (kd tdlX0_carryForward_0 18 rfl) rfl (lv_at hl 0 rfl) ?_
    refine lv_aload_n hx hb (kd tdlX0_carryForward_0 19 rfl) rfl (lv_at hl 1 rfl) ?_
    obtain ⟨v34, e34, hF⟩ := kc hF
    refine kc_v0 (w1 := ((wcrF t h0 a0 (cr_thin v34.1) (cr_goesTo v34.1) (cr_waiting v34.1) (cr_waitingCodes v34.1) (cr_waitingCount v34.1)) ++ (wdkF t h1 a1 (dk_settings v34.2) (dk_numbers v34.2) (dk_capacities v34.2) (dk_firsts v34.2) (dk_containers v34.2) (dk_codes v34.2) (dk_places v34.2) (dk_uses v34.2) (dk_entries v34.2) (dk_references v34.2) (dk_lengths v34.2) (dk_nextNumber v34.2) (dk_carried v34.2)))) hP hD hS hA (kr_V0 (Qx := (fun A => kQv D (TY t) ((wcrF t h0 a0 (cr_thin v34.1) (cr_goesTo v34.1) (cr_waiting v34.1) (cr_waitingCodes v34.1) (cr_waitingCount v34.1)) ++ (wdkF t h1 a1 (dk_settings v34.2) (dk_numbers v34.2) (dk_capacities v34.2) (dk_firsts v34.2) (dk_containers v34.2) (dk_codes v34.2) (dk_places v34.2) (dk_uses v34.2) (dk_entries v34.2) (dk_references v34.2) (dk_lengths v34.2) (dk_nextNumber v34.2) (dk_carried v34.2))) A)) (As := [.ref h1]) (rest := []) ⟨hx, hb, hml, hown, hts⟩ hK hP hD (c_X0_takeOutThin l D t h0 a0 v29 h1 a1 d1 _  v34 e34) (cwV 1 hts (gcX0_takeOutThin w_380) rfl rfl rfl hdX0_takeOutThinV ⟨Nat.le_of_ble_eq_true rfl, Nat.le_of_ble_eq_true rfl⟩) (ci := 0) (q0 := 0) rfl rfl rfl hl.1 rfl (Nat.le_of_ble_eq_true rfl) (kd tdlX0_carryForward_0 20 rfl) ⟨Nat.zero_le _, Nat.zero_le _⟩) (fun H locs hP hD hS => ?_)
    refine lv_iconst (v := 0) hx hb (kd tdlX0_carryForward_0 21 rfl) (by decide) ?_
    refine lv_istore_n (lv' := [(2, .int 0), (0, .ref h0), (1, .ref h1)]) hx hb (kd tdlX0_carryForward_0 22 rfl) rfl hl (by decide) rfl (fun ls hl => ?_)
    have hK73 : ∀ k73 : CRT × DKT, K_X0_carryForward_73 k73 = some r → ∀ (H : Heap) (locs : List Loc) (ls : Array Slot), va_P D vwCl ((wcrF t h0 a0 (cr_thin k73.1) (cr_goesTo k73.1) (cr_waiting k73.1) (cr_waitingCodes k73.1) (cr_waitingCount k73.1)) ++ (wdkF t h1 a1 (dk_settings k73.2) (dk_numbers k73.2) (dk_capacities k73.2) (dk_firsts k73.2) (dk_containers k73.2) (dk_codes k73.2) (dk_places k73.2) (dk_uses k73.2) (dk_entries k73.2) (dk_references k73.2) (dk_lengths k73.2) (dk_nextNumber k73.2) (dk_carried k73.2))) H → va_D A ((wcrF t h0 a0 (cr_thin k73.1) (cr_goesTo k73.1) (cr_waiting k73.1) (cr_waitingCodes k73.1) (cr_waitingCount k73.1)) ++ (wdkF t h1 a1 (dk_settings k73.2) (dk_numbers k73.2) (dk_capacities k73.2) (dk_firsts k73.2) (dk_containers k73.2) (dk_codes k73.2) (dk_places k73.2) (dk_uses k73.2) (dk_entries k73.2) (dk_references k73.2) (dk_lengths k73.2) (dk_nextNumber k73.2) (dk_carried k73.2))) → va_S A s.heap H locs → lv_has ls 3 [(0, .ref h0), (1, .ref h1)] → W p l e ({ frames := 4, cells := 0, slots := 0, locals := 88 } : Room) s m args below meth c H locs 0 0 (MQ below (kQi D (TY t) ((wcr t h0 a0 r.2.1) ++ (wdk t h1 a1 r.2.2)) r.1 A) args s 0 0 A) (F0 m 73 ls []) := by
      intro k73 hF H locs ls hP hD hS hl
      refine lv_aload_n hx hb (kd tdlX0_carryForward_0 41 rfl) rfl (lv_at hl 1 rfl) ?_
      refine lv_aload_n hx hb (kd tdlX0_carryForward_0 42 rfl) rfl (lv_at hl 0 rfl) ?_
      refine va_get (D := D) (ci := 0) (v := .ref (a0 1)) (C := RX0) (T := TX0) (N := 5) hx hb hts inX0_ hown hK hP 0 rfl rfl 1 (by decide) L15 (fun _ h9 => h9) rfl (kd tdlX0_carryForward_0 43 rfl) ?_
      obtain ⟨v78, e78, hF⟩ := kc hF
      refine kc_v (w1 := ((wdkF t h1 a1 (dk_settings v78) (dk_numbers v78) (dk_capacities v78) (dk_firsts v78) (dk_containers v78) (dk_codes v78) (dk_places v78) (dk_uses v78) (dk_entries v78) (dk_references v78) (dk_lengths v78) (dk_nextNumber v78) (dk_carried v78)) ++ (wrw t (a0 1) 192 (cr_goesTo k73.1)))) (W1 := ((wcrF t h0 a0 (cr_thin k73.1) (cr_goesTo k73.1) (cr_waiting k73.1) (cr_waitingCodes k73.1) (cr_waitingCount k73.1)) ++ (wdkF t h1 a1 (dk_settings v78) (dk_numbers v78) (dk_capacities v78) (dk_firsts v78) (dk_containers v78) (dk_codes v78) (dk_places v78) (dk_uses v78) (dk_entries v78) (dk_references v78) (dk_lengths v78) (dk_nextNumber v78) (dk_carried v78)))) hK hP hD hS hA [5, 6, 7, 8, 9, 10, 11, 12, 13, 14, 2] nd_5_6_7_8_9_10_11_12_13_14_2 rfl rfl rfl (kr_V (Qx := (fun A => kQv D (TY t) ((wdkF t h1 a1 (dk_settings v78) (dk_numbers v78) (dk_capacities v78) (dk_firsts v78) (dk_containers v78) (dk_codes v78) (dk_places v78) (dk_uses v78) (dk_entries v78) (dk_references v78) (dk_lengths v78) (dk_nextNumber v78) (dk_carried v78)) ++ (wrw t (a0 1) 192 (cr_goesTo k73.1))) A)) (wc := ((wdkF t h1 a1 (dk_settings k73.2) (dk_numbers k73.2) (dk_capacities k73.2) (dk_firsts k73.2) (dk_containers k73.2) (dk_codes k73.2) (dk_places k73.2) (dk_uses k73.2) (dk_entries k73.2) (dk_references k73.2) (dk_lengths k73.2) (dk_nextNumber k73.2) (dk_carried k73.2)) ++ (wrw t (a0 1) 192 (cr_goesTo k73.1)))) (As := [.ref (a0 1)]) (rest := []) ⟨hx, hb, hml, hown, hts⟩ hK hP hD [5, 6, 7, 8, 9, 10, 11, 12, 13, 14, 2] nd_5_6_7_8_9_10_11_12_13_14_2 rfl (c_X1_redirect l D t h1 a1 k73.2 (a0 1) 192 (cr_goesTo k73.1) _  v78 e78) (cwV 1 hts (gcX1_redirect w_410) rfl rfl rfl hdX1_redirectV ⟨Nat.le_of_ble_eq_true rfl, Nat.le_of_ble_eq_true rfl⟩) (ci := 1) (q0 := 5) rfl rfl rfl hl.1 rfl (Nat.le_of_ble_eq_true rfl) (kd tdlX0_carryForward_0 44 rfl) ⟨Nat.zero_le _, Nat.zero_le _⟩) (fun H locs hP hD hS => ?_)
      refine lv_aload_n hx hb (kd tdlX0_carryForward_1 0 rfl) rfl (lv_at hl 1 rfl) ?_
      refine lv_dup hx hb (kd tdlX0_carryForward_1 1 rfl) rfl ?_
      refine va_get (D := D) (ci := 1) (v := .int (dk_carried v78)) (C := RX1) (T := TX1) (N := 13) hx hb hts inX1_ hown hK hP 5 rfl rfl 12 (by decide) L57 (fun _ h9 => h9) rfl (kd tdlX0_carryForward_1 2 rfl) ?_
      refine lv_aload_n hx hb (kd tdlX0_carryForward_1 3 rfl) rfl (lv_at hl 0 rfl) ?_
      refine va_get (D := D) (ci := 0) (v := .int (cr_waitingCount k73.1)) (C := RX0) (T := TX0) (N := 5) hx hb hts inX0_ hown hK hP 0 rfl rfl 4 (by decide) L42 (fun _ h9 => h9) rfl (kd tdlX0_carryForward_1 4 rfl) ?_
      refine lv_iadd hx hb (kd tdlX0_carryForward_1 5 rfl) ?_
      refine va_put (D := D) (ci := 1) (v := .int ((dk_carried v78) + (cr_waitingCount k73.1))) (ty := .int) (C := RX1) (T := TX1) (N := 13) hx hb hts inX1_ tyX1 tyX1_ok nmX1 hown hK hP hD hS 5 rfl rfl 12 (by decide) L57 (fun _ h9 => h9) rfl (by decide +kernel) rfl rfl (Nat.le_of_ble_eq_true rfl) (kd tdlX0_carryForward_1 6 rfl) (fun H locs hP hD hS => ?_)
      have hP : va_P D vwCl ((wcrF t h0 a0 (cr_thin k73.1) (cr_goesTo k73.1) (cr_waiting k73.1) (cr_waitingCodes k73.1) (cr_waitingCount k73.1)) ++ (wdkF t h1 a1 (dk_settings v78) (dk_numbers v78) (dk_capacities v78) (dk_firsts v78) (dk_containers v78) (dk_codes v78) (dk_places v78) (dk_uses v78) (dk_entries v78) (dk_references v78) (dk_lengths v78) (dk_nextNumber v78) ((dk_carried v78) + (cr_waitingCount k73.1)))) H := hP
      have hD : va_D A ((wcrF t h0 a0 (cr_thin k73.1) (cr_goesTo k73.1) (cr_waiting k73.1) (cr_waitingCodes k73.1) (cr_waitingCount k73.1)) ++ (wdkF t h1 a1 (dk_settings v78) (dk_numbers v78) (dk_capacities v78) (dk_firsts v78) (dk_containers v78) (dk_codes v78) (dk_places v78) (dk_uses v78) (dk_entries v78) (dk_references v78) (dk_lengths v78) (dk_nextNumber v78) ((dk_carried v78) + (cr_waitingCount k73.1)))) := hD
      refine lv_aload_n hx hb (kd tdlX0_carryForward_1 7 rfl) rfl (lv_at hl 0 rfl) ?_
      refine va_get (D := D) (ci := 0) (v := .int (cr_waitingCount k73.1)) (C := RX0) (T := TX0) (N := 5) hx hb hts inX0_ hown hK hP 0 rfl rfl 4 (by decide) L42 (fun _ h9 => h9) rfl (kd tdlX0_carryForward_1 8 rfl) ?_
      cases ko hF
      exact ke_i hx hb hr hlocks hK hP hD hS rfl (kd tdlX0_carryForward_1 9 rfl)
    refine lp_ind (f := B_X0_carryForward_39 (K_X0_carryForward_73)) (r := r) (P := fun s39_ => ∀ (H : Heap) (locs : List Loc) (ls : Array Slot), va_P D vwCl ((wcrF t h0 a0 (cr_thin s39_.2.1) (cr_goesTo s39_.2.1) (cr_waiting s39_.2.1) (cr_waitingCodes s39_.2.1) (cr_waitingCount s39_.2.1)) ++ (wdkF t h1 a1 (dk_settings s39_.2.2) (dk_numbers s39_.2.2) (dk_capacities s39_.2.2) (dk_firsts s39_.2.2) (dk_containers s39_.2.2) (dk_codes s39_.2.2) (dk_places s39_.2.2) (dk_uses s39_.2.2) (dk_entries s39_.2.2) (dk_references s39_.2.2) (dk_lengths s39_.2.2) (dk_nextNumber s39_.2.2) (dk_carried s39_.2.2))) H → va_D A ((wcrF t h0 a0 (cr_thin s39_.2.1) (cr_goesTo s39_.2.1) (cr_waiting s39_.2.1) (cr_waitingCodes s39_.2.1) (cr_waitingCount s39_.2.1)) ++ (wdkF t h1 a1 (dk_settings s39_.2.2) (dk_numbers s39_.2.2) (dk_capacities s39_.2.2) (dk_firsts s39_.2.2) (dk_containers s39_.2.2) (dk_codes s39_.2.2) (dk_places s39_.2.2) (dk_uses s39_.2.2) (dk_entries s39_.2.2) (dk_references s39_.2.2) (dk_lengths s39_.2.2) (dk_nextNumber s39_.2.2) (dk_carried s39_.2.2))) → va_S A s.heap H locs → lv_has ls 3 [(0, .ref h0), (1, .ref h1), (2, .int s39_.1)] → W p l e ({ frames := 4, cells := 0, slots := 0, locals := 88 } : Room) s m args below meth c H locs 0 0 (MQ below (kQi D (TY t) ((wcr t h0 a0 r.2.1) ++ (wdk t h1 a1 r.2.2)) r.1 A) args s 0 0 A) (F0 m 39 ls [])) ?_ FU (0, v34.1, v34.2) hF _ _ _ hP hD hS (lv_sub hl [1, 2, 0] rfl)
    intro self39 ih39 s39_ hF H locs ls hP hD hS hl
    refine lv_iload_n hx hb (kd tdlX0_carryForward_0 23 rfl) rfl (lv_at hl 2 rfl) ?_
    refine lv_aload_n hx hb (kd tdlX0_carryForward_0 24 rfl) rfl (lv_at hl 0 rfl) ?_
    refine va_get (D := D) (ci := 0) (v := .int (cr_waitingCount s39_.2.1)) (C := RX0) (T := TX0) (N := 5) hx hb hts inX0_ hown hK hP 0 rfl rfl 4 (by decide) L42 (fun _ h9 => h9) rfl (kd tdlX0_carryForward_0 25 rfl) ?_
    refine lv_icmp_ge (tgt := 73) hx hb (kd tdlX0_carryForward_0 26 rfl) (by decide) (fun hc44 => ?_) (fun hc44 => ?_)
    · have hF := kt hc44 hF
      exact hK73 (s39_.2.1, s39_.2.2) hF _ _ _ hP hD hS (lv_sub hl [0, 1] rfl)
    · have hF := kf hc44 hF
      refine lv_aload_n hx hb (kd tdlX0_carryForward_0 27 rfl) rfl (lv_at hl 0 rfl) ?_
      refine lv_aload_n hx hb (kd tdlX0_carryForward_0 28 rfl) rfl (lv_at hl 0 rfl) ?_
      refine va_get (D := D) (ci := 0) (v := .ref (a0 2)) (C := RX0) (T := TX0) (N := 5) hx hb hts inX0_ hown hK hP 0 rfl rfl 2 (by decide) L19 (fun _ h9 => h9) rfl (kd tdlX0_carryForward_0 29 rfl) ?_
      refine lv_iload_n hx hb (kd tdlX0_carryForward_0 30 rfl) rfl (lv_at hl 2 rfl) ?_
      obtain ⟨hi53, hF⟩ := kg hF
      refine va_iald (D := D) (tys := TY t) hx hb hK hP 3 0 rfl rfl hi53 (kd tdlX0_carryForward_0 31 rfl) ?_
      refine lv_aload_n hx hb (kd tdlX0_carryForward_0 32 rfl) rfl (lv_at hl 1 rfl) ?_
      refine lv_aload_n hx hb (kd tdlX0_carryForward_0 33 rfl) rfl (lv_at hl 0 rfl) ?_
      refine va_get (D := D) (ci := 0) (v := .ref (a0 3)) (C := RX0) (T := TX0) (N := 5) hx hb hts inX0_ hown hK hP 0 rfl rfl 3 (by decide) L22 (fun _ h9 => h9) rfl (kd tdlX0_carryForward_0 34 rfl) ?_
      refine lv_iload_n hx hb (kd tdlX0_carryForward_0 35 rfl) rfl (lv_at hl 2 rfl) ?_
      obtain ⟨hi60, hF⟩ := kg hF
      refine va_iald (D := D) (tys := TY t) hx hb hK hP 4 0 rfl rfl hi60 (kd tdlX0_carryForward_0 36 rfl) ?_
      obtain ⟨v61, e61, hF⟩ := kc hF
      refine kc_i (w1 := ((wdkF t h1 a1 (dk_settings v61.2) (dk_numbers v61.2) (dk_capacities v61.2) (dk_firsts v61.2) (dk_containers v61.2) (dk_codes v61.2) (dk_places v61.2) (dk_uses v61.2) (dk_entries v61.2) (dk_references v61.2) (dk_lengths v61.2) (dk_nextNumber v61.2) (dk_carried v61.2)))) (W1 := ((wcrF t h0 a0 (cr_thin s39_.2.1) (cr_goesTo s39_.2.1) (cr_waiting s39_.2.1) (cr_waitingCodes s39_.2.1) (cr_waitingCount s39_.2.1)) ++ (wdkF t h1 a1 (dk_settings v61.2) (dk_numbers v61.2) (dk_capacities v61.2) (dk_firsts v61.2) (dk_containers v61.2) (dk_codes v61.2) (dk_places v61.2) (dk_uses v61.2) (dk_entries v61.2) (dk_references v61.2) (dk_lengths v61.2) (dk_nextNumber v61.2) (dk_carried v61.2)))) hK hP hD hS hA [5, 6, 7, 8, 9, 10, 11, 12, 13, 14] nd_5_6_7_8_9_10_11_12_13_14 rfl rfl rfl (kr_V (Qx := (fun A => kQi D (TY t) ((wdkF t h1 a1 (dk_settings v61.2) (dk_numbers v61.2) (dk_capacities v61.2) (dk_firsts v61.2) (dk_containers v61.2) (dk_codes v61.2) (dk_places v61.2) (dk_uses v61.2) (dk_entries v61.2) (dk_references v61.2) (dk_lengths v61.2) (dk_nextNumber v61.2) (dk_carried v61.2))) v61.1 A)) (wc := ((wdkF t h1 a1 (dk_settings s39_.2.2) (dk_numbers s39_.2.2) (dk_capacities s39_.2.2) (dk_firsts s39_.2.2) (dk_containers s39_.2.2) (dk_codes s39_.2.2) (dk_places s39_.2.2) (dk_uses s39_.2.2) (dk_entries s39_.2.2) (dk_references s39_.2.2) (dk_lengths s39_.2.2) (dk_nextNumber s39_.2.2) (dk_carried s39_.2.2)))) (As := [.int ((cr_waitingCodes s39_.2.1) (Int32.toNatClampNeg s39_.1))]) (rest := [.int ((cr_waiting s39_.2.1) (Int32.toNatClampNeg s39_.1)), .ref h0]) ⟨hx, hb, hml, hown, hts⟩ hK hP hD [5, 6, 7, 8, 9, 10, 11, 12, 13, 14] nd_5_6_7_8_9_10_11_12_13_14 rfl (c_X1_putAway l D t h1 a1 s39_.2.2 _ ((cr_waitingCodes s39_.2.1) (Int32.toNatClampNeg s39_.1)) v61 e61) (cwV 1 hts (gcX1_putAway w_394) rfl rfl rfl hdX1_putAwayV ⟨Nat.le_of_ble_eq_true rfl, Nat.le_of_ble_eq_true rfl⟩) (ci := 1) (q0 := 5) rfl rfl rfl hl.1 rfl (Nat.le_of_ble_eq_true rfl) (kd tdlX0_carryForward_0 37 rfl) ⟨Nat.zero_le _, Nat.zero_le _⟩) (fun H locs hP hD hS => ?_)
      obtain ⟨v64, e64, hF⟩ := kc hF
      refine kc_v (w1 := ((wcrF t h0 a0 (cr_thin v64) (cr_goesTo v64) (cr_waiting v64) (cr_waitingCodes v64) (cr_waitingCount v64)))) (W1 := ((wcrF t h0 a0 (cr_thin v64) (cr_goesTo v64) (cr_waiting v64) (cr_waitingCodes v64) (cr_waitingCount v64)) ++ (wdkF t h1 a1 (dk_settings v61.2) (dk_numbers v61.2) (dk_capacities v61.2) (dk_firsts v61.2) (dk_containers v61.2) (dk_codes v61.2) (dk_places v61.2) (dk_uses v61.2) (dk_entries v61.2) (dk_references v61.2) (dk_lengths v61.2) (dk_nextNumber v61.2) (dk_carried v61.2)))) hK hP hD hS hA [0, 1, 2, 3, 4] nd_0_1_2_3_4 rfl rfl rfl (kr_V (Qx := (fun A => kQv D (TY t) ((wcrF t h0 a0 (cr_thin v64) (cr_goesTo v64) (cr_waiting v64) (cr_waitingCodes v64) (cr_waitingCount v64))) A)) (wc := ((wcrF t h0 a0 (cr_thin s39_.2.1) (cr_goesTo s39_.2.1) (cr_waiting s39_.2.1) (cr_waitingCodes s39_.2.1) (cr_waitingCount s39_.2.1)))) (As := [.int ((cr_waiting s39_.2.1) (Int32.toNatClampNeg s39_.1)), .int v61.1]) (rest := []) ⟨hx, hb, hml, hown, hts⟩ hK hP hD [0, 1, 2, 3, 4] nd_0_1_2_3_4 rfl (c_X0_leads l D t h0 a0 s39_.2.1 _ ((cr_waiting s39_.2.1) (Int32.toNatClampNeg s39_.1)) v61.1 v64 e64) (cwV 2 hts (gcX0_leads w_406) rfl rfl rfl hdX0_leadsV ⟨Nat.le_of_ble_eq_true rfl, Nat.le_of_ble_eq_true rfl⟩) (ci := 0) (q0 := 0) rfl rfl rfl hl.1 rfl (Nat.le_of_ble_eq_true rfl) (kd tdlX0_carryForward_0 38 rfl) ⟨Nat.zero_le _, Nat.zero_le _⟩) (fun H locs hP hD hS => ?_)
      refine lv_iinc (v := (s39_.1 + 1)) (lv' := [(2, .int (s39_.1 + 1)), (0, .ref h0), (1, .ref h1)]) hx hb (kd tdlX0_carryForward_0 39 rfl) hl (k := 2) rfl rfl (by decide) rfl (fun ls hl => ?_)
      refine lv_goto (tgt := 39) hx hb (kd tdlX0_carryForward_0 40 rfl) (by decide) ?_
      exact ih39 ((s39_.1 + 1), v64, v61.2) hF _ _ _ hP hD hS (lv_sub hl [1, 2, 0] rfl)
  refine lp_ind (f := B_X0_carryForward_2 d1 (K_X0_carryForward_27 d0 d1)) (r := r) (P := fun s2_ => ∀ (H : Heap) (locs : List Loc) (ls : Array Slot), va_P D vwCl ((wcrF t h0 a0 s2_.2 (cr_goesTo d0) (cr_waiting d0) (cr_waitingCodes d0) (cr_waitingCount d0)) ++ (wdkF t h1 a1 (dk_settings d1) (dk_numbers d1) (dk_capacities d1) (dk_firsts d1) (dk_containers d1) (dk_codes d1) (dk_places d1) (dk_uses d1) (dk_entries d1) (dk_references d1) (dk_lengths d1) (dk_nextNumber d1) (dk_carried d1))) H → va_D A ((wcrF t h0 a0 s2_.2 (cr_goesTo d0) (cr_waiting d0) (cr_waitingCodes d0) (cr_waitingCount d0)) ++ (wdkF t h1 a1 (dk_settings d1) (dk_numbers d1) (dk_capacities d1) (dk_firsts d1) (dk_containers d1) (dk_codes d1) (dk_places d1) (dk_uses d1) (dk_entries d1) (dk_references d1) (dk_lengths d1) (dk_nextNumber d1) (dk_carried d1))) → va_S A s.heap H locs → lv_has ls 3 [(0, .ref h0), (1, .ref h1), (2, .int s2_.1)] → W p l e ({ frames := 4, cells := 0, slots := 0, locals := 88 } : Room) s m args below meth c H locs 0 0 (MQ below (kQi D (TY t) ((wcr t h0 a0 r.2.1) ++ (wdk t h1 a1 r.2.2)) r.1 A) args s 0 0 A) (F0 m 2 ls [])) ?_ FU (0, (cr_thin d0)) hF _ _ _ hP hD hS (lv_sub hl [1, 2, 0] rfl)
  intro self2 ih2 s2_ hF H locs ls hP hD hS hl
  refine lv_iload_n hx hb (kd tdlX0_carryForward_0 2 rfl) rfl (lv_at hl 2 rfl) ?_
  refine lv_aload_n hx hb (kd tdlX0_carryForward_0 3 rfl) rfl (lv_at hl 1 rfl) ?_
  refine va_get (D := D) (ci := 1) (v := .int (dk_containers d1)) (C := RX1) (T := TX1) (N := 13) hx hb hts inX1_ hown hK hP 5 rfl rfl 4 (by decide) L25 (fun _ h9 => h9) rfl (kd tdlX0_carryForward_0 4 rfl) ?_
  refine lv_icmp_ge (tgt := 27) hx hb (kd tdlX0_carryForward_0 5 rfl) (by decide) (fun hc7 => ?_) (fun hc7 => ?_)
  · have hF := kt hc7 hF
    exact hK27 (s2_.2) hF _ _ _ hP hD hS (lv_sub hl [0, 1] rfl)
  · have hF := kf hc7 hF
    refine lv_aload_n hx hb (kd tdlX0_carryForward_0 6 rfl) rfl (lv_at hl 0 rfl) ?_
    refine va_get (D := D) (ci := 0) (v := .ref (a0 0)) (C := RX0) (T := TX0) (N := 5) hx hb hts inX0_ hown hK hP 0 rfl rfl 0 (by decide) L9 (fun _ h9 => h9) rfl (kd tdlX0_carryForward_0 7 rfl) ?_
    refine lv_iload_n hx hb (kd tdlX0_carryForward_0 8 rfl) rfl (lv_at hl 2 rfl) ?_
    refine lv_aload_n hx hb (kd tdlX0_carryForward_0 9 rfl) rfl (lv_at hl 1 rfl) ?_
    refine lv_iload_n hx hb (kd tdlX0_carryForward_0 10 rfl) rfl (lv_at hl 2 rfl) ?_
    obtain ⟨v17, e17, hF⟩ := kc hF
    refine kc_iR hK hP hD hS hA [5, 6, 7, 8, 9, 10, 11, 12, 13, 14] rfl (kr_V (Qx := (fun A => kQi D (TY t) ((wdkF t h1 a1 (dk_settings d1) (dk_numbers d1) (dk_capacities d1) (dk_firsts d1) (dk_containers d1) (dk_codes d1) (dk_places d1) (dk_uses d1) (dk_entries d1) (dk_references d1) (dk_lengths d1) (dk_nextNumber d1) (dk_carried d1))) v17 A)) (wc := ((wdkF t h1 a1 (dk_settings d1) (dk_numbers d1) (dk_capacities d1) (dk_firsts d1) (dk_containers d1) (dk_codes d1) (dk_places d1) (dk_uses d1) (dk_entries d1) (dk_references d1) (dk_lengths d1) (dk_nextNumber d1) (dk_carried d1)))) (As := [.int s2_.1]) (rest := [.int s2_.1, .ref (a0 0)]) ⟨hx, hb, hml, hown, hts⟩ hK hP hD [5, 6, 7, 8, 9, 10, 11, 12, 13, 14] nd_5_6_7_8_9_10_11_12_13_14 rfl (c_X1_isThin l D t h1 a1 d1 _ s2_.1 v17 e17) (cwV 1 hts (gcX1_isThin w_368) rfl rfl rfl hdX1_isThinV ⟨Nat.le_of_ble_eq_true rfl, Nat.le_of_ble_eq_true rfl⟩) (ci := 1) (q0 := 5) rfl rfl rfl hl.1 rfl (Nat.le_of_ble_eq_true rfl) (kd tdlX0_carryForward_0 11 rfl) ⟨Nat.zero_le _, Nat.zero_le _⟩) (fun H locs hP hS => ?_)
    obtain ⟨hi20, hF⟩ := kg hF
    refine va_zast (D := D) (tys := TY t) hx hb hK hP hD hS 1 2 rfl rfl hi20 (kd tdlX0_carryForward_0 12 rfl) (fun H locs hP hD hS => ?_)
    have hP : va_P D vwCl ((wcrF t h0 a0 (upd s2_.2 (Int32.toNatClampNeg s2_.1) (vp_nar .boolean v17)) (cr_goesTo d0) (cr_waiting d0) (cr_waitingCodes d0) (cr_waitingCount d0)) ++ (wdkF t h1 a1 (dk_settings d1) (dk_numbers d1) (dk_capacities d1) (dk_firsts d1) (dk_containers d1) (dk_codes d1) (dk_places d1) (dk_uses d1) (dk_entries d1) (dk_references d1) (dk_lengths d1) (dk_nextNumber d1) (dk_carried d1))) H := hP
    have hD : va_D A ((wcrF t h0 a0 (upd s2_.2 (Int32.toNatClampNeg s2_.1) (vp_nar .boolean v17)) (cr_goesTo d0) (cr_waiting d0) (cr_waitingCodes d0) (cr_waitingCount d0)) ++ (wdkF t h1 a1 (dk_settings d1) (dk_numbers d1) (dk_capacities d1) (dk_firsts d1) (dk_containers d1) (dk_codes d1) (dk_places d1) (dk_uses d1) (dk_entries d1) (dk_references d1) (dk_lengths d1) (dk_nextNumber d1) (dk_carried d1))) := hD
    refine lv_iinc (v := (s2_.1 + 1)) (lv' := [(2, .int (s2_.1 + 1)), (0, .ref h0), (1, .ref h1)]) hx hb (kd tdlX0_carryForward_0 13 rfl) hl (k := 2) rfl rfl (by decide) rfl (fun ls hl => ?_)
    refine lv_goto (tgt := 2) hx hb (kd tdlX0_carryForward_0 14 rfl) (by decide) ?_
    exact ih2 ((s2_.1 + 1), (upd s2_.2 (Int32.toNatClampNeg s2_.1) (vp_nar .boolean v17))) hF _ _ _ hP hD hS (lv_sub hl [1, 2, 0] rfl)
