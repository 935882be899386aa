set_option maxHeartbeats 4000000 in
set_option maxRecDepth 100000 in
theorem c_X8_backupOf (l : Launch) (D : va_G) (t : Nat → ClassId) (h0 : Nat) (g0 : Nat → Nat) (a_desk : Nat → Nat) (d_desk : DKT) (a_store : Nat → Nat) (d_store : SOT) (sz : Nat) (p1 : Int32) (p2 : Int32) (r : Nat × Int32 × SOT) (hF : F_X8_backupOf d_desk d_store p1 p2 = some r) (hst : l.stackTraces = false) : vx_Met l yX8_backupOf wX8_backupOf ({ frames := 6, cells := 1, slots := 6, locals := 110 } : Room) (kPx D (TY t) (kflat [(wx8 h0 g0), (wdk t (g0 1) a_desk d_desk), (wso t (g0 7) a_store d_store)]) [.ref h0, .int p1, .int p2] sz) (kQc D (TY t) (fun (u : Unit) => (kflat [(wx8 h0 g0), (wdk t (g0 1) a_desk d_desk), (wso t (g0 7) a_store r.2.2)])) r.1 r.2.1 (va_A (kflat [(wx8 h0 g0), (wdk t (g0 1) a_desk d_desk), (wso t (g0 7) a_store d_store)]) sz)) (kXc D (TY t) (fun (u : Unit) => (kflat [(wx8 h0 g0), (wdk t (g0 1) a_desk d_desk), (wso t (g0 7) a_store r.2.2)])) r.1 (va_A (kflat [(wx8 h0 g0), (wdk t (g0 1) a_desk d_desk), (wso t (g0 7) a_store d_store)]) sz)) 1 6 (va_A (kflat [(wx8 h0 g0), (wdk t (g0 1) a_desk d_desk), (wso t (g0 7) a_store d_store)]) sz) := by
  refine kEt (cc := cX8_backupOf) (maxL := 3) (ret := (some .int)) (Qx := fun A => kQc D (TY t) (fun (u : Unit) => (kflat [(wx8 h0 g0), (wdk t (g0 1) a_desk d_desk), (wso t (g0 7) a_store r.2.2)])) r.1 r.2.1 A) (Xx := fun A => kXc D (TY t) (fun (u : Unit) => (kflat [(wx8 h0 g0), (wdk t (g0 1) a_desk d_desk), (wso t (g0 7) a_store r.2.2)])) r.1 A) (lv0 := [(0, .ref h0), (1, .int p1), (2, .int p2)]) RX8 rfl (by decide) rfl (Nat.le_of_ble_eq_true rfl) rfl ?_
  intro p e s m args below meth c A ls hx hb hml hte hr hlocks hown hts hA hX hK hP hD hS hl
  have L19 := hts (.fieldLink RX8 19 "ChunkCarriers" "desk" "LChunkCarriers$Desk;") (List.mem_cons_of_mem _ w_21)
  have inX8_ : ∀ w ∈ wsX80, w ∈ wX8_backupOf := fun w h => List.mem_cons_of_mem _ (inlX8 w h)
  refine lv_aload_n hx hb (kd tdlX8_backupOf_0 0 rfl) rfl (lv_at hl 0 rfl) ?_
  refine va_get (D := D) (ci := 7) (v := .ref (g0 1)) (C := RX8) (T := TX8) (N := 9) hx hb hts inX8_ hown hK hP 0 rfl rfl 1 (by decide) L19 (fun _ h9 => h9) rfl (kd tdlX8_backupOf_0 1 rfl) ?_
  refine lv_iload_n hx hb (kd tdlX8_backupOf_0 2 rfl) rfl (lv_at hl 1 rfl) ?_
  obtain ⟨v5, e5, hF⟩ := kc hF
  refine kcL_i (S := Unit) (wf := (fun (_ : Unit) => [(wdk t (g0 1) a_desk d_desk)])) hP hD hS hA nd_1 rfl (fun _ => rfl) (kL_V (Qx := (fun A => kQi D (TY t) (kflat [(wdk t (g0 1) a_desk d_desk)]) v5 A)) (cs := [(wdk t (g0 1) a_desk d_desk)]) (is := [1]) (As := [.int p1]) (rest := []) ⟨hx, hb, hml, hown, hts⟩ hK hP hD nd_1 rfl (c_X1_hasBackup l D t (g0 1) a_desk d_desk _ p1 v5 e5) (cwV 1 hts (gcX1_hasBackup w_514) rfl rfl rfl hdX1_hasBackupV ⟨Nat.le_of_ble_eq_true rfl, Nat.le_of_ble_eq_true rfl⟩) (ci := 1) (q0 := 1) rfl rfl rfl hl.1 rfl (Nat.le_of_ble_eq_true rfl) (kd tdlX8_backupOf_0 3 rfl) ⟨Nat.le_of_ble_eq_true rfl, Nat.le_of_ble_eq_true rfl⟩) (fun _ H locs hP hD hS => ?_)
  have hP : va_P D vwCl (kflat [(wx8 h0 g0), (wdk t (g0 1) a_desk d_desk), (wso t (g0 7) a_store d_store)]) H := hP
  have hD : va_D A (kflat [(wx8 h0 g0), (wdk t (g0 1) a_desk d_desk), (wso t (g0 7) a_store d_store)]) := hD
  refine lv_if_ne (tgt := 19) hx hb (kd tdlX8_backupOf_0 4 rfl) (by decide) (fun hc8 => ?_) (fun hc8 => ?_)
  · have hF := kf hc8 hF
    refine lv_iload_n hx hb (kd tdlX8_backupOf_0 9 rfl) rfl (lv_at hl 2 rfl) ?_
    by_cases hw20 : (Int32.toInt p2 < 0 ∨ 4 < Int32.toInt p2)
    · have hF := kt hw20 hF
      refine lv_tableOut (tgt := 103) hx hb (kd tdlX8_backupOf_0 10 rfl) hw20 (by decide) ?_
      cases ko hF
      exact kthr_A () hx hb hst hown hts hX hK hP hD hS (hl.1.trans hml.symm) hte hlocks (Or.inr (Or.inl ⟨rfl, rfl⟩)) (Nat.le_of_ble_eq_true rfl) (Nat.le_of_ble_eq_true rfl) (Nat.le_of_ble_eq_true rfl) (Nat.le_of_ble_eq_true rfl) (Nat.le_of_ble_eq_true rfl) (Nat.le_of_ble_eq_true rfl) (kd tdlX8_backupOf_0 38 rfl) (kd tdlX8_backupOf_0 39 rfl) (kd tdlX8_backupOf_0 40 rfl) (kd tdlX8_backupOf_0 41 rfl)
    · have hF := kf hw20 hF
      by_cases hv20_0 : p2 = 0
      · have hF := kt hv20_0 hF
        refine ksw (n := 0) (off := (36)) (tgt := 56) hx hb (kd tdlX8_backupOf_0 10 rfl) hv20_0 (by decide) (by decide) (by decide) (by decide) ?_
        refine lv_aload_n hx hb (kd tdlX8_backupOf_0 11 rfl) rfl (lv_at hl 0 rfl) ?_
        refine va_get (D := D) (ci := 7) (v := .ref (g0 1)) (C := RX8) (T := TX8) (N := 9) hx hb hts inX8_ hown hK hP 0 rfl rfl 1 (by decide) L19 (fun _ h9 => h9) rfl (kd tdlX8_backupOf_0 12 rfl) ?_
        refine lv_iload_n hx hb (kd tdlX8_backupOf_0 13 rfl) rfl (lv_at hl 1 rfl) ?_
        obtain ⟨v61, e61, hF⟩ := kc hF
        refine kcL_i (S := Unit) (wf := (fun (_ : Unit) => [(wdk t (g0 1) a_desk d_desk)])) hP hD hS hA nd_1 rfl (fun _ => rfl) (kL_V (Qx := (fun A => kQi D (TY t) (kflat [(wdk t (g0 1) a_desk d_desk)]) v61 A)) (cs := [(wdk t (g0 1) a_desk d_desk)]) (is := [1]) (As := [.int p1]) (rest := []) ⟨hx, hb, hml, hown, hts⟩ hK hP hD nd_1 rfl (c_X1_chunksOf l D t (g0 1) a_desk d_desk _ p1 v61 e61) (cwV 1 hts (gcX1_chunksOf w_515) rfl rfl rfl hdX1_chunksOfV ⟨Nat.le_of_ble_eq_true rfl, Nat.le_of_ble_eq_true rfl⟩) (ci := 1) (q0 := 1) rfl rfl rfl hl.1 rfl (Nat.le_of_ble_eq_true rfl) (kd tdlX8_backupOf_0 14 rfl) ⟨Nat.le_of_ble_eq_true rfl, Nat.le_of_ble_eq_true rfl⟩) (fun _ H locs hP hD hS => ?_)
        have hP : va_P D vwCl (kflat [(wx8 h0 g0), (wdk t (g0 1) a_desk d_desk), (wso t (g0 7) a_store d_store)]) H := hP
        have hD : va_D A (kflat [(wx8 h0 g0), (wdk t (g0 1) a_desk d_desk), (wso t (g0 7) a_store d_store)]) := hD
        cases ko hF
        exact ket_i () hx hb hr hlocks hK hP hD hS rfl rfl (Nat.le_of_ble_eq_true rfl) (Nat.le_of_ble_eq_true rfl) (kd tdlX8_backupOf_0 15 rfl)
      · have hF := kf hv20_0 hF
        by_cases hv20_1 : p2 = 1
        · have hF := kt hv20_1 hF
          refine ksw (n := 1) (off := (45)) (tgt := 65) hx hb (kd tdlX8_backupOf_0 10 rfl) hv20_1 (by decide) (by decide) (by decide) (by decide) ?_
          refine lv_aload_n hx hb (kd tdlX8_backupOf_0 16 rfl) rfl (lv_at hl 0 rfl) ?_
          refine va_get (D := D) (ci := 7) (v := .ref (g0 1)) (C := RX8) (T := TX8) (N := 9) hx hb hts inX8_ hown hK hP 0 rfl rfl 1 (by decide) L19 (fun _ h9 => h9) rfl (kd tdlX8_backupOf_0 17 rfl) ?_
          refine lv_iload_n hx hb (kd tdlX8_backupOf_0 18 rfl) rfl (lv_at hl 1 rfl) ?_
          obtain ⟨v70, e70, hF⟩ := kc hF
          refine kcL_i (S := Unit) (wf := (fun (_ : Unit) => [(wdk t (g0 1) a_desk d_desk)])) hP hD hS hA nd_1 rfl (fun _ => rfl) (kL_V (Qx := (fun A => kQi D (TY t) (kflat [(wdk t (g0 1) a_desk d_desk)]) v70 A)) (cs := [(wdk t (g0 1) a_desk d_desk)]) (is := [1]) (As := [.int p1]) (rest := []) ⟨hx, hb, hml, hown, hts⟩ hK hP hD nd_1 rfl (c_X1_lettersOf l D t (g0 1) a_desk d_desk _ p1 v70 e70) (cwV 1 hts (gcX1_lettersOf w_516) rfl rfl rfl hdX1_lettersOfV ⟨Nat.le_of_ble_eq_true rfl, Nat.le_of_ble_eq_true rfl⟩) (ci := 1) (q0 := 1) rfl rfl rfl hl.1 rfl (Nat.le_of_ble_eq_true rfl) (kd tdlX8_backupOf_0 19 rfl) ⟨Nat.le_of_ble_eq_true rfl, Nat.le_of_ble_eq_true rfl⟩) (fun _ H locs hP hD hS => ?_)
          have hP : va_P D vwCl (kflat [(wx8 h0 g0), (wdk t (g0 1) a_desk d_desk), (wso t (g0 7) a_store d_store)]) H := hP
          have hD : va_D A (kflat [(wx8 h0 g0), (wdk t (g0 1) a_desk d_desk), (wso t (g0 7) a_store d_store)]) := hD
          cases ko hF
          exact ket_i () hx hb hr hlocks hK hP hD hS rfl rfl (Nat.le_of_ble_eq_true rfl) (Nat.le_of_ble_eq_true rfl) (kd tdlX8_backupOf_0 20 rfl)
        · have hF := kf hv20_1 hF
          by_cases hv20_2 : p2 = 2
          · have hF := kt hv20_2 hF
            refine ksw (n := 2) (off := (54)) (tgt := 74) hx hb (kd tdlX8_backupOf_0 10 rfl) hv20_2 (by decide) (by decide) (by decide) (by decide) ?_
            refine lv_aload_n hx hb (kd tdlX8_backupOf_0 21 rfl) rfl (lv_at hl 0 rfl) ?_
            refine va_get (D := D) (ci := 7) (v := .ref (g0 1)) (C := RX8) (T := TX8) (N := 9) hx hb hts inX8_ hown hK hP 0 rfl rfl 1 (by decide) L19 (fun _ h9 => h9) rfl (kd tdlX8_backupOf_0 22 rfl) ?_
            refine lv_iload_n hx hb (kd tdlX8_backupOf_0 23 rfl) rfl (lv_at hl 1 rfl) ?_
            obtain ⟨v79, e79, hF⟩ := kc hF
            refine kcL_i (S := Unit) (wf := (fun (_ : Unit) => [(wdk t (g0 1) a_desk d_desk)])) hP hD hS hA nd_1 rfl (fun _ => rfl) (kL_V (Qx := (fun A => kQi D (TY t) (kflat [(wdk t (g0 1) a_desk d_desk)]) v79 A)) (cs := [(wdk t (g0 1) a_desk d_desk)]) (is := [1]) (As := [.int p1]) (rest := []) ⟨hx, hb, hml, hown, hts⟩ hK hP hD nd_1 rfl (c_X1_containersOf l D t (g0 1) a_desk d_desk _ p1 v79 e79) (cwV 1 hts (gcX1_containersOf w_521) rfl rfl rfl hdX1_containersOfV ⟨Nat.le_of_ble_eq_true rfl, Nat.le_of_ble_eq_true rfl⟩) (ci := 1) (q0 := 1) rfl rfl rfl hl.1 rfl (Nat.le_of_ble_eq_true rfl) (kd tdlX8_backupOf_0 24 rfl) ⟨Nat.le_of_ble_eq_true rfl, Nat.le_of_ble_eq_true rfl⟩) (fun _ H locs hP hD hS => ?_)
            have hP : va_P D vwCl (kflat [(wx8 h0 g0), (wdk t (g0 1) a_desk d_desk), (wso t (g0 7) a_store d_store)]) H := hP
            have hD : va_D A (kflat [(wx8 h0 g0), (wdk t (g0 1) a_desk d_desk), (wso t (g0 7) a_store d_store)]) := hD
            cases ko hF
            exact ket_i () hx hb hr hlocks hK hP hD hS rfl rfl (Nat.le_of_ble_eq_true rfl) (Nat.le_of_ble_eq_true rfl) (kd tdlX8_backupOf_0 25 rfl)
          · have hF := kf hv20_2 hF
            by_cases hv20_3 : p2 = 3
            · have hF := kt hv20_3 hF
              refine ksw (n := 3) (off := (63)) (tgt := 83) hx hb (kd tdlX8_backupOf_0 10 rfl) hv20_3 (by decide) (by decide) (by decide) (by decide) ?_
              refine lv_aload_n hx hb (kd tdlX8_backupOf_0 26 rfl) rfl (lv_at hl 0 rfl) ?_
              refine lv_aload_n hx hb (kd tdlX8_backupOf_0 27 rfl) rfl (lv_at hl 0 rfl) ?_
              refine va_get (D := D) (ci := 7) (v := .ref (g0 1)) (C := RX8) (T := TX8) (N := 9) hx hb hts inX8_ hown hK hP 0 rfl rfl 1 (by decide) L19 (fun _ h9 => h9) rfl (kd tdlX8_backupOf_0 28 rfl) ?_
              refine lv_iload_n hx hb (kd tdlX8_backupOf_0 29 rfl) rfl (lv_at hl 1 rfl) ?_
              obtain ⟨v89, e89, hF⟩ := kc hF
              refine kcL_i (S := Unit) (wf := (fun (_ : Unit) => [(wx8 h0 g0), (wso t (g0 7) a_store v89.2), (wdk t (g0 1) a_desk d_desk)])) hP hD hS hA nd_0_2_1 rfl (fun _ => rfl) (kL_VX (Qx := (fun A => kQiS D (TY t) (fun (u89 : Unit) => kflat [(wx8 h0 g0), (wso t (g0 7) a_store v89.2), (wdk t (g0 1) a_desk d_desk)]) v89.1 A)) (cs := [(wx8 h0 g0), (wso t (g0 7) a_store d_store), (wdk t (g0 1) a_desk d_desk)]) (is := [0, 2, 1]) (As := [.ref (g0 1), .int p1]) (rest := []) ⟨hx, hb, hml, hown, hts⟩ hX hS hA hK hP hD nd_0_2_1 rfl (c_X8_loads l D t h0 g0 a_store d_store (g0 1) a_desk d_desk _ p1 v89 e89) (cwV 2 hts (gcX8_loads w_525) rfl rfl rfl hdX8_loadsV ⟨Nat.le_of_ble_eq_true rfl, Nat.le_of_ble_eq_true rfl⟩) (ci := 7) (q0 := 0) rfl rfl rfl hl.1 rfl (Nat.le_of_ble_eq_true rfl) (kd tdlX8_backupOf_0 30 rfl) ⟨Nat.le_of_ble_eq_true rfl, Nat.le_of_ble_eq_true rfl⟩) (fun _ H locs hP hD hS => ?_)
              have hP : va_P D vwCl (kflat [(wx8 h0 g0), (wdk t (g0 1) a_desk d_desk), (wso t (g0 7) a_store v89.2)]) H := hP
              have hD : va_D A (kflat [(wx8 h0 g0), (wdk t (g0 1) a_desk d_desk), (wso t (g0 7) a_store v89.2)]) := hD
              cases ko hF
              exact ket_i () hx hb hr hlocks hK hP hD hS rfl rfl (Nat.le_of_ble_eq_true rfl) (Nat.le_of_ble_eq_true rfl) (kd tdlX8_backupOf_0 31 rfl)
            · have hF := kf hv20_3 hF
              have hv20_4 : p2 = 4 := keq (k := 4) (by have a0 := kne hv20_0 (k := 0) (by decide); have a1 := kne hv20_1 (k := 1) (by decide); have a2 := kne hv20_2 (k := 2) (by decide); have a3 := kne hv20_3 (k := 3) (by decide); omega) (by decide)
              refine ksw (n := 4) (off := (73)) (tgt := 93) hx hb (kd tdlX8_backupOf_0 10 rfl) hv20_4 (by decide) (by decide) (by decide) (by decide) ?_
              refine lv_aload_n hx hb (kd tdlX8_backupOf_0 32 rfl) rfl (lv_at hl 0 rfl) ?_
              refine lv_aload_n hx hb (kd tdlX8_backupOf_0 33 rfl) rfl (lv_at hl 0 rfl) ?_
              refine va_get (D := D) (ci := 7) (v := .ref (g0 1)) (C := RX8) (T := TX8) (N := 9) hx hb hts inX8_ hown hK hP 0 rfl rfl 1 (by decide) L19 (fun _ h9 => h9) rfl (kd tdlX8_backupOf_0 34 rfl) ?_
              refine lv_iload_n hx hb (kd tdlX8_backupOf_0 35 rfl) rfl (lv_at hl 1 rfl) ?_
              obtain ⟨v99, e99, hF⟩ := kc hF
              refine kcL_i (S := Unit) (wf := (fun (_ : Unit) => [(wx8 h0 g0), (wso t (g0 7) a_store v99.2), (wdk t (g0 1) a_desk d_desk)])) hP hD hS hA nd_0_2_1 rfl (fun _ => rfl) (kL_VX (Qx := (fun A => kQiS D (TY t) (fun (u99 : Unit) => kflat [(wx8 h0 g0), (wso t (g0 7) a_store v99.2), (wdk t (g0 1) a_desk d_desk)]) v99.1 A)) (cs := [(wx8 h0 g0), (wso t (g0 7) a_store d_store), (wdk t (g0 1) a_desk d_desk)]) (is := [0, 2, 1]) (As := [.ref (g0 1), .int p1]) (rest := []) ⟨hx, hb, hml, hown, hts⟩ hX hS hA hK hP hD nd_0_2_1 rfl (c_X8_jumps l D t h0 g0 a_store d_store (g0 1) a_desk d_desk _ p1 v99 e99) (cwV 2 hts (gcX8_jumps w_555) rfl rfl rfl hdX8_jumpsV ⟨Nat.le_of_ble_eq_true rfl, Nat.le_of_ble_eq_true rfl⟩) (ci := 7) (q0 := 0) rfl rfl rfl hl.1 rfl (Nat.le_of_ble_eq_true rfl) (kd tdlX8_backupOf_0 36 rfl) ⟨Nat.le_of_ble_eq_true rfl, Nat.le_of_ble_eq_true rfl⟩) (fun _ H locs hP hD hS => ?_)
              have hP : va_P D vwCl (kflat [(wx8 h0 g0), (wdk t (g0 1) a_desk d_desk), (wso t (g0 7) a_store v99.2)]) H := hP
              have hD : va_D A (kflat [(wx8 h0 g0), (wdk t (g0 1) a_desk d_desk), (wso t (g0 7) a_store v99.2)]) := hD
              cases ko hF
              exact ket_i () hx hb hr hlocks hK hP hD hS rfl rfl (Nat.le_of_ble_eq_true rfl) (Nat.le_of_ble_eq_true rfl) (kd tdlX8_backupOf_0 37 rfl)
  · have hF := kt hc8 hF
    cases ko hF
    exact kthr_I () hx hb hst hown hts hX hK hP hD hS (hl.1.trans hml.symm) hte hlocks (Or.inl ⟨rfl, rfl⟩) (Nat.le_of_ble_eq_true rfl) (Nat.le_of_ble_eq_true rfl) (Nat.le_of_ble_eq_true rfl) (Nat.le_of_ble_eq_true rfl) (Nat.le_of_ble_eq_true rfl) (Nat.le_of_ble_eq_true rfl) (kd tdlX8_backupOf_0 5 rfl) (kd tdlX8_backupOf_0 6 rfl) (kd tdlX8_backupOf_0 7 rfl) (kd tdlX8_backupOf_0 8 rfl)
set_option maxHeartbeats 4000000 in
set_option maxRecDepth 100000 in
theorem c_X8_reference (l : Launch) (D : va_G) (t : Nat → ClassId) (h0 : Nat) (g0 : Nat → Nat) (a_desk : Nat → Nat) (d_desk : DKT) (sz : Nat) (p1 : Int32) (p2 : Int32) (p3 : Int32) (r : Nat × Int32) (hF : F_X8_reference d_desk p1 p2 p3 = some r) (hst : l.stackTraces = false) : vx_Met l yX8_reference wX8_reference ({ frames := 6, cells := 1, slots := 6, locals := 89 } : Room) (kPx D (TY t) (kflat [(wx8 h0 g0), (wdk t (g0 1) a_desk d_desk)]) [.ref h0, .int p1, .int p2, .int p3] sz) (kQc D (TY t) (fun (u : Unit) => (kflat [(wx8 h0 g0), (wdk t (g0 1) a_desk d_desk)])) r.1 r.2 (va_A (kflat [(wx8 h0 g0), (wdk t (g0 1) a_desk d_desk)]) sz)) (kXc D (TY t) (fun (u : Unit) => (kflat [(wx8 h0 g0), (wdk t (g0 1) a_desk d_desk)])) r.1 (va_A (kflat [(wx8 h0 g0), (wdk t (g0 1) a_desk d_desk)]) sz)) 1 6 (va_A (kflat [(wx8 h0 g0), (wdk t (g0 1) a_desk d_desk)]) sz) := by
  refine kEt (cc := cX8_reference) (maxL := 6) (ret := (some .int)) (Qx := fun A => kQc D (TY t) (fun (u : Unit) => (kflat [(wx8 h0 g0), (wdk t (g0 1) a_desk d_desk)])) r.1 r.2 A) (Xx := fun A => kXc D (TY t) (fun (u : Unit) => (kflat [(wx8 h0 g0), (wdk t (g0 1) a_desk d_desk)])) r.1 A) (lv0 := [(0, .ref h0), (1, .int p1), (2, .int p2), (3, .int p3)]) RX8 rfl (by decide) rfl (Nat.le_of_ble_eq_true rfl) rfl ?_
  intro p e s m args below meth c A ls hx hb hml hte hr hlocks hown hts hA hX hK hP hD hS hl
  have L19 := hts (.fieldLink RX8 19 "ChunkCarriers" "desk" "LChunkCarriers$Desk;") (List.mem_cons_of_mem _ w_21)
  have inX8_ : ∀ w ∈ wsX80, w ∈ wX8_reference := fun w h => List.mem_cons_of_mem _ (inlX8 w h)
  refine lv_aload_n hx hb (kd tdlX8_reference_0 0 rfl) rfl (lv_at hl 0 rfl) ?_
  refine va_get (D := D) (ci := 7) (v := .ref (g0 1)) (C := RX8) (T := TX8) (N := 9) hx hb hts inX8_ hown hK hP 0 rfl rfl 1 (by decide) L19 (fun _ h9 => h9) rfl (kd tdlX8_reference_0 1 rfl) ?_
  refine lv_iload_n hx hb (kd tdlX8_reference_0 2 rfl) rfl (lv_at hl 1 rfl) ?_
  obtain ⟨v5, e5, hF⟩ := kc hF
  refine kcL_i (S := Unit) (wf := (fun (_ : Unit) => [(wdk t (g0 1) a_desk d_desk)])) hP hD hS hA nd_1 rfl (fun _ => rfl) (kL_V (Qx := (fun A => kQi D (TY t) (kflat [(wdk t (g0 1) a_desk d_desk)]) v5 A)) (cs := [(wdk t (g0 1) a_desk d_desk)]) (is := [1]) (As := [.int p1]) (rest := []) ⟨hx, hb, hml, hown, hts⟩ hK hP hD nd_1 rfl (c_X1_hasBackup l D t (g0 1) a_desk d_desk _ p1 v5 e5) (cwV 1 hts (gcX1_hasBackup w_514) rfl rfl rfl hdX1_hasBackupV ⟨Nat.le_of_ble_eq_true rfl, Nat.le_of_ble_eq_true rfl⟩) (ci := 1) (q0 := 1) rfl rfl rfl hl.1 rfl (Nat.le_of_ble_eq_true rfl) (kd tdlX8_reference_0 3 rfl) ⟨Nat.le_of_ble_eq_true rfl, Nat.le_of_ble_eq_true rfl⟩) (fun _ H locs hP hD hS => ?_)
  have hP : va_P D vwCl (kflat [(wx8 h0 g0), (wdk t (g0 1) a_desk d_desk)]) H := hP
  have hD : va_D A (kflat [(wx8 h0 g0), (wdk t (g0 1) a_desk d_desk)]) := hD
  refine lv_if_ne (tgt := 19) hx hb (kd tdlX8_reference_0 4 rfl) (by decide) (fun hc8 => ?_) (fun hc8 => ?_)
  · have hF := kf hc8 hF
    refine lv_iload_n hx hb (kd tdlX8_reference_0 9 rfl) rfl (lv_at hl 2 rfl) ?_
    refine lv_if_lt (tgt := 32) hx hb (kd tdlX8_reference_0 10 rfl) (by decide) (fun hc20 => ?_) (fun hc20 => ?_)
    · have hF := kt hc20 hF
      cases ko hF
      exact kthr_A () hx hb hst hown hts hX hK hP hD hS (hl.1.trans hml.symm) hte hlocks (Or.inr (Or.inl ⟨rfl, rfl⟩)) (Nat.le_of_ble_eq_true rfl) (Nat.le_of_ble_eq_true rfl) (Nat.le_of_ble_eq_true rfl) (Nat.le_of_ble_eq_true rfl) (Nat.le_of_ble_eq_true rfl) (Nat.le_of_ble_eq_true rfl) (kd tdlX8_reference_0 16 rfl) (kd tdlX8_reference_0 17 rfl) (kd tdlX8_reference_0 18 rfl) (kd tdlX8_reference_0 19 rfl)
    · have hF := kf hc20 hF
      refine lv_iload_n hx hb (kd tdlX8_reference_0 11 rfl) rfl (lv_at hl 3 rfl) ?_
      refine lv_if_lt (tgt := 32) hx hb (kd tdlX8_reference_0 12 rfl) (by decide) (fun hc24 => ?_) (fun hc24 => ?_)
      · have hF := kt hc24 hF
        cases ko hF
        exact kthr_A () hx hb hst hown hts hX hK hP hD hS (hl.1.trans hml.symm) hte hlocks (Or.inr (Or.inl ⟨rfl, rfl⟩)) (Nat.le_of_ble_eq_true rfl) (Nat.le_of_ble_eq_true rfl) (Nat.le_of_ble_eq_true rfl) (Nat.le_of_ble_eq_true rfl) (Nat.le_of_ble_eq_true rfl) (Nat.le_of_ble_eq_true rfl) (kd tdlX8_reference_0 16 rfl) (kd tdlX8_reference_0 17 rfl) (kd tdlX8_reference_0 18 rfl) (kd tdlX8_reference_0 19 rfl)
      · have hF := kf hc24 hF
        refine lv_iload_n hx hb (kd tdlX8_reference_0 13 rfl) rfl (lv_at hl 3 rfl) ?_
        refine lv_iconst (v := 1) hx hb (kd tdlX8_reference_0 14 rfl) (by decide) ?_
        refine lv_icmp_le (tgt := 40) hx hb (kd tdlX8_reference_0 15 rfl) (by decide) (fun hc29 => ?_) (fun hc29 => ?_)
        · have hF := kt hc29 hF
          refine lv_aload_n hx hb (kd tdlX8_reference_0 20 rfl) rfl (lv_at hl 0 rfl) ?_
          refine va_get (D := D) (ci := 7) (v := .ref (g0 1)) (C := RX8) (T := TX8) (N := 9) hx hb hts inX8_ hown hK hP 0 rfl rfl 1 (by decide) L19 (fun _ h9 => h9) rfl (kd tdlX8_reference_0 21 rfl) ?_
          refine lv_iload_n hx hb (kd tdlX8_reference_0 22 rfl) rfl (lv_at hl 1 rfl) ?_
          refine lv_iload_n hx hb (kd tdlX8_reference_0 23 rfl) rfl (lv_at hl 2 rfl) ?_
          obtain ⟨v46, e46, hF⟩ := kc hF
          refine kcL_i (S := Unit) (wf := (fun (_ : Unit) => [(wdk t (g0 1) a_desk d_desk)])) hP hD hS hA nd_1 rfl (fun _ => rfl) (kL_V (Qx := (fun A => kQi D (TY t) (kflat [(wdk t (g0 1) a_desk d_desk)]) v46 A)) (cs := [(wdk t (g0 1) a_desk d_desk)]) (is := [1]) (As := [.int p1, .int p2]) (rest := []) ⟨hx, hb, hml, hown, hts⟩ hK hP hD nd_1 rfl (c_X1_entryReferred l D t (g0 1) a_desk d_desk _ p1 p2 v46 e46) (cwV 2 hts (gcX1_entryReferred w_591) rfl rfl rfl hdX1_entryReferredV ⟨Nat.le_of_ble_eq_true rfl, Nat.le_of_ble_eq_true rfl⟩) (ci := 1) (q0 := 1) rfl rfl rfl hl.1 rfl (Nat.le_of_ble_eq_true rfl) (kd tdlX8_reference_0 24 rfl) ⟨Nat.le_of_ble_eq_true rfl, Nat.le_of_ble_eq_true rfl⟩) (fun _ H locs hP hD hS => ?_)
          have hP : va_P D vwCl (kflat [(wx8 h0 g0), (wdk t (g0 1) a_desk d_desk)]) H := hP
          have hD : va_D A (kflat [(wx8 h0 g0), (wdk t (g0 1) a_desk d_desk)]) := hD
          refine lv_istore (lv' := [(4, .int v46), (0, .ref h0), (1, .int p1), (2, .int p2), (3, .int p3)]) hx hb (kd tdlX8_reference_0 25 rfl) hl (by decide) rfl (fun ls hl => ?_)
          refine lv_iload hx hb (kd tdlX8_reference_0 26 rfl) (lv_at hl 0 rfl) ?_
          refine lv_iconst (v := (-1)) hx hb (kd tdlX8_reference_0 27 rfl) (by decide) ?_
          refine lv_icmp_ne (tgt := 59) hx hb (kd tdlX8_reference_0 28 rfl) (by decide) (fun hc54 => ?_) (fun hc54 => ?_)
          · have hF := kf hc54 hF
            refine lv_aload_n hx hb (kd tdlX8_reference_0 31 rfl) rfl (lv_at hl 1 rfl) ?_
            refine va_get (D := D) (ci := 7) (v := .ref (g0 1)) (C := RX8) (T := TX8) (N := 9) hx hb hts inX8_ hown hK hP 0 rfl rfl 1 (by decide) L19 (fun _ h9 => h9) rfl (kd tdlX8_reference_0 32 rfl) ?_
            refine lv_iload hx hb (kd tdlX8_reference_0 33 rfl) (lv_at hl 0 rfl) ?_
            obtain ⟨v65, e65, hF⟩ := kc hF
            refine kcL_i (S := Unit) (wf := (fun (_ : Unit) => [(wdk t (g0 1) a_desk d_desk)])) hP hD hS hA nd_1 rfl (fun _ => rfl) (kL_V (Qx := (fun A => kQi D (TY t) (kflat [(wdk t (g0 1) a_desk d_desk)]) v65 A)) (cs := [(wdk t (g0 1) a_desk d_desk)]) (is := [1]) (As := [.int v46]) (rest := []) ⟨hx, hb, hml, hown, hts⟩ hK hP hD nd_1 rfl (c_X1_placeOfEntry l D t (g0 1) a_desk d_desk _ v46 v65 e65) (cwV 1 hts (gcX1_placeOfEntry w_592) rfl rfl rfl hdX1_placeOfEntryV ⟨Nat.le_of_ble_eq_true rfl, Nat.le_of_ble_eq_true rfl⟩) (ci := 1) (q0 := 1) rfl rfl rfl hl.1 rfl (Nat.le_of_ble_eq_true rfl) (kd tdlX8_reference_0 34 rfl) ⟨Nat.le_of_ble_eq_true rfl, Nat.le_of_ble_eq_true rfl⟩) (fun _ H locs hP hD hS => ?_)
            have hP : va_P D vwCl (kflat [(wx8 h0 g0), (wdk t (g0 1) a_desk d_desk)]) H := hP
            have hD : va_D A (kflat [(wx8 h0 g0), (wdk t (g0 1) a_desk d_desk)]) := hD
            refine lv_istore (lv' := [(5, .int v65), (4, .int v46), (0, .ref h0), (1, .int p1), (2, .int p2), (3, .int p3)]) hx hb (kd tdlX8_reference_0 35 rfl) hl (by decide) rfl (fun ls hl => ?_)
            refine lv_iload_n hx hb (kd tdlX8_reference_0 36 rfl) rfl (lv_at hl 5 rfl) ?_
            refine lv_if_ne (tgt := 86) hx hb (kd tdlX8_reference_0 37 rfl) (by decide) (fun hc71 => ?_) (fun hc71 => ?_)
            · have hF := kf hc71 hF
              refine lv_iload hx hb (kd tdlX8_reference_0 43 rfl) (lv_at hl 1 rfl) ?_
              refine lv_aload_n hx hb (kd tdlX8_reference_0 44 rfl) rfl (lv_at hl 2 rfl) ?_
              refine va_get (D := D) (ci := 7) (v := .ref (g0 1)) (C := RX8) (T := TX8) (N := 9) hx hb hts inX8_ hown hK hP 0 rfl rfl 1 (by decide) L19 (fun _ h9 => h9) rfl (kd tdlX8_reference_1 0 rfl) ?_
              refine lv_iload hx hb (kd tdlX8_reference_1 1 rfl) (lv_at hl 0 rfl) ?_
              obtain ⟨v94, e94, hF⟩ := kc hF
              refine kcL_i (S := Unit) (wf := (fun (_ : Unit) => [(wdk t (g0 1) a_desk d_desk)])) hP hD hS hA nd_1 rfl (fun _ => rfl) (kL_V (Qx := (fun A => kQi D (TY t) (kflat [(wdk t (g0 1) a_desk d_desk)]) v94 A)) (cs := [(wdk t (g0 1) a_desk d_desk)]) (is := [1]) (As := [.int v65]) (rest := [.int v46]) ⟨hx, hb, hml, hown, hts⟩ hK hP hD nd_1 rfl (c_X1_firstEntryAt l D t (g0 1) a_desk d_desk _ v65 v94 e94) (cwV 1 hts (gcX1_firstEntryAt w_494) rfl rfl rfl hdX1_firstEntryAtV ⟨Nat.le_of_ble_eq_true rfl, Nat.le_of_ble_eq_true rfl⟩) (ci := 1) (q0 := 1) rfl rfl rfl hl.1 rfl (Nat.le_of_ble_eq_true rfl) (kd tdlX8_reference_1 2 rfl) ⟨Nat.le_of_ble_eq_true rfl, Nat.le_of_ble_eq_true rfl⟩) (fun _ H locs hP hD hS => ?_)
              have hP : va_P D vwCl (kflat [(wx8 h0 g0), (wdk t (g0 1) a_desk d_desk)]) H := hP
              have hD : va_D A (kflat [(wx8 h0 g0), (wdk t (g0 1) a_desk d_desk)]) := hD
              refine lv_isub hx hb (kd tdlX8_reference_1 3 rfl) ?_
              cases ko hF
              exact ket_i () hx hb hr hlocks hK hP hD hS rfl rfl (Nat.le_of_ble_eq_true rfl) (Nat.le_of_ble_eq_true rfl) (kd tdlX8_reference_1 4 rfl)
            · have hF := kt hc71 hF
              refine lv_aload_n hx hb (kd tdlX8_reference_0 38 rfl) rfl (lv_at hl 2 rfl) ?_
              refine va_get (D := D) (ci := 7) (v := .ref (g0 1)) (C := RX8) (T := TX8) (N := 9) hx hb hts inX8_ hown hK hP 0 rfl rfl 1 (by decide) L19 (fun _ h9 => h9) rfl (kd tdlX8_reference_0 39 rfl) ?_
              refine lv_iload hx hb (kd tdlX8_reference_0 40 rfl) (lv_at hl 0 rfl) ?_
              obtain ⟨v80, e80, hF⟩ := kc hF
              refine kcL_i (S := Unit) (wf := (fun (_ : Unit) => [(wdk t (g0 1) a_desk d_desk)])) hP hD hS hA nd_1 rfl (fun _ => rfl) (kL_V (Qx := (fun A => kQi D (TY t) (kflat [(wdk t (g0 1) a_desk d_desk)]) v80 A)) (cs := [(wdk t (g0 1) a_desk d_desk)]) (is := [1]) (As := [.int v65]) (rest := []) ⟨hx, hb, hml, hown, hts⟩ hK hP hD nd_1 rfl (c_X1_numberAt l D t (g0 1) a_desk d_desk _ v65 v80 e80) (cwV 1 hts (gcX1_numberAt w_262) rfl rfl rfl hdX1_numberAtV ⟨Nat.le_of_ble_eq_true rfl, Nat.le_of_ble_eq_true rfl⟩) (ci := 1) (q0 := 1) rfl rfl rfl hl.1 rfl (Nat.le_of_ble_eq_true rfl) (kd tdlX8_reference_0 41 rfl) ⟨Nat.le_of_ble_eq_true rfl, Nat.le_of_ble_eq_true rfl⟩) (fun _ H locs hP hD hS => ?_)
              have hP : va_P D vwCl (kflat [(wx8 h0 g0), (wdk t (g0 1) a_desk d_desk)]) H := hP
              have hD : va_D A (kflat [(wx8 h0 g0), (wdk t (g0 1) a_desk d_desk)]) := hD
              refine lv_goto (tgt := 98) hx hb (kd tdlX8_reference_0 42 rfl) (by decide) ?_
              cases ko hF
              exact ket_i () hx hb hr hlocks hK hP hD hS rfl rfl (Nat.le_of_ble_eq_true rfl) (Nat.le_of_ble_eq_true rfl) (kd tdlX8_reference_1 4 rfl)
          · have hF := kt hc54 hF
            refine lv_iconst (v := (-1)) hx hb (kd tdlX8_reference_0 29 rfl) (by decide) ?_
            cases ko hF
            exact ket_i () hx hb hr hlocks hK hP hD hS rfl rfl (Nat.le_of_ble_eq_true rfl) (Nat.le_of_ble_eq_true rfl) (kd tdlX8_reference_0 30 rfl)
        · have hF := kf hc29 hF
          cases ko hF
          exact kthr_A () hx hb hst hown hts hX hK hP hD hS (hl.1.trans hml.symm) hte hlocks (Or.inr (Or.inl ⟨rfl, rfl⟩)) (Nat.le_of_ble_eq_true rfl) (Nat.le_of_ble_eq_true rfl) (Nat.le_of_ble_eq_true rfl) (Nat.le_of_ble_eq_true rfl) (Nat.le_of_ble_eq_true rfl) (Nat.le_of_ble_eq_true rfl) (kd tdlX8_reference_0 16 rfl) (kd tdlX8_reference_0 17 rfl) (kd tdlX8_reference_0 18 rfl) (kd tdlX8_reference_0 19 rfl)
  · have hF := kt hc8 hF
    cases ko hF
    exact kthr_I () hx hb hst hown hts hX hK hP hD hS (hl.1.trans hml.symm) hte hlocks (Or.inl ⟨rfl, rfl⟩) (Nat.le_of_ble_eq_true rfl) (Nat.le_of_ble_eq_true rfl) (Nat.le_of_ble_eq_true rfl) (Nat.le_of_ble_eq_true rfl) (Nat.le_of_ble_eq_true rfl) (Nat.le_of_ble_eq_true rfl) (kd tdlX8_reference_0 5 rfl) (kd tdlX8_reference_0 6 rfl) (kd tdlX8_reference_0 7 rfl) (kd tdlX8_reference_0 8 rfl)
set_option maxHeartbeats 4000000 in
set_option maxRecDepth 100000 in
theorem c_X8_letter (l : Launch) (D : va_G) (t : Nat → ClassId) (h0 : Nat) (g0 : Nat → Nat) (a_desk : Nat → Nat) (d_desk : DKT) (sz : Nat) (p1 : Int32) (p2 : Int32) (r : Nat × Int32) (hF : F_X8_letter d_desk p1 p2 = some r) (hst : l.stackTraces = false) : vx_Met l yX8_letter wX8_letter ({ frames := 6, cells := 1, slots := 6, locals := 90 } : Room) (kPx D (TY t) (kflat [(wx8 h0 g0), (wdk t (g0 1) a_desk d_desk)]) [.ref h0, .int p1, .int p2] sz) (kQc D (TY t) (fun (u : Unit) => (kflat [(wx8 h0 g0), (wdk t (g0 1) a_desk d_desk)])) r.1 r.2 (va_A (kflat [(wx8 h0 g0), (wdk t (g0 1) a_desk d_desk)]) sz)) (kXc D (TY t) (fun (u : Unit) => (kflat [(wx8 h0 g0), (wdk t (g0 1) a_desk d_desk)])) r.1 (va_A (kflat [(wx8 h0 g0), (wdk t (g0 1) a_desk d_desk)]) sz)) 1 6 (va_A (kflat [(wx8 h0 g0), (wdk t (g0 1) a_desk d_desk)]) sz) := by
  refine kEt (cc := cX8_letter) (maxL := 3) (ret := (some .int)) (Qx := fun A => kQc D (TY t) (fun (u : Unit) => (kflat [(wx8 h0 g0), (wdk t (g0 1) a_desk d_desk)])) r.1 r.2 A) (Xx := fun A => kXc D (TY t) (fun (u : Unit) => (kflat [(wx8 h0 g0), (wdk t (g0 1) a_desk d_desk)])) r.1 A) (lv0 := [(0, .ref h0), (1, .int p1), (2, .int p2)]) RX8 rfl (by decide) rfl (Nat.le_of_ble_eq_true rfl) rfl ?_
  intro p e s m args below meth c A ls hx hb hml hte hr hlocks hown hts hA hX hK hP hD hS hl
  have L19 := hts (.fieldLink RX8 19 "ChunkCarriers" "desk" "LChunkCarriers$Desk;") (List.mem_cons_of_mem _ w_21)
  have inX8_ : ∀ w ∈ wsX80, w ∈ wX8_letter := fun w h => List.mem_cons_of_mem _ (inlX8 w h)
  refine lv_aload_n hx hb (kd tdlX8_letter_0 0 rfl) rfl (lv_at hl 0 rfl) ?_
  refine va_get (D := D) (ci := 7) (v := .ref (g0 1)) (C := RX8) (T := TX8) (N := 9) hx hb hts inX8_ hown hK hP 0 rfl rfl 1 (by decide) L19 (fun _ h9 => h9) rfl (kd tdlX8_letter_0 1 rfl) ?_
  refine lv_iload_n hx hb (kd tdlX8_letter_0 2 rfl) rfl (lv_at hl 1 rfl) ?_
  obtain ⟨v5, e5, hF⟩ := kc hF
  refine kcL_i (S := Unit) (wf := (fun (_ : Unit) => [(wdk t (g0 1) a_desk d_desk)])) hP hD hS hA nd_1 rfl (fun _ => rfl) (kL_V (Qx := (fun A => kQi D (TY t) (kflat [(wdk t (g0 1) a_desk d_desk)]) v5 A)) (cs := [(wdk t (g0 1) a_desk d_desk)]) (is := [1]) (As := [.int p1]) (rest := []) ⟨hx, hb, hml, hown, hts⟩ hK hP hD nd_1 rfl (c_X1_hasBackup l D t (g0 1) a_desk d_desk _ p1 v5 e5) (cwV 1 hts (gcX1_hasBackup w_514) rfl rfl rfl hdX1_hasBackupV ⟨Nat.le_of_ble_eq_true rfl, Nat.le_of_ble_eq_true rfl⟩) (ci := 1) (q0 := 1) rfl rfl rfl hl.1 rfl (Nat.le_of_ble_eq_true rfl) (kd tdlX8_letter_0 3 rfl) ⟨Nat.le_of_ble_eq_true rfl, Nat.le_of_ble_eq_true rfl⟩) (fun _ H locs hP hD hS => ?_)
  have hP : va_P D vwCl (kflat [(wx8 h0 g0), (wdk t (g0 1) a_desk d_desk)]) H := hP
  have hD : va_D A (kflat [(wx8 h0 g0), (wdk t (g0 1) a_desk d_desk)]) := hD
  refine lv_if_ne (tgt := 19) hx hb (kd tdlX8_letter_0 4 rfl) (by decide) (fun hc8 => ?_) (fun hc8 => ?_)
  · have hF := kf hc8 hF
    refine lv_iload_n hx hb (kd tdlX8_letter_0 9 rfl) rfl (lv_at hl 2 rfl) ?_
    refine lv_if_ge (tgt := 31) hx hb (kd tdlX8_letter_0 10 rfl) (by decide) (fun hc20 => ?_) (fun hc20 => ?_)
    · have hF := kt hc20 hF
      refine lv_aload_n hx hb (kd tdlX8_letter_0 15 rfl) rfl (lv_at hl 0 rfl) ?_
      refine va_get (D := D) (ci := 7) (v := .ref (g0 1)) (C := RX8) (T := TX8) (N := 9) hx hb hts inX8_ hown hK hP 0 rfl rfl 1 (by decide) L19 (fun _ h9 => h9) rfl (kd tdlX8_letter_0 16 rfl) ?_
      refine lv_iload_n hx hb (kd tdlX8_letter_0 17 rfl) rfl (lv_at hl 1 rfl) ?_
      refine lv_iload_n hx hb (kd tdlX8_letter_0 18 rfl) rfl (lv_at hl 2 rfl) ?_
      obtain ⟨v37, e37, hF⟩ := kc hF
      refine kcL_i (S := Unit) (wf := (fun (_ : Unit) => [(wdk t (g0 1) a_desk d_desk)])) hP hD hS hA nd_1 rfl (fun _ => rfl) (kL_V (Qx := (fun A => kQi D (TY t) (kflat [(wdk t (g0 1) a_desk d_desk)]) v37 A)) (cs := [(wdk t (g0 1) a_desk d_desk)]) (is := [1]) (As := [.int p1, .int p2]) (rest := []) ⟨hx, hb, hml, hown, hts⟩ hK hP hD nd_1 rfl (c_X1_signOf l D t (g0 1) a_desk d_desk _ p1 p2 v37 e37) (cwV 2 hts (gcX1_signOf w_604) rfl rfl rfl hdX1_signOfV ⟨Nat.le_of_ble_eq_true rfl, Nat.le_of_ble_eq_true rfl⟩) (ci := 1) (q0 := 1) rfl rfl rfl hl.1 rfl (Nat.le_of_ble_eq_true rfl) (kd tdlX8_letter_0 19 rfl) ⟨Nat.le_of_ble_eq_true rfl, Nat.le_of_ble_eq_true rfl⟩) (fun _ H locs hP hD hS => ?_)
      have hP : va_P D vwCl (kflat [(wx8 h0 g0), (wdk t (g0 1) a_desk d_desk)]) H := hP
      have hD : va_D A (kflat [(wx8 h0 g0), (wdk t (g0 1) a_desk d_desk)]) := hD
      cases ko hF
      exact ket_i () hx hb hr hlocks hK hP hD hS rfl rfl (Nat.le_of_ble_eq_true rfl) (Nat.le_of_ble_eq_true rfl) (kd tdlX8_letter_0 20 rfl)
    · have hF := kf hc20 hF
      cases ko hF
      exact kthr_A () hx hb hst hown hts hX hK hP hD hS (hl.1.trans hml.symm) hte hlocks (Or.inr (Or.inl ⟨rfl, rfl⟩)) (Nat.le_of_ble_eq_true rfl) (Nat.le_of_ble_eq_true rfl) (Nat.le_of_ble_eq_true rfl) (Nat.le_of_ble_eq_true rfl) (Nat.le_of_ble_eq_true rfl) (Nat.le_of_ble_eq_true rfl) (kd tdlX8_letter_0 11 rfl) (kd tdlX8_letter_0 12 rfl) (kd tdlX8_letter_0 13 rfl) (kd tdlX8_letter_0 14 rfl)
  · have hF := kt hc8 hF
    cases ko hF
    exact kthr_I () hx hb hst hown hts hX hK hP hD hS (hl.1.trans hml.symm) hte hlocks (Or.inl ⟨rfl, rfl⟩) (Nat.le_of_ble_eq_true rfl) (Nat.le_of_ble_eq_true rfl) (Nat.le_of_ble_eq_true rfl) (Nat.le_of_ble_eq_true rfl) (Nat.le_of_ble_eq_true rfl) (Nat.le_of_ble_eq_true rfl) (kd tdlX8_letter_0 5 rfl) (kd tdlX8_letter_0 6 rfl) (kd tdlX8_letter_0 7 rfl) (kd tdlX8_letter_0 8 rfl)
set_option maxHeartbeats 4000000 in
set_option maxRecDepth 100000 in
theorem c_X8_setting (l : Launch) (D : va_G) (t : Nat → ClassId) (h0 : Nat) (g0 : Nat → Nat) (a_desk : Nat → Nat) (d_desk : DKT) (sz : Nat) (p1 : Int32) (r : Nat × Int32) (hF : F_X8_setting d_desk p1 = some r) (hst : l.stackTraces = false) : vx_Met l yX8_setting wX8_setting ({ frames := 6, cells := 1, slots := 6, locals := 89 } : Room) (kPx D (TY t) (kflat [(wx8 h0 g0), (wdk t (g0 1) a_desk d_desk)]) [.ref h0, .int p1] sz) (kQc D (TY t) (fun (u : Unit) => (kflat [(wx8 h0 g0), (wdk t (g0 1) a_desk d_desk)])) r.1 r.2 (va_A (kflat [(wx8 h0 g0), (wdk t (g0 1) a_desk d_desk)]) sz)) (kXc D (TY t) (fun (u : Unit) => (kflat [(wx8 h0 g0), (wdk t (g0 1) a_desk d_desk)])) r.1 (va_A (kflat [(wx8 h0 g0), (wdk t (g0 1) a_desk d_desk)]) sz)) 1 6 (va_A (kflat [(wx8 h0 g0), (wdk t (g0 1) a_desk d_desk)]) sz) := by
  refine kEt (cc := cX8_setting) (maxL := 2) (ret := (some .int)) (Qx := fun A => kQc D (TY t) (fun (u : Unit) => (kflat [(wx8 h0 g0), (wdk t (g0 1) a_desk d_desk)])) r.1 r.2 A) (Xx := fun A => kXc D (TY t) (fun (u : Unit) => (kflat [(wx8 h0 g0), (wdk t (g0 1) a_desk d_desk)])) r.1 A) (lv0 := [(0, .ref h0), (1, .int p1)]) RX8 rfl (by decide) rfl (Nat.le_of_ble_eq_true rfl) rfl ?_
  intro p e s m args below meth c A ls hx hb hml hte hr hlocks hown hts hA hX hK hP hD hS hl
  have L19 := hts (.fieldLink RX8 19 "ChunkCarriers" "desk" "LChunkCarriers$Desk;") (List.mem_cons_of_mem _ w_21)
  have inX8_ : ∀ w ∈ wsX80, w ∈ wX8_setting := fun w h => List.mem_cons_of_mem _ (inlX8 w h)
  refine lv_iload_n hx hb (kd tdlX8_setting_0 0 rfl) rfl (lv_at hl 1 rfl) ?_
  refine lv_if_lt (tgt := 9) hx hb (kd tdlX8_setting_0 1 rfl) (by decide) (fun hc1 => ?_) (fun hc1 => ?_)
  · have hF := kt hc1 hF
    cases ko hF
    exact kthr_A () hx hb hst hown hts hX hK hP hD hS (hl.1.trans hml.symm) hte hlocks (Or.inr (Or.inl ⟨rfl, rfl⟩)) (Nat.le_of_ble_eq_true rfl) (Nat.le_of_ble_eq_true rfl) (Nat.le_of_ble_eq_true rfl) (Nat.le_of_ble_eq_true rfl) (Nat.le_of_ble_eq_true rfl) (Nat.le_of_ble_eq_true rfl) (kd tdlX8_setting_0 5 rfl) (kd tdlX8_setting_0 6 rfl) (kd tdlX8_setting_0 7 rfl) (kd tdlX8_setting_0 8 rfl)
  · have hF := kf hc1 hF
    refine lv_iload_n hx hb (kd tdlX8_setting_0 2 rfl) rfl (lv_at hl 1 rfl) ?_
    refine lv_iconst (v := 5) hx hb (kd tdlX8_setting_0 3 rfl) (by decide) ?_
    refine lv_icmp_lt (tgt := 17) hx hb (kd tdlX8_setting_0 4 rfl) (by decide) (fun hc6 => ?_) (fun hc6 => ?_)
    · have hF := kt hc6 hF
      refine lv_aload_n hx hb (kd tdlX8_setting_0 9 rfl) rfl (lv_at hl 0 rfl) ?_
      refine va_get (D := D) (ci := 7) (v := .ref (g0 1)) (C := RX8) (T := TX8) (N := 9) hx hb hts inX8_ hown hK hP 0 rfl rfl 1 (by decide) L19 (fun _ h9 => h9) rfl (kd tdlX8_setting_0 10 rfl) ?_
      refine lv_iload_n hx hb (kd tdlX8_setting_0 11 rfl) rfl (lv_at hl 1 rfl) ?_
      obtain ⟨v22, e22, hF⟩ := kc hF
      refine kcL_i (S := Unit) (wf := (fun (_ : Unit) => [(wdk t (g0 1) a_desk d_desk)])) hP hD hS hA nd_1 rfl (fun _ => rfl) (kL_V (Qx := (fun A => kQi D (TY t) (kflat [(wdk t (g0 1) a_desk d_desk)]) v22 A)) (cs := [(wdk t (g0 1) a_desk d_desk)]) (is := [1]) (As := [.int p1]) (rest := []) ⟨hx, hb, hml, hown, hts⟩ hK hP hD nd_1 rfl (c_X1_settingAt l D t (g0 1) a_desk d_desk _ p1 v22 e22) (cwV 1 hts (gcX1_settingAt w_219) rfl rfl rfl hdX1_settingAtV ⟨Nat.le_of_ble_eq_true rfl, Nat.le_of_ble_eq_true rfl⟩) (ci := 1) (q0 := 1) rfl rfl rfl hl.1 rfl (Nat.le_of_ble_eq_true rfl) (kd tdlX8_setting_0 12 rfl) ⟨Nat.le_of_ble_eq_true rfl, Nat.le_of_ble_eq_true rfl⟩) (fun _ H locs hP hD hS => ?_)
      have hP : va_P D vwCl (kflat [(wx8 h0 g0), (wdk t (g0 1) a_desk d_desk)]) H := hP
      have hD : va_D A (kflat [(wx8 h0 g0), (wdk t (g0 1) a_desk d_desk)]) := hD
      cases ko hF
      exact ket_i () hx hb hr hlocks hK hP hD hS rfl rfl (Nat.le_of_ble_eq_true rfl) (Nat.le_of_ble_eq_true rfl) (kd tdlX8_setting_0 13 rfl)
    · have hF := kf hc6 hF
      cases ko hF
      exact kthr_A () hx hb hst hown hts hX hK hP hD hS (hl.1.trans hml.symm) hte hlocks (Or.inr (Or.inl ⟨rfl, rfl⟩)) (Nat.le_of_ble_eq_true rfl) (Nat.le_of_ble_eq_true rfl) (Nat.le_of_ble_eq_true rfl) (Nat.le_of_ble_eq_true rfl) (Nat.le_of_ble_eq_true rfl) (Nat.le_of_ble_eq_true rfl) (kd tdlX8_setting_0 5 rfl) (kd tdlX8_setting_0 6 rfl) (kd tdlX8_setting_0 7 rfl) (kd tdlX8_setting_0 8 rfl)
set_option maxHeartbeats 4000000 in
set_option maxRecDepth 100000 in
theorem c_X8_planWith (l : Launch) (D : va_G) (t : Nat → ClassId) (h0 : Nat) (g0 : Nat → Nat) (a_stream : Nat → Nat) (d_stream : SMT) (a_plan : Nat → Nat) (d_plan : PLT) (h1 : Nat) (a1 : Nat → Nat) (d1 : DKT) (sz : Nat)  (r : SMT × PLT) (hF : F_X8_planWith d_stream d_plan d1 = some r) : Met l yX8_planWith wX8_planWith ({ frames := 4, cells := 0, slots := 0, locals := 92 } : Room) (kPx D (TY t) (kflat [(wx8 h0 g0), (wsm t (g0 5) a_stream d_stream), (wpl t (g0 6) a_plan d_plan), (wdk t h1 a1 d1)]) [.ref h0, .ref h1] sz) (kQvS D (TY t) (fun (u : Unit) => (kflat [(wx8 h0 g0), (wsm t (g0 5) a_stream r.1), (wpl t (g0 6) a_plan r.2), (wdk t h1 a1 d1)])) (va_A (kflat [(wx8 h0 g0), (wsm t (g0 5) a_stream d_stream), (wpl t (g0 6) a_plan d_plan), (wdk t h1 a1 d1)]) sz)) 0 0 (va_A (kflat [(wx8 h0 g0), (wsm t (g0 5) a_stream d_stream), (wpl t (g0 6) a_plan d_plan), (wdk t h1 a1 d1)]) sz) := by
  refine kEx (cc := cX8_planWith) (maxL := 2) (ret := none) (Qx := fun A => kQvS D (TY t) (fun (u : Unit) => (kflat [(wx8 h0 g0), (wsm t (g0 5) a_stream r.1), (wpl t (g0 6) a_plan r.2), (wdk t h1 a1 d1)])) A) (lv0 := [(0, .ref h0), (1, .ref h1)]) RX8 rfl (by decide) rfl (Nat.le_of_ble_eq_true rfl) rfl ?_
  intro p e s m args below meth c A ls hx hb hml hr hlocks hown hts hA hX hK hP hD hS hl
  have L40 := hts (.fieldLink RX8 40 "ChunkCarriers" "stream" "LChunkCarriers$Stream;") (List.mem_cons_of_mem _ w_31)
  have L47 := hts (.fieldLink RX8 47 "ChunkCarriers" "plan" "LChunkCarriers$Plan;") (List.mem_cons_of_mem _ w_35)
  have inX8_ : ∀ w ∈ wsX80, w ∈ wX8_planWith := fun w h => List.mem_cons_of_mem _ (inlX8 w h)
  refine lv_aload_n hx hb (kd tdlX8_planWith_0 0 rfl) rfl (lv_at hl 0 rfl) ?_
  refine va_get (D := D) (ci := 7) (v := .ref (g0 5)) (C := RX8) (T := TX8) (N := 9) hx hb hts inX8_ hown hK hP 0 rfl rfl 5 (by decide) L40 (fun _ h9 => h9) rfl (kd tdlX8_planWith_0 1 rfl) ?_
  refine lv_aload_n hx hb (kd tdlX8_planWith_0 2 rfl) rfl (lv_at hl 1 rfl) ?_
  refine lv_iconst (v := 0) hx hb (kd tdlX8_planWith_0 3 rfl) (by decide) ?_
  obtain ⟨v6, e6, hF⟩ := kc hF
  refine kcL_i (S := Unit) (wf := (fun (_ : Unit) => [(wdk t h1 a1 d1)])) hP hD hS hA nd_3 rfl (fun _ => rfl) (kL_V (Qx := (fun A => kQi D (TY t) (kflat [(wdk t h1 a1 d1)]) v6 A)) (cs := [(wdk t h1 a1 d1)]) (is := [3]) (As := [.int 0]) (rest := [.ref (g0 5)]) ⟨hx, hb, hml, hown, hts⟩ hK hP hD nd_3 rfl (c_X1_settingAt l D t h1 a1 d1 _ 0 v6 e6) (cwV 1 hts (gcX1_settingAt w_219) rfl rfl rfl hdX1_settingAtV ⟨Nat.le_of_ble_eq_true rfl, Nat.le_of_ble_eq_true rfl⟩) (ci := 1) (q0 := 9) rfl rfl rfl hl.1 rfl (Nat.le_of_ble_eq_true rfl) (kd tdlX8_planWith_0 4 rfl) ⟨Nat.le_of_ble_eq_true rfl, Nat.le_of_ble_eq_true rfl⟩) (fun _ H locs hP hD hS => ?_)
  have hP : va_P D vwCl (kflat [(wx8 h0 g0), (wsm t (g0 5) a_stream d_stream), (wpl t (g0 6) a_plan d_plan), (wdk t h1 a1 d1)]) H := hP
  have hD : va_D A (kflat [(wx8 h0 g0), (wsm t (g0 5) a_stream d_stream), (wpl t (g0 6) a_plan d_plan), (wdk t h1 a1 d1)]) := hD
  obtain ⟨v9, e9, hF⟩ := kc hF
  refine kcL_v (S := Unit) (wf := (fun (_ : Unit) => [(wsm t (g0 5) a_stream v9)])) hP hD hS hA nd_1 rfl (fun _ => rfl) (kL_V (Qx := (fun A => kQv D (TY t) (kflat [(wsm t (g0 5) a_stream v9)]) A)) (cs := [(wsm t (g0 5) a_stream d_stream)]) (is := [1]) (As := [.int v6]) (rest := []) ⟨hx, hb, hml, hown, hts⟩ hK hP hD nd_1 rfl (c_X6_cut l D t (g0 5) a_stream d_stream _ v6 v9 e9) (cwV 1 hts (gcX6_cut w_223) rfl rfl rfl hdX6_cutV ⟨Nat.le_of_ble_eq_true rfl, Nat.le_of_ble_eq_true rfl⟩) (ci := 5) (q0 := 1) rfl rfl rfl hl.1 rfl (Nat.le_of_ble_eq_true rfl) (kd tdlX8_planWith_0 5 rfl) ⟨Nat.le_of_ble_eq_true rfl, Nat.le_of_ble_eq_true rfl⟩) (fun _ H locs hP hD hS => ?_)
  have hP : va_P D vwCl (kflat [(wx8 h0 g0), (wsm t (g0 5) a_stream v9), (wpl t (g0 6) a_plan d_plan), (wdk t h1 a1 d1)]) H := hP
  have hD : va_D A (kflat [(wx8 h0 g0), (wsm t (g0 5) a_stream v9), (wpl t (g0 6) a_plan d_plan), (wdk t h1 a1 d1)]) := hD
  refine lv_aload_n hx hb (kd tdlX8_planWith_0 6 rfl) rfl (lv_at hl 0 rfl) ?_
  refine va_get (D := D) (ci := 7) (v := .ref (g0 6)) (C := RX8) (T := TX8) (N := 9) hx hb hts inX8_ hown hK hP 0 rfl rfl 6 (by decide) L47 (fun _ h9 => h9) rfl (kd tdlX8_planWith_0 7 rfl) ?_
  refine lv_aload_n hx hb (kd tdlX8_planWith_0 8 rfl) rfl (lv_at hl 1 rfl) ?_
  refine lv_aload_n hx hb (kd tdlX8_planWith_0 9 rfl) rfl (lv_at hl 0 rfl) ?_
  refine va_get (D := D) (ci := 7) (v := .ref (g0 5)) (C := RX8) (T := TX8) (N := 9) hx hb hts inX8_ hown hK hP 0 rfl rfl 5 (by decide) L40 (fun _ h9 => h9) rfl (kd tdlX8_planWith_0 10 rfl) ?_
  refine lv_aload_n hx hb (kd tdlX8_planWith_0 11 rfl) rfl (lv_at hl 1 rfl) ?_
  refine lv_iconst (v := 2) hx hb (kd tdlX8_planWith_0 12 rfl) (by decide) ?_
  obtain ⟨v23, e23, hF⟩ := kc hF
  refine kcL_i (S := Unit) (wf := (fun (_ : Unit) => [(wdk t h1 a1 d1)])) hP hD hS hA nd_3 rfl (fun _ => rfl) (kL_V (Qx := (fun A => kQi D (TY t) (kflat [(wdk t h1 a1 d1)]) v23 A)) (cs := [(wdk t h1 a1 d1)]) (is := [3]) (As := [.int 2]) (rest := [.ref (g0 5), .ref h1, .ref (g0 6)]) ⟨hx, hb, hml, hown, hts⟩ hK hP hD nd_3 rfl (c_X1_settingAt l D t h1 a1 d1 _ 2 v23 e23) (cwV 1 hts (gcX1_settingAt w_219) rfl rfl rfl hdX1_settingAtV ⟨Nat.le_of_ble_eq_true rfl, Nat.le_of_ble_eq_true rfl⟩) (ci := 1) (q0 := 9) rfl rfl rfl hl.1 rfl (Nat.le_of_ble_eq_true rfl) (kd tdlX8_planWith_0 13 rfl) ⟨Nat.le_of_ble_eq_true rfl, Nat.le_of_ble_eq_true rfl⟩) (fun _ H locs hP hD hS => ?_)
  have hP : va_P D vwCl (kflat [(wx8 h0 g0), (wsm t (g0 5) a_stream v9), (wpl t (g0 6) a_plan d_plan), (wdk t h1 a1 d1)]) H := hP
  have hD : va_D A (kflat [(wx8 h0 g0), (wsm t (g0 5) a_stream v9), (wpl t (g0 6) a_plan d_plan), (wdk t h1 a1 d1)]) := hD
  obtain ⟨v26, e26, hF⟩ := kc hF
  refine kcL_v (S := Unit) (wf := (fun (_ : Unit) => [(wpl t (g0 6) a_plan v26), (wdk t h1 a1 d1), (wsm t (g0 5) a_stream v9)])) hP hD hS hA nd_2_3_1 rfl (fun _ => rfl) (kL_V (Qx := (fun A => kQv D (TY t) (kflat [(wpl t (g0 6) a_plan v26), (wdk t h1 a1 d1), (wsm t (g0 5) a_stream v9)]) A)) (cs := [(wpl t (g0 6) a_plan d_plan), (wdk t h1 a1 d1), (wsm t (g0 5) a_stream v9)]) (is := [2, 3, 1]) (As := [.ref h1, .ref (g0 5), .int v23]) (rest := []) ⟨hx, hb, hml, hown, hts⟩ hK hP hD nd_2_3_1 rfl (c_X4_layOut l D t (g0 6) a_plan d_plan h1 a1 d1 (g0 5) a_stream v9 _ v23 v26 e26) (cwV 3 hts (gcX4_layOut w_635) rfl rfl rfl hdX4_layOutV ⟨Nat.le_of_ble_eq_true rfl, Nat.le_of_ble_eq_true rfl⟩) (ci := 3) (q0 := 4) rfl rfl rfl hl.1 rfl (Nat.le_of_ble_eq_true rfl) (kd tdlX8_planWith_0 14 rfl) ⟨Nat.le_of_ble_eq_true rfl, Nat.le_of_ble_eq_true rfl⟩) (fun _ H locs hP hD hS => ?_)
  have hP : va_P D vwCl (kflat [(wx8 h0 g0), (wsm t (g0 5) a_stream v9), (wpl t (g0 6) a_plan v26), (wdk t h1 a1 d1)]) H := hP
  have hD : va_D A (kflat [(wx8 h0 g0), (wsm t (g0 5) a_stream v9), (wpl t (g0 6) a_plan v26), (wdk t h1 a1 d1)]) := hD
  cases ko hF
  exact kes_v () hx hb hr hlocks hK hP hD hS (Nat.le_of_ble_eq_true rfl) (Nat.le_of_ble_eq_true rfl) (kd tdlX8_planWith_0 15 rfl)
set_option maxHeartbeats 4000000 in
set_option maxRecDepth 100000 in
theorem c_X8_backup (l : Launch) (D : va_G) (t : Nat → ClassId) (h0 : Nat) (g0 : Nat → Nat) (a_text : Nat → Nat) (d_text : TXT) (a_desk : Nat → Nat) (d_desk : DKT) (a_stream : Nat → Nat) (d_stream : SMT) (a_plan : Nat → Nat) (d_plan : PLT) (a_past : Nat → Nat) (u_past : UAT) (d_past : PAT) (sz : Nat) (p1 : Int32) (r : Nat × Int32 × DKT × SMT × PLT × PAT) (hF : F_X8_backup d_text d_desk d_stream d_plan d_past p1 = some r) (hst : l.stackTraces = false) : vx_Met l yX8_backup wX8_backup ({ frames := 6, cells := 11, slots := 1091, locals := 122 } : Room) (kPx D (TY t) (kflat [(wx8 h0 g0), (wtx t (g0 0) a_text d_text), (wdk t (g0 1) a_desk d_desk), (wsm t (g0 5) a_stream d_stream), (wpl t (g0 6) a_plan d_plan), (wpa t (g0 3) a_past u_past d_past)]) [.ref h0, .int p1] sz) (kQc D (TY t) (fun (u : UAT) => (kflat [(wx8 h0 g0), (wtx t (g0 0) a_text d_text), (wdk t (g0 1) a_desk r.2.2.1), (wsm t (g0 5) a_stream r.2.2.2.1), (wpl t (g0 6) a_plan r.2.2.2.2.1), (wpa t (g0 3) a_past u r.2.2.2.2.2)])) r.1 r.2.1 (va_A (kflat [(wx8 h0 g0), (wtx t (g0 0) a_text d_text), (wdk t (g0 1) a_desk d_desk), (wsm t (g0 5) a_stream d_stream), (wpl t (g0 6) a_plan d_plan), (wpa t (g0 3) a_past u_past d_past)]) sz)) (kXc D (TY t) (fun (u : UAT) => (kflat [(wx8 h0 g0), (wtx t (g0 0) a_text d_text), (wdk t (g0 1) a_desk r.2.2.1), (wsm t (g0 5) a_stream r.2.2.2.1), (wpl t (g0 6) a_plan r.2.2.2.2.1), (wpa t (g0 3) a_past u r.2.2.2.2.2)])) r.1 (va_A (kflat [(wx8 h0 g0), (wtx t (g0 0) a_text d_text), (wdk t (g0 1) a_desk d_desk), (wsm t (g0 5) a_stream d_stream), (wpl t (g0 6) a_plan d_plan), (wpa t (g0 3) a_past u_past d_past)]) sz)) 11 1091 (va_A (kflat [(wx8 h0 g0), (wtx t (g0 0) a_text d_text), (wdk t (g0 1) a_desk d_desk), (wsm t (g0 5) a_stream d_stream), (wpl t (g0 6) a_plan d_plan), (wpa t (g0 3) a_past u_past d_past)]) sz) := by
  refine kEt (cc := cX8_backup) (maxL := 2) (ret := (some .int)) (Qx := fun A => kQc D (TY t) (fun (u : UAT) => (kflat [(wx8 h0 g0), (wtx t (g0 0) a_text d_text), (wdk t (g0 1) a_desk r.2.2.1), (wsm t (g0 5) a_stream r.2.2.2.1), (wpl t (g0 6) a_plan r.2.2.2.2.1), (wpa t (g0 3) a_past u r.2.2.2.2.2)])) r.1 r.2.1 A) (Xx := fun A => kXc D (TY t) (fun (u : UAT) => (kflat [(wx8 h0 g0), (wtx t (g0 0) a_text d_text), (wdk t (g0 1) a_desk r.2.2.1), (wsm t (g0 5) a_stream r.2.2.2.1), (wpl t (g0 6) a_plan r.2.2.2.2.1), (wpa t (g0 3) a_past u r.2.2.2.2.2)])) r.1 A) (lv0 := [(0, .ref h0), (1, .int p1)]) RX8 rfl (by decide) rfl (Nat.le_of_ble_eq_true rfl) rfl ?_
  intro p e s m args below meth c A ls hx hb hml hte hr hlocks hown hts hA hX hK hP hD hS hl
  have L10 := hts (.fieldLink RX8 10 "ChunkCarriers" "text" "LChunkCarriers$Text;") (List.mem_cons_of_mem _ w_17)
  have L19 := hts (.fieldLink RX8 19 "ChunkCarriers" "desk" "LChunkCarriers$Desk;") (List.mem_cons_of_mem _ w_21)
  have L29 := hts (.fieldLink RX8 29 "ChunkCarriers" "past" "LChunkCarriers$Past;") (List.mem_cons_of_mem _ w_26)
  have L40 := hts (.fieldLink RX8 40 "ChunkCarriers" "stream" "LChunkCarriers$Stream;") (List.mem_cons_of_mem _ w_31)
  have L47 := hts (.fieldLink RX8 47 "ChunkCarriers" "plan" "LChunkCarriers$Plan;") (List.mem_cons_of_mem _ w_35)
  have inX8_ : ∀ w ∈ wsX80, w ∈ wX8_backup := fun w h => List.mem_cons_of_mem _ (inlX8 w h)
  refine lv_aload_n hx hb (kd tdlX8_backup_0 0 rfl) rfl (lv_at hl 0 rfl) ?_
  refine va_get (D := D) (ci := 7) (v := .ref (g0 0)) (C := RX8) (T := TX8) (N := 9) hx hb hts inX8_ hown hK hP 0 rfl rfl 0 (by decide) L10 (fun _ h9 => h9) rfl (kd tdlX8_backup_0 1 rfl) ?_
  refine lv_iload_n hx hb (kd tdlX8_backup_0 2 rfl) rfl (lv_at hl 1 rfl) ?_
  refine lv_aload_n hx hb (kd tdlX8_backup_0 3 rfl) rfl (lv_at hl 0 rfl) ?_
  refine va_get (D := D) (ci := 7) (v := .ref (g0 5)) (C := RX8) (T := TX8) (N := 9) hx hb hts inX8_ hown hK hP 0 rfl rfl 5 (by decide) L40 (fun _ h9 => h9) rfl (kd tdlX8_backup_0 4 rfl) ?_
  obtain ⟨v9, e9, hF⟩ := kc hF
  refine kcL_i (S := Unit) (wf := (fun (_ : Unit) => [(wtx t (g0 0) a_text d_text), (wsm t (g0 5) a_stream v9.2)])) hP hD hS hA nd_1_3 rfl (fun _ => rfl) (kL_V (Qx := (fun A => kQi D (TY t) (kflat [(wtx t (g0 0) a_text d_text), (wsm t (g0 5) a_stream v9.2)]) v9.1 A)) (cs := [(wtx t (g0 0) a_text d_text), (wsm t (g0 5) a_stream d_stream)]) (is := [1, 3]) (As := [.int p1, .ref (g0 5)]) (rest := []) ⟨hx, hb, hml, hown, hts⟩ hK hP hD nd_1_3 rfl (c_X7_readStream l D t (g0 0) a_text d_text (g0 5) a_stream d_stream _ p1 v9 e9) (cwV 2 hts (gcX7_readStream w_200) rfl rfl rfl hdX7_readStreamV ⟨Nat.le_of_ble_eq_true rfl, Nat.le_of_ble_eq_true rfl⟩) (ci := 6) (q0 := 1) rfl rfl rfl hl.1 rfl (Nat.le_of_ble_eq_true rfl) (kd tdlX8_backup_0 5 rfl) ⟨Nat.le_of_ble_eq_true rfl, Nat.le_of_ble_eq_true rfl⟩) (fun _ H locs hP hD hS => ?_)
  have hP : va_P D vwCl (kflat [(wx8 h0 g0), (wtx t (g0 0) a_text d_text), (wdk t (g0 1) a_desk d_desk), (wsm t (g0 5) a_stream v9.2), (wpl t (g0 6) a_plan d_plan), (wpa t (g0 3) a_past u_past d_past)]) H := hP
  have hD : va_D A (kflat [(wx8 h0 g0), (wtx t (g0 0) a_text d_text), (wdk t (g0 1) a_desk d_desk), (wsm t (g0 5) a_stream v9.2), (wpl t (g0 6) a_plan d_plan), (wpa t (g0 3) a_past u_past d_past)]) := hD
  refine lv_if_ne (tgt := 23) hx hb (kd tdlX8_backup_0 6 rfl) (by decide) (fun hc12 => ?_) (fun hc12 => ?_)
  · have hF := kf hc12 hF
    refine lv_aload_n hx hb (kd tdlX8_backup_0 11 rfl) rfl (lv_at hl 0 rfl) ?_
    refine lv_aload_n hx hb (kd tdlX8_backup_0 12 rfl) rfl (lv_at hl 0 rfl) ?_
    refine va_get (D := D) (ci := 7) (v := .ref (g0 1)) (C := RX8) (T := TX8) (N := 9) hx hb hts inX8_ hown hK hP 0 rfl rfl 1 (by decide) L19 (fun _ h9 => h9) rfl (kd tdlX8_backup_0 13 rfl) ?_
    obtain ⟨v28, e28, hF⟩ := kc hF
    refine kcL_v (S := Unit) (wf := (fun (_ : Unit) => [(wx8 h0 g0), (wsm t (g0 5) a_stream v28.1), (wpl t (g0 6) a_plan v28.2), (wdk t (g0 1) a_desk d_desk)])) hP hD hS hA nd_0_3_4_2 rfl (fun _ => rfl) (kL_VX (Qx := (fun A => kQvS D (TY t) (fun (u28 : Unit) => kflat [(wx8 h0 g0), (wsm t (g0 5) a_stream v28.1), (wpl t (g0 6) a_plan v28.2), (wdk t (g0 1) a_desk d_desk)]) A)) (cs := [(wx8 h0 g0), (wsm t (g0 5) a_stream v9.2), (wpl t (g0 6) a_plan d_plan), (wdk t (g0 1) a_desk d_desk)]) (is := [0, 3, 4, 2]) (As := [.ref (g0 1)]) (rest := []) ⟨hx, hb, hml, hown, hts⟩ hX hS hA hK hP hD nd_0_3_4_2 rfl (c_X8_planWith l D t h0 g0 a_stream v9.2 a_plan d_plan (g0 1) a_desk d_desk _  v28 e28) (cwV 1 hts (gcX8_planWith w_631) rfl rfl rfl hdX8_planWithV ⟨Nat.le_of_ble_eq_true rfl, Nat.le_of_ble_eq_true rfl⟩) (ci := 7) (q0 := 0) rfl rfl rfl hl.1 rfl (Nat.le_of_ble_eq_true rfl) (kd tdlX8_backup_0 14 rfl) ⟨Nat.le_of_ble_eq_true rfl, Nat.le_of_ble_eq_true rfl⟩) (fun _ H locs hP hD hS => ?_)
    have hP : va_P D vwCl (kflat [(wx8 h0 g0), (wtx t (g0 0) a_text d_text), (wdk t (g0 1) a_desk d_desk), (wsm t (g0 5) a_stream v28.1), (wpl t (g0 6) a_plan v28.2), (wpa t (g0 3) a_past u_past d_past)]) H := hP
    have hD : va_D A (kflat [(wx8 h0 g0), (wtx t (g0 0) a_text d_text), (wdk t (g0 1) a_desk d_desk), (wsm t (g0 5) a_stream v28.1), (wpl t (g0 6) a_plan v28.2), (wpa t (g0 3) a_past u_past d_past)]) := hD
    refine lv_aload_n hx hb (kd tdlX8_backup_0 15 rfl) rfl (lv_at hl 0 rfl) ?_
    refine va_get (D := D) (ci := 7) (v := .ref (g0 1)) (C := RX8) (T := TX8) (N := 9) hx hb hts inX8_ hown hK hP 0 rfl rfl 1 (by decide) L19 (fun _ h9 => h9) rfl (kd tdlX8_backup_0 16 rfl) ?_
    refine lv_aload_n hx hb (kd tdlX8_backup_0 17 rfl) rfl (lv_at hl 0 rfl) ?_
    refine va_get (D := D) (ci := 7) (v := .ref (g0 6)) (C := RX8) (T := TX8) (N := 9) hx hb hts inX8_ hown hK hP 0 rfl rfl 6 (by decide) L47 (fun _ h9 => h9) rfl (kd tdlX8_backup_0 18 rfl) ?_
    obtain ⟨v39, e39, hF⟩ := kc hF
    refine kcL_i (S := Unit) (wf := (fun (_ : Unit) => [(wdk t (g0 1) a_desk d_desk), (wpl t (g0 6) a_plan v28.2)])) hP hD hS hA nd_2_4 rfl (fun _ => rfl) (kL_V (Qx := (fun A => kQi D (TY t) (kflat [(wdk t (g0 1) a_desk d_desk), (wpl t (g0 6) a_plan v28.2)]) v39 A)) (cs := [(wdk t (g0 1) a_desk d_desk), (wpl t (g0 6) a_plan v28.2)]) (is := [2, 4]) (As := [.ref (g0 6)]) (rest := []) ⟨hx, hb, hml, hown, hts⟩ hK hP hD nd_2_4 rfl (c_X1_allows l D t (g0 1) a_desk d_desk (g0 6) a_plan v28.2 _  v39 e39) (cwV 1 hts (gcX1_allows w_681) rfl rfl rfl hdX1_allowsV ⟨Nat.le_of_ble_eq_true rfl, Nat.le_of_ble_eq_true rfl⟩) (ci := 1) (q0 := 3) rfl rfl rfl hl.1 rfl (Nat.le_of_ble_eq_true rfl) (kd tdlX8_backup_0 19 rfl) ⟨Nat.le_of_ble_eq_true rfl, Nat.le_of_ble_eq_true rfl⟩) (fun _ H locs hP hD hS => ?_)
    have hP : va_P D vwCl (kflat [(wx8 h0 g0), (wtx t (g0 0) a_text d_text), (wdk t (g0 1) a_desk d_desk), (wsm t (g0 5) a_stream v28.1), (wpl t (g0 6) a_plan v28.2), (wpa t (g0 3) a_past u_past d_past)]) H := hP
    have hD : va_D A (kflat [(wx8 h0 g0), (wtx t (g0 0) a_text d_text), (wdk t (g0 1) a_desk d_desk), (wsm t (g0 5) a_stream v28.1), (wpl t (g0 6) a_plan v28.2), (wpa t (g0 3) a_past u_past d_past)]) := hD
    refine lv_if_ne (tgt := 53) hx hb (kd tdlX8_backup_0 20 rfl) (by decide) (fun hc42 => ?_) (fun hc42 => ?_)
    · have hF := kf hc42 hF
      refine lv_aload_n hx hb (kd tdlX8_backup_0 25 rfl) rfl (lv_at hl 0 rfl) ?_
      refine va_get (D := D) (ci := 7) (v := .ref (g0 3)) (C := RX8) (T := TX8) (N := 9) hx hb hts inX8_ hown hK hP 0 rfl rfl 3 (by decide) L29 (fun _ h9 => h9) rfl (kd tdlX8_backup_0 26 rfl) ?_
      refine lv_aload_n hx hb (kd tdlX8_backup_0 27 rfl) rfl (lv_at hl 0 rfl) ?_
      refine va_get (D := D) (ci := 7) (v := .ref (g0 1)) (C := RX8) (T := TX8) (N := 9) hx hb hts inX8_ hown hK hP 0 rfl rfl 1 (by decide) L19 (fun _ h9 => h9) rfl (kd tdlX8_backup_0 28 rfl) ?_
      obtain ⟨v61, e61, hF⟩ := kc hF
      refine kcL_v (S := UAT) (wf := (fun (u61 : UAT) => [(wpa t (g0 3) a_past u61 v61), (wdk t (g0 1) a_desk d_desk)])) hP hD hS hA nd_5_2 rfl (fun _ => rfl) (kL_VX (Qx := (fun A => kQvS D (TY t) (fun (u61 : UAT) => kflat [(wpa t (g0 3) a_past u61 v61), (wdk t (g0 1) a_desk d_desk)]) A)) (cs := [(wpa t (g0 3) a_past u_past d_past), (wdk t (g0 1) a_desk d_desk)]) (is := [5, 2]) (As := [.ref (g0 1)]) (rest := []) ⟨hx, hb, hml, hown, hts⟩ hX hS hA hK hP hD nd_5_2 rfl (c_X3_remember l D t (g0 3) a_past u_past d_past (g0 1) a_desk d_desk _  v61 e61) (cwV 1 hts (gcX3_remember w_690) rfl rfl rfl hdX3_rememberV ⟨Nat.le_of_ble_eq_true rfl, Nat.le_of_ble_eq_true rfl⟩) (ci := 2) (q0 := 21) rfl rfl rfl hl.1 rfl (Nat.le_of_ble_eq_true rfl) (kd tdlX8_backup_0 29 rfl) ⟨Nat.le_of_ble_eq_true rfl, Nat.le_of_ble_eq_true rfl⟩) (fun u61 H locs hP hD hS => ?_)
      have hP : va_P D vwCl (kflat [(wx8 h0 g0), (wtx t (g0 0) a_text d_text), (wdk t (g0 1) a_desk d_desk), (wsm t (g0 5) a_stream v28.1), (wpl t (g0 6) a_plan v28.2), (wpa t (g0 3) a_past u61 v61)]) H := hP
      have hD : va_D A (kflat [(wx8 h0 g0), (wtx t (g0 0) a_text d_text), (wdk t (g0 1) a_desk d_desk), (wsm t (g0 5) a_stream v28.1), (wpl t (g0 6) a_plan v28.2), (wpa t (g0 3) a_past u61 v61)]) := hD
      refine lv_aload_n hx hb (kd tdlX8_backup_0 30 rfl) rfl (lv_at hl 0 rfl) ?_
      refine va_get (D := D) (ci := 7) (v := .ref (g0 1)) (C := RX8) (T := TX8) (N := 9) hx hb hts inX8_ hown hK hP 0 rfl rfl 1 (by decide) L19 (fun _ h9 => h9) rfl (kd tdlX8_backup_0 31 rfl) ?_
      refine lv_aload_n hx hb (kd tdlX8_backup_0 32 rfl) rfl (lv_at hl 0 rfl) ?_
      refine va_get (D := D) (ci := 7) (v := .ref (g0 6)) (C := RX8) (T := TX8) (N := 9) hx hb hts inX8_ hown hK hP 0 rfl rfl 6 (by decide) L47 (fun _ h9 => h9) rfl (kd tdlX8_backup_0 33 rfl) ?_
      refine lv_aload_n hx hb (kd tdlX8_backup_0 34 rfl) rfl (lv_at hl 0 rfl) ?_
      refine va_get (D := D) (ci := 7) (v := .ref (g0 5)) (C := RX8) (T := TX8) (N := 9) hx hb hts inX8_ hown hK hP 0 rfl rfl 5 (by decide) L40 (fun _ h9 => h9) rfl (kd tdlX8_backup_0 35 rfl) ?_
      obtain ⟨v76, e76, hF⟩ := kc hF
      refine kcL_i (S := Unit) (wf := (fun (_ : Unit) => [(wdk t (g0 1) a_desk v76.2), (wpl t (g0 6) a_plan v28.2), (wsm t (g0 5) a_stream v28.1)])) hP hD hS hA nd_2_4_3 rfl (fun _ => rfl) (kL_V (Qx := (fun A => kQi D (TY t) (kflat [(wdk t (g0 1) a_desk v76.2), (wpl t (g0 6) a_plan v28.2), (wsm t (g0 5) a_stream v28.1)]) v76.1 A)) (cs := [(wdk t (g0 1) a_desk d_desk), (wpl t (g0 6) a_plan v28.2), (wsm t (g0 5) a_stream v28.1)]) (is := [2, 4, 3]) (As := [.ref (g0 6), .ref (g0 5)]) (rest := []) ⟨hx, hb, hml, hown, hts⟩ hK hP hD nd_2_4_3 rfl (c_X1_addBackup l D t (g0 1) a_desk d_desk (g0 6) a_plan v28.2 (g0 5) a_stream v28.1 _  v76 e76) (cwV 2 hts (gcX1_addBackup w_706) rfl rfl rfl hdX1_addBackupV ⟨Nat.le_of_ble_eq_true rfl, Nat.le_of_ble_eq_true rfl⟩) (ci := 1) (q0 := 3) rfl rfl rfl hl.1 rfl (Nat.le_of_ble_eq_true rfl) (kd tdlX8_backup_0 36 rfl) ⟨Nat.le_of_ble_eq_true rfl, Nat.le_of_ble_eq_true rfl⟩) (fun _ H locs hP hD hS => ?_)
      have hP : va_P D vwCl (kflat [(wx8 h0 g0), (wtx t (g0 0) a_text d_text), (wdk t (g0 1) a_desk v76.2), (wsm t (g0 5) a_stream v28.1), (wpl t (g0 6) a_plan v28.2), (wpa t (g0 3) a_past u61 v61)]) H := hP
      have hD : va_D A (kflat [(wx8 h0 g0), (wtx t (g0 0) a_text d_text), (wdk t (g0 1) a_desk v76.2), (wsm t (g0 5) a_stream v28.1), (wpl t (g0 6) a_plan v28.2), (wpa t (g0 3) a_past u61 v61)]) := hD
      cases ko hF
      exact ket_i u61 hx hb hr hlocks hK hP hD hS rfl rfl (Nat.le_of_ble_eq_true rfl) (Nat.le_of_ble_eq_true rfl) (kd tdlX8_backup_0 37 rfl)
    · have hF := kt hc42 hF
      cases ko hF
      exact kthr_S u_past hx hb hst hown hts hX hK hP hD hS (hl.1.trans hml.symm) hte hlocks (Or.inr (Or.inr ⟨rfl, rfl⟩)) (Nat.le_of_ble_eq_true rfl) (Nat.le_of_ble_eq_true rfl) (Nat.le_of_ble_eq_true rfl) (Nat.le_of_ble_eq_true rfl) (Nat.le_of_ble_eq_true rfl) (Nat.le_of_ble_eq_true rfl) (kd tdlX8_backup_0 21 rfl) (kd tdlX8_backup_0 22 rfl) (kd tdlX8_backup_0 23 rfl) (kd tdlX8_backup_0 24 rfl)
  · have hF := kt hc12 hF
    cases ko hF
    exact kthr_I u_past hx hb hst hown hts hX hK hP hD hS (hl.1.trans hml.symm) hte hlocks (Or.inl ⟨rfl, rfl⟩) (Nat.le_of_ble_eq_true rfl) (Nat.le_of_ble_eq_true rfl) (Nat.le_of_ble_eq_true rfl) (Nat.le_of_ble_eq_true rfl) (Nat.le_of_ble_eq_true rfl) (Nat.le_of_ble_eq_true rfl) (kd tdlX8_backup_0 7 rfl) (kd tdlX8_backup_0 8 rfl) (kd tdlX8_backup_0 9 rfl) (kd tdlX8_backup_0 10 rfl)
set_option maxHeartbeats 4000000 in
set_option maxRecDepth 100000 in
theorem c_X8_delete (l : Launch) (D : va_G) (t : Nat → ClassId) (h0 : Nat) (g0 : Nat → Nat) (a_desk : Nat → Nat) (d_desk : DKT) (a_past : Nat → Nat) (u_past : UAT) (d_past : PAT) (sz : Nat) (p1 : Int32) (r : Nat × Int32 × DKT × PAT) (hF : F_X8_delete d_desk d_past p1 = some r) (hst : l.stackTraces = false) : vx_Met l yX8_delete wX8_delete ({ frames := 6, cells := 11, slots := 1091, locals := 122 } : Room) (kPx D (TY t) (kflat [(wx8 h0 g0), (wdk t (g0 1) a_desk d_desk), (wpa t (g0 3) a_past u_past d_past)]) [.ref h0, .int p1] sz) (kQc D (TY t) (fun (u : UAT) => (kflat [(wx8 h0 g0), (wdk t (g0 1) a_desk r.2.2.1), (wpa t (g0 3) a_past u r.2.2.2)])) r.1 r.2.1 (va_A (kflat [(wx8 h0 g0), (wdk t (g0 1) a_desk d_desk), (wpa t (g0 3) a_past u_past d_past)]) sz)) (kXc D (TY t) (fun (u : UAT) => (kflat [(wx8 h0 g0), (wdk t (g0 1) a_desk r.2.2.1), (wpa t (g0 3) a_past u r.2.2.2)])) r.1 (va_A (kflat [(wx8 h0 g0), (wdk t (g0 1) a_desk d_desk), (wpa t (g0 3) a_past u_past d_past)]) sz)) 11 1091 (va_A (kflat [(wx8 h0 g0), (wdk t (g0 1) a_desk d_desk), (wpa t (g0 3) a_past u_past d_past)]) sz) := by
  refine kEt (cc := cX8_delete) (maxL := 2) (ret := (some .int)) (Qx := fun A => kQc D (TY t) (fun (u : UAT) => (kflat [(wx8 h0 g0), (wdk t (g0 1) a_desk r.2.2.1), (wpa t (g0 3) a_past u r.2.2.2)])) r.1 r.2.1 A) (Xx := fun A => kXc D (TY t) (fun (u : UAT) => (kflat [(wx8 h0 g0), (wdk t (g0 1) a_desk r.2.2.1), (wpa t (g0 3) a_past u r.2.2.2)])) r.1 A) (lv0 := [(0, .ref h0), (1, .int p1)]) RX8 rfl (by decide) rfl (Nat.le_of_ble_eq_true rfl) rfl ?_
  intro p e s m args below meth c A ls hx hb hml hte hr hlocks hown hts hA hX hK hP hD hS hl
  have L19 := hts (.fieldLink RX8 19 "ChunkCarriers" "desk" "LChunkCarriers$Desk;") (List.mem_cons_of_mem _ w_21)
  have L29 := hts (.fieldLink RX8 29 "ChunkCarriers" "past" "LChunkCarriers$Past;") (List.mem_cons_of_mem _ w_26)
  have inX8_ : ∀ w ∈ wsX80, w ∈ wX8_delete := fun w h => List.mem_cons_of_mem _ (inlX8 w h)
  refine lv_aload_n hx hb (kd tdlX8_delete_0 0 rfl) rfl (lv_at hl 0 rfl) ?_
  refine va_get (D := D) (ci := 7) (v := .ref (g0 1)) (C := RX8) (T := TX8) (N := 9) hx hb hts inX8_ hown hK hP 0 rfl rfl 1 (by decide) L19 (fun _ h9 => h9) rfl (kd tdlX8_delete_0 1 rfl) ?_
  refine lv_iload_n hx hb (kd tdlX8_delete_0 2 rfl) rfl (lv_at hl 1 rfl) ?_
  obtain ⟨v5, e5, hF⟩ := kc hF
  refine kcL_i (S := Unit) (wf := (fun (_ : Unit) => [(wdk t (g0 1) a_desk d_desk)])) hP hD hS hA nd_1 rfl (fun _ => rfl) (kL_V (Qx := (fun A => kQi D (TY t) (kflat [(wdk t (g0 1) a_desk d_desk)]) v5 A)) (cs := [(wdk t (g0 1) a_desk d_desk)]) (is := [1]) (As := [.int p1]) (rest := []) ⟨hx, hb, hml, hown, hts⟩ hK hP hD nd_1 rfl (c_X1_hasBackup l D t (g0 1) a_desk d_desk _ p1 v5 e5) (cwV 1 hts (gcX1_hasBackup w_514) rfl rfl rfl hdX1_hasBackupV ⟨Nat.le_of_ble_eq_true rfl, Nat.le_of_ble_eq_true rfl⟩) (ci := 1) (q0 := 1) rfl rfl rfl hl.1 rfl (Nat.le_of_ble_eq_true rfl) (kd tdlX8_delete_0 3 rfl) ⟨Nat.le_of_ble_eq_true rfl, Nat.le_of_ble_eq_true rfl⟩) (fun _ H locs hP hD hS => ?_)
  have hP : va_P D vwCl (kflat [(wx8 h0 g0), (wdk t (g0 1) a_desk d_desk), (wpa t (g0 3) a_past u_past d_past)]) H := hP
  have hD : va_D A (kflat [(wx8 h0 g0), (wdk t (g0 1) a_desk d_desk), (wpa t (g0 3) a_past u_past d_past)]) := hD
  refine lv_if_ne (tgt := 19) hx hb (kd tdlX8_delete_0 4 rfl) (by decide) (fun hc8 => ?_) (fun hc8 => ?_)
  · have hF := kf hc8 hF
    refine lv_aload_n hx hb (kd tdlX8_delete_0 9 rfl) rfl (lv_at hl 0 rfl) ?_
    refine va_get (D := D) (ci := 7) (v := .ref (g0 3)) (C := RX8) (T := TX8) (N := 9) hx hb hts inX8_ hown hK hP 0 rfl rfl 3 (by decide) L29 (fun _ h9 => h9) rfl (kd tdlX8_delete_0 10 rfl) ?_
    refine lv_aload_n hx hb (kd tdlX8_delete_0 11 rfl) rfl (lv_at hl 0 rfl) ?_
    refine va_get (D := D) (ci := 7) (v := .ref (g0 1)) (C := RX8) (T := TX8) (N := 9) hx hb hts inX8_ hown hK hP 0 rfl rfl 1 (by decide) L19 (fun _ h9 => h9) rfl (kd tdlX8_delete_0 12 rfl) ?_
    obtain ⟨v27, e27, hF⟩ := kc hF
    refine kcL_v (S := UAT) (wf := (fun (u27 : UAT) => [(wpa t (g0 3) a_past u27 v27), (wdk t (g0 1) a_desk d_desk)])) hP hD hS hA nd_2_1 rfl (fun _ => rfl) (kL_VX (Qx := (fun A => kQvS D (TY t) (fun (u27 : UAT) => kflat [(wpa t (g0 3) a_past u27 v27), (wdk t (g0 1) a_desk d_desk)]) A)) (cs := [(wpa t (g0 3) a_past u_past d_past), (wdk t (g0 1) a_desk d_desk)]) (is := [2, 1]) (As := [.ref (g0 1)]) (rest := []) ⟨hx, hb, hml, hown, hts⟩ hX hS hA hK hP hD nd_2_1 rfl (c_X3_remember l D t (g0 3) a_past u_past d_past (g0 1) a_desk d_desk _  v27 e27) (cwV 1 hts (gcX3_remember w_690) rfl rfl rfl hdX3_rememberV ⟨Nat.le_of_ble_eq_true rfl, Nat.le_of_ble_eq_true rfl⟩) (ci := 2) (q0 := 11) rfl rfl rfl hl.1 rfl (Nat.le_of_ble_eq_true rfl) (kd tdlX8_delete_0 13 rfl) ⟨Nat.le_of_ble_eq_true rfl, Nat.le_of_ble_eq_true rfl⟩) (fun u27 H locs hP hD hS => ?_)
    have hP : va_P D vwCl (kflat [(wx8 h0 g0), (wdk t (g0 1) a_desk d_desk), (wpa t (g0 3) a_past u27 v27)]) H := hP
    have hD : va_D A (kflat [(wx8 h0 g0), (wdk t (g0 1) a_desk d_desk), (wpa t (g0 3) a_past u27 v27)]) := hD
    refine lv_aload_n hx hb (kd tdlX8_delete_0 14 rfl) rfl (lv_at hl 0 rfl) ?_
    refine va_get (D := D) (ci := 7) (v := .ref (g0 1)) (C := RX8) (T := TX8) (N := 9) hx hb hts inX8_ hown hK hP 0 rfl rfl 1 (by decide) L19 (fun _ h9 => h9) rfl (kd tdlX8_delete_0 15 rfl) ?_
    refine lv_iload_n hx hb (kd tdlX8_delete_0 16 rfl) rfl (lv_at hl 1 rfl) ?_
    obtain ⟨v35, e35, hF⟩ := kc hF
    refine kcL_i (S := Unit) (wf := (fun (_ : Unit) => [(wdk t (g0 1) a_desk v35.2)])) hP hD hS hA nd_1 rfl (fun _ => rfl) (kL_V (Qx := (fun A => kQi D (TY t) (kflat [(wdk t (g0 1) a_desk v35.2)]) v35.1 A)) (cs := [(wdk t (g0 1) a_desk d_desk)]) (is := [1]) (As := [.int p1]) (rest := []) ⟨hx, hb, hml, hown, hts⟩ hK hP hD nd_1 rfl (c_X1_removeBackup l D t (g0 1) a_desk d_desk _ p1 v35 e35) (cwV 1 hts (gcX1_removeBackup w_775) rfl rfl rfl hdX1_removeBackupV ⟨Nat.le_of_ble_eq_true rfl, Nat.le_of_ble_eq_true rfl⟩) (ci := 1) (q0 := 1) rfl rfl rfl hl.1 rfl (Nat.le_of_ble_eq_true rfl) (kd tdlX8_delete_0 17 rfl) ⟨Nat.le_of_ble_eq_true rfl, Nat.le_of_ble_eq_true rfl⟩) (fun _ H locs hP hD hS => ?_)
    have hP : va_P D vwCl (kflat [(wx8 h0 g0), (wdk t (g0 1) a_desk v35.2), (wpa t (g0 3) a_past u27 v27)]) H := hP
    have hD : va_D A (kflat [(wx8 h0 g0), (wdk t (g0 1) a_desk v35.2), (wpa t (g0 3) a_past u27 v27)]) := hD
    cases ko hF
    exact ket_i u27 hx hb hr hlocks hK hP hD hS rfl rfl (Nat.le_of_ble_eq_true rfl) (Nat.le_of_ble_eq_true rfl) (kd tdlX8_delete_0 18 rfl)
  · have hF := kt hc8 hF
    cases ko hF
    exact kthr_I u_past hx hb hst hown hts hX hK hP hD hS (hl.1.trans hml.symm) hte hlocks (Or.inl ⟨rfl, rfl⟩) (Nat.le_of_ble_eq_true rfl) (Nat.le_of_ble_eq_true rfl) (Nat.le_of_ble_eq_true rfl) (Nat.le_of_ble_eq_true rfl) (Nat.le_of_ble_eq_true rfl) (Nat.le_of_ble_eq_true rfl) (kd tdlX8_delete_0 5 rfl) (kd tdlX8_delete_0 6 rfl) (kd tdlX8_delete_0 7 rfl) (kd tdlX8_delete_0 8 rfl)
set_option maxHeartbeats 4000000 in
set_option maxRecDepth 100000 in
theorem c_X8_carry (l : Launch) (D : va_G) (t : Nat → ClassId) (h0 : Nat) (g0 : Nat → Nat) (a_desk : Nat → Nat) (d_desk : DKT) (a_carrier : Nat → Nat) (d_carrier : CRT) (a_past : Nat → Nat) (u_past : UAT) (d_past : PAT) (sz : Nat)  (r : Int32 × DKT × CRT × PAT) (hF : F_X8_carry d_desk d_carrier d_past = some r) : Met l yX8_carry wX8_carry ({ frames := 5, cells := 10, slots := 1085, locals := 122 } : Room) (kPx D (TY t) (kflat [(wx8 h0 g0), (wdk t (g0 1) a_desk d_desk), (wcr t (g0 8) a_carrier d_carrier), (wpa t (g0 3) a_past u_past d_past)]) [.ref h0] sz) (kQiS D (TY t) (fun (u : UAT) => (kflat [(wx8 h0 g0), (wdk t (g0 1) a_desk r.2.1), (wcr t (g0 8) a_carrier r.2.2.1), (wpa t (g0 3) a_past u r.2.2.2)])) r.1 (va_A (kflat [(wx8 h0 g0), (wdk t (g0 1) a_desk d_desk), (wcr t (g0 8) a_carrier d_carrier), (wpa t (g0 3) a_past u_past d_past)]) sz)) 10 1085 (va_A (kflat [(wx8 h0 g0), (wdk t (g0 1) a_desk d_desk), (wcr t (g0 8) a_carrier d_carrier), (wpa t (g0 3) a_past u_past d_past)]) sz) := by
  refine kEx (cc := cX8_carry) (maxL := 1) (ret := (some .int)) (Qx := fun A => kQiS D (TY t) (fun (u : UAT) => (kflat [(wx8 h0 g0), (wdk t (g0 1) a_desk r.2.1), (wcr t (g0 8) a_carrier r.2.2.1), (wpa t (g0 3) a_past u r.2.2.2)])) r.1 A) (lv0 := [(0, .ref h0)]) RX8 rfl (by decide) rfl (Nat.le_of_ble_eq_true rfl) rfl ?_
  intro p e s m args below meth c A ls hx hb hml hr hlocks hown hts hA hX hK hP hD hS hl
  have L19 := hts (.fieldLink RX8 19 "ChunkCarriers" "desk" "LChunkCarriers$Desk;") (List.mem_cons_of_mem _ w_21)
  have L29 := hts (.fieldLink RX8 29 "ChunkCarriers" "past" "LChunkCarriers$Past;") (List.mem_cons_of_mem _ w_26)
  have L61 := hts (.fieldLink RX8 61 "ChunkCarriers" "carrier" "LChunkCarriers$Carrier;") (List.mem_cons_of_mem _ w_43)
  have inX8_ : ∀ w ∈ wsX80, w ∈ wX8_carry := fun w h => List.mem_cons_of_mem _ (inlX8 w h)
  refine lv_aload_n hx hb (kd tdlX8_carry_0 0 rfl) rfl (lv_at hl 0 rfl) ?_
  refine va_get (D := D) (ci := 7) (v := .ref (g0 3)) (C := RX8) (T := TX8) (N := 9) hx hb hts inX8_ hown hK hP 0 rfl rfl 3 (by decide) L29 (fun _ h9 => h9) rfl (kd tdlX8_carry_0 1 rfl) ?_
  refine lv_aload_n hx hb (kd tdlX8_carry_0 2 rfl) rfl (lv_at hl 0 rfl) ?_
  refine va_get (D := D) (ci := 7) (v := .ref (g0 1)) (C := RX8) (T := TX8) (N := 9) hx hb hts inX8_ hown hK hP 0 rfl rfl 1 (by decide) L19 (fun _ h9 => h9) rfl (kd tdlX8_carry_0 3 rfl) ?_
  obtain ⟨v8, e8, hF⟩ := kc hF
  refine kcL_v (S := UAT) (wf := (fun (u8 : UAT) => [(wpa t (g0 3) a_past u8 v8), (wdk t (g0 1) a_desk d_desk)])) hP hD hS hA nd_3_1 rfl (fun _ => rfl) (kL_VX (Qx := (fun A => kQvS D (TY t) (fun (u8 : UAT) => kflat [(wpa t (g0 3) a_past u8 v8), (wdk t (g0 1) a_desk d_desk)]) A)) (cs := [(wpa t (g0 3) a_past u_past d_past), (wdk t (g0 1) a_desk d_desk)]) (is := [3, 1]) (As := [.ref (g0 1)]) (rest := []) ⟨hx, hb, hml, hown, hts⟩ hX hS hA hK hP hD nd_3_1 rfl (c_X3_remember l D t (g0 3) a_past u_past d_past (g0 1) a_desk d_desk _  v8 e8) (cwV 1 hts (gcX3_remember w_690) rfl rfl rfl hdX3_rememberV ⟨Nat.le_of_ble_eq_true rfl, Nat.le_of_ble_eq_true rfl⟩) (ci := 2) (q0 := 16) rfl rfl rfl hl.1 rfl (Nat.le_of_ble_eq_true rfl) (kd tdlX8_carry_0 4 rfl) ⟨Nat.le_of_ble_eq_true rfl, Nat.le_of_ble_eq_true rfl⟩) (fun u8 H locs hP hD hS => ?_)
  have hP : va_P D vwCl (kflat [(wx8 h0 g0), (wdk t (g0 1) a_desk d_desk), (wcr t (g0 8) a_carrier d_carrier), (wpa t (g0 3) a_past u8 v8)]) H := hP
  have hD : va_D A (kflat [(wx8 h0 g0), (wdk t (g0 1) a_desk d_desk), (wcr t (g0 8) a_carrier d_carrier), (wpa t (g0 3) a_past u8 v8)]) := hD
  refine lv_aload_n hx hb (kd tdlX8_carry_0 5 rfl) rfl (lv_at hl 0 rfl) ?_
  refine va_get (D := D) (ci := 7) (v := .ref (g0 8)) (C := RX8) (T := TX8) (N := 9) hx hb hts inX8_ hown hK hP 0 rfl rfl 8 (by decide) L61 (fun _ h9 => h9) rfl (kd tdlX8_carry_0 6 rfl) ?_
  refine lv_aload_n hx hb (kd tdlX8_carry_0 7 rfl) rfl (lv_at hl 0 rfl) ?_
  refine va_get (D := D) (ci := 7) (v := .ref (g0 1)) (C := RX8) (T := TX8) (N := 9) hx hb hts inX8_ hown hK hP 0 rfl rfl 1 (by decide) L19 (fun _ h9 => h9) rfl (kd tdlX8_carry_0 8 rfl) ?_
  obtain ⟨v19, e19, hF⟩ := kc hF
  refine kcL_i (S := Unit) (wf := (fun (_ : Unit) => [(wcr t (g0 8) a_carrier v19.2.1), (wdk t (g0 1) a_desk v19.2.2)])) hP hD hS hA nd_2_1 rfl (fun _ => rfl) (kL_V (Qx := (fun A => kQi D (TY t) (kflat [(wcr t (g0 8) a_carrier v19.2.1), (wdk t (g0 1) a_desk v19.2.2)]) v19.1 A)) (cs := [(wcr t (g0 8) a_carrier d_carrier), (wdk t (g0 1) a_desk d_desk)]) (is := [2, 1]) (As := [.ref (g0 1)]) (rest := []) ⟨hx, hb, hml, hown, hts⟩ hK hP hD nd_2_1 rfl (c_X0_carryForward l D t (g0 8) a_carrier d_carrier (g0 1) a_desk d_desk _  v19 e19) (cwV 1 hts (gcX0_carryForward w_791) rfl rfl rfl hdX0_carryForwardV ⟨Nat.le_of_ble_eq_true rfl, Nat.le_of_ble_eq_true rfl⟩) (ci := 0) (q0 := 11) rfl rfl rfl hl.1 rfl (Nat.le_of_ble_eq_true rfl) (kd tdlX8_carry_0 9 rfl) ⟨Nat.le_of_ble_eq_true rfl, Nat.le_of_ble_eq_true rfl⟩) (fun _ H locs hP hD hS => ?_)
  have hP : va_P D vwCl (kflat [(wx8 h0 g0), (wdk t (g0 1) a_desk v19.2.2), (wcr t (g0 8) a_carrier v19.2.1), (wpa t (g0 3) a_past u8 v8)]) H := hP
  have hD : va_D A (kflat [(wx8 h0 g0), (wdk t (g0 1) a_desk v19.2.2), (wcr t (g0 8) a_carrier v19.2.1), (wpa t (g0 3) a_past u8 v8)]) := hD
  cases ko hF
  exact kes_i u8 hx hb hr hlocks hK hP hD hS rfl (Nat.le_of_ble_eq_true rfl) (Nat.le_of_ble_eq_true rfl) (kd tdlX8_carry_0 10 rfl)
set_option maxHeartbeats 4000000 in
set_option maxRecDepth 100000 in
theorem c_X8_isSetting (l : Launch) (D : va_G) (t : Nat → ClassId)  (sz : Nat) (p0 : Int32) (p1 : Int32) (r : Int32) (hF : F_X8_isSetting p0 p1 = some r) : Met l yX8_isSetting wX8_isSetting ({ frames := 0, cells := 0, slots := 0, locals := 0 } : Room) (kPx D (TY t) (kflat []) [.int p0, .int p1] sz) (kQiS D (TY t) (fun (u : Unit) => (kflat [])) r (va_A (kflat []) sz)) 0 0 (va_A (kflat []) sz) := by
  refine kEx (cc := cX8_isSetting) (maxL := 2) (ret := (some .boolean)) (Qx := fun A => kQiS D (TY t) (fun (u : Unit) => (kflat [])) r A) (lv0 := [(0, .int p0), (1, .int p1)]) RX8 rfl (by decide) rfl (Nat.le_of_ble_eq_true rfl) rfl ?_
  intro p e s m args below meth c A ls hx hb hml hr hlocks hown hts hA hX hK hP hD hS hl
  have L292 := hts (.fieldLink RX8 292 "ChunkCarriers" "LEAST_SETTINGS" "[I") (List.mem_cons_of_mem _ w_859)
  have L296 := hts (.fieldLink RX8 296 "ChunkCarriers" "GREATEST_SETTINGS" "[I") (List.mem_cons_of_mem _ w_860)
  obtain ⟨ts_GREATEST_SETTINGS, hz_GREATEST_SETTINGS, ht_GREATEST_SETTINGS⟩ := hX.2.2.1
  obtain ⟨ts_LEAST_SETTINGS, hz_LEAST_SETTINGS, ht_LEAST_SETTINGS⟩ := hX.2.1
  refine lv_iload_n hx hb (kd tdlX8_isSetting_0 0 rfl) rfl (lv_at hl 0 rfl) ?_
  refine lv_if_lt (tgt := 9) hx hb (kd tdlX8_isSetting_0 1 rfl) (by decide) (fun hc1 => ?_) (fun hc1 => ?_)
  · have hF := kt hc1 hF
    refine lv_iconst (v := 0) hx hb (kd tdlX8_isSetting_0 5 rfl) (by decide) ?_
    cases ko hF
    exact kes_z () hx hb hr hlocks rfl hK hP hD hS rfl (Nat.le_of_ble_eq_true rfl) (Nat.le_of_ble_eq_true rfl) (kd tdlX8_isSetting_0 6 rfl)
  · have hF := kf hc1 hF
    refine lv_iload_n hx hb (kd tdlX8_isSetting_0 2 rfl) rfl (lv_at hl 0 rfl) ?_
    refine lv_iconst (v := 5) hx hb (kd tdlX8_isSetting_0 3 rfl) (by decide) ?_
    refine lv_icmp_lt (tgt := 11) hx hb (kd tdlX8_isSetting_0 4 rfl) (by decide) (fun hc6 => ?_) (fun hc6 => ?_)
    · have hF := kt hc6 hF
      refine lv_iload_n hx hb (kd tdlX8_isSetting_0 7 rfl) rfl (lv_at hl 1 rfl) ?_
      refine va_gets (A := A) (v := .ref ts_LEAST_SETTINGS) hx hb hz_LEAST_SETTINGS hS hown L292 (fun _ h9 => h9) (kd tdlX8_isSetting_0 8 rfl) ?_
      refine lv_iload_n hx hb (kd tdlX8_isSetting_0 9 rfl) rfl (lv_at hl 0 rfl) ?_
      obtain ⟨hi16, hF⟩ := kg hF
      refine va_ti hx hb ht_LEAST_SETTINGS hS hi16 rfl (kd tdlX8_isSetting_0 10 rfl) ?_
      refine lv_icmp_lt (tgt := 33) hx hb (kd tdlX8_isSetting_0 11 rfl) (by decide) (fun hc17 => ?_) (fun hc17 => ?_)
      · have hF := kt hc17 hF
        refine lv_iconst (v := 0) hx hb (kd tdlX8_isSetting_0 19 rfl) (by decide) ?_
        cases ko hF
        exact kes_z () hx hb hr hlocks rfl hK hP hD hS rfl (Nat.le_of_ble_eq_true rfl) (Nat.le_of_ble_eq_true rfl) (kd tdlX8_isSetting_0 20 rfl)
      · have hF := kf hc17 hF
        refine lv_iload_n hx hb (kd tdlX8_isSetting_0 12 rfl) rfl (lv_at hl 1 rfl) ?_
        refine va_gets (A := A) (v := .ref ts_GREATEST_SETTINGS) hx hb hz_GREATEST_SETTINGS hS hown L296 (fun _ h9 => h9) (kd tdlX8_isSetting_0 13 rfl) ?_
        refine lv_iload_n hx hb (kd tdlX8_isSetting_0 14 rfl) rfl (lv_at hl 0 rfl) ?_
        obtain ⟨hi25, hF⟩ := kg hF
        refine va_ti hx hb ht_GREATEST_SETTINGS hS hi25 rfl (kd tdlX8_isSetting_0 15 rfl) ?_
        refine lv_icmp_gt (tgt := 33) hx hb (kd tdlX8_isSetting_0 16 rfl) (by decide) (fun hc26 => ?_) (fun hc26 => ?_)
        · have hF := kt hc26 hF
          refine lv_iconst (v := 0) hx hb (kd tdlX8_isSetting_0 19 rfl) (by decide) ?_
          cases ko hF
          exact kes_z () hx hb hr hlocks rfl hK hP hD hS rfl (Nat.le_of_ble_eq_true rfl) (Nat.le_of_ble_eq_true rfl) (kd tdlX8_isSetting_0 20 rfl)
        · have hF := kf hc26 hF
          refine lv_iconst (v := 1) hx hb (kd tdlX8_isSetting_0 17 rfl) (by decide) ?_
          refine lv_goto (tgt := 34) hx hb (kd tdlX8_isSetting_0 18 rfl) (by decide) ?_
          cases ko hF
          exact kes_z () hx hb hr hlocks rfl hK hP hD hS rfl (Nat.le_of_ble_eq_true rfl) (Nat.le_of_ble_eq_true rfl) (kd tdlX8_isSetting_0 20 rfl)
    · have hF := kf hc6 hF
      refine lv_iconst (v := 0) hx hb (kd tdlX8_isSetting_0 5 rfl) (by decide) ?_
      cases ko hF
      exact kes_z () hx hb hr hlocks rfl hK hP hD hS rfl (Nat.le_of_ble_eq_true rfl) (Nat.le_of_ble_eq_true rfl) (kd tdlX8_isSetting_0 6 rfl)
set_option maxHeartbeats 4000000 in
set_option maxRecDepth 100000 in
theorem c_X1_changeSetting (l : Launch) (D : va_G) (t : Nat → ClassId) (h0 : Nat) (a0 : Nat → Nat) (d0 : DKT) (sz : Nat) (p1 : Int32) (p2 : Int32) (r : Int32 × DKT) (hF : F_X1_changeSetting d0 p1 p2 = some r) : Met l yX1_changeSetting wX1_changeSetting ({ frames := 1, cells := 0, slots := 0, locals := 21 } : Room) (kPx D (TY t) (kflat [(wdk t h0 a0 d0)]) [.ref h0, .int p1, .int p2] sz) (kQiS D (TY t) (fun (u : Unit) => (kflat [(wdk t h0 a0 r.2)])) r.1 (va_A (kflat [(wdk t h0 a0 d0)]) sz)) 0 0 (va_A (kflat [(wdk t h0 a0 d0)]) sz) := by
  refine kEx (cc := cX1_changeSetting) (maxL := 4) (ret := (some .int)) (Qx := fun A => kQiS D (TY t) (fun (u : Unit) => (kflat [(wdk t h0 a0 r.2)])) r.1 A) (lv0 := [(0, .ref h0), (1, .int p1), (2, .int p2)]) RX1 rfl (by decide) rfl (Nat.le_of_ble_eq_true rfl) rfl ?_
  intro p e s m args below meth c A ls hx hb hml hr hlocks hown hts hA hX hK hP hD hS hl
  have L18 := hts (.fieldLink RX1 18 "ChunkCarriers$Desk" "settings" "[I") (List.mem_cons_of_mem _ w_58)
  have inX1_ : ∀ w ∈ wsX10, w ∈ wX1_changeSetting := fun w h => List.mem_cons_of_mem _ (inlX1 w h)
  refine lv_aload_n hx hb (kd tdlX1_changeSetting_0 0 rfl) rfl (lv_at hl 0 rfl) ?_
  refine lv_iload_n hx hb (kd tdlX1_changeSetting_0 1 rfl) rfl (lv_at hl 1 rfl) ?_
  obtain ⟨v2, e2, hF⟩ := kc hF
  refine kcL_i (S := Unit) (wf := (fun (_ : Unit) => [(wdk t h0 a0 d0)])) hP hD hS hA nd_0 rfl (fun _ => rfl) (kL_V (Qx := (fun A => kQi D (TY t) (kflat [(wdk t h0 a0 d0)]) v2 A)) (cs := [(wdk t h0 a0 d0)]) (is := [0]) (As := [.int p1]) (rest := []) ⟨hx, hb, hml, hown, hts⟩ hK hP hD nd_0 rfl (c_X1_settingAt l D t h0 a0 d0 _ p1 v2 e2) (cwV 1 hts (gcX1_settingAt w_865) rfl rfl rfl hdX1_settingAtV ⟨Nat.le_of_ble_eq_true rfl, Nat.le_of_ble_eq_true rfl⟩) (ci := 1) (q0 := 0) rfl rfl rfl hl.1 rfl (Nat.le_of_ble_eq_true rfl) (kd tdlX1_changeSetting_0 2 rfl) ⟨Nat.le_of_ble_eq_true rfl, Nat.le_of_ble_eq_true rfl⟩) (fun _ H locs hP hD hS => ?_)
  have hP : va_P D vwCl (kflat [(wdk t h0 a0 d0)]) H := hP
  have hD : va_D A (kflat [(wdk t h0 a0 d0)]) := hD
  refine lv_istore_n (lv' := [(3, .int v2), (0, .ref h0), (1, .int p1), (2, .int p2)]) hx hb (kd tdlX1_changeSetting_0 3 rfl) rfl hl (by decide) rfl (fun ls hl => ?_)
  refine lv_iload_n hx hb (kd tdlX1_changeSetting_0 4 rfl) rfl (lv_at hl 2 rfl) ?_
  refine lv_iload_n hx hb (kd tdlX1_changeSetting_0 5 rfl) rfl (lv_at hl 3 rfl) ?_
  obtain ⟨v8, e8, hF⟩ := kc hF
  refine kcL_i (S := Unit) (wf := (fun (_ : Unit) => [])) hP hD hS hA nd_ rfl (fun _ => rfl) (kL_SNX (host := "ChunkCarriers") (Qx := (fun A => kQiS D (TY t) (fun (u8 : Unit) => kflat []) v8 A)) (cs := []) (is := []) (As := [.int p1, .int p2]) (rest := []) ⟨hx, hb, hml, hown, hts⟩ hX hS hA hK hP hD nd_ rfl (c_X8_isSetting l D t  _ p1 p2 v8 e8) ⟨va_cnB 2 hts (kgoodI w_858) rfl rfl rfl (hX.2.2.2.2.2.1 _ (List.mem_of_getElem? (i := 7) rfl)) (hts _ (List.mem_cons_of_mem _ w_2)) hdX8_isSettingS ⟨Nat.le_of_ble_eq_true rfl, Nat.le_of_ble_eq_true rfl⟩, hts _ (List.mem_cons_of_mem _ w_857), trivial⟩ rfl hl.1 rfl (Nat.le_of_ble_eq_true rfl) (kd tdlX1_changeSetting_0 6 rfl) ⟨Nat.le_of_ble_eq_true rfl, Nat.le_of_ble_eq_true rfl⟩) (fun _ H locs hP hD hS => ?_)
  have hP : va_P D vwCl (kflat [(wdk t h0 a0 d0)]) H := hP
  have hD : va_D A (kflat [(wdk t h0 a0 d0)]) := hD
  refine lv_if_eq (tgt := 21) hx hb (kd tdlX1_changeSetting_0 7 rfl) (by decide) (fun hc11 => ?_) (fun hc11 => ?_)
  · have hF := kt hc11 hF
    refine lv_iload_n hx hb (kd tdlX1_changeSetting_0 13 rfl) rfl (lv_at hl 0 rfl) ?_
    cases ko hF
    exact kes_i () hx hb hr hlocks hK hP hD hS rfl (Nat.le_of_ble_eq_true rfl) (Nat.le_of_ble_eq_true rfl) (kd tdlX1_changeSetting_0 14 rfl)
  · have hF := kf hc11 hF
    refine lv_aload_n hx hb (kd tdlX1_changeSetting_0 8 rfl) rfl (lv_at hl 1 rfl) ?_
    refine va_get (D := D) (ci := 1) (v := .ref (a0 0)) (C := RX1) (T := TX1) (N := 13) hx hb hts inX1_ hown hK hP 0 rfl rfl 0 (by decide) L18 (fun _ h9 => h9) rfl (kd tdlX1_changeSetting_0 9 rfl) ?_
    refine lv_iload_n hx hb (kd tdlX1_changeSetting_0 10 rfl) rfl (lv_at hl 2 rfl) ?_
    refine lv_iload_n hx hb (kd tdlX1_changeSetting_0 11 rfl) rfl (lv_at hl 3 rfl) ?_
    obtain ⟨hi20, hF⟩ := kg hF
    refine va_iast (D := D) (tys := TY t) hx hb hK hP hD hS 1 0 rfl rfl hi20 (kd tdlX1_changeSetting_0 12 rfl) (fun H locs hP hD hS => ?_)
    have hP : va_P D vwCl (kflat [(wdkF t h0 a0 (upd (dk_settings d0) (Int32.toNatClampNeg p1) p2) (dk_numbers d0) (dk_capacities d0) (dk_firsts d0) (dk_containers d0) (dk_codes d0) (dk_places d0) (dk_uses d0) (dk_entries d0) (dk_references d0) (dk_lengths d0) (dk_nextNumber d0) (dk_carried d0))]) H := hP
    have hD : va_D A (kflat [(wdkF t h0 a0 (upd (dk_settings d0) (Int32.toNatClampNeg p1) p2) (dk_numbers d0) (dk_capacities d0) (dk_firsts d0) (dk_containers d0) (dk_codes d0) (dk_places d0) (dk_uses d0) (dk_entries d0) (dk_references d0) (dk_lengths d0) (dk_nextNumber d0) (dk_carried d0))]) := hD
    refine lv_iload_n hx hb (kd tdlX1_changeSetting_0 13 rfl) rfl (lv_at hl 0 rfl) ?_
    cases ko hF
    exact kes_i () hx hb hr hlocks hK hP hD hS rfl (Nat.le_of_ble_eq_true rfl) (Nat.le_of_ble_eq_true rfl) (kd tdlX1_changeSetting_0 14 rfl)
set_option maxHeartbeats 4000000 in
set_option maxRecDepth 100000 in
theorem c_X8_set (l : Launch) (D : va_G) (t : Nat → ClassId) (h0 : Nat) (g0 : Nat → Nat) (a_desk : Nat → Nat) (d_desk : DKT) (a_past : Nat → Nat) (u_past : UAT) (d_past : PAT) (sz : Nat) (p1 : Int32) (p2 : Int32) (r : Nat × Int32 × DKT × PAT) (hF : F_X8_set d_desk d_past p1 p2 = some r) (hst : l.stackTraces = false) : vx_Met l yX8_set wX8_set ({ frames := 6, cells := 11, slots := 1091, locals := 122 } : Room) (kPx D (TY t) (kflat [(wx8 h0 g0), (wdk t (g0 1) a_desk d_desk), (wpa t (g0 3) a_past u_past d_past)]) [.ref h0, .int p1, .int p2] sz) (kQc D (TY t) (fun (u : UAT) => (kflat [(wx8 h0 g0), (wdk t (g0 1) a_desk r.2.2.1), (wpa t (g0 3) a_past u r.2.2.2)])) r.1 r.2.1 (va_A (kflat [(wx8 h0 g0), (wdk t (g0 1) a_desk d_desk), (wpa t (g0 3) a_past u_past d_past)]) sz)) (kXc D (TY t) (fun (u : UAT) => (kflat [(wx8 h0 g0), (wdk t (g0 1) a_desk r.2.2.1), (wpa t (g0 3) a_past u r.2.2.2)])) r.1 (va_A (kflat [(wx8 h0 g0), (wdk t (g0 1) a_desk d_desk), (wpa t (g0 3) a_past u_past d_past)]) sz)) 11 1091 (va_A (kflat [(wx8 h0 g0), (wdk t (g0 1) a_desk d_desk), (wpa t (g0 3) a_past u_past d_past)]) sz) := by
  refine kEt (cc := cX8_set) (maxL := 3) (ret := (some .int)) (Qx := fun A => kQc D (TY t) (fun (u : UAT) => (kflat [(wx8 h0 g0), (wdk t (g0 1) a_desk r.2.2.1), (wpa t (g0 3) a_past u r.2.2.2)])) r.1 r.2.1 A) (Xx := fun A => kXc D (TY t) (fun (u : UAT) => (kflat [(wx8 h0 g0), (wdk t (g0 1) a_desk r.2.2.1), (wpa t (g0 3) a_past u r.2.2.2)])) r.1 A) (lv0 := [(0, .ref h0), (1, .int p1), (2, .int p2)]) RX8 rfl (by decide) rfl (Nat.le_of_ble_eq_true rfl) rfl ?_
  intro p e s m args below meth c A ls hx hb hml hte hr hlocks hown hts hA hX hK hP hD hS hl
  have L19 := hts (.fieldLink RX8 19 "ChunkCarriers" "desk" "LChunkCarriers$Desk;") (List.mem_cons_of_mem _ w_21)
  have L29 := hts (.fieldLink RX8 29 "ChunkCarriers" "past" "LChunkCarriers$Past;") (List.mem_cons_of_mem _ w_26)
  have inX8_ : ∀ w ∈ wsX80, w ∈ wX8_set := fun w h => List.mem_cons_of_mem _ (inlX8 w h)
  refine lv_iload_n hx hb (kd tdlX8_set_0 0 rfl) rfl (lv_at hl 1 rfl) ?_
  refine lv_iload_n hx hb (kd tdlX8_set_0 1 rfl) rfl (lv_at hl 2 rfl) ?_
  obtain ⟨v2, e2, hF⟩ := kc hF
  refine kcL_i (S := Unit) (wf := (fun (_ : Unit) => [])) hP hD hS hA nd_ rfl (fun _ => rfl) (kL_SX (Qx := (fun A => kQiS D (TY t) (fun (u2 : Unit) => kflat []) v2 A)) (cs := []) (is := []) (As := [.int p1, .int p2]) (rest := []) ⟨hx, hb, hml, hown, hts⟩ hX hS hA hK hP hD nd_ rfl (c_X8_isSetting l D t  _ p1 p2 v2 e2) (va_cwS 2 hts (gcX8_isSetting w_856) rfl rfl rfl hdX8_isSettingS ⟨Nat.le_of_ble_eq_true rfl, Nat.le_of_ble_eq_true rfl⟩) rfl hl.1 rfl (Nat.le_of_ble_eq_true rfl) (kd tdlX8_set_0 2 rfl) ⟨Nat.le_of_ble_eq_true rfl, Nat.le_of_ble_eq_true rfl⟩) (fun _ H locs hP hD hS => ?_)
  have hP : va_P D vwCl (kflat [(wx8 h0 g0), (wdk t (g0 1) a_desk d_desk), (wpa t (g0 3) a_past u_past d_past)]) H := hP
  have hD : va_D A (kflat [(wx8 h0 g0), (wdk t (g0 1) a_desk d_desk), (wpa t (g0 3) a_past u_past d_past)]) := hD
  refine lv_if_ne (tgt := 16) hx hb (kd tdlX8_set_0 3 rfl) (by decide) (fun hc5 => ?_) (fun hc5 => ?_)
  · have hF := kf hc5 hF
    refine lv_aload_n hx hb (kd tdlX8_set_0 8 rfl) rfl (lv_at hl 0 rfl) ?_
    refine va_get (D := D) (ci := 7) (v := .ref (g0 3)) (C := RX8) (T := TX8) (N := 9) hx hb hts inX8_ hown hK hP 0 rfl rfl 3 (by decide) L29 (fun _ h9 => h9) rfl (kd tdlX8_set_0 9 rfl) ?_
    refine lv_aload_n hx hb (kd tdlX8_set_0 10 rfl) rfl (lv_at hl 0 rfl) ?_
    refine va_get (D := D) (ci := 7) (v := .ref (g0 1)) (C := RX8) (T := TX8) (N := 9) hx hb hts inX8_ hown hK hP 0 rfl rfl 1 (by decide) L19 (fun _ h9 => h9) rfl (kd tdlX8_set_0 11 rfl) ?_
    obtain ⟨v24, e24, hF⟩ := kc hF
    refine kcL_v (S := UAT) (wf := (fun (u24 : UAT) => [(wpa t (g0 3) a_past u24 v24), (wdk t (g0 1) a_desk d_desk)])) hP hD hS hA nd_2_1 rfl (fun _ => rfl) (kL_VX (Qx := (fun A => kQvS D (TY t) (fun (u24 : UAT) => kflat [(wpa t (g0 3) a_past u24 v24), (wdk t (g0 1) a_desk d_desk)]) A)) (cs := [(wpa t (g0 3) a_past u_past d_past), (wdk t (g0 1) a_desk d_desk)]) (is := [2, 1]) (As := [.ref (g0 1)]) (rest := []) ⟨hx, hb, hml, hown, hts⟩ hX hS hA hK hP hD nd_2_1 rfl (c_X3_remember l D t (g0 3) a_past u_past d_past (g0 1) a_desk d_desk _  v24 e24) (cwV 1 hts (gcX3_remember w_690) rfl rfl rfl hdX3_rememberV ⟨Nat.le_of_ble_eq_true rfl, Nat.le_of_ble_eq_true rfl⟩) (ci := 2) (q0 := 11) rfl rfl rfl hl.1 rfl (Nat.le_of_ble_eq_true rfl) (kd tdlX8_set_0 12 rfl) ⟨Nat.le_of_ble_eq_true rfl, Nat.le_of_ble_eq_true rfl⟩) (fun u24 H locs hP hD hS => ?_)
    have hP : va_P D vwCl (kflat [(wx8 h0 g0), (wdk t (g0 1) a_desk d_desk), (wpa t (g0 3) a_past u24 v24)]) H := hP
    have hD : va_D A (kflat [(wx8 h0 g0), (wdk t (g0 1) a_desk d_desk), (wpa t (g0 3) a_past u24 v24)]) := hD
    refine lv_aload_n hx hb (kd tdlX8_set_0 13 rfl) rfl (lv_at hl 0 rfl) ?_
    refine va_get (D := D) (ci := 7) (v := .ref (g0 1)) (C := RX8) (T := TX8) (N := 9) hx hb hts inX8_ hown hK hP 0 rfl rfl 1 (by decide) L19 (fun _ h9 => h9) rfl (kd tdlX8_set_0 14 rfl) ?_
    refine lv_iload_n hx hb (kd tdlX8_set_0 15 rfl) rfl (lv_at hl 1 rfl) ?_
    refine lv_iload_n hx hb (kd tdlX8_set_0 16 rfl) rfl (lv_at hl 2 rfl) ?_
    obtain ⟨v33, e33, hF⟩ := kc hF
    refine kcL_i (S := Unit) (wf := (fun (_ : Unit) => [(wdk t (g0 1) a_desk v33.2)])) hP hD hS hA nd_1 rfl (fun _ => rfl) (kL_VX (Qx := (fun A => kQiS D (TY t) (fun (u33 : Unit) => kflat [(wdk t (g0 1) a_desk v33.2)]) v33.1 A)) (cs := [(wdk t (g0 1) a_desk d_desk)]) (is := [1]) (As := [.int p1, .int p2]) (rest := []) ⟨hx, hb, hml, hown, hts⟩ hX hS hA hK hP hD nd_1 rfl (c_X1_changeSetting l D t (g0 1) a_desk d_desk _ p1 p2 v33 e33) (cwV 2 hts (gcX1_changeSetting w_861) rfl rfl rfl hdX1_changeSettingV ⟨Nat.le_of_ble_eq_true rfl, Nat.le_of_ble_eq_true rfl⟩) (ci := 1) (q0 := 1) rfl rfl rfl hl.1 rfl (Nat.le_of_ble_eq_true rfl) (kd tdlX8_set_0 17 rfl) ⟨Nat.le_of_ble_eq_true rfl, Nat.le_of_ble_eq_true rfl⟩) (fun _ H locs hP hD hS => ?_)
    have hP : va_P D vwCl (kflat [(wx8 h0 g0), (wdk t (g0 1) a_desk v33.2), (wpa t (g0 3) a_past u24 v24)]) H := hP
    have hD : va_D A (kflat [(wx8 h0 g0), (wdk t (g0 1) a_desk v33.2), (wpa t (g0 3) a_past u24 v24)]) := hD
    cases ko hF
    exact ket_i u24 hx hb hr hlocks hK hP hD hS rfl rfl (Nat.le_of_ble_eq_true rfl) (Nat.le_of_ble_eq_true rfl) (kd tdlX8_set_0 18 rfl)
  · have hF := kt hc5 hF
    cases ko hF
    exact kthr_A u_past hx hb hst hown hts hX hK hP hD hS (hl.1.trans hml.symm) hte hlocks (Or.inr (Or.inl ⟨rfl, rfl⟩)) (Nat.le_of_ble_eq_true rfl) (Nat.le_of_ble_eq_true rfl) (Nat.le_of_ble_eq_true rfl) (Nat.le_of_ble_eq_true rfl) (Nat.le_of_ble_eq_true rfl) (Nat.le_of_ble_eq_true rfl) (kd tdlX8_set_0 4 rfl) (kd tdlX8_set_0 5 rfl) (kd tdlX8_set_0 6 rfl) (kd tdlX8_set_0 7 rfl)
set_option maxHeartbeats 4000000 in
set_option maxRecDepth 100000 in
theorem c_X8_undo (l : Launch) (D : va_G) (t : Nat → ClassId) (h0 : Nat) (g0 : Nat → Nat) (a_desk : Nat → Nat) (d_desk : DKT) (a_past : Nat → Nat) (u_past : UAT) (d_past : PAT) (sz : Nat)  (r : Nat × Int32 × DKT × PAT) (hF : F_X8_undo d_desk d_past = some r) (hst : l.stackTraces = false) : vx_Met l yX8_undo wX8_undo ({ frames := 6, cells := 1, slots := 6, locals := 89 } : Room) (kPx D (TY t) (kflat [(wx8 h0 g0), (wdk t (g0 1) a_desk d_desk), (wpa t (g0 3) a_past u_past d_past)]) [.ref h0] sz) (kQc D (TY t) (fun (u : UAT) => (kflat [(wx8 h0 g0), (wdk t (g0 1) a_desk r.2.2.1), (wpa t (g0 3) a_past u r.2.2.2)])) r.1 r.2.1 (va_A (kflat [(wx8 h0 g0), (wdk t (g0 1) a_desk d_desk), (wpa t (g0 3) a_past u_past d_past)]) sz)) (kXc D (TY t) (fun (u : UAT) => (kflat [(wx8 h0 g0), (wdk t (g0 1) a_desk r.2.2.1), (wpa t (g0 3) a_past u r.2.2.2)])) r.1 (va_A (kflat [(wx8 h0 g0), (wdk t (g0 1) a_desk d_desk), (wpa t (g0 3) a_past u_past d_past)]) sz)) 1 6 (va_A (kflat [(wx8 h0 g0), (wdk t (g0 1) a_desk d_desk), (wpa t (g0 3) a_past u_past d_past)]) sz) := by
  refine kEt (cc := cX8_undo) (maxL := 1) (ret := (some .int)) (Qx := fun A => kQc D (TY t) (fun (u : UAT) => (kflat [(wx8 h0 g0), (wdk t (g0 1) a_desk r.2.2.1), (wpa t (g0 3) a_past u r.2.2.2)])) r.1 r.2.1 A) (Xx := fun A => kXc D (TY t) (fun (u : UAT) => (kflat [(wx8 h0 g0), (wdk t (g0 1) a_desk r.2.2.1), (wpa t (g0 3) a_past u r.2.2.2)])) r.1 A) (lv0 := [(0, .ref h0)]) RX8 rfl (by decide) rfl (Nat.le_of_ble_eq_true rfl) rfl ?_
  intro p e s m args below meth c A ls hx hb hml hte hr hlocks hown hts hA hX hK hP hD hS hl
  have L19 := hts (.fieldLink RX8 19 "ChunkCarriers" "desk" "LChunkCarriers$Desk;") (List.mem_cons_of_mem _ w_21)
  have L243 := hts (.fieldLink RX8 243 "ChunkCarriers$Past" "count" "I") (List.mem_cons_of_mem _ w_880)
  have L29 := hts (.fieldLink RX8 29 "ChunkCarriers" "past" "LChunkCarriers$Past;") (List.mem_cons_of_mem _ w_26)
  have inX3_ : ∀ w ∈ wsX30, w ∈ wX8_undo := fun w h => List.mem_cons_of_mem _ (inlX3 w h)
  have inX8_ : ∀ w ∈ wsX80, w ∈ wX8_undo := fun w h => List.mem_cons_of_mem _ (inlX8 w h)
  refine lv_aload_n hx hb (kd tdlX8_undo_0 0 rfl) rfl (lv_at hl 0 rfl) ?_
  refine va_get (D := D) (ci := 7) (v := .ref (g0 3)) (C := RX8) (T := TX8) (N := 9) hx hb hts inX8_ hown hK hP 0 rfl rfl 3 (by decide) L29 (fun _ h9 => h9) rfl (kd tdlX8_undo_0 1 rfl) ?_
  refine va_get (D := D) (ci := 2) (v := .int (pa_count d_past)) (C := RX3) (T := TX3) (N := 3) hx hb hts inX3_ hown hK hP 11 rfl rfl 2 (by decide) L243 (fun _ h9 => h9) rfl (kd tdlX8_undo_0 2 rfl) ?_
  refine lv_if_ne (tgt := 18) hx hb (kd tdlX8_undo_0 3 rfl) (by decide) (fun hc7 => ?_) (fun hc7 => ?_)
  · have hF := kf hc7 hF
    refine lv_aload_n hx hb (kd tdlX8_undo_0 8 rfl) rfl (lv_at hl 0 rfl) ?_
    refine va_get (D := D) (ci := 7) (v := .ref (g0 3)) (C := RX8) (T := TX8) (N := 9) hx hb hts inX8_ hown hK hP 0 rfl rfl 3 (by decide) L29 (fun _ h9 => h9) rfl (kd tdlX8_undo_0 9 rfl) ?_
    refine lv_aload_n hx hb (kd tdlX8_undo_0 10 rfl) rfl (lv_at hl 0 rfl) ?_
    refine va_get (D := D) (ci := 7) (v := .ref (g0 1)) (C := RX8) (T := TX8) (N := 9) hx hb hts inX8_ hown hK hP 0 rfl rfl 1 (by decide) L19 (fun _ h9 => h9) rfl (kd tdlX8_undo_0 11 rfl) ?_
    obtain ⟨v26, e26, hF⟩ := kc hF
    refine kcL_v (S := UAT) (wf := (fun (u26 : UAT) => [(wpa t (g0 3) a_past u26 v26.1), (wdk t (g0 1) a_desk v26.2)])) hP hD hS hA nd_2_1 rfl (fun _ => rfl) (kL_VX (Qx := (fun A => kQvS D (TY t) (fun (u26 : UAT) => kflat [(wpa t (g0 3) a_past u26 v26.1), (wdk t (g0 1) a_desk v26.2)]) A)) (cs := [(wpa t (g0 3) a_past u_past d_past), (wdk t (g0 1) a_desk d_desk)]) (is := [2, 1]) (As := [.ref (g0 1)]) (rest := []) ⟨hx, hb, hml, hown, hts⟩ hX hS hA hK hP hD nd_2_1 rfl (c_X3_takeBack l D t (g0 3) a_past u_past d_past (g0 1) a_desk d_desk _  v26 e26) (cwV 1 hts (gcX3_takeBack w_881) rfl rfl rfl hdX3_takeBackV ⟨Nat.le_of_ble_eq_true rfl, Nat.le_of_ble_eq_true rfl⟩) (ci := 2) (q0 := 11) rfl rfl rfl hl.1 rfl (Nat.le_of_ble_eq_true rfl) (kd tdlX8_undo_0 12 rfl) ⟨Nat.le_of_ble_eq_true rfl, Nat.le_of_ble_eq_true rfl⟩) (fun u26 H locs hP hD hS => ?_)
    have hP : va_P D vwCl (kflat [(wx8 h0 g0), (wdk t (g0 1) a_desk v26.2), (wpa t (g0 3) a_past u26 v26.1)]) H := hP
    have hD : va_D A (kflat [(wx8 h0 g0), (wdk t (g0 1) a_desk v26.2), (wpa t (g0 3) a_past u26 v26.1)]) := hD
    refine lv_aload_n hx hb (kd tdlX8_undo_0 13 rfl) rfl (lv_at hl 0 rfl) ?_
    refine va_get (D := D) (ci := 7) (v := .ref (g0 3)) (C := RX8) (T := TX8) (N := 9) hx hb hts inX8_ hown hK hP 0 rfl rfl 3 (by decide) L29 (fun _ h9 => h9) rfl (kd tdlX8_undo_0 14 rfl) ?_
    refine va_get (D := D) (ci := 2) (v := .int (pa_count v26.1)) (C := RX3) (T := TX3) (N := 3) hx hb hts inX3_ hown hK hP 11 rfl rfl 2 (by decide) L243 (fun _ h9 => h9) rfl (kd tdlX8_undo_0 15 rfl) ?_
    cases ko hF
    exact ket_i u26 hx hb hr hlocks hK hP hD hS rfl rfl (Nat.le_of_ble_eq_true rfl) (Nat.le_of_ble_eq_true rfl) (kd tdlX8_undo_0 16 rfl)
  · have hF := kt hc7 hF
    cases ko hF
    exact kthr_S u_past hx hb hst hown hts hX hK hP hD hS (hl.1.trans hml.symm) hte hlocks (Or.inr (Or.inr ⟨rfl, rfl⟩)) (Nat.le_of_ble_eq_true rfl) (Nat.le_of_ble_eq_true rfl) (Nat.le_of_ble_eq_true rfl) (Nat.le_of_ble_eq_true rfl) (Nat.le_of_ble_eq_true rfl) (Nat.le_of_ble_eq_true rfl) (kd tdlX8_undo_0 4 rfl) (kd tdlX8_undo_0 5 rfl) (kd tdlX8_undo_0 6 rfl) (kd tdlX8_undo_0 7 rfl)
set_option maxHeartbeats 4000000 in
set_option maxRecDepth 100000 in
theorem c_X8_ifDeleted (l : Launch) (D : va_G) (t : Nat → ClassId) (h0 : Nat) (g0 : Nat → Nat) (a_desk : Nat → Nat) (d_desk : DKT) (sz : Nat) (p1 : Int32) (r : Nat × Int32) (hF : F_X8_ifDeleted d_desk p1 = some r) (hst : l.stackTraces = false) : vx_Met l yX8_ifDeleted wX8_ifDeleted ({ frames := 6, cells := 1, slots := 6, locals := 112 } : Room) (kPx D (TY t) (kflat [(wx8 h0 g0), (wdk t (g0 1) a_desk d_desk)]) [.ref h0, .int p1] sz) (kQc D (TY t) (fun (u : Unit) => (kflat [(wx8 h0 g0), (wdk t (g0 1) a_desk d_desk)])) r.1 r.2 (va_A (kflat [(wx8 h0 g0), (wdk t (g0 1) a_desk d_desk)]) sz)) (kXc D (TY t) (fun (u : Unit) => (kflat [(wx8 h0 g0), (wdk t (g0 1) a_desk d_desk)])) r.1 (va_A (kflat [(wx8 h0 g0), (wdk t (g0 1) a_desk d_desk)]) sz)) 1 6 (va_A (kflat [(wx8 h0 g0), (wdk t (g0 1) a_desk d_desk)]) sz) := by
  refine kEt (cc := cX8_ifDeleted) (maxL := 2) (ret := (some .int)) (Qx := fun A => kQc D (TY t) (fun (u : Unit) => (kflat [(wx8 h0 g0), (wdk t (g0 1) a_desk d_desk)])) r.1 r.2 A) (Xx := fun A => kXc D (TY t) (fun (u : Unit) => (kflat [(wx8 h0 g0), (wdk t (g0 1) a_desk d_desk)])) r.1 A) (lv0 := [(0, .ref h0), (1, .int p1)]) RX8 rfl (by decide) rfl (Nat.le_of_ble_eq_true rfl) rfl ?_
  intro p e s m args below meth c A ls hx hb hml hte hr hlocks hown hts hA hX hK hP hD hS hl
  have L19 := hts (.fieldLink RX8 19 "ChunkCarriers" "desk" "LChunkCarriers$Desk;") (List.mem_cons_of_mem _ w_21)
  have inX8_ : ∀ w ∈ wsX80, w ∈ wX8_ifDeleted := fun w h => List.mem_cons_of_mem _ (inlX8 w h)
  refine lv_aload_n hx hb (kd tdlX8_ifDeleted_0 0 rfl) rfl (lv_at hl 0 rfl) ?_
  refine va_get (D := D) (ci := 7) (v := .ref (g0 1)) (C := RX8) (T := TX8) (N := 9) hx hb hts inX8_ hown hK hP 0 rfl rfl 1 (by decide) L19 (fun _ h9 => h9) rfl (kd tdlX8_ifDeleted_0 1 rfl) ?_
  refine lv_iload_n hx hb (kd tdlX8_ifDeleted_0 2 rfl) rfl (lv_at hl 1 rfl) ?_
  obtain ⟨v5, e5, hF⟩ := kc hF
  refine kcL_i (S := Unit) (wf := (fun (_ : Unit) => [(wdk t (g0 1) a_desk d_desk)])) hP hD hS hA nd_1 rfl (fun _ => rfl) (kL_V (Qx := (fun A => kQi D (TY t) (kflat [(wdk t (g0 1) a_desk d_desk)]) v5 A)) (cs := [(wdk t (g0 1) a_desk d_desk)]) (is := [1]) (As := [.int p1]) (rest := []) ⟨hx, hb, hml, hown, hts⟩ hK hP hD nd_1 rfl (c_X1_hasBackup l D t (g0 1) a_desk d_desk _ p1 v5 e5) (cwV 1 hts (gcX1_hasBackup w_514) rfl rfl rfl hdX1_hasBackupV ⟨Nat.le_of_ble_eq_true rfl, Nat.le_of_ble_eq_true rfl⟩) (ci := 1) (q0 := 1) rfl rfl rfl hl.1 rfl (Nat.le_of_ble_eq_true rfl) (kd tdlX8_ifDeleted_0 3 rfl) ⟨Nat.le_of_ble_eq_true rfl, Nat.le_of_ble_eq_true rfl⟩) (fun _ H locs hP hD hS => ?_)
  have hP : va_P D vwCl (kflat [(wx8 h0 g0), (wdk t (g0 1) a_desk d_desk)]) H := hP
  have hD : va_D A (kflat [(wx8 h0 g0), (wdk t (g0 1) a_desk d_desk)]) := hD
  refine lv_if_ne (tgt := 19) hx hb (kd tdlX8_ifDeleted_0 4 rfl) (by decide) (fun hc8 => ?_) (fun hc8 => ?_)
  · have hF := kf hc8 hF
    refine lv_aload_n hx hb (kd tdlX8_ifDeleted_0 9 rfl) rfl (lv_at hl 0 rfl) ?_
    refine va_get (D := D) (ci := 7) (v := .ref (g0 1)) (C := RX8) (T := TX8) (N := 9) hx hb hts inX8_ hown hK hP 0 rfl rfl 1 (by decide) L19 (fun _ h9 => h9) rfl (kd tdlX8_ifDeleted_0 10 rfl) ?_
    refine lv_iload_n hx hb (kd tdlX8_ifDeleted_0 11 rfl) rfl (lv_at hl 1 rfl) ?_
    obtain ⟨v24, e24, hF⟩ := kc hF
    refine kcL_i (S := Unit) (wf := (fun (_ : Unit) => [(wdk t (g0 1) a_desk d_desk)])) hP hD hS hA nd_1 rfl (fun _ => rfl) (kL_V (Qx := (fun A => kQi D (TY t) (kflat [(wdk t (g0 1) a_desk d_desk)]) v24 A)) (cs := [(wdk t (g0 1) a_desk d_desk)]) (is := [1]) (As := [.int p1]) (rest := []) ⟨hx, hb, hml, hown, hts⟩ hK hP hD nd_1 rfl (c_X1_dyingWith l D t (g0 1) a_desk d_desk _ p1 v24 e24) (cwV 1 hts (gcX1_dyingWith w_896) rfl rfl rfl hdX1_dyingWithV ⟨Nat.le_of_ble_eq_true rfl, Nat.le_of_ble_eq_true rfl⟩) (ci := 1) (q0 := 1) rfl rfl rfl hl.1 rfl (Nat.le_of_ble_eq_true rfl) (kd tdlX8_ifDeleted_0 12 rfl) ⟨Nat.le_of_ble_eq_true rfl, Nat.le_of_ble_eq_true rfl⟩) (fun _ H locs hP hD hS => ?_)
    have hP : va_P D vwCl (kflat [(wx8 h0 g0), (wdk t (g0 1) a_desk d_desk)]) H := hP
    have hD : va_D A (kflat [(wx8 h0 g0), (wdk t (g0 1) a_desk d_desk)]) := hD
    cases ko hF
    exact ket_i () hx hb hr hlocks hK hP hD hS rfl rfl (Nat.le_of_ble_eq_true rfl) (Nat.le_of_ble_eq_true rfl) (kd tdlX8_ifDeleted_0 13 rfl)
  · have hF := kt hc8 hF
    cases ko hF
    exact kthr_I () hx hb hst hown hts hX hK hP hD hS (hl.1.trans hml.symm) hte hlocks (Or.inl ⟨rfl, rfl⟩) (Nat.le_of_ble_eq_true rfl) (Nat.le_of_ble_eq_true rfl) (Nat.le_of_ble_eq_true rfl) (Nat.le_of_ble_eq_true rfl) (Nat.le_of_ble_eq_true rfl) (Nat.le_of_ble_eq_true rfl) (kd tdlX8_ifDeleted_0 5 rfl) (kd tdlX8_ifDeleted_0 6 rfl) (kd tdlX8_ifDeleted_0 7 rfl) (kd tdlX8_ifDeleted_0 8 rfl)
