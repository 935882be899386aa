set_option maxHeartbeats 4000000 in
set_option maxRecDepth 100000 in
theorem c_X8_succeeds (l : Launch) (D : va_G) (t : Nat → ClassId) (h0 : Nat) (g0 : Nat → Nat) (a_text : Nat → Nat) (d_text : TXT) (a_trial : Nat → Nat) (d_trial : DKT) (a_stream : Nat → Nat) (d_stream : SMT) (a_plan : Nat → Nat) (d_plan : PLT) (a_store : Nat → Nat) (d_store : SOT) (a_carrier : Nat → Nat) (d_carrier : CRT) (sz : Nat) (p1 : Int32) (r : Int32 × DKT × SMT × PLT × SOT × CRT) (hF : F_X8_succeeds d_text d_trial d_stream d_plan d_store d_carrier p1 = some r) : Met l yX8_succeeds wX8_succeeds ({ frames := 6, cells := 0, slots := 0, locals := 133 } : Room) (kPx D (TY t) (kflat [(wx8 h0 g0), (wtx t (g0 0) a_text d_text), (wdk t (g0 2) a_trial d_trial), (wsm t (g0 5) a_stream d_stream), (wpl t (g0 6) a_plan d_plan), (wso t (g0 7) a_store d_store), (wcr t (g0 8) a_carrier d_carrier)]) [.ref h0, .int p1] sz) (kQiS D (TY t) (fun (u : Unit) => (kflat [(wx8 h0 g0), (wtx t (g0 0) a_text d_text), (wdk t (g0 2) a_trial r.2.1), (wsm t (g0 5) a_stream r.2.2.1), (wpl t (g0 6) a_plan r.2.2.2.1), (wso t (g0 7) a_store r.2.2.2.2.1), (wcr t (g0 8) a_carrier r.2.2.2.2.2)])) r.1 (va_A (kflat [(wx8 h0 g0), (wtx t (g0 0) a_text d_text), (wdk t (g0 2) a_trial d_trial), (wsm t (g0 5) a_stream d_stream), (wpl t (g0 6) a_plan d_plan), (wso t (g0 7) a_store d_store), (wcr t (g0 8) a_carrier d_carrier)]) sz)) 0 0 (va_A (kflat [(wx8 h0 g0), (wtx t (g0 0) a_text d_text), (wdk t (g0 2) a_trial d_trial), (wsm t (g0 5) a_stream d_stream), (wpl t (g0 6) a_plan d_plan), (wso t (g0 7) a_store d_store), (wcr t (g0 8) a_carrier d_carrier)]) sz) := by
  refine kEx (cc := cX8_succeeds) (maxL := 4) (ret := (some .boolean)) (Qx := fun A => kQiS D (TY t) (fun (u : Unit) => (kflat [(wx8 h0 g0), (wtx t (g0 0) a_text d_text), (wdk t (g0 2) a_trial r.2.1), (wsm t (g0 5) a_stream r.2.2.1), (wpl t (g0 6) a_plan r.2.2.2.1), (wso t (g0 7) a_store r.2.2.2.2.1), (wcr t (g0 8) a_carrier r.2.2.2.2.2)])) r.1 A) (lv0 := [(0, .ref h0), (1, .int p1)]) RX8 rfl (by decide) rfl (Nat.le_of_ble_eq_true rfl) rfl ?_
  intro p e s m args below meth c A ls hx hb hml hr hlocks hown hts hA hX hK hP hD hS hl
  have L10 := hts (.fieldLink RX8 10 "ChunkCarriers" "text" "LChunkCarriers$Text;") (List.mem_cons_of_mem _ w_14)
  have L124 := hts (.fieldLink RX8 124 "ChunkCarriers$Desk" "containers" "I") (List.mem_cons_of_mem _ w_129)
  have L23 := hts (.fieldLink RX8 23 "ChunkCarriers" "trial" "LChunkCarriers$Desk;") (List.mem_cons_of_mem _ w_19)
  have L40 := hts (.fieldLink RX8 40 "ChunkCarriers" "stream" "LChunkCarriers$Stream;") (List.mem_cons_of_mem _ w_28)
  have L61 := hts (.fieldLink RX8 61 "ChunkCarriers" "carrier" "LChunkCarriers$Carrier;") (List.mem_cons_of_mem _ w_40)
  have inX1_ : ∀ w ∈ wsX10, w ∈ wX8_succeeds := fun w h => List.mem_cons_of_mem _ (inlX1 w h)
  have inX8_ : ∀ w ∈ wsX80, w ∈ wX8_succeeds := fun w h => List.mem_cons_of_mem _ (inlX8 w h)
  refine lv_iload_n hx hb (kd tdlX8_succeeds_0 0 rfl) rfl (lv_at hl 1 rfl) ?_
  refine lv_bipush (v := 100) hx hb (kd tdlX8_succeeds_0 1 rfl) (by decide) ?_
  obtain ⟨hz3, hF⟩ := kgz hF
  refine lv_idiv hx hb (kd tdlX8_succeeds_0 2 rfl) hz3 ?_
  refine lv_bipush (v := 10) hx hb (kd tdlX8_succeeds_0 3 rfl) (by decide) ?_
  obtain ⟨hz6, hF⟩ := kgz hF
  refine lv_irem hx hb (kd tdlX8_succeeds_0 4 rfl) hz6 ?_
  refine lv_istore_n (lv' := [(2, .int ((p1 / 100) - (p1 / 100) / 10 * 10)), (0, .ref h0), (1, .int p1)]) hx hb (kd tdlX8_succeeds_0 5 rfl) rfl hl (by decide) rfl (fun ls hl => ?_)
  refine lv_iload_n hx hb (kd tdlX8_succeeds_0 6 rfl) rfl (lv_at hl 2 rfl) ?_
  refine lv_bipush (v := 100) hx hb (kd tdlX8_succeeds_0 7 rfl) (by decide) ?_
  obtain ⟨hz11, hF⟩ := kgz hF
  refine lv_irem hx hb (kd tdlX8_succeeds_0 8 rfl) hz11 ?_
  refine lv_istore_n (lv' := [(3, .int (p1 - p1 / 100 * 100)), (2, .int ((p1 / 100) - (p1 / 100) / 10 * 10)), (0, .ref h0), (1, .int p1)]) hx hb (kd tdlX8_succeeds_0 9 rfl) rfl hl (by decide) rfl (fun ls hl => ?_)
  refine lv_iload_n hx hb (kd tdlX8_succeeds_0 10 rfl) rfl (lv_at hl 3 rfl) ?_
  refine lv_sipush (v := 1000) hx hb (kd tdlX8_succeeds_0 11 rfl) (by decide) ?_
  obtain ⟨hz17, hF⟩ := kgz hF
  refine lv_idiv hx hb (kd tdlX8_succeeds_0 12 rfl) hz17 ?_
  by_cases hw18 : (Int32.toInt (p1 / 1000) < 1 ∨ 8 < Int32.toInt (p1 / 1000))
  · have hF := kt hw18 hF
    refine lv_tableOut (tgt := 242) hx hb (kd tdlX8_succeeds_0 13 rfl) hw18 (by decide) ?_
    refine lv_iconst (v := 0) hx hb (kd tdlX8_succeeds_2 18 rfl) (by decide) ?_
    cases ko hF
    exact kes_z () hx hb hr hlocks rfl hK hP hD hS rfl (Nat.le_of_ble_eq_true rfl) (Nat.le_of_ble_eq_true rfl) (kd tdlX8_succeeds_2 19 rfl)
  · have hF := kf hw18 hF
    by_cases hv18_0 : (p1 / 1000) = 1
    · have hF := kt hv18_0 hF
      refine ksw (n := 1) (off := (46)) (tgt := 64) hx hb (kd tdlX8_succeeds_0 13 rfl) hv18_0 (by decide) (by decide) (by decide) (by decide) ?_
      refine lv_iload_n hx hb (kd tdlX8_succeeds_0 14 rfl) rfl (lv_at hl 0 rfl) ?_
      refine lv_if_ne (tgt := 94) hx hb (kd tdlX8_succeeds_0 15 rfl) (by decide) (fun hc65 => ?_) (fun hc65 => ?_)
      · have hF := kf hc65 hF
        refine lv_iconst (v := 0) hx hb (kd tdlX8_succeeds_0 28 rfl) (by decide) ?_
        cases ko hF
        exact kes_z () hx hb hr hlocks rfl hK hP hD hS rfl (Nat.le_of_ble_eq_true rfl) (Nat.le_of_ble_eq_true rfl) (kd tdlX8_succeeds_0 29 rfl)
      · have hF := kt hc65 hF
        refine lv_aload_n hx hb (kd tdlX8_succeeds_0 16 rfl) rfl (lv_at hl 2 rfl) ?_
        refine va_get (D := D) (ci := 7) (v := .ref (g0 0)) (C := RX8) (T := TX8) (N := 9) hx hb hts inX8_ hown hK hP 0 rfl rfl 0 (by decide) L10 (fun _ h9 => h9) rfl (kd tdlX8_succeeds_0 17 rfl) ?_
        refine lv_iload_n hx hb (kd tdlX8_succeeds_0 18 rfl) rfl (lv_at hl 1 rfl) ?_
        refine lv_aload_n hx hb (kd tdlX8_succeeds_0 19 rfl) rfl (lv_at hl 2 rfl) ?_
        refine va_get (D := D) (ci := 7) (v := .ref (g0 5)) (C := RX8) (T := TX8) (N := 9) hx hb hts inX8_ hown hK hP 0 rfl rfl 5 (by decide) L40 (fun _ h9 => h9) rfl (kd tdlX8_succeeds_0 20 rfl) ?_
        obtain ⟨v77, e77, hF⟩ := kc hF
        refine kcL_i (S := Unit) (wf := (fun (_ : Unit) => [(wtx t (g0 0) a_text d_text), (wsm t (g0 5) a_stream v77.2)])) hP hD hS hA nd_1_3 rfl (fun _ => rfl) (kL_V (Qx := (fun A => kQi D (TY t) (kflat [(wtx t (g0 0) a_text d_text), (wsm t (g0 5) a_stream v77.2)]) v77.1 A)) (cs := [(wtx t (g0 0) a_text d_text), (wsm t (g0 5) a_stream d_stream)]) (is := [1, 3]) (As := [.int ((p1 / 100) - (p1 / 100) / 10 * 10), .ref (g0 5)]) (rest := []) ⟨hx, hb, hml, hown, hts⟩ hK hP hD nd_1_3 rfl (c_X7_readStream l D t (g0 0) a_text d_text (g0 5) a_stream d_stream _ ((p1 / 100) - (p1 / 100) / 10 * 10) v77 e77) (cwV 2 hts (gcX7_readStream w_463) rfl rfl rfl hdX7_readStreamV ⟨Nat.le_of_ble_eq_true rfl, Nat.le_of_ble_eq_true rfl⟩) (ci := 6) (q0 := 1) rfl rfl rfl hl.1 rfl (Nat.le_of_ble_eq_true rfl) (kd tdlX8_succeeds_0 21 rfl) ⟨Nat.le_of_ble_eq_true rfl, Nat.le_of_ble_eq_true rfl⟩) (fun _ H locs hP hD hS => ?_)
        have hP : va_P D vwCl (kflat [(wx8 h0 g0), (wtx t (g0 0) a_text d_text), (wdk t (g0 2) a_trial d_trial), (wsm t (g0 5) a_stream v77.2), (wpl t (g0 6) a_plan d_plan), (wso t (g0 7) a_store d_store), (wcr t (g0 8) a_carrier d_carrier)]) H := hP
        have hD : va_D A (kflat [(wx8 h0 g0), (wtx t (g0 0) a_text d_text), (wdk t (g0 2) a_trial d_trial), (wsm t (g0 5) a_stream v77.2), (wpl t (g0 6) a_plan d_plan), (wso t (g0 7) a_store d_store), (wcr t (g0 8) a_carrier d_carrier)]) := hD
        refine lv_if_eq (tgt := 94) hx hb (kd tdlX8_succeeds_0 22 rfl) (by decide) (fun hc80 => ?_) (fun hc80 => ?_)
        · have hF := kt hc80 hF
          refine lv_iconst (v := 0) hx hb (kd tdlX8_succeeds_0 28 rfl) (by decide) ?_
          cases ko hF
          exact kes_z () hx hb hr hlocks rfl hK hP hD hS rfl (Nat.le_of_ble_eq_true rfl) (Nat.le_of_ble_eq_true rfl) (kd tdlX8_succeeds_0 29 rfl)
        · have hF := kf hc80 hF
          refine lv_aload_n hx hb (kd tdlX8_succeeds_0 23 rfl) rfl (lv_at hl 2 rfl) ?_
          obtain ⟨v84, e84, hF⟩ := kc hF
          refine kcL_i (S := Unit) (wf := (fun (_ : Unit) => [(wx8 h0 g0), (wdk t (g0 2) a_trial v84.2.1), (wsm t (g0 5) a_stream v84.2.2.1), (wpl t (g0 6) a_plan v84.2.2.2)])) hP hD hS hA nd_0_2_3_4 rfl (fun _ => rfl) (kL_VX (Qx := (fun A => kQiS D (TY t) (fun (u84 : Unit) => kflat [(wx8 h0 g0), (wdk t (g0 2) a_trial v84.2.1), (wsm t (g0 5) a_stream v84.2.2.1), (wpl t (g0 6) a_plan v84.2.2.2)]) v84.1 A)) (cs := [(wx8 h0 g0), (wdk t (g0 2) a_trial d_trial), (wsm t (g0 5) a_stream v77.2), (wpl t (g0 6) a_plan d_plan)]) (is := [0, 2, 3, 4]) (As := []) (rest := []) ⟨hx, hb, hml, hown, hts⟩ hX hS hA hK hP hD nd_0_2_3_4 rfl (c_X8_backsUpOnTrial l D t h0 g0 a_trial d_trial a_stream v77.2 a_plan d_plan _  v84 e84) (cwV 0 hts (gcX8_backsUpOnTrial w_607) rfl rfl rfl hdX8_backsUpOnTrialV ⟨Nat.le_of_ble_eq_true rfl, Nat.le_of_ble_eq_true rfl⟩) (ci := 7) (q0 := 0) rfl rfl rfl hl.1 rfl (Nat.le_of_ble_eq_true rfl) (kd tdlX8_succeeds_0 24 rfl) ⟨Nat.le_of_ble_eq_true rfl, Nat.le_of_ble_eq_true rfl⟩) (fun _ H locs hP hD hS => ?_)
          have hP : va_P D vwCl (kflat [(wx8 h0 g0), (wtx t (g0 0) a_text d_text), (wdk t (g0 2) a_trial v84.2.1), (wsm t (g0 5) a_stream v84.2.2.1), (wpl t (g0 6) a_plan v84.2.2.2), (wso t (g0 7) a_store d_store), (wcr t (g0 8) a_carrier d_carrier)]) H := hP
          have hD : va_D A (kflat [(wx8 h0 g0), (wtx t (g0 0) a_text d_text), (wdk t (g0 2) a_trial v84.2.1), (wsm t (g0 5) a_stream v84.2.2.1), (wpl t (g0 6) a_plan v84.2.2.2), (wso t (g0 7) a_store d_store), (wcr t (g0 8) a_carrier d_carrier)]) := hD
          refine lv_if_eq (tgt := 94) hx hb (kd tdlX8_succeeds_0 25 rfl) (by decide) (fun hc87 => ?_) (fun hc87 => ?_)
          · have hF := kt hc87 hF
            refine lv_iconst (v := 0) hx hb (kd tdlX8_succeeds_0 28 rfl) (by decide) ?_
            cases ko hF
            exact kes_z () hx hb hr hlocks rfl hK hP hD hS rfl (Nat.le_of_ble_eq_true rfl) (Nat.le_of_ble_eq_true rfl) (kd tdlX8_succeeds_0 29 rfl)
          · have hF := kf hc87 hF
            refine lv_iconst (v := 1) hx hb (kd tdlX8_succeeds_0 26 rfl) (by decide) ?_
            refine lv_goto (tgt := 95) hx hb (kd tdlX8_succeeds_0 27 rfl) (by decide) ?_
            cases ko hF
            exact kes_z () hx hb hr hlocks rfl hK hP hD hS rfl (Nat.le_of_ble_eq_true rfl) (Nat.le_of_ble_eq_true rfl) (kd tdlX8_succeeds_0 29 rfl)
    · have hF := kf hv18_0 hF
      by_cases hv18_1 : (p1 / 1000) = 2
      · have hF := kt hv18_1 hF
        refine ksw (n := 2) (off := (78)) (tgt := 96) hx hb (kd tdlX8_succeeds_0 13 rfl) hv18_1 (by decide) (by decide) (by decide) (by decide) ?_
        refine lv_iload_n hx hb (kd tdlX8_succeeds_0 30 rfl) rfl (lv_at hl 0 rfl) ?_
        refine lv_if_ne (tgt := 112) hx hb (kd tdlX8_succeeds_0 31 rfl) (by decide) (fun hc97 => ?_) (fun hc97 => ?_)
        · have hF := kf hc97 hF
          refine lv_iconst (v := 0) hx hb (kd tdlX8_succeeds_0 38 rfl) (by decide) ?_
          cases ko hF
          exact kes_z () hx hb hr hlocks rfl hK hP hD hS rfl (Nat.le_of_ble_eq_true rfl) (Nat.le_of_ble_eq_true rfl) (kd tdlX8_succeeds_0 39 rfl)
        · have hF := kt hc97 hF
          refine lv_aload_n hx hb (kd tdlX8_succeeds_0 32 rfl) rfl (lv_at hl 2 rfl) ?_
          refine lv_iload_n hx hb (kd tdlX8_succeeds_0 33 rfl) rfl (lv_at hl 1 rfl) ?_
          obtain ⟨v102, e102, hF⟩ := kc hF
          refine kcL_i (S := Unit) (wf := (fun (_ : Unit) => [(wx8 h0 g0), (wdk t (g0 2) a_trial v102.2)])) hP hD hS hA nd_0_2 rfl (fun _ => rfl) (kL_VX (Qx := (fun A => kQiS D (TY t) (fun (u102 : Unit) => kflat [(wx8 h0 g0), (wdk t (g0 2) a_trial v102.2)]) v102.1 A)) (cs := [(wx8 h0 g0), (wdk t (g0 2) a_trial d_trial)]) (is := [0, 2]) (As := [.int ((p1 / 100) - (p1 / 100) / 10 * 10)]) (rest := []) ⟨hx, hb, hml, hown, hts⟩ hX hS hA hK hP hD nd_0_2 rfl (c_X8_deletesOnTrial l D t h0 g0 a_trial d_trial _ ((p1 / 100) - (p1 / 100) / 10 * 10) v102 e102) (cwV 1 hts (gcX8_deletesOnTrial w_596) rfl rfl rfl hdX8_deletesOnTrialV ⟨Nat.le_of_ble_eq_true rfl, Nat.le_of_ble_eq_true rfl⟩) (ci := 7) (q0 := 0) rfl rfl rfl hl.1 rfl (Nat.le_of_ble_eq_true rfl) (kd tdlX8_succeeds_0 34 rfl) ⟨Nat.le_of_ble_eq_true rfl, Nat.le_of_ble_eq_true rfl⟩) (fun _ H locs hP hD hS => ?_)
          have hP : va_P D vwCl (kflat [(wx8 h0 g0), (wtx t (g0 0) a_text d_text), (wdk t (g0 2) a_trial v102.2), (wsm t (g0 5) a_stream d_stream), (wpl t (g0 6) a_plan d_plan), (wso t (g0 7) a_store d_store), (wcr t (g0 8) a_carrier d_carrier)]) H := hP
          have hD : va_D A (kflat [(wx8 h0 g0), (wtx t (g0 0) a_text d_text), (wdk t (g0 2) a_trial v102.2), (wsm t (g0 5) a_stream d_stream), (wpl t (g0 6) a_plan d_plan), (wso t (g0 7) a_store d_store), (wcr t (g0 8) a_carrier d_carrier)]) := hD
          refine lv_if_eq (tgt := 112) hx hb (kd tdlX8_succeeds_0 35 rfl) (by decide) (fun hc105 => ?_) (fun hc105 => ?_)
          · have hF := kt hc105 hF
            refine lv_iconst (v := 0) hx hb (kd tdlX8_succeeds_0 38 rfl) (by decide) ?_
            cases ko hF
            exact kes_z () hx hb hr hlocks rfl hK hP hD hS rfl (Nat.le_of_ble_eq_true rfl) (Nat.le_of_ble_eq_true rfl) (kd tdlX8_succeeds_0 39 rfl)
          · have hF := kf hc105 hF
            refine lv_iconst (v := 1) hx hb (kd tdlX8_succeeds_0 36 rfl) (by decide) ?_
            refine lv_goto (tgt := 113) hx hb (kd tdlX8_succeeds_0 37 rfl) (by decide) ?_
            cases ko hF
            exact kes_z () hx hb hr hlocks rfl hK hP hD hS rfl (Nat.le_of_ble_eq_true rfl) (Nat.le_of_ble_eq_true rfl) (kd tdlX8_succeeds_0 39 rfl)
      · have hF := kf hv18_1 hF
        by_cases hv18_2 : (p1 / 1000) = 3
        · have hF := kt hv18_2 hF
          refine ksw (n := 3) (off := (96)) (tgt := 114) hx hb (kd tdlX8_succeeds_0 13 rfl) hv18_2 (by decide) (by decide) (by decide) (by decide) ?_
          refine lv_iload_n hx hb (kd tdlX8_succeeds_0 40 rfl) rfl (lv_at hl 0 rfl) ?_
          refine lv_if_ne (tgt := 140) hx hb (kd tdlX8_succeeds_0 41 rfl) (by decide) (fun hc115 => ?_) (fun hc115 => ?_)
          · have hF := kf hc115 hF
            refine lv_iconst (v := 0) hx hb (kd tdlX8_succeeds_1 7 rfl) (by decide) ?_
            cases ko hF
            exact kes_z () hx hb hr hlocks rfl hK hP hD hS rfl (Nat.le_of_ble_eq_true rfl) (Nat.le_of_ble_eq_true rfl) (kd tdlX8_succeeds_1 8 rfl)
          · have hF := kt hc115 hF
            refine lv_iload_n hx hb (kd tdlX8_succeeds_0 42 rfl) rfl (lv_at hl 1 rfl) ?_
            refine lv_if_ne (tgt := 140) hx hb (kd tdlX8_succeeds_0 43 rfl) (by decide) (fun hc119 => ?_) (fun hc119 => ?_)
            · have hF := kf hc119 hF
              refine lv_iconst (v := 0) hx hb (kd tdlX8_succeeds_1 7 rfl) (by decide) ?_
              cases ko hF
              exact kes_z () hx hb hr hlocks rfl hK hP hD hS rfl (Nat.le_of_ble_eq_true rfl) (Nat.le_of_ble_eq_true rfl) (kd tdlX8_succeeds_1 8 rfl)
            · have hF := kt hc119 hF
              refine lv_aload_n hx hb (kd tdlX8_succeeds_0 44 rfl) rfl (lv_at hl 2 rfl) ?_
              refine va_get (D := D) (ci := 7) (v := .ref (g0 8)) (C := RX8) (T := TX8) (N := 9) hx hb hts inX8_ hown hK hP 0 rfl rfl 8 (by decide) L61 (fun _ h9 => h9) rfl (kd tdlX8_succeeds_1 0 rfl) ?_
              refine lv_aload_n hx hb (kd tdlX8_succeeds_1 1 rfl) rfl (lv_at hl 2 rfl) ?_
              refine va_get (D := D) (ci := 7) (v := .ref (g0 2)) (C := RX8) (T := TX8) (N := 9) hx hb hts inX8_ hown hK hP 0 rfl rfl 2 (by decide) L23 (fun _ h9 => h9) rfl (kd tdlX8_succeeds_1 2 rfl) ?_
              obtain ⟨v130, e130, hF⟩ := kc hF
              refine kcL_i (S := Unit) (wf := (fun (_ : Unit) => [(wcr t (g0 8) a_carrier v130.2.1), (wdk t (g0 2) a_trial v130.2.2)])) hP hD hS hA nd_6_2 rfl (fun _ => rfl) (kL_V (Qx := (fun A => kQi D (TY t) (kflat [(wcr t (g0 8) a_carrier v130.2.1), (wdk t (g0 2) a_trial v130.2.2)]) v130.1 A)) (cs := [(wcr t (g0 8) a_carrier d_carrier), (wdk t (g0 2) a_trial d_trial)]) (is := [6, 2]) (As := [.ref (g0 2)]) (rest := []) ⟨hx, hb, hml, hown, hts⟩ hK hP hD nd_6_2 rfl (c_X0_carryForward l D t (g0 8) a_carrier d_carrier (g0 2) a_trial d_trial _  v130 e130) (cwV 1 hts (gcX0_carryForward w_361) rfl rfl rfl hdX0_carryForwardV ⟨Nat.le_of_ble_eq_true rfl, Nat.le_of_ble_eq_true rfl⟩) (ci := 0) (q0 := 23) rfl rfl rfl hl.1 rfl (Nat.le_of_ble_eq_true rfl) (kd tdlX8_succeeds_1 3 rfl) ⟨Nat.le_of_ble_eq_true rfl, Nat.le_of_ble_eq_true rfl⟩) (fun _ H locs hP hD hS => ?_)
              have hP : va_P D vwCl (kflat [(wx8 h0 g0), (wtx t (g0 0) a_text d_text), (wdk t (g0 2) a_trial v130.2.2), (wsm t (g0 5) a_stream d_stream), (wpl t (g0 6) a_plan d_plan), (wso t (g0 7) a_store d_store), (wcr t (g0 8) a_carrier v130.2.1)]) H := hP
              have hD : va_D A (kflat [(wx8 h0 g0), (wtx t (g0 0) a_text d_text), (wdk t (g0 2) a_trial v130.2.2), (wsm t (g0 5) a_stream d_stream), (wpl t (g0 6) a_plan d_plan), (wso t (g0 7) a_store d_store), (wcr t (g0 8) a_carrier v130.2.1)]) := hD
              refine lv_if_lt (tgt := 140) hx hb (kd tdlX8_succeeds_1 4 rfl) (by decide) (fun hc133 => ?_) (fun hc133 => ?_)
              · have hF := kt hc133 hF
                refine lv_iconst (v := 0) hx hb (kd tdlX8_succeeds_1 7 rfl) (by decide) ?_
                cases ko hF
                exact kes_z () hx hb hr hlocks rfl hK hP hD hS rfl (Nat.le_of_ble_eq_true rfl) (Nat.le_of_ble_eq_true rfl) (kd tdlX8_succeeds_1 8 rfl)
              · have hF := kf hc133 hF
                refine lv_iconst (v := 1) hx hb (kd tdlX8_succeeds_1 5 rfl) (by decide) ?_
                refine lv_goto (tgt := 141) hx hb (kd tdlX8_succeeds_1 6 rfl) (by decide) ?_
                cases ko hF
                exact kes_z () hx hb hr hlocks rfl hK hP hD hS rfl (Nat.le_of_ble_eq_true rfl) (Nat.le_of_ble_eq_true rfl) (kd tdlX8_succeeds_1 8 rfl)
        · have hF := kf hv18_2 hF
          by_cases hv18_3 : (p1 / 1000) = 4
          · have hF := kt hv18_3 hF
            refine ksw (n := 4) (off := (124)) (tgt := 142) hx hb (kd tdlX8_succeeds_0 13 rfl) hv18_3 (by decide) (by decide) (by decide) (by decide) ?_
            refine lv_aload_n hx hb (kd tdlX8_succeeds_1 9 rfl) rfl (lv_at hl 2 rfl) ?_
            refine lv_iload_n hx hb (kd tdlX8_succeeds_1 10 rfl) rfl (lv_at hl 1 rfl) ?_
            refine lv_iload_n hx hb (kd tdlX8_succeeds_1 11 rfl) rfl (lv_at hl 0 rfl) ?_
            obtain ⟨v145, e145, hF⟩ := kc hF
            refine kcL_i (S := Unit) (wf := (fun (_ : Unit) => [(wx8 h0 g0), (wdk t (g0 2) a_trial v145.2)])) hP hD hS hA nd_0_2 rfl (fun _ => rfl) (kL_VX (Qx := (fun A => kQiS D (TY t) (fun (u145 : Unit) => kflat [(wx8 h0 g0), (wdk t (g0 2) a_trial v145.2)]) v145.1 A)) (cs := [(wx8 h0 g0), (wdk t (g0 2) a_trial d_trial)]) (is := [0, 2]) (As := [.int ((p1 / 100) - (p1 / 100) / 10 * 10), .int (p1 - p1 / 100 * 100)]) (rest := []) ⟨hx, hb, hml, hown, hts⟩ hX hS hA hK hP hD nd_0_2 rfl (c_X8_setsOnTrial l D t h0 g0 a_trial d_trial _ ((p1 / 100) - (p1 / 100) / 10 * 10) (p1 - p1 / 100 * 100) v145 e145) (cwV 2 hts (gcX8_setsOnTrial w_623) rfl rfl rfl hdX8_setsOnTrialV ⟨Nat.le_of_ble_eq_true rfl, Nat.le_of_ble_eq_true rfl⟩) (ci := 7) (q0 := 0) rfl rfl rfl hl.1 rfl (Nat.le_of_ble_eq_true rfl) (kd tdlX8_succeeds_1 12 rfl) ⟨Nat.le_of_ble_eq_true rfl, Nat.le_of_ble_eq_true rfl⟩) (fun _ H locs hP hD hS => ?_)
            have hP : va_P D vwCl (kflat [(wx8 h0 g0), (wtx t (g0 0) a_text d_text), (wdk t (g0 2) a_trial v145.2), (wsm t (g0 5) a_stream d_stream), (wpl t (g0 6) a_plan d_plan), (wso t (g0 7) a_store d_store), (wcr t (g0 8) a_carrier d_carrier)]) H := hP
            have hD : va_D A (kflat [(wx8 h0 g0), (wtx t (g0 0) a_text d_text), (wdk t (g0 2) a_trial v145.2), (wsm t (g0 5) a_stream d_stream), (wpl t (g0 6) a_plan d_plan), (wso t (g0 7) a_store d_store), (wcr t (g0 8) a_carrier d_carrier)]) := hD
            obtain ⟨hn148, hF⟩ := kgb hF
            cases ko hF
            exact kes_z () hx hb hr hlocks hn148 hK hP hD hS rfl (Nat.le_of_ble_eq_true rfl) (Nat.le_of_ble_eq_true rfl) (kd tdlX8_succeeds_1 13 rfl)
          · have hF := kf hv18_3 hF
            by_cases hv18_4 : (p1 / 1000) = 5
            · have hF := kt hv18_4 hF
              refine ksw (n := 5) (off := (131)) (tgt := 149) hx hb (kd tdlX8_succeeds_0 13 rfl) hv18_4 (by decide) (by decide) (by decide) (by decide) ?_
              refine lv_iload_n hx hb (kd tdlX8_succeeds_1 14 rfl) rfl (lv_at hl 1 rfl) ?_
              refine lv_if_ne (tgt := 168) hx hb (kd tdlX8_succeeds_1 15 rfl) (by decide) (fun hc150 => ?_) (fun hc150 => ?_)
              · have hF := kf hc150 hF
                refine lv_iconst (v := 0) hx hb (kd tdlX8_succeeds_1 23 rfl) (by decide) ?_
                cases ko hF
                exact kes_z () hx hb hr hlocks rfl hK hP hD hS rfl (Nat.le_of_ble_eq_true rfl) (Nat.le_of_ble_eq_true rfl) (kd tdlX8_succeeds_1 24 rfl)
              · have hF := kt hc150 hF
                refine lv_aload_n hx hb (kd tdlX8_succeeds_1 16 rfl) rfl (lv_at hl 2 rfl) ?_
                refine va_get (D := D) (ci := 7) (v := .ref (g0 2)) (C := RX8) (T := TX8) (N := 9) hx hb hts inX8_ hown hK hP 0 rfl rfl 2 (by decide) L23 (fun _ h9 => h9) rfl (kd tdlX8_succeeds_1 17 rfl) ?_
                refine va_get (D := D) (ci := 1) (v := .int (dk_containers d_trial)) (C := RX1) (T := TX1) (N := 13) hx hb hts inX1_ hown hK hP 3 rfl rfl 4 (by decide) L124 (fun _ h9 => h9) rfl (kd tdlX8_succeeds_1 18 rfl) ?_
                refine lv_iload_n hx hb (kd tdlX8_succeeds_1 19 rfl) rfl (lv_at hl 0 rfl) ?_
                refine lv_icmp_gt (tgt := 168) hx hb (kd tdlX8_succeeds_1 20 rfl) (by decide) (fun hc161 => ?_) (fun hc161 => ?_)
                · have hF := kt hc161 hF
                  refine lv_iconst (v := 0) hx hb (kd tdlX8_succeeds_1 23 rfl) (by decide) ?_
                  cases ko hF
                  exact kes_z () hx hb hr hlocks rfl hK hP hD hS rfl (Nat.le_of_ble_eq_true rfl) (Nat.le_of_ble_eq_true rfl) (kd tdlX8_succeeds_1 24 rfl)
                · have hF := kf hc161 hF
                  refine lv_iconst (v := 1) hx hb (kd tdlX8_succeeds_1 21 rfl) (by decide) ?_
                  refine lv_goto (tgt := 169) hx hb (kd tdlX8_succeeds_1 22 rfl) (by decide) ?_
                  cases ko hF
                  exact kes_z () hx hb hr hlocks rfl hK hP hD hS rfl (Nat.le_of_ble_eq_true rfl) (Nat.le_of_ble_eq_true rfl) (kd tdlX8_succeeds_1 24 rfl)
            · have hF := kf hv18_4 hF
              by_cases hv18_5 : (p1 / 1000) = 6
              · have hF := kt hv18_5 hF
                refine ksw (n := 6) (off := (152)) (tgt := 170) hx hb (kd tdlX8_succeeds_0 13 rfl) hv18_5 (by decide) (by decide) (by decide) (by decide) ?_
                refine lv_aload_n hx hb (kd tdlX8_succeeds_1 25 rfl) rfl (lv_at hl 2 rfl) ?_
                refine va_get (D := D) (ci := 7) (v := .ref (g0 2)) (C := RX8) (T := TX8) (N := 9) hx hb hts inX8_ hown hK hP 0 rfl rfl 2 (by decide) L23 (fun _ h9 => h9) rfl (kd tdlX8_succeeds_1 26 rfl) ?_
                refine lv_iload_n hx hb (kd tdlX8_succeeds_1 27 rfl) rfl (lv_at hl 1 rfl) ?_
                obtain ⟨v175, e175, hF⟩ := kc hF
                refine kcL_i (S := Unit) (wf := (fun (_ : Unit) => [(wdk t (g0 2) a_trial d_trial)])) hP hD hS hA nd_2 rfl (fun _ => rfl) (kL_V (Qx := (fun A => kQi D (TY t) (kflat [(wdk t (g0 2) a_trial d_trial)]) v175 A)) (cs := [(wdk t (g0 2) a_trial d_trial)]) (is := [2]) (As := [.int ((p1 / 100) - (p1 / 100) / 10 * 10)]) (rest := []) ⟨hx, hb, hml, hown, hts⟩ hK hP hD nd_2 rfl (c_X1_hasBackup l D t (g0 2) a_trial d_trial _ ((p1 / 100) - (p1 / 100) / 10 * 10) v175 e175) (cwV 1 hts (gcX1_hasBackup w_280) rfl rfl rfl hdX1_hasBackupV ⟨Nat.le_of_ble_eq_true rfl, Nat.le_of_ble_eq_true rfl⟩) (ci := 1) (q0 := 3) rfl rfl rfl hl.1 rfl (Nat.le_of_ble_eq_true rfl) (kd tdlX8_succeeds_1 28 rfl) ⟨Nat.le_of_ble_eq_true rfl, Nat.le_of_ble_eq_true rfl⟩) (fun _ H locs hP hD hS => ?_)
                have hP : va_P D vwCl (kflat [(wx8 h0 g0), (wtx t (g0 0) a_text d_text), (wdk t (g0 2) a_trial d_trial), (wsm t (g0 5) a_stream d_stream), (wpl t (g0 6) a_plan d_plan), (wso t (g0 7) a_store d_store), (wcr t (g0 8) a_carrier d_carrier)]) H := hP
                have hD : va_D A (kflat [(wx8 h0 g0), (wtx t (g0 0) a_text d_text), (wdk t (g0 2) a_trial d_trial), (wsm t (g0 5) a_stream d_stream), (wpl t (g0 6) a_plan d_plan), (wso t (g0 7) a_store d_store), (wcr t (g0 8) a_carrier d_carrier)]) := hD
                refine lv_if_eq (tgt := 198) hx hb (kd tdlX8_succeeds_1 29 rfl) (by decide) (fun hc178 => ?_) (fun hc178 => ?_)
                · have hF := kt hc178 hF
                  refine lv_iconst (v := 0) hx hb (kd tdlX8_succeeds_1 39 rfl) (by decide) ?_
                  cases ko hF
                  exact kes_z () hx hb hr hlocks rfl hK hP hD hS rfl (Nat.le_of_ble_eq_true rfl) (Nat.le_of_ble_eq_true rfl) (kd tdlX8_succeeds_1 40 rfl)
                · have hF := kf hc178 hF
                  refine lv_aload_n hx hb (kd tdlX8_succeeds_1 30 rfl) rfl (lv_at hl 2 rfl) ?_
                  refine lv_aload_n hx hb (kd tdlX8_succeeds_1 31 rfl) rfl (lv_at hl 2 rfl) ?_
                  refine va_get (D := D) (ci := 7) (v := .ref (g0 2)) (C := RX8) (T := TX8) (N := 9) hx hb hts inX8_ hown hK hP 0 rfl rfl 2 (by decide) L23 (fun _ h9 => h9) rfl (kd tdlX8_succeeds_1 32 rfl) ?_
                  refine lv_iload_n hx hb (kd tdlX8_succeeds_1 33 rfl) rfl (lv_at hl 1 rfl) ?_
                  obtain ⟨v187, e187, hF⟩ := kc hF
                  refine kcL_i (S := Unit) (wf := (fun (_ : Unit) => [(wx8 h0 g0), (wso t (g0 7) a_store v187.2), (wdk t (g0 2) a_trial d_trial)])) hP hD hS hA nd_0_5_2 rfl (fun _ => rfl) (kL_VX (Qx := (fun A => kQiS D (TY t) (fun (u187 : Unit) => kflat [(wx8 h0 g0), (wso t (g0 7) a_store v187.2), (wdk t (g0 2) a_trial d_trial)]) v187.1 A)) (cs := [(wx8 h0 g0), (wso t (g0 7) a_store d_store), (wdk t (g0 2) a_trial d_trial)]) (is := [0, 5, 2]) (As := [.ref (g0 2), .int ((p1 / 100) - (p1 / 100) / 10 * 10)]) (rest := []) ⟨hx, hb, hml, hown, hts⟩ hX hS hA hK hP hD nd_0_5_2 rfl (c_X8_loads l D t h0 g0 a_store d_store (g0 2) a_trial d_trial _ ((p1 / 100) - (p1 / 100) / 10 * 10) v187 e187) (cwV 2 hts (gcX8_loads w_291) rfl rfl rfl hdX8_loadsV ⟨Nat.le_of_ble_eq_true rfl, Nat.le_of_ble_eq_true rfl⟩) (ci := 7) (q0 := 0) rfl rfl rfl hl.1 rfl (Nat.le_of_ble_eq_true rfl) (kd tdlX8_succeeds_1 34 rfl) ⟨Nat.le_of_ble_eq_true rfl, Nat.le_of_ble_eq_true rfl⟩) (fun _ H locs hP hD hS => ?_)
                  have hP : va_P D vwCl (kflat [(wx8 h0 g0), (wtx t (g0 0) a_text d_text), (wdk t (g0 2) a_trial d_trial), (wsm t (g0 5) a_stream d_stream), (wpl t (g0 6) a_plan d_plan), (wso t (g0 7) a_store v187.2), (wcr t (g0 8) a_carrier d_carrier)]) H := hP
                  have hD : va_D A (kflat [(wx8 h0 g0), (wtx t (g0 0) a_text d_text), (wdk t (g0 2) a_trial d_trial), (wsm t (g0 5) a_stream d_stream), (wpl t (g0 6) a_plan d_plan), (wso t (g0 7) a_store v187.2), (wcr t (g0 8) a_carrier d_carrier)]) := hD
                  refine lv_iload_n hx hb (kd tdlX8_succeeds_1 35 rfl) rfl (lv_at hl 0 rfl) ?_
                  refine lv_icmp_gt (tgt := 198) hx hb (kd tdlX8_succeeds_1 36 rfl) (by decide) (fun hc191 => ?_) (fun hc191 => ?_)
                  · have hF := kt hc191 hF
                    refine lv_iconst (v := 0) hx hb (kd tdlX8_succeeds_1 39 rfl) (by decide) ?_
                    cases ko hF
                    exact kes_z () hx hb hr hlocks rfl hK hP hD hS rfl (Nat.le_of_ble_eq_true rfl) (Nat.le_of_ble_eq_true rfl) (kd tdlX8_succeeds_1 40 rfl)
                  · have hF := kf hc191 hF
                    refine lv_iconst (v := 1) hx hb (kd tdlX8_succeeds_1 37 rfl) (by decide) ?_
                    refine lv_goto (tgt := 199) hx hb (kd tdlX8_succeeds_1 38 rfl) (by decide) ?_
                    cases ko hF
                    exact kes_z () hx hb hr hlocks rfl hK hP hD hS rfl (Nat.le_of_ble_eq_true rfl) (Nat.le_of_ble_eq_true rfl) (kd tdlX8_succeeds_1 40 rfl)
              · have hF := kf hv18_5 hF
                by_cases hv18_6 : (p1 / 1000) = 7
                · have hF := kt hv18_6 hF
                  refine ksw (n := 7) (off := (182)) (tgt := 200) hx hb (kd tdlX8_succeeds_0 13 rfl) hv18_6 (by decide) (by decide) (by decide) (by decide) ?_
                  refine lv_iload_n hx hb (kd tdlX8_succeeds_1 41 rfl) rfl (lv_at hl 1 rfl) ?_
                  refine lv_if_ne (tgt := 219) hx hb (kd tdlX8_succeeds_1 42 rfl) (by decide) (fun hc201 => ?_) (fun hc201 => ?_)
                  · have hF := kf hc201 hF
                    refine lv_iconst (v := 0) hx hb (kd tdlX8_succeeds_2 5 rfl) (by decide) ?_
                    cases ko hF
                    exact kes_z () hx hb hr hlocks rfl hK hP hD hS rfl (Nat.le_of_ble_eq_true rfl) (Nat.le_of_ble_eq_true rfl) (kd tdlX8_succeeds_2 6 rfl)
                  · have hF := kt hc201 hF
                    refine lv_aload_n hx hb (kd tdlX8_succeeds_1 43 rfl) rfl (lv_at hl 2 rfl) ?_
                    refine va_get (D := D) (ci := 7) (v := .ref (g0 2)) (C := RX8) (T := TX8) (N := 9) hx hb hts inX8_ hown hK hP 0 rfl rfl 2 (by decide) L23 (fun _ h9 => h9) rfl (kd tdlX8_succeeds_1 44 rfl) ?_
                    obtain ⟨v208, e208, hF⟩ := kc hF
                    refine kcL_i (S := Unit) (wf := (fun (_ : Unit) => [(wdk t (g0 2) a_trial d_trial)])) hP hD hS hA nd_2 rfl (fun _ => rfl) (kL_V (Qx := (fun A => kQi D (TY t) (kflat [(wdk t (g0 2) a_trial d_trial)]) v208 A)) (cs := [(wdk t (g0 2) a_trial d_trial)]) (is := [2]) (As := []) (rest := []) ⟨hx, hb, hml, hown, hts⟩ hK hP hD nd_2 rfl (c_X1_living l D t (g0 2) a_trial d_trial _  v208 e208) (cwV 0 hts (gcX1_living w_133) rfl rfl rfl hdX1_livingV ⟨Nat.le_of_ble_eq_true rfl, Nat.le_of_ble_eq_true rfl⟩) (ci := 1) (q0 := 3) rfl rfl rfl hl.1 rfl (Nat.le_of_ble_eq_true rfl) (kd tdlX8_succeeds_2 0 rfl) ⟨Nat.le_of_ble_eq_true rfl, Nat.le_of_ble_eq_true rfl⟩) (fun _ H locs hP hD hS => ?_)
                    have hP : va_P D vwCl (kflat [(wx8 h0 g0), (wtx t (g0 0) a_text d_text), (wdk t (g0 2) a_trial d_trial), (wsm t (g0 5) a_stream d_stream), (wpl t (g0 6) a_plan d_plan), (wso t (g0 7) a_store d_store), (wcr t (g0 8) a_carrier d_carrier)]) H := hP
                    have hD : va_D A (kflat [(wx8 h0 g0), (wtx t (g0 0) a_text d_text), (wdk t (g0 2) a_trial d_trial), (wsm t (g0 5) a_stream d_stream), (wpl t (g0 6) a_plan d_plan), (wso t (g0 7) a_store d_store), (wcr t (g0 8) a_carrier d_carrier)]) := hD
                    refine lv_iload_n hx hb (kd tdlX8_succeeds_2 1 rfl) rfl (lv_at hl 0 rfl) ?_
                    refine lv_icmp_lt (tgt := 219) hx hb (kd tdlX8_succeeds_2 2 rfl) (by decide) (fun hc212 => ?_) (fun hc212 => ?_)
                    · have hF := kt hc212 hF
                      refine lv_iconst (v := 0) hx hb (kd tdlX8_succeeds_2 5 rfl) (by decide) ?_
                      cases ko hF
                      exact kes_z () hx hb hr hlocks rfl hK hP hD hS rfl (Nat.le_of_ble_eq_true rfl) (Nat.le_of_ble_eq_true rfl) (kd tdlX8_succeeds_2 6 rfl)
                    · have hF := kf hc212 hF
                      refine lv_iconst (v := 1) hx hb (kd tdlX8_succeeds_2 3 rfl) (by decide) ?_
                      refine lv_goto (tgt := 220) hx hb (kd tdlX8_succeeds_2 4 rfl) (by decide) ?_
                      cases ko hF
                      exact kes_z () hx hb hr hlocks rfl hK hP hD hS rfl (Nat.le_of_ble_eq_true rfl) (Nat.le_of_ble_eq_true rfl) (kd tdlX8_succeeds_2 6 rfl)
                · have hF := kf hv18_6 hF
                  have hv18_7 : (p1 / 1000) = 8 := keq (k := 8) (by have a0 := kne hv18_0 (k := 1) (by decide); have a1 := kne hv18_1 (k := 2) (by decide); have a2 := kne hv18_2 (k := 3) (by decide); have a3 := kne hv18_3 (k := 4) (by decide); have a4 := kne hv18_4 (k := 5) (by decide); have a5 := kne hv18_5 (k := 6) (by decide); have a6 := kne hv18_6 (k := 7) (by decide); omega) (by decide)
                  refine ksw (n := 8) (off := (203)) (tgt := 221) hx hb (kd tdlX8_succeeds_0 13 rfl) hv18_7 (by decide) (by decide) (by decide) (by decide) ?_
                  refine lv_iload_n hx hb (kd tdlX8_succeeds_2 7 rfl) rfl (lv_at hl 1 rfl) ?_
                  refine lv_if_ne (tgt := 240) hx hb (kd tdlX8_succeeds_2 8 rfl) (by decide) (fun hc222 => ?_) (fun hc222 => ?_)
                  · have hF := kf hc222 hF
                    refine lv_iconst (v := 0) hx hb (kd tdlX8_succeeds_2 16 rfl) (by decide) ?_
                    cases ko hF
                    exact kes_z () hx hb hr hlocks rfl hK hP hD hS rfl (Nat.le_of_ble_eq_true rfl) (Nat.le_of_ble_eq_true rfl) (kd tdlX8_succeeds_2 17 rfl)
                  · have hF := kt hc222 hF
                    refine lv_aload_n hx hb (kd tdlX8_succeeds_2 9 rfl) rfl (lv_at hl 2 rfl) ?_
                    refine va_get (D := D) (ci := 7) (v := .ref (g0 2)) (C := RX8) (T := TX8) (N := 9) hx hb hts inX8_ hown hK hP 0 rfl rfl 2 (by decide) L23 (fun _ h9 => h9) rfl (kd tdlX8_succeeds_2 10 rfl) ?_
                    obtain ⟨v229, e229, hF⟩ := kc hF
                    refine kcL_i (S := Unit) (wf := (fun (_ : Unit) => [(wdk t (g0 2) a_trial d_trial)])) hP hD hS hA nd_2 rfl (fun _ => rfl) (kL_V (Qx := (fun A => kQi D (TY t) (kflat [(wdk t (g0 2) a_trial d_trial)]) v229 A)) (cs := [(wdk t (g0 2) a_trial d_trial)]) (is := [2]) (As := []) (rest := []) ⟨hx, hb, hml, hown, hts⟩ hK hP hD nd_2 rfl (c_X1_thinContainers l D t (g0 2) a_trial d_trial _  v229 e229) (cwV 0 hts (gcX1_thinContainers w_149) rfl rfl rfl hdX1_thinContainersV ⟨Nat.le_of_ble_eq_true rfl, Nat.le_of_ble_eq_true rfl⟩) (ci := 1) (q0 := 3) rfl rfl rfl hl.1 rfl (Nat.le_of_ble_eq_true rfl) (kd tdlX8_succeeds_2 11 rfl) ⟨Nat.le_of_ble_eq_true rfl, Nat.le_of_ble_eq_true rfl⟩) (fun _ H locs hP hD hS => ?_)
                    have hP : va_P D vwCl (kflat [(wx8 h0 g0), (wtx t (g0 0) a_text d_text), (wdk t (g0 2) a_trial d_trial), (wsm t (g0 5) a_stream d_stream), (wpl t (g0 6) a_plan d_plan), (wso t (g0 7) a_store d_store), (wcr t (g0 8) a_carrier d_carrier)]) H := hP
                    have hD : va_D A (kflat [(wx8 h0 g0), (wtx t (g0 0) a_text d_text), (wdk t (g0 2) a_trial d_trial), (wsm t (g0 5) a_stream d_stream), (wpl t (g0 6) a_plan d_plan), (wso t (g0 7) a_store d_store), (wcr t (g0 8) a_carrier d_carrier)]) := hD
                    refine lv_iload_n hx hb (kd tdlX8_succeeds_2 12 rfl) rfl (lv_at hl 0 rfl) ?_
                    refine lv_icmp_gt (tgt := 240) hx hb (kd tdlX8_succeeds_2 13 rfl) (by decide) (fun hc233 => ?_) (fun hc233 => ?_)
                    · have hF := kt hc233 hF
                      refine lv_iconst (v := 0) hx hb (kd tdlX8_succeeds_2 16 rfl) (by decide) ?_
                      cases ko hF
                      exact kes_z () hx hb hr hlocks rfl hK hP hD hS rfl (Nat.le_of_ble_eq_true rfl) (Nat.le_of_ble_eq_true rfl) (kd tdlX8_succeeds_2 17 rfl)
                    · have hF := kf hc233 hF
                      refine lv_iconst (v := 1) hx hb (kd tdlX8_succeeds_2 14 rfl) (by decide) ?_
                      refine lv_goto (tgt := 241) hx hb (kd tdlX8_succeeds_2 15 rfl) (by decide) ?_
                      cases ko hF
                      exact kes_z () hx hb hr hlocks rfl hK hP hD hS rfl (Nat.le_of_ble_eq_true rfl) (Nat.le_of_ble_eq_true rfl) (kd tdlX8_succeeds_2 17 rfl)
set_option maxHeartbeats 4000000 in
set_option maxRecDepth 100000 in
theorem c_X8_runScript (l : Launch) (D : va_G) (t : Nat → ClassId) (h0 : Nat) (g0 : Nat → Nat) (a_text : Nat → Nat) (d_text : TXT) (a_desk : Nat → Nat) (d_desk : DKT) (a_trial : Nat → Nat) (d_trial : DKT) (a_stream : Nat → Nat) (d_stream : SMT) (a_plan : Nat → Nat) (d_plan : PLT) (a_store : Nat → Nat) (d_store : SOT) (a_carrier : Nat → Nat) (d_carrier : CRT) (sz : Nat) (p1 : Int32) (p2 : Int64) (r : Nat × Int32 × DKT × SMT × PLT × SOT × CRT) (hF : F_X8_runScript d_text d_desk d_trial d_stream d_plan d_store d_carrier p1 p2 = some r) (hcd0 : r.1 = 0) : Met l yX8_runScript wX8_runScript ({ frames := 7, cells := 0, slots := 0, locals := 156 } : Room) (kPx D (TY t) (kflat [(wx8 h0 g0), (wtx t (g0 0) a_text d_text), (wdk t (g0 1) a_desk d_desk), (wdk t (g0 2) a_trial d_trial), (wsm t (g0 5) a_stream d_stream), (wpl t (g0 6) a_plan d_plan), (wso t (g0 7) a_store d_store), (wcr t (g0 8) a_carrier d_carrier)]) [.ref h0, .int p1, .long p2] sz) (kQiS D (TY t) (fun (u : Unit) => (kflat [(wx8 h0 g0), (wtx t (g0 0) a_text d_text), (wdk t (g0 1) a_desk d_desk), (wdk t (g0 2) a_trial r.2.2.1), (wsm t (g0 5) a_stream r.2.2.2.1), (wpl t (g0 6) a_plan r.2.2.2.2.1), (wso t (g0 7) a_store r.2.2.2.2.2.1), (wcr t (g0 8) a_carrier r.2.2.2.2.2.2)])) r.2.1 (va_A (kflat [(wx8 h0 g0), (wtx t (g0 0) a_text d_text), (wdk t (g0 1) a_desk d_desk), (wdk t (g0 2) a_trial d_trial), (wsm t (g0 5) a_stream d_stream), (wpl t (g0 6) a_plan d_plan), (wso t (g0 7) a_store d_store), (wcr t (g0 8) a_carrier d_carrier)]) sz)) 0 0 (va_A (kflat [(wx8 h0 g0), (wtx t (g0 0) a_text d_text), (wdk t (g0 1) a_desk d_desk), (wdk t (g0 2) a_trial d_trial), (wsm t (g0 5) a_stream d_stream), (wpl t (g0 6) a_plan d_plan), (wso t (g0 7) a_store d_store), (wcr t (g0 8) a_carrier d_carrier)]) sz) := by
  refine kEx (cc := cX8_runScript) (maxL := 6) (ret := (some .int)) (Qx := fun A => kQiS D (TY t) (fun (u : Unit) => (kflat [(wx8 h0 g0), (wtx t (g0 0) a_text d_text), (wdk t (g0 1) a_desk d_desk), (wdk t (g0 2) a_trial r.2.2.1), (wsm t (g0 5) a_stream r.2.2.2.1), (wpl t (g0 6) a_plan r.2.2.2.2.1), (wso t (g0 7) a_store r.2.2.2.2.2.1), (wcr t (g0 8) a_carrier r.2.2.2.2.2.2)])) r.2.1 A) (lv0 := [(0, .ref h0), (1, .int p1), (2, .long p2)]) RX8 rfl (by decide) rfl (Nat.le_of_ble_eq_true rfl) rfl ?_
  intro p e s m args below meth c A ls hx hb hml hr hlocks hown hts hA hX hK hP hD hS hl
  have L19 := hts (.fieldLink RX8 19 "ChunkCarriers" "desk" "LChunkCarriers$Desk;") (List.mem_cons_of_mem _ w_18)
  have L23 := hts (.fieldLink RX8 23 "ChunkCarriers" "trial" "LChunkCarriers$Desk;") (List.mem_cons_of_mem _ w_19)
  have Lc277 := hts (.constantLong RX8 277 (10000)) (List.mem_cons_of_mem _ w_615)
  have inX8_ : ∀ w ∈ wsX80, w ∈ wX8_runScript := fun w h => List.mem_cons_of_mem _ (inlX8 w h)
  refine lv_iload_n hx hb (kd tdlX8_runScript_0 0 rfl) rfl (lv_at hl 1 rfl) ?_
  refine lv_iconst (v := 1) hx hb (kd tdlX8_runScript_0 1 rfl) (by decide) ?_
  refine lv_icmp_lt (tgt := 10) hx hb (kd tdlX8_runScript_0 2 rfl) (by decide) (fun hc2 => ?_) (fun hc2 => ?_)
  · have hF := kt hc2 hF
    cases ko hF
    exact absurd (show (2 : Nat) = 0 from hcd0) (by decide)
  · have hF := kf hc2 hF
    refine lv_iload_n hx hb (kd tdlX8_runScript_0 3 rfl) rfl (lv_at hl 1 rfl) ?_
    refine lv_iconst (v := 3) hx hb (kd tdlX8_runScript_0 4 rfl) (by decide) ?_
    refine lv_icmp_le (tgt := 18) hx hb (kd tdlX8_runScript_0 5 rfl) (by decide) (fun hc7 => ?_) (fun hc7 => ?_)
    · have hF := kt hc7 hF
      refine lv_lload_n hx hb (kd tdlX8_runScript_0 10 rfl) rfl (lv_at hl 2 rfl) ?_
      refine lv_lconst (v := 0) hx hb (kd tdlX8_runScript_0 11 rfl) (by decide) ?_
      refine W.lcmp hx hb (kd tdlX8_runScript_0 12 rfl) ?_
      refine lv_if_lt (tgt := 34) hx hb (kd tdlX8_runScript_0 13 rfl) (by decide) (fun hc21 => ?_) (fun hc21 => ?_)
      · have hF := kt hc21 hF
        cases ko hF
        exact absurd (show (2 : Nat) = 0 from hcd0) (by decide)
      · have hF := kf hc21 hF
        refine lv_lload_n hx hb (kd tdlX8_runScript_0 14 rfl) rfl (lv_at hl 2 rfl) ?_
        refine lv_iload_n hx hb (kd tdlX8_runScript_0 15 rfl) rfl (lv_at hl 1 rfl) ?_
        obtain ⟨v26, e26, hF⟩ := kc hF
        refine kcL_l (cs' := []) (L1 := [(wx8 h0 g0), (wtx t (g0 0) a_text d_text), (wdk t (g0 1) a_desk d_desk), (wdk t (g0 2) a_trial d_trial), (wsm t (g0 5) a_stream d_stream), (wpl t (g0 6) a_plan d_plan), (wso t (g0 7) a_store d_store), (wcr t (g0 8) a_carrier d_carrier)]) hP hD hS hA nd_ rfl rfl rfl (kL_S (Qx := (fun A => kQl D (TY t) (kflat []) v26 A)) (cs := []) (is := []) (As := [.long p2, .int p1]) (rest := []) ⟨hx, hb, hml, hown, hts⟩ hK hP hD nd_ rfl (c_X8_withoutGroups l D t  _ p2 p1 v26 e26) (va_cwS 2 hts (gcX8_withoutGroups w_616) rfl rfl rfl hdX8_withoutGroupsS ⟨Nat.le_of_ble_eq_true rfl, Nat.le_of_ble_eq_true rfl⟩) rfl hl.1 rfl (Nat.le_of_ble_eq_true rfl) (kd tdlX8_runScript_0 16 rfl) ⟨Nat.le_of_ble_eq_true rfl, Nat.le_of_ble_eq_true rfl⟩) (fun H locs hP hD hS => ?_)
        have hP : va_P D vwCl (kflat [(wx8 h0 g0), (wtx t (g0 0) a_text d_text), (wdk t (g0 1) a_desk d_desk), (wdk t (g0 2) a_trial d_trial), (wsm t (g0 5) a_stream d_stream), (wpl t (g0 6) a_plan d_plan), (wso t (g0 7) a_store d_store), (wcr t (g0 8) a_carrier d_carrier)]) H := hP
        have hD : va_D A (kflat [(wx8 h0 g0), (wtx t (g0 0) a_text d_text), (wdk t (g0 1) a_desk d_desk), (wdk t (g0 2) a_trial d_trial), (wsm t (g0 5) a_stream d_stream), (wpl t (g0 6) a_plan d_plan), (wso t (g0 7) a_store d_store), (wcr t (g0 8) a_carrier d_carrier)]) := hD
        refine lv_lconst (v := 0) hx hb (kd tdlX8_runScript_0 17 rfl) (by decide) ?_
        refine W.lcmp hx hb (kd tdlX8_runScript_0 18 rfl) ?_
        refine lv_if_eq (tgt := 42) hx hb (kd tdlX8_runScript_0 19 rfl) (by decide) (fun hc31 => ?_) (fun hc31 => ?_)
        · have hF := kt hc31 hF
          refine lv_aload_n hx hb (kd tdlX8_runScript_0 24 rfl) rfl (lv_at hl 0 rfl) ?_
          refine va_get (D := D) (ci := 7) (v := .ref (g0 2)) (C := RX8) (T := TX8) (N := 9) hx hb hts inX8_ hown hK hP 0 rfl rfl 2 (by decide) L23 (fun _ h9 => h9) rfl (kd tdlX8_runScript_0 25 rfl) ?_
          refine lv_aload_n hx hb (kd tdlX8_runScript_0 26 rfl) rfl (lv_at hl 0 rfl) ?_
          refine va_get (D := D) (ci := 7) (v := .ref (g0 1)) (C := RX8) (T := TX8) (N := 9) hx hb hts inX8_ hown hK hP 0 rfl rfl 1 (by decide) L19 (fun _ h9 => h9) rfl (kd tdlX8_runScript_0 27 rfl) ?_
          obtain ⟨v50, e50, hF⟩ := kc hF
          refine kcL_v (S := Unit) (wf := (fun (_ : Unit) => [(wdk t (g0 2) a_trial v50), (wdk t (g0 1) a_desk d_desk)])) hP hD hS hA nd_3_2 rfl (fun _ => rfl) (kL_V (Qx := (fun A => kQv D (TY t) (kflat [(wdk t (g0 2) a_trial v50), (wdk t (g0 1) a_desk d_desk)]) A)) (cs := [(wdk t (g0 2) a_trial d_trial), (wdk t (g0 1) a_desk d_desk)]) (is := [3, 2]) (As := [.ref (g0 1)]) (rest := []) ⟨hx, hb, hml, hown, hts⟩ hK hP hD nd_3_2 rfl (c_X1_copyFrom l D t (g0 2) a_trial d_trial (g0 1) a_desk d_desk _  v50 e50) (cwV 1 hts (gcX1_copyFrom w_100) rfl rfl rfl hdX1_copyFromV ⟨Nat.le_of_ble_eq_true rfl, Nat.le_of_ble_eq_true rfl⟩) (ci := 1) (q0 := 13) rfl rfl rfl hl.1 rfl (Nat.le_of_ble_eq_true rfl) (kd tdlX8_runScript_0 28 rfl) ⟨Nat.le_of_ble_eq_true rfl, Nat.le_of_ble_eq_true rfl⟩) (fun _ H locs hP hD hS => ?_)
          have hP : va_P D vwCl (kflat [(wx8 h0 g0), (wtx t (g0 0) a_text d_text), (wdk t (g0 1) a_desk d_desk), (wdk t (g0 2) a_trial v50), (wsm t (g0 5) a_stream d_stream), (wpl t (g0 6) a_plan d_plan), (wso t (g0 7) a_store d_store), (wcr t (g0 8) a_carrier d_carrier)]) H := hP
          have hD : va_D A (kflat [(wx8 h0 g0), (wtx t (g0 0) a_text d_text), (wdk t (g0 1) a_desk d_desk), (wdk t (g0 2) a_trial v50), (wsm t (g0 5) a_stream d_stream), (wpl t (g0 6) a_plan d_plan), (wso t (g0 7) a_store d_store), (wcr t (g0 8) a_carrier d_carrier)]) := hD
          refine lv_iconst (v := 0) hx hb (kd tdlX8_runScript_0 29 rfl) (by decide) ?_
          refine lv_istore (lv' := [(4, .int 0), (0, .ref h0), (1, .int p1), (2, .long p2)]) hx hb (kd tdlX8_runScript_0 30 rfl) hl (by decide) rfl (fun ls hl => ?_)
          refine lp_ind (f := B_X8_runScript_56 p1 p2 d_text) (r := r) (P := fun s56_ => ∀ (H : Heap) (locs : List Loc) (ls : Array Slot), va_P D vwCl (kflat [(wx8 h0 g0), (wtx t (g0 0) a_text d_text), (wdk t (g0 1) a_desk d_desk), (wdk t (g0 2) a_trial s56_.2.1), (wsm t (g0 5) a_stream s56_.2.2.1), (wpl t (g0 6) a_plan s56_.2.2.2.1), (wso t (g0 7) a_store s56_.2.2.2.2.1), (wcr t (g0 8) a_carrier s56_.2.2.2.2.2)]) H → va_D A (kflat [(wx8 h0 g0), (wtx t (g0 0) a_text d_text), (wdk t (g0 1) a_desk d_desk), (wdk t (g0 2) a_trial s56_.2.1), (wsm t (g0 5) a_stream s56_.2.2.1), (wpl t (g0 6) a_plan s56_.2.2.2.1), (wso t (g0 7) a_store s56_.2.2.2.2.1), (wcr t (g0 8) a_carrier s56_.2.2.2.2.2)]) → va_S A s.heap H locs → lv_has ls 6 [(0, .ref h0), (1, .int p1), (2, .long p2), (4, .int s56_.1)] → W p l e ({ frames := 7, cells := 0, slots := 0, locals := 156 } : Room) s m args below meth c H locs 0 0 (MQ below (kQiS D (TY t) (fun (u : Unit) => (kflat [(wx8 h0 g0), (wtx t (g0 0) a_text d_text), (wdk t (g0 1) a_desk d_desk), (wdk t (g0 2) a_trial r.2.2.1), (wsm t (g0 5) a_stream r.2.2.2.1), (wpl t (g0 6) a_plan r.2.2.2.2.1), (wso t (g0 7) a_store r.2.2.2.2.2.1), (wcr t (g0 8) a_carrier r.2.2.2.2.2.2)])) r.2.1 A) args s 0 0 A) (F0 m 56 ls [])) ?_ FU (0, v50, d_stream, d_plan, d_store, d_carrier) hF _ _ _ hP hD hS (lv_sub hl [1, 2, 3, 0] rfl)
          intro self56 ih56 s56_ hF H locs ls hP hD hS hl
          refine lv_iload hx hb (kd tdlX8_runScript_0 31 rfl) (lv_at hl 3 rfl) ?_
          refine lv_iload_n hx hb (kd tdlX8_runScript_0 32 rfl) rfl (lv_at hl 1 rfl) ?_
          refine lv_icmp_ge (tgt := 97) hx hb (kd tdlX8_runScript_0 33 rfl) (by decide) (fun hc59 => ?_) (fun hc59 => ?_)
          · have hF := kt hc59 hF
            refine lv_iconst (v := (-1)) hx hb (kd tdlX8_runScript_1 8 rfl) (by decide) ?_
            cases ko hF
            exact kes_i () hx hb hr hlocks hK hP hD hS rfl (Nat.le_of_ble_eq_true rfl) (Nat.le_of_ble_eq_true rfl) (kd tdlX8_runScript_1 9 rfl)
          · have hF := kf hc59 hF
            refine lv_lload_n hx hb (kd tdlX8_runScript_0 34 rfl) rfl (lv_at hl 2 rfl) ?_
            refine lv_iload_n hx hb (kd tdlX8_runScript_0 35 rfl) rfl (lv_at hl 1 rfl) ?_
            refine lv_iconst (v := 1) hx hb (kd tdlX8_runScript_0 36 rfl) (by decide) ?_
            refine lv_isub hx hb (kd tdlX8_runScript_0 37 rfl) ?_
            refine lv_iload hx hb (kd tdlX8_runScript_0 38 rfl) (lv_at hl 3 rfl) ?_
            refine lv_isub hx hb (kd tdlX8_runScript_0 39 rfl) ?_
            obtain ⟨v69, e69, hF⟩ := kc hF
            refine kcL_l (cs' := []) (L1 := [(wx8 h0 g0), (wtx t (g0 0) a_text d_text), (wdk t (g0 1) a_desk d_desk), (wdk t (g0 2) a_trial s56_.2.1), (wsm t (g0 5) a_stream s56_.2.2.1), (wpl t (g0 6) a_plan s56_.2.2.2.1), (wso t (g0 7) a_store s56_.2.2.2.2.1), (wcr t (g0 8) a_carrier s56_.2.2.2.2.2)]) hP hD hS hA nd_ rfl rfl rfl (kL_S (Qx := (fun A => kQl D (TY t) (kflat []) v69 A)) (cs := []) (is := []) (As := [.long p2, .int ((p1 - 1) - s56_.1)]) (rest := []) ⟨hx, hb, hml, hown, hts⟩ hK hP hD nd_ rfl (c_X8_withoutGroups l D t  _ p2 ((p1 - 1) - s56_.1) v69 e69) (va_cwS 2 hts (gcX8_withoutGroups w_616) rfl rfl rfl hdX8_withoutGroupsS ⟨Nat.le_of_ble_eq_true rfl, Nat.le_of_ble_eq_true rfl⟩) rfl hl.1 rfl (Nat.le_of_ble_eq_true rfl) (kd tdlX8_runScript_0 40 rfl) ⟨Nat.le_of_ble_eq_true rfl, Nat.le_of_ble_eq_true rfl⟩) (fun H locs hP hD hS => ?_)
            have hP : va_P D vwCl (kflat [(wx8 h0 g0), (wtx t (g0 0) a_text d_text), (wdk t (g0 1) a_desk d_desk), (wdk t (g0 2) a_trial s56_.2.1), (wsm t (g0 5) a_stream s56_.2.2.1), (wpl t (g0 6) a_plan s56_.2.2.2.1), (wso t (g0 7) a_store s56_.2.2.2.2.1), (wcr t (g0 8) a_carrier s56_.2.2.2.2.2)]) H := hP
            have hD : va_D A (kflat [(wx8 h0 g0), (wtx t (g0 0) a_text d_text), (wdk t (g0 1) a_desk d_desk), (wdk t (g0 2) a_trial s56_.2.1), (wsm t (g0 5) a_stream s56_.2.2.1), (wpl t (g0 6) a_plan s56_.2.2.2.1), (wso t (g0 7) a_store s56_.2.2.2.2.1), (wcr t (g0 8) a_carrier s56_.2.2.2.2.2)]) := hD
            refine lv_ldc2 (v := (10000)) hx hb hown Lc277 (kd tdlX8_runScript_0 41 rfl) ?_
            obtain ⟨hz75, hF⟩ := kgzl hF
            refine lv_lrem hx hb (kd tdlX8_runScript_0 42 rfl) hz75 ?_
            refine lv_l2i hx hb (kd tdlX8_runScript_0 43 rfl) rfl ?_
            refine lv_istore (lv' := [(5, .int (Int64.toInt32 (v69 - v69 / (10000) * (10000)))), (0, .ref h0), (1, .int p1), (2, .long p2), (4, .int s56_.1)]) hx hb (kd tdlX8_runScript_0 44 rfl) hl (by decide) rfl (fun ls hl => ?_)
            refine lv_aload_n hx hb (kd tdlX8_runScript_1 0 rfl) rfl (lv_at hl 1 rfl) ?_
            refine lv_iload hx hb (kd tdlX8_runScript_1 1 rfl) (lv_at hl 0 rfl) ?_
            obtain ⟨v82, e82, hF⟩ := kc hF
            refine kcL_i (S := Unit) (wf := (fun (_ : Unit) => [(wx8 h0 g0), (wtx t (g0 0) a_text d_text), (wdk t (g0 2) a_trial v82.2.1), (wsm t (g0 5) a_stream v82.2.2.1), (wpl t (g0 6) a_plan v82.2.2.2.1), (wso t (g0 7) a_store v82.2.2.2.2.1), (wcr t (g0 8) a_carrier v82.2.2.2.2.2)])) hP hD hS hA nd_0_1_3_4_5_6_7 rfl (fun _ => rfl) (kL_VX (Qx := (fun A => kQiS D (TY t) (fun (u82 : Unit) => kflat [(wx8 h0 g0), (wtx t (g0 0) a_text d_text), (wdk t (g0 2) a_trial v82.2.1), (wsm t (g0 5) a_stream v82.2.2.1), (wpl t (g0 6) a_plan v82.2.2.2.1), (wso t (g0 7) a_store v82.2.2.2.2.1), (wcr t (g0 8) a_carrier v82.2.2.2.2.2)]) v82.1 A)) (cs := [(wx8 h0 g0), (wtx t (g0 0) a_text d_text), (wdk t (g0 2) a_trial s56_.2.1), (wsm t (g0 5) a_stream s56_.2.2.1), (wpl t (g0 6) a_plan s56_.2.2.2.1), (wso t (g0 7) a_store s56_.2.2.2.2.1), (wcr t (g0 8) a_carrier s56_.2.2.2.2.2)]) (is := [0, 1, 3, 4, 5, 6, 7]) (As := [.int (Int64.toInt32 (v69 - v69 / (10000) * (10000)))]) (rest := []) ⟨hx, hb, hml, hown, hts⟩ hX hS hA hK hP hD nd_0_1_3_4_5_6_7 rfl (c_X8_succeeds l D t h0 g0 a_text d_text a_trial s56_.2.1 a_stream s56_.2.2.1 a_plan s56_.2.2.2.1 a_store s56_.2.2.2.2.1 a_carrier s56_.2.2.2.2.2 _ (Int64.toInt32 (v69 - v69 / (10000) * (10000))) v82 e82) (cwV 1 hts (gcX8_succeeds w_619) rfl rfl rfl hdX8_succeedsV ⟨Nat.le_of_ble_eq_true rfl, Nat.le_of_ble_eq_true rfl⟩) (ci := 7) (q0 := 0) rfl rfl rfl hl.1 rfl (Nat.le_of_ble_eq_true rfl) (kd tdlX8_runScript_1 2 rfl) ⟨Nat.le_of_ble_eq_true rfl, Nat.le_of_ble_eq_true rfl⟩) (fun _ H locs hP hD hS => ?_)
            have hP : va_P D vwCl (kflat [(wx8 h0 g0), (wtx t (g0 0) a_text d_text), (wdk t (g0 1) a_desk d_desk), (wdk t (g0 2) a_trial v82.2.1), (wsm t (g0 5) a_stream v82.2.2.1), (wpl t (g0 6) a_plan v82.2.2.2.1), (wso t (g0 7) a_store v82.2.2.2.2.1), (wcr t (g0 8) a_carrier v82.2.2.2.2.2)]) H := hP
            have hD : va_D A (kflat [(wx8 h0 g0), (wtx t (g0 0) a_text d_text), (wdk t (g0 1) a_desk d_desk), (wdk t (g0 2) a_trial v82.2.1), (wsm t (g0 5) a_stream v82.2.2.1), (wpl t (g0 6) a_plan v82.2.2.2.1), (wso t (g0 7) a_store v82.2.2.2.2.1), (wcr t (g0 8) a_carrier v82.2.2.2.2.2)]) := hD
            refine lv_if_ne (tgt := 91) hx hb (kd tdlX8_runScript_1 3 rfl) (by decide) (fun hc85 => ?_) (fun hc85 => ?_)
            · have hF := kf hc85 hF
              refine lv_iinc (v := (s56_.1 + 1)) (lv' := [(4, .int (s56_.1 + 1)), (5, .int (Int64.toInt32 (v69 - v69 / (10000) * (10000)))), (0, .ref h0), (1, .int p1), (2, .long p2)]) hx hb (kd tdlX8_runScript_1 6 rfl) hl (k := 4) rfl rfl (by decide) rfl (fun ls hl => ?_)
              refine lv_goto (tgt := 56) hx hb (kd tdlX8_runScript_1 7 rfl) (by decide) ?_
              exact ih56 ((s56_.1 + 1), v82.2.1, v82.2.2.1, v82.2.2.2.1, v82.2.2.2.2.1, v82.2.2.2.2.2) hF _ _ _ hP hD hS (lv_sub hl [2, 3, 4, 0] rfl)
            · have hF := kt hc85 hF
              refine lv_iload hx hb (kd tdlX8_runScript_1 4 rfl) (lv_at hl 4 rfl) ?_
              cases ko hF
              exact kes_i () hx hb hr hlocks hK hP hD hS rfl (Nat.le_of_ble_eq_true rfl) (Nat.le_of_ble_eq_true rfl) (kd tdlX8_runScript_1 5 rfl)
        · have hF := kf hc31 hF
          cases ko hF
          exact absurd (show (2 : Nat) = 0 from hcd0) (by decide)
    · have hF := kf hc7 hF
      cases ko hF
      exact absurd (show (2 : Nat) = 0 from hcd0) (by decide)
set_option maxHeartbeats 4000000 in
set_option maxRecDepth 100000 in
theorem c_X8_simulateStream (l : Launch) (D : va_G) (t : Nat → ClassId) (h0 : Nat) (g0 : Nat → Nat) (a_stream : Nat → Nat) (d_stream : SMT) (sz : Nat) (p1 : Int32) (r : SMT) (hF : F_X8_simulateStream d_stream p1 = some r) : Met l yX8_simulateStream wX8_simulateStream ({ frames := 1, cells := 0, slots := 0, locals := 21 } : Room) (kPx D (TY t) (kflat [(wx8 h0 g0), (wsm t (g0 5) a_stream d_stream)]) [.ref h0, .int p1] sz) (kQvS D (TY t) (fun (u : Unit) => (kflat [(wx8 h0 g0), (wsm t (g0 5) a_stream r)])) (va_A (kflat [(wx8 h0 g0), (wsm t (g0 5) a_stream d_stream)]) sz)) 0 0 (va_A (kflat [(wx8 h0 g0), (wsm t (g0 5) a_stream d_stream)]) sz) := by
  refine kEx (cc := cX8_simulateStream) (maxL := 4) (ret := none) (Qx := fun A => kQvS D (TY t) (fun (u : Unit) => (kflat [(wx8 h0 g0), (wsm t (g0 5) a_stream r)])) A) (lv0 := [(0, .ref h0), (1, .int p1)]) RX8 rfl (by decide) rfl (Nat.le_of_ble_eq_true rfl) rfl ?_
  intro p e s m args below meth c A ls hx hb hml hr hlocks hown hts hA hX hK hP hD hS hl
  have L40 := hts (.fieldLink RX8 40 "ChunkCarriers" "stream" "LChunkCarriers$Stream;") (List.mem_cons_of_mem _ w_28)
  have Lc319 := hts (.constant RX8 319 (32768)) (List.mem_cons_of_mem _ w_604)
  have inX8_ : ∀ w ∈ wsX80, w ∈ wX8_simulateStream := fun w h => List.mem_cons_of_mem _ (inlX8 w h)
  refine lv_aload_n hx hb (kd tdlX8_simulateStream_0 0 rfl) rfl (lv_at hl 0 rfl) ?_
  refine va_get (D := D) (ci := 7) (v := .ref (g0 5)) (C := RX8) (T := TX8) (N := 9) hx hb hts inX8_ hown hK hP 0 rfl rfl 5 (by decide) L40 (fun _ h9 => h9) rfl (kd tdlX8_simulateStream_0 1 rfl) ?_
  obtain ⟨v4, e4, hF⟩ := kc hF
  refine kcL_v (S := Unit) (wf := (fun (_ : Unit) => [(wsm t (g0 5) a_stream v4)])) hP hD hS hA nd_1 rfl (fun _ => rfl) (kL_V (Qx := (fun A => kQv D (TY t) (kflat [(wsm t (g0 5) a_stream v4)]) A)) (cs := [(wsm t (g0 5) a_stream d_stream)]) (is := [1]) (As := []) (rest := []) ⟨hx, hb, hml, hown, hts⟩ hK hP hD nd_1 rfl (c_X6_begin l D t (g0 5) a_stream d_stream _  v4 e4) (cwV 0 hts (gcX6_begin w_605) rfl rfl rfl hdX6_beginV ⟨Nat.le_of_ble_eq_true rfl, Nat.le_of_ble_eq_true rfl⟩) (ci := 5) (q0 := 1) rfl rfl rfl hl.1 rfl (Nat.le_of_ble_eq_true rfl) (kd tdlX8_simulateStream_0 2 rfl) ⟨Nat.le_of_ble_eq_true rfl, Nat.le_of_ble_eq_true rfl⟩) (fun _ H locs hP hD hS => ?_)
  have hP : va_P D vwCl (kflat [(wx8 h0 g0), (wsm t (g0 5) a_stream v4)]) H := hP
  have hD : va_D A (kflat [(wx8 h0 g0), (wsm t (g0 5) a_stream v4)]) := hD
  refine lv_iconst (v := 0) hx hb (kd tdlX8_simulateStream_0 3 rfl) (by decide) ?_
  refine lv_istore_n (lv' := [(2, .int 0), (0, .ref h0), (1, .int p1)]) hx hb (kd tdlX8_simulateStream_0 4 rfl) rfl hl (by decide) rfl (fun ls hl => ?_)
  refine lp_ind (f := B_X8_simulateStream_9 p1) (r := r) (P := fun s9_ => ∀ (H : Heap) (locs : List Loc) (ls : Array Slot), va_P D vwCl (kflat [(wx8 h0 g0), (wsm t (g0 5) a_stream s9_.2)]) H → va_D A (kflat [(wx8 h0 g0), (wsm t (g0 5) a_stream s9_.2)]) → va_S A s.heap H locs → lv_has ls 4 [(0, .ref h0), (1, .int p1), (2, .int s9_.1)] → W p l e ({ frames := 1, cells := 0, slots := 0, locals := 21 } : Room) s m args below meth c H locs 0 0 (MQ below (kQvS D (TY t) (fun (u : Unit) => (kflat [(wx8 h0 g0), (wsm t (g0 5) a_stream r)])) A) args s 0 0 A) (F0 m 9 ls [])) ?_ FU (0, v4) hF _ _ _ hP hD hS (lv_sub hl [1, 2, 0] rfl)
  intro self9 ih9 s9_ hF H locs ls hP hD hS hl
  refine lv_iload_n hx hb (kd tdlX8_simulateStream_0 5 rfl) rfl (lv_at hl 2 rfl) ?_
  refine lv_bipush (v := 12) hx hb (kd tdlX8_simulateStream_0 6 rfl) (by decide) ?_
  refine lv_icmp_ge (tgt := 60) hx hb (kd tdlX8_simulateStream_0 7 rfl) (by decide) (fun hc12 => ?_) (fun hc12 => ?_)
  · have hF := kt hc12 hF
    cases ko hF
    exact kes_v () hx hb hr hlocks hK hP hD hS (Nat.le_of_ble_eq_true rfl) (Nat.le_of_ble_eq_true rfl) (kd tdlX8_simulateStream_0 37 rfl)
  · have hF := kf hc12 hF
    refine lv_iload_n hx hb (kd tdlX8_simulateStream_0 8 rfl) rfl (lv_at hl 2 rfl) ?_
    refine lv_bipush (v := 6) hx hb (kd tdlX8_simulateStream_0 9 rfl) (by decide) ?_
    have hJ43 : ∀ j43 : Int32, J_X8_simulateStream_43 s9_ self9 j43 = some r → ∀ (H : Heap) (locs : List Loc) (ls : Array Slot), va_P D vwCl (kflat [(wx8 h0 g0), (wsm t (g0 5) a_stream s9_.2)]) H → va_D A (kflat [(wx8 h0 g0), (wsm t (g0 5) a_stream s9_.2)]) → va_S A s.heap H locs → lv_has ls 4 [(0, .ref h0), (1, .int p1), (2, .int s9_.1)] → W p l e ({ frames := 1, cells := 0, slots := 0, locals := 21 } : Room) s m args below meth c H locs 0 0 (MQ below (kQvS D (TY t) (fun (u : Unit) => (kflat [(wx8 h0 g0), (wsm t (g0 5) a_stream r)])) A) args s 0 0 A) (F0 m 43 ls [.int j43]) := by
      intro j43 hF H locs ls hP hD hS hl
      refine lv_istore_n (lv' := [(3, .int j43), (0, .ref h0), (1, .int p1), (2, .int s9_.1)]) hx hb (kd tdlX8_simulateStream_0 28 rfl) rfl hl (by decide) rfl (fun ls hl => ?_)
      refine lv_aload_n hx hb (kd tdlX8_simulateStream_0 29 rfl) rfl (lv_at hl 1 rfl) ?_
      refine va_get (D := D) (ci := 7) (v := .ref (g0 5)) (C := RX8) (T := TX8) (N := 9) hx hb hts inX8_ hown hK hP 0 rfl rfl 5 (by decide) L40 (fun _ h9 => h9) rfl (kd tdlX8_simulateStream_0 30 rfl) ?_
      refine lv_iconst (v := 1) hx hb (kd tdlX8_simulateStream_0 31 rfl) (by decide) ?_
      refine lv_iload_n hx hb (kd tdlX8_simulateStream_0 32 rfl) rfl (lv_at hl 0 rfl) ?_
      refine lv_iadd hx hb (kd tdlX8_simulateStream_0 33 rfl) ?_
      obtain ⟨v51, e51, hF⟩ := kc hF
      refine kcL_v (S := Unit) (wf := (fun (_ : Unit) => [(wsm t (g0 5) a_stream v51)])) hP hD hS hA nd_1 rfl (fun _ => rfl) (kL_V (Qx := (fun A => kQv D (TY t) (kflat [(wsm t (g0 5) a_stream v51)]) A)) (cs := [(wsm t (g0 5) a_stream s9_.2)]) (is := [1]) (As := [.int (1 + j43)]) (rest := []) ⟨hx, hb, hml, hown, hts⟩ hK hP hD nd_1 rfl (c_X6_take l D t (g0 5) a_stream s9_.2 _ (1 + j43) v51 e51) (cwV 1 hts (gcX6_take w_606) rfl rfl rfl hdX6_takeV ⟨Nat.le_of_ble_eq_true rfl, Nat.le_of_ble_eq_true rfl⟩) (ci := 5) (q0 := 1) rfl rfl rfl hl.1 rfl (Nat.le_of_ble_eq_true rfl) (kd tdlX8_simulateStream_0 34 rfl) ⟨Nat.le_of_ble_eq_true rfl, Nat.le_of_ble_eq_true rfl⟩) (fun _ H locs hP hD hS => ?_)
      have hP : va_P D vwCl (kflat [(wx8 h0 g0), (wsm t (g0 5) a_stream v51)]) H := hP
      have hD : va_D A (kflat [(wx8 h0 g0), (wsm t (g0 5) a_stream v51)]) := hD
      refine lv_iinc (v := (s9_.1 + 1)) (lv' := [(2, .int (s9_.1 + 1)), (3, .int j43), (0, .ref h0), (1, .int p1)]) hx hb (kd tdlX8_simulateStream_0 35 rfl) hl (k := 3) rfl rfl (by decide) rfl (fun ls hl => ?_)
      refine lv_goto (tgt := 9) hx hb (kd tdlX8_simulateStream_0 36 rfl) (by decide) ?_
      exact ih9 ((s9_.1 + 1), v51) hF _ _ _ hP hD hS (lv_sub hl [2, 3, 0] rfl)
    refine lv_icmp_ge (tgt := 34) hx hb (kd tdlX8_simulateStream_0 10 rfl) (by decide) (fun hc18 => ?_) (fun hc18 => ?_)
    · have hF := kt hc18 hF
      refine lv_iload_n hx hb (kd tdlX8_simulateStream_0 21 rfl) rfl (lv_at hl 1 rfl) ?_
      refine lv_ldcw (v := (32768)) hx hb hown Lc319 (kd tdlX8_simulateStream_0 22 rfl) ?_
      obtain ⟨hz38, hF⟩ := kgz hF
      refine lv_idiv hx hb (kd tdlX8_simulateStream_0 23 rfl) hz38 ?_
      refine lv_iload_n hx hb (kd tdlX8_simulateStream_0 24 rfl) rfl (lv_at hl 2 rfl) ?_
      refine lv_ishr hx hb (kd tdlX8_simulateStream_0 25 rfl) ?_
      refine lv_iconst (v := 3) hx hb (kd tdlX8_simulateStream_0 26 rfl) (by decide) ?_
      refine lv_iand hx hb (kd tdlX8_simulateStream_0 27 rfl) ?_
      exact hJ43 ((((p1 / (32768)) >>> (s9_.1 &&& 31)) &&& 3)) hF _ _ _ hP hD hS (lv_sub hl [0, 1, 2] rfl)
    · have hF := kf hc18 hF
      refine lv_iload_n hx hb (kd tdlX8_simulateStream_0 11 rfl) rfl (lv_at hl 1 rfl) ?_
      refine lv_iconst (v := 3) hx hb (kd tdlX8_simulateStream_0 12 rfl) (by decide) ?_
      refine lv_iload_n hx hb (kd tdlX8_simulateStream_0 13 rfl) rfl (lv_at hl 2 rfl) ?_
      refine lv_iconst (v := 5) hx hb (kd tdlX8_simulateStream_0 14 rfl) (by decide) ?_
      obtain ⟨hz25, hF⟩ := kgz hF
      refine lv_irem hx hb (kd tdlX8_simulateStream_0 15 rfl) hz25 ?_
      refine lv_imul hx hb (kd tdlX8_simulateStream_0 16 rfl) ?_
      refine lv_ishr hx hb (kd tdlX8_simulateStream_0 17 rfl) ?_
      refine lv_bipush (v := 7) hx hb (kd tdlX8_simulateStream_0 18 rfl) (by decide) ?_
      refine lv_iand hx hb (kd tdlX8_simulateStream_0 19 rfl) ?_
      refine lv_goto (tgt := 43) hx hb (kd tdlX8_simulateStream_0 20 rfl) (by decide) ?_
      exact hJ43 (((p1 >>> ((3 * (s9_.1 - s9_.1 / 5 * 5)) &&& 31)) &&& 7)) hF _ _ _ hP hD hS (lv_sub hl [0, 1, 2] rfl)
set_option maxHeartbeats 4000000 in
set_option maxRecDepth 100000 in
theorem c_X8_simulateTurn (l : Launch) (D : va_G) (t : Nat → ClassId) (h0 : Nat) (g0 : Nat → Nat) (a_trial : Nat → Nat) (d_trial : DKT) (a_stream : Nat → Nat) (d_stream : SMT) (a_plan : Nat → Nat) (d_plan : PLT) (a_carrier : Nat → Nat) (d_carrier : CRT) (sz : Nat) (p1 : Int32) (r : DKT × SMT × PLT × CRT) (hF : F_X8_simulateTurn d_trial d_stream d_plan d_carrier p1 = some r) : Met l yX8_simulateTurn wX8_simulateTurn ({ frames := 6, cells := 0, slots := 0, locals := 133 } : Room) (kPx D (TY t) (kflat [(wx8 h0 g0), (wdk t (g0 2) a_trial d_trial), (wsm t (g0 5) a_stream d_stream), (wpl t (g0 6) a_plan d_plan), (wcr t (g0 8) a_carrier d_carrier)]) [.ref h0, .int p1] sz) (kQvS D (TY t) (fun (u : Unit) => (kflat [(wx8 h0 g0), (wdk t (g0 2) a_trial r.1), (wsm t (g0 5) a_stream r.2.1), (wpl t (g0 6) a_plan r.2.2.1), (wcr t (g0 8) a_carrier r.2.2.2)])) (va_A (kflat [(wx8 h0 g0), (wdk t (g0 2) a_trial d_trial), (wsm t (g0 5) a_stream d_stream), (wpl t (g0 6) a_plan d_plan), (wcr t (g0 8) a_carrier d_carrier)]) sz)) 0 0 (va_A (kflat [(wx8 h0 g0), (wdk t (g0 2) a_trial d_trial), (wsm t (g0 5) a_stream d_stream), (wpl t (g0 6) a_plan d_plan), (wcr t (g0 8) a_carrier d_carrier)]) sz) := by
  refine kEx (cc := cX8_simulateTurn) (maxL := 3) (ret := none) (Qx := fun A => kQvS D (TY t) (fun (u : Unit) => (kflat [(wx8 h0 g0), (wdk t (g0 2) a_trial r.1), (wsm t (g0 5) a_stream r.2.1), (wpl t (g0 6) a_plan r.2.2.1), (wcr t (g0 8) a_carrier r.2.2.2)])) A) (lv0 := [(0, .ref h0), (1, .int p1)]) RX8 rfl (by decide) rfl (Nat.le_of_ble_eq_true rfl) rfl ?_
  intro p e s m args below meth c A ls hx hb hml hr hlocks hown hts hA hX hK hP hD hS hl
  have L23 := hts (.fieldLink RX8 23 "ChunkCarriers" "trial" "LChunkCarriers$Desk;") (List.mem_cons_of_mem _ w_19)
  have L61 := hts (.fieldLink RX8 61 "ChunkCarriers" "carrier" "LChunkCarriers$Carrier;") (List.mem_cons_of_mem _ w_40)
  have inX8_ : ∀ w ∈ wsX80, w ∈ wX8_simulateTurn := fun w h => List.mem_cons_of_mem _ (inlX8 w h)
  refine lv_iload_n hx hb (kd tdlX8_simulateTurn_0 0 rfl) rfl (lv_at hl 1 rfl) ?_
  refine lv_bipush (v := 8) hx hb (kd tdlX8_simulateTurn_0 1 rfl) (by decide) ?_
  obtain ⟨hz3, hF⟩ := kgz hF
  refine lv_irem hx hb (kd tdlX8_simulateTurn_0 2 rfl) hz3 ?_
  refine lv_istore_n (lv' := [(2, .int (p1 - p1 / 8 * 8)), (0, .ref h0), (1, .int p1)]) hx hb (kd tdlX8_simulateTurn_0 3 rfl) rfl hl (by decide) rfl (fun ls hl => ?_)
  refine lv_iload_n hx hb (kd tdlX8_simulateTurn_0 4 rfl) rfl (lv_at hl 0 rfl) ?_
  refine lv_if_ne (tgt := 24) hx hb (kd tdlX8_simulateTurn_0 5 rfl) (by decide) (fun hc6 => ?_) (fun hc6 => ?_)
  · have hF := kf hc6 hF
    refine lv_iload_n hx hb (kd tdlX8_simulateTurn_0 13 rfl) rfl (lv_at hl 0 rfl) ?_
    refine lv_iconst (v := 2) hx hb (kd tdlX8_simulateTurn_0 14 rfl) (by decide) ?_
    refine lv_icmp_gt (tgt := 44) hx hb (kd tdlX8_simulateTurn_0 15 rfl) (by decide) (fun hc26 => ?_) (fun hc26 => ?_)
    · have hF := kt hc26 hF
      refine lv_aload_n hx hb (kd tdlX8_simulateTurn_0 25 rfl) rfl (lv_at hl 1 rfl) ?_
      refine lv_iload_n hx hb (kd tdlX8_simulateTurn_0 26 rfl) rfl (lv_at hl 2 rfl) ?_
      obtain ⟨v46, e46, hF⟩ := kc hF
      refine kcL_v (S := Unit) (wf := (fun (_ : Unit) => [(wx8 h0 g0), (wsm t (g0 5) a_stream v46)])) hP hD hS hA nd_0_2 rfl (fun _ => rfl) (kL_VX (Qx := (fun A => kQvS D (TY t) (fun (u46 : Unit) => kflat [(wx8 h0 g0), (wsm t (g0 5) a_stream v46)]) A)) (cs := [(wx8 h0 g0), (wsm t (g0 5) a_stream d_stream)]) (is := [0, 2]) (As := [.int p1]) (rest := []) ⟨hx, hb, hml, hown, hts⟩ hX hS hA hK hP hD nd_0_2 rfl (c_X8_simulateStream l D t h0 g0 a_stream d_stream _ p1 v46 e46) (cwV 1 hts (gcX8_simulateStream w_600) rfl rfl rfl hdX8_simulateStreamV ⟨Nat.le_of_ble_eq_true rfl, Nat.le_of_ble_eq_true rfl⟩) (ci := 7) (q0 := 0) rfl rfl rfl hl.1 rfl (Nat.le_of_ble_eq_true rfl) (kd tdlX8_simulateTurn_0 27 rfl) ⟨Nat.le_of_ble_eq_true rfl, Nat.le_of_ble_eq_true rfl⟩) (fun _ H locs hP hD hS => ?_)
      have hP : va_P D vwCl (kflat [(wx8 h0 g0), (wdk t (g0 2) a_trial d_trial), (wsm t (g0 5) a_stream v46), (wpl t (g0 6) a_plan d_plan), (wcr t (g0 8) a_carrier d_carrier)]) H := hP
      have hD : va_D A (kflat [(wx8 h0 g0), (wdk t (g0 2) a_trial d_trial), (wsm t (g0 5) a_stream v46), (wpl t (g0 6) a_plan d_plan), (wcr t (g0 8) a_carrier d_carrier)]) := hD
      refine lv_aload_n hx hb (kd tdlX8_simulateTurn_0 28 rfl) rfl (lv_at hl 1 rfl) ?_
      obtain ⟨v50, e50, hF⟩ := kc hF
      refine kcL_i (S := Unit) (wf := (fun (_ : Unit) => [(wx8 h0 g0), (wdk t (g0 2) a_trial v50.2.1), (wsm t (g0 5) a_stream v50.2.2.1), (wpl t (g0 6) a_plan v50.2.2.2)])) hP hD hS hA nd_0_1_2_3 rfl (fun _ => rfl) (kL_VX (Qx := (fun A => kQiS D (TY t) (fun (u50 : Unit) => kflat [(wx8 h0 g0), (wdk t (g0 2) a_trial v50.2.1), (wsm t (g0 5) a_stream v50.2.2.1), (wpl t (g0 6) a_plan v50.2.2.2)]) v50.1 A)) (cs := [(wx8 h0 g0), (wdk t (g0 2) a_trial d_trial), (wsm t (g0 5) a_stream v46), (wpl t (g0 6) a_plan d_plan)]) (is := [0, 1, 2, 3]) (As := []) (rest := []) ⟨hx, hb, hml, hown, hts⟩ hX hS hA hK hP hD nd_0_1_2_3 rfl (c_X8_backsUpOnTrial l D t h0 g0 a_trial d_trial a_stream v46 a_plan d_plan _  v50 e50) (cwV 0 hts (gcX8_backsUpOnTrial w_607) rfl rfl rfl hdX8_backsUpOnTrialV ⟨Nat.le_of_ble_eq_true rfl, Nat.le_of_ble_eq_true rfl⟩) (ci := 7) (q0 := 0) rfl rfl rfl hl.1 rfl (Nat.le_of_ble_eq_true rfl) (kd tdlX8_simulateTurn_0 29 rfl) ⟨Nat.le_of_ble_eq_true rfl, Nat.le_of_ble_eq_true rfl⟩) (fun _ H locs hP hD hS => ?_)
      have hP : va_P D vwCl (kflat [(wx8 h0 g0), (wdk t (g0 2) a_trial v50.2.1), (wsm t (g0 5) a_stream v50.2.2.1), (wpl t (g0 6) a_plan v50.2.2.2), (wcr t (g0 8) a_carrier d_carrier)]) H := hP
      have hD : va_D A (kflat [(wx8 h0 g0), (wdk t (g0 2) a_trial v50.2.1), (wsm t (g0 5) a_stream v50.2.2.1), (wpl t (g0 6) a_plan v50.2.2.2), (wcr t (g0 8) a_carrier d_carrier)]) := hD
      refine lv_pop hx hb (kd tdlX8_simulateTurn_0 30 rfl) rfl ?_
      cases ko hF
      exact kes_v () hx hb hr hlocks hK hP hD hS (Nat.le_of_ble_eq_true rfl) (Nat.le_of_ble_eq_true rfl) (kd tdlX8_simulateTurn_0 31 rfl)
    · have hF := kf hc26 hF
      refine lv_aload_n hx hb (kd tdlX8_simulateTurn_0 16 rfl) rfl (lv_at hl 1 rfl) ?_
      refine lv_iload_n hx hb (kd tdlX8_simulateTurn_0 17 rfl) rfl (lv_at hl 2 rfl) ?_
      refine lv_bipush (v := 8) hx hb (kd tdlX8_simulateTurn_0 18 rfl) (by decide) ?_
      obtain ⟨hz33, hF⟩ := kgz hF
      refine lv_idiv hx hb (kd tdlX8_simulateTurn_0 19 rfl) hz33 ?_
      refine lv_bipush (v := 8) hx hb (kd tdlX8_simulateTurn_0 20 rfl) (by decide) ?_
      obtain ⟨hz36, hF⟩ := kgz hF
      refine lv_irem hx hb (kd tdlX8_simulateTurn_0 21 rfl) hz36 ?_
      obtain ⟨v37, e37, hF⟩ := kc hF
      refine kcL_i (S := Unit) (wf := (fun (_ : Unit) => [(wx8 h0 g0), (wdk t (g0 2) a_trial v37.2)])) hP hD hS hA nd_0_1 rfl (fun _ => rfl) (kL_VX (Qx := (fun A => kQiS D (TY t) (fun (u37 : Unit) => kflat [(wx8 h0 g0), (wdk t (g0 2) a_trial v37.2)]) v37.1 A)) (cs := [(wx8 h0 g0), (wdk t (g0 2) a_trial d_trial)]) (is := [0, 1]) (As := [.int ((p1 / 8) - (p1 / 8) / 8 * 8)]) (rest := []) ⟨hx, hb, hml, hown, hts⟩ hX hS hA hK hP hD nd_0_1 rfl (c_X8_deletesOnTrial l D t h0 g0 a_trial d_trial _ ((p1 / 8) - (p1 / 8) / 8 * 8) v37 e37) (cwV 1 hts (gcX8_deletesOnTrial w_596) rfl rfl rfl hdX8_deletesOnTrialV ⟨Nat.le_of_ble_eq_true rfl, Nat.le_of_ble_eq_true rfl⟩) (ci := 7) (q0 := 0) rfl rfl rfl hl.1 rfl (Nat.le_of_ble_eq_true rfl) (kd tdlX8_simulateTurn_0 22 rfl) ⟨Nat.le_of_ble_eq_true rfl, Nat.le_of_ble_eq_true rfl⟩) (fun _ H locs hP hD hS => ?_)
      have hP : va_P D vwCl (kflat [(wx8 h0 g0), (wdk t (g0 2) a_trial v37.2), (wsm t (g0 5) a_stream d_stream), (wpl t (g0 6) a_plan d_plan), (wcr t (g0 8) a_carrier d_carrier)]) H := hP
      have hD : va_D A (kflat [(wx8 h0 g0), (wdk t (g0 2) a_trial v37.2), (wsm t (g0 5) a_stream d_stream), (wpl t (g0 6) a_plan d_plan), (wcr t (g0 8) a_carrier d_carrier)]) := hD
      refine lv_pop hx hb (kd tdlX8_simulateTurn_0 23 rfl) rfl ?_
      refine lv_goto (tgt := 54) hx hb (kd tdlX8_simulateTurn_0 24 rfl) (by decide) ?_
      cases ko hF
      exact kes_v () hx hb hr hlocks hK hP hD hS (Nat.le_of_ble_eq_true rfl) (Nat.le_of_ble_eq_true rfl) (kd tdlX8_simulateTurn_0 31 rfl)
  · have hF := kt hc6 hF
    refine lv_aload_n hx hb (kd tdlX8_simulateTurn_0 6 rfl) rfl (lv_at hl 1 rfl) ?_
    refine va_get (D := D) (ci := 7) (v := .ref (g0 8)) (C := RX8) (T := TX8) (N := 9) hx hb hts inX8_ hown hK hP 0 rfl rfl 8 (by decide) L61 (fun _ h9 => h9) rfl (kd tdlX8_simulateTurn_0 7 rfl) ?_
    refine lv_aload_n hx hb (kd tdlX8_simulateTurn_0 8 rfl) rfl (lv_at hl 1 rfl) ?_
    refine va_get (D := D) (ci := 7) (v := .ref (g0 2)) (C := RX8) (T := TX8) (N := 9) hx hb hts inX8_ hown hK hP 0 rfl rfl 2 (by decide) L23 (fun _ h9 => h9) rfl (kd tdlX8_simulateTurn_0 9 rfl) ?_
    obtain ⟨v17, e17, hF⟩ := kc hF
    refine kcL_i (S := Unit) (wf := (fun (_ : Unit) => [(wcr t (g0 8) a_carrier v17.2.1), (wdk t (g0 2) a_trial v17.2.2)])) hP hD hS hA nd_4_1 rfl (fun _ => rfl) (kL_V (Qx := (fun A => kQi D (TY t) (kflat [(wcr t (g0 8) a_carrier v17.2.1), (wdk t (g0 2) a_trial v17.2.2)]) v17.1 A)) (cs := [(wcr t (g0 8) a_carrier d_carrier), (wdk t (g0 2) a_trial d_trial)]) (is := [4, 1]) (As := [.ref (g0 2)]) (rest := []) ⟨hx, hb, hml, hown, hts⟩ hK hP hD nd_4_1 rfl (c_X0_carryForward l D t (g0 8) a_carrier d_carrier (g0 2) a_trial d_trial _  v17 e17) (cwV 1 hts (gcX0_carryForward w_361) rfl rfl rfl hdX0_carryForwardV ⟨Nat.le_of_ble_eq_true rfl, Nat.le_of_ble_eq_true rfl⟩) (ci := 0) (q0 := 19) rfl rfl rfl hl.1 rfl (Nat.le_of_ble_eq_true rfl) (kd tdlX8_simulateTurn_0 10 rfl) ⟨Nat.le_of_ble_eq_true rfl, Nat.le_of_ble_eq_true rfl⟩) (fun _ H locs hP hD hS => ?_)
    have hP : va_P D vwCl (kflat [(wx8 h0 g0), (wdk t (g0 2) a_trial v17.2.2), (wsm t (g0 5) a_stream d_stream), (wpl t (g0 6) a_plan d_plan), (wcr t (g0 8) a_carrier v17.2.1)]) H := hP
    have hD : va_D A (kflat [(wx8 h0 g0), (wdk t (g0 2) a_trial v17.2.2), (wsm t (g0 5) a_stream d_stream), (wpl t (g0 6) a_plan d_plan), (wcr t (g0 8) a_carrier v17.2.1)]) := hD
    refine lv_pop hx hb (kd tdlX8_simulateTurn_0 11 rfl) rfl ?_
    refine lv_goto (tgt := 54) hx hb (kd tdlX8_simulateTurn_0 12 rfl) (by decide) ?_
    cases ko hF
    exact kes_v () hx hb hr hlocks hK hP hD hS (Nat.le_of_ble_eq_true rfl) (Nat.le_of_ble_eq_true rfl) (kd tdlX8_simulateTurn_0 31 rfl)
set_option maxHeartbeats 4000000 in
set_option maxRecDepth 100000 in
theorem c_X8_simulate (l : Launch) (D : va_G) (t : Nat → ClassId) (h0 : Nat) (g0 : Nat → Nat) (a_desk : Nat → Nat) (d_desk : DKT) (a_trial : Nat → Nat) (d_trial : DKT) (a_stream : Nat → Nat) (d_stream : SMT) (a_plan : Nat → Nat) (d_plan : PLT) (a_carrier : Nat → Nat) (d_carrier : CRT) (sz : Nat) (p1 : Int64) (p3 : Int32) (r : Nat × Int32 × DKT × SMT × PLT × CRT) (hF : F_X8_simulate d_desk d_trial d_stream d_plan d_carrier p1 p3 = some r) (hcd0 : r.1 = 0) : Met l yX8_simulate wX8_simulate ({ frames := 7, cells := 0, slots := 0, locals := 155 } : Room) (kPx D (TY t) (kflat [(wx8 h0 g0), (wdk t (g0 1) a_desk d_desk), (wdk t (g0 2) a_trial d_trial), (wsm t (g0 5) a_stream d_stream), (wpl t (g0 6) a_plan d_plan), (wcr t (g0 8) a_carrier d_carrier)]) [.ref h0, .long p1, .int p3] sz) (kQiS D (TY t) (fun (u : Unit) => (kflat [(wx8 h0 g0), (wdk t (g0 1) a_desk d_desk), (wdk t (g0 2) a_trial r.2.2.1), (wsm t (g0 5) a_stream r.2.2.2.1), (wpl t (g0 6) a_plan r.2.2.2.2.1), (wcr t (g0 8) a_carrier r.2.2.2.2.2)])) r.2.1 (va_A (kflat [(wx8 h0 g0), (wdk t (g0 1) a_desk d_desk), (wdk t (g0 2) a_trial d_trial), (wsm t (g0 5) a_stream d_stream), (wpl t (g0 6) a_plan d_plan), (wcr t (g0 8) a_carrier d_carrier)]) sz)) 0 0 (va_A (kflat [(wx8 h0 g0), (wdk t (g0 1) a_desk d_desk), (wdk t (g0 2) a_trial d_trial), (wsm t (g0 5) a_stream d_stream), (wpl t (g0 6) a_plan d_plan), (wcr t (g0 8) a_carrier d_carrier)]) sz) := by
  refine kEx (cc := cX8_simulate) (maxL := 7) (ret := (some .int)) (Qx := fun A => kQiS D (TY t) (fun (u : Unit) => (kflat [(wx8 h0 g0), (wdk t (g0 1) a_desk d_desk), (wdk t (g0 2) a_trial r.2.2.1), (wsm t (g0 5) a_stream r.2.2.2.1), (wpl t (g0 6) a_plan r.2.2.2.2.1), (wcr t (g0 8) a_carrier r.2.2.2.2.2)])) r.2.1 A) (lv0 := [(0, .ref h0), (1, .long p1), (3, .int p3)]) RX8 rfl (by decide) rfl (Nat.le_of_ble_eq_true rfl) rfl ?_
  intro p e s m args below meth c A ls hx hb hml hr hlocks hown hts hA hX hK hP hD hS hl
  have L124 := hts (.fieldLink RX8 124 "ChunkCarriers$Desk" "containers" "I") (List.mem_cons_of_mem _ w_129)
  have L19 := hts (.fieldLink RX8 19 "ChunkCarriers" "desk" "LChunkCarriers$Desk;") (List.mem_cons_of_mem _ w_18)
  have L23 := hts (.fieldLink RX8 23 "ChunkCarriers" "trial" "LChunkCarriers$Desk;") (List.mem_cons_of_mem _ w_19)
  have Lc282 := hts (.constantLong RX8 282 (6364136223846793005)) (List.mem_cons_of_mem _ w_590)
  have Lc284 := hts (.constantLong RX8 284 (1442695040888963407)) (List.mem_cons_of_mem _ w_591)
  have inX1_ : ∀ w ∈ wsX10, w ∈ wX8_simulate := fun w h => List.mem_cons_of_mem _ (inlX1 w h)
  have inX8_ : ∀ w ∈ wsX80, w ∈ wX8_simulate := fun w h => List.mem_cons_of_mem _ (inlX8 w h)
  refine lv_iload_n hx hb (kd tdlX8_simulate_0 0 rfl) rfl (lv_at hl 2 rfl) ?_
  refine lv_iconst (v := 1) hx hb (kd tdlX8_simulate_0 1 rfl) (by decide) ?_
  refine lv_icmp_lt (tgt := 11) hx hb (kd tdlX8_simulate_0 2 rfl) (by decide) (fun hc2 => ?_) (fun hc2 => ?_)
  · have hF := kt hc2 hF
    cases ko hF
    exact absurd (show (2 : Nat) = 0 from hcd0) (by decide)
  · have hF := kf hc2 hF
    refine lv_iload_n hx hb (kd tdlX8_simulate_0 3 rfl) rfl (lv_at hl 2 rfl) ?_
    refine lv_bipush (v := 40) hx hb (kd tdlX8_simulate_0 4 rfl) (by decide) ?_
    refine lv_icmp_le (tgt := 19) hx hb (kd tdlX8_simulate_0 5 rfl) (by decide) (fun hc8 => ?_) (fun hc8 => ?_)
    · have hF := kt hc8 hF
      refine lv_aload_n hx hb (kd tdlX8_simulate_0 10 rfl) rfl (lv_at hl 0 rfl) ?_
      refine va_get (D := D) (ci := 7) (v := .ref (g0 2)) (C := RX8) (T := TX8) (N := 9) hx hb hts inX8_ hown hK hP 0 rfl rfl 2 (by decide) L23 (fun _ h9 => h9) rfl (kd tdlX8_simulate_0 11 rfl) ?_
      refine lv_aload_n hx hb (kd tdlX8_simulate_0 12 rfl) rfl (lv_at hl 0 rfl) ?_
      refine va_get (D := D) (ci := 7) (v := .ref (g0 1)) (C := RX8) (T := TX8) (N := 9) hx hb hts inX8_ hown hK hP 0 rfl rfl 1 (by decide) L19 (fun _ h9 => h9) rfl (kd tdlX8_simulate_0 13 rfl) ?_
      obtain ⟨v27, e27, hF⟩ := kc hF
      refine kcL_v (S := Unit) (wf := (fun (_ : Unit) => [(wdk t (g0 2) a_trial v27), (wdk t (g0 1) a_desk d_desk)])) hP hD hS hA nd_2_1 rfl (fun _ => rfl) (kL_V (Qx := (fun A => kQv D (TY t) (kflat [(wdk t (g0 2) a_trial v27), (wdk t (g0 1) a_desk d_desk)]) A)) (cs := [(wdk t (g0 2) a_trial d_trial), (wdk t (g0 1) a_desk d_desk)]) (is := [2, 1]) (As := [.ref (g0 1)]) (rest := []) ⟨hx, hb, hml, hown, hts⟩ hK hP hD nd_2_1 rfl (c_X1_copyFrom l D t (g0 2) a_trial d_trial (g0 1) a_desk d_desk _  v27 e27) (cwV 1 hts (gcX1_copyFrom w_100) rfl rfl rfl hdX1_copyFromV ⟨Nat.le_of_ble_eq_true rfl, Nat.le_of_ble_eq_true rfl⟩) (ci := 1) (q0 := 11) rfl rfl rfl hl.1 rfl (Nat.le_of_ble_eq_true rfl) (kd tdlX8_simulate_0 14 rfl) ⟨Nat.le_of_ble_eq_true rfl, Nat.le_of_ble_eq_true rfl⟩) (fun _ H locs hP hD hS => ?_)
      have hP : va_P D vwCl (kflat [(wx8 h0 g0), (wdk t (g0 1) a_desk d_desk), (wdk t (g0 2) a_trial v27), (wsm t (g0 5) a_stream d_stream), (wpl t (g0 6) a_plan d_plan), (wcr t (g0 8) a_carrier d_carrier)]) H := hP
      have hD : va_D A (kflat [(wx8 h0 g0), (wdk t (g0 1) a_desk d_desk), (wdk t (g0 2) a_trial v27), (wsm t (g0 5) a_stream d_stream), (wpl t (g0 6) a_plan d_plan), (wcr t (g0 8) a_carrier d_carrier)]) := hD
      refine lv_lload_n hx hb (kd tdlX8_simulate_0 15 rfl) rfl (lv_at hl 1 rfl) ?_
      refine lv_lstore (lv' := [(4, .long p1), (0, .ref h0), (1, .long p1), (3, .int p3)]) hx hb (kd tdlX8_simulate_0 16 rfl) hl (by decide) rfl (fun ls hl => ?_)
      refine lv_iconst (v := 0) hx hb (kd tdlX8_simulate_0 17 rfl) (by decide) ?_
      refine lv_istore (lv' := [(6, .int 0), (4, .long p1), (0, .ref h0), (1, .long p1), (3, .int p3)]) hx hb (kd tdlX8_simulate_0 18 rfl) hl (by decide) rfl (fun ls hl => ?_)
      have hK70 : ∀ k70 : DKT × SMT × PLT × CRT, K_X8_simulate_70 k70 = some r → ∀ (H : Heap) (locs : List Loc) (ls : Array Slot), va_P D vwCl (kflat [(wx8 h0 g0), (wdk t (g0 1) a_desk d_desk), (wdk t (g0 2) a_trial k70.1), (wsm t (g0 5) a_stream k70.2.1), (wpl t (g0 6) a_plan k70.2.2.1), (wcr t (g0 8) a_carrier k70.2.2.2)]) H → va_D A (kflat [(wx8 h0 g0), (wdk t (g0 1) a_desk d_desk), (wdk t (g0 2) a_trial k70.1), (wsm t (g0 5) a_stream k70.2.1), (wpl t (g0 6) a_plan k70.2.2.1), (wcr t (g0 8) a_carrier k70.2.2.2)]) → va_S A s.heap H locs → lv_has ls 7 [(0, .ref h0)] → W p l e ({ frames := 7, cells := 0, slots := 0, locals := 155 } : Room) s m args below meth c H locs 0 0 (MQ below (kQiS D (TY t) (fun (u : Unit) => (kflat [(wx8 h0 g0), (wdk t (g0 1) a_desk d_desk), (wdk t (g0 2) a_trial r.2.2.1), (wsm t (g0 5) a_stream r.2.2.2.1), (wpl t (g0 6) a_plan r.2.2.2.2.1), (wcr t (g0 8) a_carrier r.2.2.2.2.2)])) r.2.1 A) args s 0 0 A) (F0 m 70 ls []) := by
        intro k70 hF H locs ls hP hD hS hl
        refine lv_sipush (v := 1000) hx hb (kd tdlX8_simulate_0 36 rfl) (by decide) ?_
        refine lv_aload_n hx hb (kd tdlX8_simulate_0 37 rfl) rfl (lv_at hl 0 rfl) ?_
        refine va_get (D := D) (ci := 7) (v := .ref (g0 2)) (C := RX8) (T := TX8) (N := 9) hx hb hts inX8_ hown hK hP 0 rfl rfl 2 (by decide) L23 (fun _ h9 => h9) rfl (kd tdlX8_simulate_0 38 rfl) ?_
        refine va_get (D := D) (ci := 1) (v := .int (dk_containers k70.1)) (C := RX1) (T := TX1) (N := 13) hx hb hts inX1_ hown hK hP 11 rfl rfl 4 (by decide) L124 (fun _ h9 => h9) rfl (kd tdlX8_simulate_0 39 rfl) ?_
        refine lv_imul hx hb (kd tdlX8_simulate_0 40 rfl) ?_
        refine lv_aload_n hx hb (kd tdlX8_simulate_0 41 rfl) rfl (lv_at hl 0 rfl) ?_
        refine va_get (D := D) (ci := 7) (v := .ref (g0 2)) (C := RX8) (T := TX8) (N := 9) hx hb hts inX8_ hown hK hP 0 rfl rfl 2 (by decide) L23 (fun _ h9 => h9) rfl (kd tdlX8_simulate_0 42 rfl) ?_
        obtain ⟨v85, e85, hF⟩ := kc hF
        refine kcL_i (S := Unit) (wf := (fun (_ : Unit) => [(wdk t (g0 2) a_trial k70.1)])) hP hD hS hA nd_2 rfl (fun _ => rfl) (kL_V (Qx := (fun A => kQi D (TY t) (kflat [(wdk t (g0 2) a_trial k70.1)]) v85 A)) (cs := [(wdk t (g0 2) a_trial k70.1)]) (is := [2]) (As := []) (rest := [.int (1000 * (dk_containers k70.1))]) ⟨hx, hb, hml, hown, hts⟩ hK hP hD nd_2 rfl (c_X1_living l D t (g0 2) a_trial k70.1 _  v85 e85) (cwV 0 hts (gcX1_living w_133) rfl rfl rfl hdX1_livingV ⟨Nat.le_of_ble_eq_true rfl, Nat.le_of_ble_eq_true rfl⟩) (ci := 1) (q0 := 11) rfl rfl rfl hl.1 rfl (Nat.le_of_ble_eq_true rfl) (kd tdlX8_simulate_0 43 rfl) ⟨Nat.le_of_ble_eq_true rfl, Nat.le_of_ble_eq_true rfl⟩) (fun _ H locs hP hD hS => ?_)
        have hP : va_P D vwCl (kflat [(wx8 h0 g0), (wdk t (g0 1) a_desk d_desk), (wdk t (g0 2) a_trial k70.1), (wsm t (g0 5) a_stream k70.2.1), (wpl t (g0 6) a_plan k70.2.2.1), (wcr t (g0 8) a_carrier k70.2.2.2)]) H := hP
        have hD : va_D A (kflat [(wx8 h0 g0), (wdk t (g0 1) a_desk d_desk), (wdk t (g0 2) a_trial k70.1), (wsm t (g0 5) a_stream k70.2.1), (wpl t (g0 6) a_plan k70.2.2.1), (wcr t (g0 8) a_carrier k70.2.2.2)]) := hD
        refine lv_iadd hx hb (kd tdlX8_simulate_0 44 rfl) ?_
        cases ko hF
        exact kes_i () hx hb hr hlocks hK hP hD hS rfl (Nat.le_of_ble_eq_true rfl) (Nat.le_of_ble_eq_true rfl) (kd tdlX8_simulate_1 0 rfl)
      refine lp_ind (f := B_X8_simulate_36 p3 (K_X8_simulate_70)) (r := r) (P := fun s36_ => ∀ (H : Heap) (locs : List Loc) (ls : Array Slot), va_P D vwCl (kflat [(wx8 h0 g0), (wdk t (g0 1) a_desk d_desk), (wdk t (g0 2) a_trial s36_.2.2.1), (wsm t (g0 5) a_stream s36_.2.2.2.1), (wpl t (g0 6) a_plan s36_.2.2.2.2.1), (wcr t (g0 8) a_carrier s36_.2.2.2.2.2)]) H → va_D A (kflat [(wx8 h0 g0), (wdk t (g0 1) a_desk d_desk), (wdk t (g0 2) a_trial s36_.2.2.1), (wsm t (g0 5) a_stream s36_.2.2.2.1), (wpl t (g0 6) a_plan s36_.2.2.2.2.1), (wcr t (g0 8) a_carrier s36_.2.2.2.2.2)]) → va_S A s.heap H locs → lv_has ls 7 [(0, .ref h0), (3, .int p3), (4, .long s36_.1), (6, .int s36_.2.1)] → W p l e ({ frames := 7, cells := 0, slots := 0, locals := 155 } : Room) s m args below meth c H locs 0 0 (MQ below (kQiS D (TY t) (fun (u : Unit) => (kflat [(wx8 h0 g0), (wdk t (g0 1) a_desk d_desk), (wdk t (g0 2) a_trial r.2.2.1), (wsm t (g0 5) a_stream r.2.2.2.1), (wpl t (g0 6) a_plan r.2.2.2.2.1), (wcr t (g0 8) a_carrier r.2.2.2.2.2)])) r.2.1 A) args s 0 0 A) (F0 m 36 ls [])) ?_ FU (p1, 0, v27, d_stream, d_plan, d_carrier) hF _ _ _ hP hD hS (lv_sub hl [2, 4, 1, 0] rfl)
      intro self36 ih36 s36_ hF H locs ls hP hD hS hl
      refine lv_iload hx hb (kd tdlX8_simulate_0 19 rfl) (lv_at hl 3 rfl) ?_
      refine lv_iload_n hx hb (kd tdlX8_simulate_0 20 rfl) rfl (lv_at hl 1 rfl) ?_
      refine lv_icmp_ge (tgt := 70) hx hb (kd tdlX8_simulate_0 21 rfl) (by decide) (fun hc39 => ?_) (fun hc39 => ?_)
      · have hF := kt hc39 hF
        exact hK70 (s36_.2.2.1, s36_.2.2.2.1, s36_.2.2.2.2.1, s36_.2.2.2.2.2) hF _ _ _ hP hD hS (lv_sub hl [0] rfl)
      · have hF := kf hc39 hF
        refine lv_lload hx hb (kd tdlX8_simulate_0 22 rfl) (lv_at hl 2 rfl) ?_
        refine lv_ldc2 (v := (6364136223846793005)) hx hb hown Lc282 (kd tdlX8_simulate_0 23 rfl) ?_
        refine lv_lmul hx hb (kd tdlX8_simulate_0 24 rfl) ?_
        refine lv_ldc2 (v := (1442695040888963407)) hx hb hown Lc284 (kd tdlX8_simulate_0 25 rfl) ?_
        refine lv_ladd hx hb (kd tdlX8_simulate_0 26 rfl) ?_
        refine lv_lstore (lv' := [(4, .long ((s36_.1 * (6364136223846793005)) + (1442695040888963407))), (0, .ref h0), (3, .int p3), (6, .int s36_.2.1)]) hx hb (kd tdlX8_simulate_0 27 rfl) hl (by decide) rfl (fun ls hl => ?_)
        refine lv_aload_n hx hb (kd tdlX8_simulate_0 28 rfl) rfl (lv_at hl 1 rfl) ?_
        refine lv_lload hx hb (kd tdlX8_simulate_0 29 rfl) (lv_at hl 0 rfl) ?_
        refine lv_bipush (v := 33) hx hb (kd tdlX8_simulate_0 30 rfl) (by decide) ?_
        refine lv_lushr hx hb (kd tdlX8_simulate_0 31 rfl) rfl ?_
        refine lv_l2i hx hb (kd tdlX8_simulate_0 32 rfl) rfl ?_
        obtain ⟨v61, e61, hF⟩ := kc hF
        refine kcL_v (S := Unit) (wf := (fun (_ : Unit) => [(wx8 h0 g0), (wdk t (g0 2) a_trial v61.1), (wsm t (g0 5) a_stream v61.2.1), (wpl t (g0 6) a_plan v61.2.2.1), (wcr t (g0 8) a_carrier v61.2.2.2)])) hP hD hS hA nd_0_2_3_4_5 rfl (fun _ => rfl) (kL_VX (Qx := (fun A => kQvS D (TY t) (fun (u61 : Unit) => kflat [(wx8 h0 g0), (wdk t (g0 2) a_trial v61.1), (wsm t (g0 5) a_stream v61.2.1), (wpl t (g0 6) a_plan v61.2.2.1), (wcr t (g0 8) a_carrier v61.2.2.2)]) A)) (cs := [(wx8 h0 g0), (wdk t (g0 2) a_trial s36_.2.2.1), (wsm t (g0 5) a_stream s36_.2.2.2.1), (wpl t (g0 6) a_plan s36_.2.2.2.2.1), (wcr t (g0 8) a_carrier s36_.2.2.2.2.2)]) (is := [0, 2, 3, 4, 5]) (As := [.int (Int64.toInt32 (UInt64.toInt64 (Int64.toUInt64 ((s36_.1 * (6364136223846793005)) + (1442695040888963407)) >>> (Int64.toUInt64 (Int32.toInt64 33) &&& Int64.toUInt64 63))))]) (rest := []) ⟨hx, hb, hml, hown, hts⟩ hX hS hA hK hP hD nd_0_2_3_4_5 rfl (c_X8_simulateTurn l D t h0 g0 a_trial s36_.2.2.1 a_stream s36_.2.2.2.1 a_plan s36_.2.2.2.2.1 a_carrier s36_.2.2.2.2.2 _ (Int64.toInt32 (UInt64.toInt64 (Int64.toUInt64 ((s36_.1 * (6364136223846793005)) + (1442695040888963407)) >>> (Int64.toUInt64 (Int32.toInt64 33) &&& Int64.toUInt64 63)))) v61 e61) (cwV 1 hts (gcX8_simulateTurn w_592) rfl rfl rfl hdX8_simulateTurnV ⟨Nat.le_of_ble_eq_true rfl, Nat.le_of_ble_eq_true rfl⟩) (ci := 7) (q0 := 0) rfl rfl rfl hl.1 rfl (Nat.le_of_ble_eq_true rfl) (kd tdlX8_simulate_0 33 rfl) ⟨Nat.le_of_ble_eq_true rfl, Nat.le_of_ble_eq_true rfl⟩) (fun _ H locs hP hD hS => ?_)
        have hP : va_P D vwCl (kflat [(wx8 h0 g0), (wdk t (g0 1) a_desk d_desk), (wdk t (g0 2) a_trial v61.1), (wsm t (g0 5) a_stream v61.2.1), (wpl t (g0 6) a_plan v61.2.2.1), (wcr t (g0 8) a_carrier v61.2.2.2)]) H := hP
        have hD : va_D A (kflat [(wx8 h0 g0), (wdk t (g0 1) a_desk d_desk), (wdk t (g0 2) a_trial v61.1), (wsm t (g0 5) a_stream v61.2.1), (wpl t (g0 6) a_plan v61.2.2.1), (wcr t (g0 8) a_carrier v61.2.2.2)]) := hD
        refine lv_iinc (v := (s36_.2.1 + 1)) (lv' := [(6, .int (s36_.2.1 + 1)), (4, .long ((s36_.1 * (6364136223846793005)) + (1442695040888963407))), (0, .ref h0), (3, .int p3)]) hx hb (kd tdlX8_simulate_0 34 rfl) hl (k := 3) rfl rfl (by decide) rfl (fun ls hl => ?_)
        refine lv_goto (tgt := 36) hx hb (kd tdlX8_simulate_0 35 rfl) (by decide) ?_
        exact ih36 (((s36_.1 * (6364136223846793005)) + (1442695040888963407)), (s36_.2.1 + 1), v61.1, v61.2.1, v61.2.2.1, v61.2.2.2) hF _ _ _ hP hD hS (lv_sub hl [2, 3, 1, 0] rfl)
    · have hF := kf hc8 hF
      cases ko hF
      exact absurd (show (2 : Nat) = 0 from hcd0) (by decide)
