set_option maxHeartbeats 8000000 in
set_option maxRecDepth 100000 in
theorem c_L_isBest (l : Launch) (D : va_G) (t : Nat → ClassId) (h0 : Nat) (g0 : Nat → Nat) (a_text : Nat → Nat) (d_text : TXT) (a_desk : Nat → Nat) (d_desk : DKT) (a_stream : Nat → Nat) (d_stream : SMT) (a_plan : Nat → Nat) (d_plan : PLT) (a_store : Nat → Nat) (d_store : SOT) (a_past : Nat → Nat) (u_past : UAT) (d_past : PAT) (sz : Nat) (p1 : Int32) (r : Int32 × DKT × SMT × PLT × SOT × PAT) (hF : F_L_isBest d_text d_desk d_stream d_plan d_store d_past p1 = some r) : Met l yL_isBest wL_isBest ({ frames := 7, cells := 200, slots := 21700, locals := 158 } : Room) (kPx D (TY t) (kflat [(wx8 h0 g0), (wtx t (g0 0) a_text d_text), (wdk t (g0 1) a_desk d_desk), (wsm t (g0 5) a_stream d_stream), (wpl t (g0 6) a_plan d_plan), (wso t (g0 7) a_store d_store), (wpa t (g0 3) a_past u_past d_past)]) [.ref h0, .int p1] sz) (kQiS D (TY t) (fun (u : UAT) => (kflat [(wx8 h0 g0), (wtx t (g0 0) a_text d_text), (wdk t (g0 1) a_desk r.2.1), (wsm t (g0 5) a_stream r.2.2.1), (wpl t (g0 6) a_plan r.2.2.2.1), (wso t (g0 7) a_store r.2.2.2.2.1), (wpa t (g0 3) a_past u r.2.2.2.2.2)])) r.1 (va_A (kflat [(wx8 h0 g0), (wtx t (g0 0) a_text d_text), (wdk t (g0 1) a_desk d_desk), (wsm t (g0 5) a_stream d_stream), (wpl t (g0 6) a_plan d_plan), (wso t (g0 7) a_store d_store), (wpa t (g0 3) a_past u_past d_past)]) sz)) 200 21700 (va_A (kflat [(wx8 h0 g0), (wtx t (g0 0) a_text d_text), (wdk t (g0 1) a_desk d_desk), (wsm t (g0 5) a_stream d_stream), (wpl t (g0 6) a_plan d_plan), (wso t (g0 7) a_store d_store), (wpa t (g0 3) a_past u_past d_past)]) sz) := by
  refine kEx (cc := cL_isBest) (maxL := 11) (ret := (some .boolean)) (Qx := fun A => kQiS D (TY t) (fun (u : UAT) => (kflat [(wx8 h0 g0), (wtx t (g0 0) a_text d_text), (wdk t (g0 1) a_desk r.2.1), (wsm t (g0 5) a_stream r.2.2.1), (wpl t (g0 6) a_plan r.2.2.2.1), (wso t (g0 7) a_store r.2.2.2.2.1), (wpa t (g0 3) a_past u r.2.2.2.2.2)])) r.1 A) (lv0 := [(0, .ref h0), (1, .int p1)]) RL rfl (by decide) rfl (Nat.le_of_ble_eq_true rfl) rfl ?_
  intro p e s m args below meth c A ls hx hb hml hr hlocks hown hts hA hX hK hP hD hS hl
  have hc9 : 0 + (0 + 200) ≤ 200 := Nat.le_of_ble_eq_true rfl
  have hs9 : 0 + (0 + 21700) ≤ 21700 := Nat.le_of_ble_eq_true rfl
  refine lv_aload_n hx hb (kd tdlL_isBest_0 0 rfl) rfl (lv_at hl 0 rfl) ?_
  refine lv_iconst (v := 2) hx hb (kd tdlL_isBest_0 1 rfl) (by decide) ?_
  obtain ⟨v2, e2, hF⟩ := kc hF
  obtain ⟨z2, hF⟩ := kz0 hF
  refine kcL_i (S := Unit) (wf := (fun (_ : Unit) => [(wx8 h0 g0), (wdk t (g0 1) a_desk d_desk)])) hP hD hS hA nd_0_2 rfl (fun _ => rfl) (kL_VX (Qx := (fun A => kQiS D (TY t) (fun (_ : Unit) => kflat [(wx8 h0 g0), (wdk t (g0 1) a_desk d_desk)]) v2.2 A)) (cs := [(wx8 h0 g0), (wdk t (g0 1) a_desk d_desk)]) (is := [0, 2]) (As := [.int 2]) (rest := []) ⟨hx, hb, hml, hown, hts⟩ hX hS hA hK hP hD nd_0_2 rfl (c_X8_setting l D t h0 g0 a_desk d_desk _ 2 v2 e2 z2) (cwV 1 hts (gcX8_setting w_189) rfl rfl rfl hdX8_settingV ⟨Nat.le_of_ble_eq_true rfl, Nat.le_of_ble_eq_true rfl⟩) (ci := 7) (q0 := 0) rfl rfl rfl hl.1 rfl (Nat.le_of_ble_eq_true rfl) (kd tdlL_isBest_0 2 rfl) ⟨kfi (m := 0) (R' := 200) hc9, kfi (m := 0) (R' := 21700) hs9⟩) (fun _ H locs hP hD hS => ?_)
  have hP : va_P D vwCl (kflat [(wx8 h0 g0), (wtx t (g0 0) a_text d_text), (wdk t (g0 1) a_desk d_desk), (wsm t (g0 5) a_stream d_stream), (wpl t (g0 6) a_plan d_plan), (wso t (g0 7) a_store d_store), (wpa t (g0 3) a_past u_past d_past)]) H := hP
  have hD : va_D A (kflat [(wx8 h0 g0), (wtx t (g0 0) a_text d_text), (wdk t (g0 1) a_desk d_desk), (wsm t (g0 5) a_stream d_stream), (wpl t (g0 6) a_plan d_plan), (wso t (g0 7) a_store d_store), (wpa t (g0 3) a_past u_past d_past)]) := hD
  have hc9 := kstp (m := 0) (R' := 200) hc9
  have hs9 := kstp (m := 0) (R' := 21700) hs9
  refine lv_istore_n (lv' := [(2, .int v2.2), (0, .ref h0), (1, .int p1)]) hx hb (kd tdlL_isBest_0 3 rfl) rfl hl (by decide) rfl (fun ls hl => ?_)
  refine lv_aload_n hx hb (kd tdlL_isBest_0 4 rfl) rfl (lv_at hl 1 rfl) ?_
  refine lv_iconst (v := 0) hx hb (kd tdlL_isBest_0 5 rfl) (by decide) ?_
  obtain ⟨v8, e8, hF⟩ := kc hF
  obtain ⟨z8, hF⟩ := kz0 hF
  refine kcL_i (S := Unit) (wf := (fun (_ : Unit) => [(wx8 h0 g0), (wtx t (g0 0) a_text d_text), (wdk t (g0 1) a_desk d_desk), (wsm t (g0 5) a_stream v8.2.2.1), (wpl t (g0 6) a_plan v8.2.2.2.1), (wso t (g0 7) a_store v8.2.2.2.2)])) hP hD hS hA nd_0_1_2_3_4_5 rfl (fun _ => rfl) (kL_VX (Qx := (fun A => kQiS D (TY t) (fun (_ : Unit) => kflat [(wx8 h0 g0), (wtx t (g0 0) a_text d_text), (wdk t (g0 1) a_desk d_desk), (wsm t (g0 5) a_stream v8.2.2.1), (wpl t (g0 6) a_plan v8.2.2.2.1), (wso t (g0 7) a_store v8.2.2.2.2)]) v8.2.1 A)) (cs := [(wx8 h0 g0), (wtx t (g0 0) a_text d_text), (wdk t (g0 1) a_desk d_desk), (wsm t (g0 5) a_stream d_stream), (wpl t (g0 6) a_plan d_plan), (wso t (g0 7) a_store d_store)]) (is := [0, 1, 2, 3, 4, 5]) (As := [.int 0]) (rest := []) ⟨hx, hb, hml, hown, hts⟩ hX hS hA hK hP hD nd_0_1_2_3_4_5 rfl (c_X8_bestLimit l D t h0 g0 a_text d_text a_desk d_desk a_stream d_stream a_plan d_plan a_store d_store _ 0 v8 e8 z8) (cwV 1 hts (gcX8_bestLimit w_635) rfl rfl rfl hdX8_bestLimitV ⟨Nat.le_of_ble_eq_true rfl, Nat.le_of_ble_eq_true rfl⟩) (ci := 7) (q0 := 0) rfl rfl rfl hl.1 rfl (Nat.le_of_ble_eq_true rfl) (kd tdlL_isBest_0 6 rfl) ⟨kfi (m := 0) (R' := 200) hc9, kfi (m := 0) (R' := 21700) hs9⟩) (fun _ H locs hP hD hS => ?_)
  have hP : va_P D vwCl (kflat [(wx8 h0 g0), (wtx t (g0 0) a_text d_text), (wdk t (g0 1) a_desk d_desk), (wsm t (g0 5) a_stream v8.2.2.1), (wpl t (g0 6) a_plan v8.2.2.2.1), (wso t (g0 7) a_store v8.2.2.2.2), (wpa t (g0 3) a_past u_past d_past)]) H := hP
  have hD : va_D A (kflat [(wx8 h0 g0), (wtx t (g0 0) a_text d_text), (wdk t (g0 1) a_desk d_desk), (wsm t (g0 5) a_stream v8.2.2.1), (wpl t (g0 6) a_plan v8.2.2.2.1), (wso t (g0 7) a_store v8.2.2.2.2), (wpa t (g0 3) a_past u_past d_past)]) := hD
  have hc9 := kstp (m := 0) (R' := 200) hc9
  have hs9 := kstp (m := 0) (R' := 21700) hs9
  refine lv_istore_n (lv' := [(3, .int v8.2.1), (2, .int v2.2), (0, .ref h0), (1, .int p1)]) hx hb (kd tdlL_isBest_0 7 rfl) rfl hl (by decide) rfl (fun ls hl => ?_)
  refine lv_iconst (v := 0) hx hb (kd tdlL_isBest_0 8 rfl) (by decide) ?_
  refine lv_istore (lv' := [(4, .int 0), (3, .int v8.2.1), (2, .int v2.2), (0, .ref h0), (1, .int p1)]) hx hb (kd tdlL_isBest_0 9 rfl) hl (by decide) rfl (fun ls hl => ?_)
  refine lv_iconst (v := 0) hx hb (kd tdlL_isBest_0 10 rfl) (by decide) ?_
  refine lv_istore (lv' := [(5, .int 0), (4, .int 0), (3, .int v8.2.1), (2, .int v2.2), (0, .ref h0), (1, .int p1)]) hx hb (kd tdlL_isBest_0 11 rfl) hl (by decide) rfl (fun ls hl => ?_)
  refine lv_iconst (v := 1) hx hb (kd tdlL_isBest_0 12 rfl) (by decide) ?_
  refine lv_istore (lv' := [(6, .int 1), (5, .int 0), (4, .int 0), (3, .int v8.2.1), (2, .int v2.2), (0, .ref h0), (1, .int p1)]) hx hb (kd tdlL_isBest_0 13 rfl) hl (by decide) rfl (fun ls hl => ?_)
  have hK149 : ∀ k149 : Int32 × DKT × SMT × PLT × SOT × PAT, K_L_isBest_149 v8 v2 k149 = some r → ∀ (H : Heap) (locs : List Loc) (ls : Array Slot) (uu : UAT) (c9 s9 : Nat), va_P D vwCl (kflat [(wx8 h0 g0), (wtx t (g0 0) a_text d_text), (wdk t (g0 1) a_desk k149.2.1), (wsm t (g0 5) a_stream k149.2.2.1), (wpl t (g0 6) a_plan k149.2.2.2.1), (wso t (g0 7) a_store k149.2.2.2.2.1), (wpa t (g0 3) a_past uu k149.2.2.2.2.2)]) H → va_D A (kflat [(wx8 h0 g0), (wtx t (g0 0) a_text d_text), (wdk t (g0 1) a_desk k149.2.1), (wsm t (g0 5) a_stream k149.2.2.1), (wpl t (g0 6) a_plan k149.2.2.2.1), (wso t (g0 7) a_store k149.2.2.2.2.1), (wpa t (g0 3) a_past uu k149.2.2.2.2.2)]) → va_S A s.heap H locs → lv_has ls 11 [(0, .ref h0), (2, .int v2.2), (3, .int v8.2.1), (5, .int k149.1)] → c9 + (0 + 0) ≤ 200 → s9 + (0 + 0) ≤ 21700 → W p l e ({ frames := 7, cells := 200, slots := 21700, locals := 158 } : Room) s m args below meth c H locs c9 s9 (MQ below (kQiS D (TY t) (fun (u : UAT) => (kflat [(wx8 h0 g0), (wtx t (g0 0) a_text d_text), (wdk t (g0 1) a_desk r.2.1), (wsm t (g0 5) a_stream r.2.2.1), (wpl t (g0 6) a_plan r.2.2.2.1), (wso t (g0 7) a_store r.2.2.2.2.1), (wpa t (g0 3) a_past u r.2.2.2.2.2)])) r.1 A) args s 200 21700 A) (F0 m 149 ls []) := by
    clear hc9 hs9
    intro k149 hF H locs ls uu c9 s9 hP hD hS hl hc9 hs9
    refine lv_iload hx hb (kd tdlL_isBest_1 36 rfl) (lv_at hl 3 rfl) ?_
    refine lv_iload_n hx hb (kd tdlL_isBest_1 37 rfl) rfl (lv_at hl 2 rfl) ?_
    refine lv_icmp_ne (tgt := 168) hx hb (kd tdlL_isBest_1 38 rfl) (by decide) (fun hc152 => ?_) (fun hc152 => ?_)
    · have hF := kf hc152 hF
      refine lv_iconst (v := 0) hx hb (kd tdlL_isBest_2 1 rfl) (by decide) ?_
      cases ko hF
      exact kes_z uu hx hb hr hlocks rfl hK hP hD hS rfl (kfr hc9) (kfr hs9) (kd tdlL_isBest_2 2 rfl)
    · have hF := kt hc152 hF
      refine lv_aload_n hx hb (kd tdlL_isBest_1 39 rfl) rfl (lv_at hl 0 rfl) ?_
      refine lv_iconst (v := 2) hx hb (kd tdlL_isBest_1 40 rfl) (by decide) ?_
      obtain ⟨v157, e157, hF⟩ := kc hF
      obtain ⟨z157, hF⟩ := kz0 hF
      refine kcL_i (S := Unit) (wf := (fun (_ : Unit) => [(wx8 h0 g0), (wdk t (g0 1) a_desk k149.2.1)])) hP hD hS hA nd_0_2 rfl (fun _ => rfl) (kL_VX (Qx := (fun A => kQiS D (TY t) (fun (_ : Unit) => kflat [(wx8 h0 g0), (wdk t (g0 1) a_desk k149.2.1)]) v157.2 A)) (cs := [(wx8 h0 g0), (wdk t (g0 1) a_desk k149.2.1)]) (is := [0, 2]) (As := [.int 2]) (rest := []) ⟨hx, hb, hml, hown, hts⟩ hX hS hA hK hP hD nd_0_2 rfl (c_X8_setting l D t h0 g0 a_desk k149.2.1 _ 2 v157 e157 z157) (cwV 1 hts (gcX8_setting w_189) rfl rfl rfl hdX8_settingV ⟨Nat.le_of_ble_eq_true rfl, Nat.le_of_ble_eq_true rfl⟩) (ci := 7) (q0 := 0) rfl rfl rfl hl.1 rfl (Nat.le_of_ble_eq_true rfl) (kd tdlL_isBest_1 41 rfl) ⟨kfi (m := 0) (R' := 0) hc9, kfi (m := 0) (R' := 0) hs9⟩) (fun _ H locs hP hD hS => ?_)
      have hP : va_P D vwCl (kflat [(wx8 h0 g0), (wtx t (g0 0) a_text d_text), (wdk t (g0 1) a_desk k149.2.1), (wsm t (g0 5) a_stream k149.2.2.1), (wpl t (g0 6) a_plan k149.2.2.2.1), (wso t (g0 7) a_store k149.2.2.2.2.1), (wpa t (g0 3) a_past uu k149.2.2.2.2.2)]) H := hP
      have hD : va_D A (kflat [(wx8 h0 g0), (wtx t (g0 0) a_text d_text), (wdk t (g0 1) a_desk k149.2.1), (wsm t (g0 5) a_stream k149.2.2.1), (wpl t (g0 6) a_plan k149.2.2.2.1), (wso t (g0 7) a_store k149.2.2.2.2.1), (wpa t (g0 3) a_past uu k149.2.2.2.2.2)]) := hD
      have hc9 := kstp (m := 0) (R' := 0) hc9
      have hs9 := kstp (m := 0) (R' := 0) hs9
      refine lv_iload_n hx hb (kd tdlL_isBest_1 42 rfl) rfl (lv_at hl 1 rfl) ?_
      refine lv_icmp_ne (tgt := 168) hx hb (kd tdlL_isBest_1 43 rfl) (by decide) (fun hc161 => ?_) (fun hc161 => ?_)
      · have hF := kf hc161 hF
        refine lv_iconst (v := 0) hx hb (kd tdlL_isBest_2 1 rfl) (by decide) ?_
        cases ko hF
        exact kes_z uu hx hb hr hlocks rfl hK hP hD hS rfl (kfr hc9) (kfr hs9) (kd tdlL_isBest_2 2 rfl)
      · have hF := kt hc161 hF
        refine lv_iconst (v := 1) hx hb (kd tdlL_isBest_1 44 rfl) (by decide) ?_
        refine lv_goto (tgt := 169) hx hb (kd tdlL_isBest_2 0 rfl) (by decide) ?_
        cases ko hF
        exact kes_z uu hx hb hr hlocks rfl hK hP hD hS rfl (kfr hc9) (kfr hs9) (kd tdlL_isBest_2 2 rfl)
  have hK64 : ∀ k64 : DKT × SMT × PLT × SOT × PAT, K_L_isBest_64 v2 v8 k64 = some r → ∀ (H : Heap) (locs : List Loc) (ls : Array Slot) (uu : UAT) (c9 s9 : Nat), va_P D vwCl (kflat [(wx8 h0 g0), (wtx t (g0 0) a_text d_text), (wdk t (g0 1) a_desk k64.1), (wsm t (g0 5) a_stream k64.2.1), (wpl t (g0 6) a_plan k64.2.2.1), (wso t (g0 7) a_store k64.2.2.2.1), (wpa t (g0 3) a_past uu k64.2.2.2.2)]) H → va_D A (kflat [(wx8 h0 g0), (wtx t (g0 0) a_text d_text), (wdk t (g0 1) a_desk k64.1), (wsm t (g0 5) a_stream k64.2.1), (wpl t (g0 6) a_plan k64.2.2.1), (wso t (g0 7) a_store k64.2.2.2.1), (wpa t (g0 3) a_past uu k64.2.2.2.2)]) → va_S A s.heap H locs → lv_has ls 11 [(0, .ref h0), (2, .int v2.2), (3, .int v8.2.1)] → c9 + (0 + 10) ≤ 200 → s9 + (0 + 1085) ≤ 21700 → W p l e ({ frames := 7, cells := 200, slots := 21700, locals := 158 } : Room) s m args below meth c H locs c9 s9 (MQ below (kQiS D (TY t) (fun (u : UAT) => (kflat [(wx8 h0 g0), (wtx t (g0 0) a_text d_text), (wdk t (g0 1) a_desk r.2.1), (wsm t (g0 5) a_stream r.2.2.1), (wpl t (g0 6) a_plan r.2.2.2.1), (wso t (g0 7) a_store r.2.2.2.2.1), (wpa t (g0 3) a_past u r.2.2.2.2.2)])) r.1 A) args s 200 21700 A) (F0 m 64 ls []) := by
    clear hc9 hs9
    intro k64 hF H locs ls uu c9 s9 hP hD hS hl hc9 hs9
    refine lv_aload_n hx hb (kd tdlL_isBest_0 35 rfl) rfl (lv_at hl 0 rfl) ?_
    refine lv_iconst (v := 2) hx hb (kd tdlL_isBest_0 36 rfl) (by decide) ?_
    refine lv_iload_n hx hb (kd tdlL_isBest_0 37 rfl) rfl (lv_at hl 1 rfl) ?_
    obtain ⟨v67, e67, hF⟩ := kc hF
    obtain ⟨z67, hF⟩ := kz0 hF
    refine kcL_i (S := UAT) (wf := (fun (u67 : UAT) => [(wx8 h0 g0), (wdk t (g0 1) a_desk v67.2.2.1), (wpa t (g0 3) a_past u67 v67.2.2.2)])) hP hD hS hA nd_0_2_6 rfl (fun _ => rfl) (kL_VX (Qx := (fun A => kQiS D (TY t) (fun (u67 : UAT) => kflat [(wx8 h0 g0), (wdk t (g0 1) a_desk v67.2.2.1), (wpa t (g0 3) a_past u67 v67.2.2.2)]) v67.2.1 A)) (cs := [(wx8 h0 g0), (wdk t (g0 1) a_desk k64.1), (wpa t (g0 3) a_past uu k64.2.2.2.2)]) (is := [0, 2, 6]) (As := [.int 2, .int v2.2]) (rest := []) ⟨hx, hb, hml, hown, hts⟩ hX hS hA hK hP hD nd_0_2_6 rfl (c_X8_set l D t h0 g0 a_desk k64.1 a_past uu k64.2.2.2.2 _ 2 v2.2 v67 e67 z67) (cwV 2 hts (gcX8_set w_414) rfl rfl rfl hdX8_setV ⟨Nat.le_of_ble_eq_true rfl, Nat.le_of_ble_eq_true rfl⟩) (ci := 7) (q0 := 0) rfl rfl rfl hl.1 rfl (Nat.le_of_ble_eq_true rfl) (kd tdlL_isBest_0 38 rfl) ⟨kfi (m := 10) (R' := 0) hc9, kfi (m := 1085) (R' := 0) hs9⟩) (fun u67 H locs hP hD hS => ?_)
    have hP : va_P D vwCl (kflat [(wx8 h0 g0), (wtx t (g0 0) a_text d_text), (wdk t (g0 1) a_desk v67.2.2.1), (wsm t (g0 5) a_stream k64.2.1), (wpl t (g0 6) a_plan k64.2.2.1), (wso t (g0 7) a_store k64.2.2.2.1), (wpa t (g0 3) a_past u67 v67.2.2.2)]) H := hP
    have hD : va_D A (kflat [(wx8 h0 g0), (wtx t (g0 0) a_text d_text), (wdk t (g0 1) a_desk v67.2.2.1), (wsm t (g0 5) a_stream k64.2.1), (wpl t (g0 6) a_plan k64.2.2.1), (wso t (g0 7) a_store k64.2.2.2.1), (wpa t (g0 3) a_past u67 v67.2.2.2)]) := hD
    have hc9 := kstp (m := 10) (R' := 0) hc9
    have hs9 := kstp (m := 1085) (R' := 0) hs9
    refine lv_pop hx hb (kd tdlL_isBest_0 39 rfl) rfl ?_
    refine lv_iload_n hx hb (kd tdlL_isBest_0 40 rfl) rfl (lv_at hl 2 rfl) ?_
    refine lv_if_le (tgt := 85) hx hb (kd tdlL_isBest_0 41 rfl) (by decide) (fun hc72 => ?_) (fun hc72 => ?_)
    · have hF := kt hc72 hF
      refine lv_iconst (v := 0) hx hb (kd tdlL_isBest_1 2 rfl) (by decide) ?_
      cases ko hF
      exact kes_z u67 hx hb hr hlocks rfl hK hP hD hS rfl (kfr hc9) (kfr hs9) (kd tdlL_isBest_1 3 rfl)
    · have hF := kf hc72 hF
      refine lv_iload_n hx hb (kd tdlL_isBest_0 42 rfl) rfl (lv_at hl 2 rfl) ?_
      refine lv_bipush (v := 10) hx hb (kd tdlL_isBest_0 43 rfl) (by decide) ?_
      refine lv_icmp_ge (tgt := 85) hx hb (kd tdlL_isBest_0 44 rfl) (by decide) (fun hc78 => ?_) (fun hc78 => ?_)
      · have hF := kt hc78 hF
        refine lv_iconst (v := 0) hx hb (kd tdlL_isBest_1 2 rfl) (by decide) ?_
        cases ko hF
        exact kes_z u67 hx hb hr hlocks rfl hK hP hD hS rfl (kfr hc9) (kfr hs9) (kd tdlL_isBest_1 3 rfl)
      · have hF := kf hc78 hF
        refine lv_iconst (v := 1) hx hb (kd tdlL_isBest_1 0 rfl) (by decide) ?_
        refine lv_goto (tgt := 86) hx hb (kd tdlL_isBest_1 1 rfl) (by decide) ?_
        cases ko hF
        exact kes_z u67 hx hb hr hlocks rfl hK hP hD hS rfl (kfr hc9) (kfr hs9) (kd tdlL_isBest_1 3 rfl)
  refine lp_indN (f := B_L_isBest_21 p1 d_text (K_L_isBest_149 v8 v2) (K_L_isBest_64 v2 v8)) (r := r) (P := fun n9 s21_ => ∀ (H : Heap) (locs : List Loc) (ls : Array Slot) (uu : UAT) (c9 s9 : Nat), va_P D vwCl (kflat [(wx8 h0 g0), (wtx t (g0 0) a_text d_text), (wdk t (g0 1) a_desk s21_.2.2.2.1), (wsm t (g0 5) a_stream s21_.2.2.2.2.1), (wpl t (g0 6) a_plan s21_.2.2.2.2.2.1), (wso t (g0 7) a_store s21_.2.2.2.2.2.2.1), (wpa t (g0 3) a_past uu s21_.2.2.2.2.2.2.2)]) H → va_D A (kflat [(wx8 h0 g0), (wtx t (g0 0) a_text d_text), (wdk t (g0 1) a_desk s21_.2.2.2.1), (wsm t (g0 5) a_stream s21_.2.2.2.2.1), (wpl t (g0 6) a_plan s21_.2.2.2.2.2.1), (wso t (g0 7) a_store s21_.2.2.2.2.2.2.1), (wpa t (g0 3) a_past uu s21_.2.2.2.2.2.2.2)]) → va_S A s.heap H locs → lv_has ls 11 [(0, .ref h0), (1, .int p1), (2, .int v2.2), (3, .int v8.2.1), (4, .int s21_.1), (5, .int s21_.2.1), (6, .int s21_.2.2.1)] → c9 + (n9 * 20 + 0) ≤ 200 → s9 + (n9 * 2170 + 0) ≤ 21700 → W p l e ({ frames := 7, cells := 200, slots := 21700, locals := 158 } : Room) s m args below meth c H locs c9 s9 (MQ below (kQiS D (TY t) (fun (u : UAT) => (kflat [(wx8 h0 g0), (wtx t (g0 0) a_text d_text), (wdk t (g0 1) a_desk r.2.1), (wsm t (g0 5) a_stream r.2.2.1), (wpl t (g0 6) a_plan r.2.2.2.1), (wso t (g0 7) a_store r.2.2.2.2.1), (wpa t (g0 3) a_past u r.2.2.2.2.2)])) r.1 A) args s 200 21700 A) (F0 m 21 ls [])) ?_ 10 (0, 0, 1, d_desk, v8.2.2.1, v8.2.2.2.1, v8.2.2.2.2, d_past) hF _ _ _ _ _ _ hP hD hS (lv_sub hl [5, 6, 4, 3, 2, 1, 0] rfl) (kjl (R := 200) hc9 (Nat.le_of_ble_eq_true rfl)) (kjl (R := 21700) hs9 (Nat.le_of_ble_eq_true rfl))
  clear hc9 hs9
  intro n9 self21 ih21 s21_ hF H locs ls uu c9 s9 hP hD hS hl hc9 hs9
  have hc9 := kjs (P := 20) (C := 0) (R := 20) hc9 rfl
  have hs9 := kjs (P := 2170) (C := 0) (R := 2170) hs9 rfl
  refine lv_iload hx hb (kd tdlL_isBest_0 14 rfl) (lv_at hl 6 rfl) ?_
  refine lv_bipush (v := 10) hx hb (kd tdlL_isBest_0 15 rfl) (by decide) ?_
  refine lv_icmp_ge (tgt := 149) hx hb (kd tdlL_isBest_0 16 rfl) (by decide) (fun hc25 => ?_) (fun hc25 => ?_)
  · have hF := kt hc25 hF
    exact hK149 (s21_.2.1, s21_.2.2.2.1, s21_.2.2.2.2.1, s21_.2.2.2.2.2.1, s21_.2.2.2.2.2.2.1, s21_.2.2.2.2.2.2.2) hF _ _ _ _ _ _ hP hD hS (lv_sub hl [0, 2, 3, 5] rfl) (kjx (R := 20) (R' := 0) hc9 (Nat.le_of_ble_eq_true rfl)) (kjx (R := 2170) (R' := 0) hs9 (Nat.le_of_ble_eq_true rfl))
  · have hF := kf hc25 hF
    refine lv_aload_n hx hb (kd tdlL_isBest_0 17 rfl) rfl (lv_at hl 0 rfl) ?_
    refine lv_iconst (v := 2) hx hb (kd tdlL_isBest_0 18 rfl) (by decide) ?_
    refine lv_iload hx hb (kd tdlL_isBest_0 19 rfl) (lv_at hl 6 rfl) ?_
    obtain ⟨v32, e32, hF⟩ := kc hF
    obtain ⟨z32, hF⟩ := kz0 hF
    refine kcL_i (S := UAT) (wf := (fun (u32 : UAT) => [(wx8 h0 g0), (wdk t (g0 1) a_desk v32.2.2.1), (wpa t (g0 3) a_past u32 v32.2.2.2)])) hP hD hS hA nd_0_2_6 rfl (fun _ => rfl) (kL_VX (Qx := (fun A => kQiS D (TY t) (fun (u32 : UAT) => kflat [(wx8 h0 g0), (wdk t (g0 1) a_desk v32.2.2.1), (wpa t (g0 3) a_past u32 v32.2.2.2)]) v32.2.1 A)) (cs := [(wx8 h0 g0), (wdk t (g0 1) a_desk s21_.2.2.2.1), (wpa t (g0 3) a_past uu s21_.2.2.2.2.2.2.2)]) (is := [0, 2, 6]) (As := [.int 2, .int s21_.2.2.1]) (rest := []) ⟨hx, hb, hml, hown, hts⟩ hX hS hA hK hP hD nd_0_2_6 rfl (c_X8_set l D t h0 g0 a_desk s21_.2.2.2.1 a_past uu s21_.2.2.2.2.2.2.2 _ 2 s21_.2.2.1 v32 e32 z32) (cwV 2 hts (gcX8_set w_414) rfl rfl rfl hdX8_setV ⟨Nat.le_of_ble_eq_true rfl, Nat.le_of_ble_eq_true rfl⟩) (ci := 7) (q0 := 0) rfl rfl rfl hl.1 rfl (Nat.le_of_ble_eq_true rfl) (kd tdlL_isBest_0 20 rfl) ⟨kfi (m := 10) (R' := 10) hc9, kfi (m := 1085) (R' := 1085) hs9⟩) (fun u32 H locs hP hD hS => ?_)
    have hP : va_P D vwCl (kflat [(wx8 h0 g0), (wtx t (g0 0) a_text d_text), (wdk t (g0 1) a_desk v32.2.2.1), (wsm t (g0 5) a_stream s21_.2.2.2.2.1), (wpl t (g0 6) a_plan s21_.2.2.2.2.2.1), (wso t (g0 7) a_store s21_.2.2.2.2.2.2.1), (wpa t (g0 3) a_past u32 v32.2.2.2)]) H := hP
    have hD : va_D A (kflat [(wx8 h0 g0), (wtx t (g0 0) a_text d_text), (wdk t (g0 1) a_desk v32.2.2.1), (wsm t (g0 5) a_stream s21_.2.2.2.2.1), (wpl t (g0 6) a_plan s21_.2.2.2.2.2.1), (wso t (g0 7) a_store s21_.2.2.2.2.2.2.1), (wpa t (g0 3) a_past u32 v32.2.2.2)]) := hD
    have hc9 := kstp (m := 10) (R' := 10) hc9
    have hs9 := kstp (m := 1085) (R' := 1085) hs9
    refine lv_pop hx hb (kd tdlL_isBest_0 21 rfl) rfl ?_
    refine lv_iload_n hx hb (kd tdlL_isBest_0 22 rfl) rfl (lv_at hl 1 rfl) ?_
    refine lv_sipush (v := 255) hx hb (kd tdlL_isBest_0 23 rfl) (by decide) ?_
    have hJ57 : ∀ j57 : Int32 × SMT × PLT, J_L_isBest_57 (K_L_isBest_64 v2 v8) v32 s21_ d_text self21 j57 = some r → ∀ (H : Heap) (locs : List Loc) (ls : Array Slot) (uu : UAT) (c9 s9 : Nat), va_P D vwCl (kflat [(wx8 h0 g0), (wtx t (g0 0) a_text d_text), (wdk t (g0 1) a_desk v32.2.2.1), (wsm t (g0 5) a_stream j57.2.1), (wpl t (g0 6) a_plan j57.2.2), (wso t (g0 7) a_store s21_.2.2.2.2.2.2.1), (wpa t (g0 3) a_past uu v32.2.2.2)]) H → va_D A (kflat [(wx8 h0 g0), (wtx t (g0 0) a_text d_text), (wdk t (g0 1) a_desk v32.2.2.1), (wsm t (g0 5) a_stream j57.2.1), (wpl t (g0 6) a_plan j57.2.2), (wso t (g0 7) a_store s21_.2.2.2.2.2.2.1), (wpa t (g0 3) a_past uu v32.2.2.2)]) → va_S A s.heap H locs → lv_has ls 11 [(0, .ref h0), (1, .int p1), (2, .int v2.2), (3, .int v8.2.1), (4, .int s21_.1), (5, .int s21_.2.1), (6, .int s21_.2.2.1)] → c9 + (n9 * 20 + 10) ≤ 200 → s9 + (n9 * 2170 + 1085) ≤ 21700 → W p l e ({ frames := 7, cells := 200, slots := 21700, locals := 158 } : Room) s m args below meth c H locs c9 s9 (MQ below (kQiS D (TY t) (fun (u : UAT) => (kflat [(wx8 h0 g0), (wtx t (g0 0) a_text d_text), (wdk t (g0 1) a_desk r.2.1), (wsm t (g0 5) a_stream r.2.2.1), (wpl t (g0 6) a_plan r.2.2.2.1), (wso t (g0 7) a_store r.2.2.2.2.1), (wpa t (g0 3) a_past u r.2.2.2.2.2)])) r.1 A) args s 200 21700 A) (F0 m 57 ls [.int j57.1]) := by
      clear hc9 hs9
      intro j57 hF H locs ls uu c9 s9 hP hD hS hl hc9 hs9
      refine lv_istore (lv' := [(7, .int j57.1), (0, .ref h0), (1, .int p1), (2, .int v2.2), (3, .int v8.2.1), (4, .int s21_.1), (5, .int s21_.2.1), (6, .int s21_.2.2.1)]) hx hb (kd tdlL_isBest_0 32 rfl) hl (by decide) rfl (fun ls hl => ?_)
      refine lv_iload hx hb (kd tdlL_isBest_0 33 rfl) (lv_at hl 0 rfl) ?_
      refine lv_if_ne (tgt := 87) hx hb (kd tdlL_isBest_0 34 rfl) (by decide) (fun hc61 => ?_) (fun hc61 => ?_)
      · have hF := kf hc61 hF
        refine lv_aload_n hx hb (kd tdlL_isBest_1 4 rfl) rfl (lv_at hl 1 rfl) ?_
        refine lv_iconst (v := 0) hx hb (kd tdlL_isBest_1 5 rfl) (by decide) ?_
        obtain ⟨v89, e89, hF⟩ := kc hF
        obtain ⟨z89, hF⟩ := kz0 hF
        refine kcL_i (S := Unit) (wf := (fun (_ : Unit) => [(wx8 h0 g0), (wtx t (g0 0) a_text d_text), (wdk t (g0 1) a_desk v32.2.2.1), (wsm t (g0 5) a_stream v89.2.2.1), (wpl t (g0 6) a_plan v89.2.2.2)])) hP hD hS hA nd_0_1_2_3_4 rfl (fun _ => rfl) (kL_VX (Qx := (fun A => kQiS D (TY t) (fun (_ : Unit) => kflat [(wx8 h0 g0), (wtx t (g0 0) a_text d_text), (wdk t (g0 1) a_desk v32.2.2.1), (wsm t (g0 5) a_stream v89.2.2.1), (wpl t (g0 6) a_plan v89.2.2.2)]) v89.2.1 A)) (cs := [(wx8 h0 g0), (wtx t (g0 0) a_text d_text), (wdk t (g0 1) a_desk v32.2.2.1), (wsm t (g0 5) a_stream j57.2.1), (wpl t (g0 6) a_plan j57.2.2)]) (is := [0, 1, 2, 3, 4]) (As := [.int 0]) (rest := []) ⟨hx, hb, hml, hown, hts⟩ hX hS hA hK hP hD nd_0_1_2_3_4 rfl (c_X8_wouldPut l D t h0 g0 a_text d_text a_desk v32.2.2.1 a_stream j57.2.1 a_plan j57.2.2 _ 0 v89 e89 z89) (cwV 1 hts (gcX8_wouldPut w_458) rfl rfl rfl hdX8_wouldPutV ⟨Nat.le_of_ble_eq_true rfl, Nat.le_of_ble_eq_true rfl⟩) (ci := 7) (q0 := 0) rfl rfl rfl hl.1 rfl (Nat.le_of_ble_eq_true rfl) (kd tdlL_isBest_1 6 rfl) ⟨kfi (m := 0) (R' := 10) hc9, kfi (m := 0) (R' := 1085) hs9⟩) (fun _ H locs hP hD hS => ?_)
        have hP : va_P D vwCl (kflat [(wx8 h0 g0), (wtx t (g0 0) a_text d_text), (wdk t (g0 1) a_desk v32.2.2.1), (wsm t (g0 5) a_stream v89.2.2.1), (wpl t (g0 6) a_plan v89.2.2.2), (wso t (g0 7) a_store s21_.2.2.2.2.2.2.1), (wpa t (g0 3) a_past uu v32.2.2.2)]) H := hP
        have hD : va_D A (kflat [(wx8 h0 g0), (wtx t (g0 0) a_text d_text), (wdk t (g0 1) a_desk v32.2.2.1), (wsm t (g0 5) a_stream v89.2.2.1), (wpl t (g0 6) a_plan v89.2.2.2), (wso t (g0 7) a_store s21_.2.2.2.2.2.2.1), (wpa t (g0 3) a_past uu v32.2.2.2)]) := hD
        have hc9 := kstp (m := 0) (R' := 10) hc9
        have hs9 := kstp (m := 0) (R' := 1085) hs9
        refine lv_istore (lv' := [(8, .int v89.2.1), (7, .int j57.1), (0, .ref h0), (1, .int p1), (2, .int v2.2), (3, .int v8.2.1), (4, .int s21_.1), (5, .int s21_.2.1), (6, .int s21_.2.2.1)]) hx hb (kd tdlL_isBest_1 7 rfl) hl (by decide) rfl (fun ls hl => ?_)
        refine lv_aload_n hx hb (kd tdlL_isBest_1 8 rfl) rfl (lv_at hl 2 rfl) ?_
        refine lv_iconst (v := 0) hx hb (kd tdlL_isBest_1 9 rfl) (by decide) ?_
        obtain ⟨v96, e96, hF⟩ := kc hF
        obtain ⟨z96, hF⟩ := kz0 hF
        refine kcL_i (S := UAT) (wf := (fun (u96 : UAT) => [(wx8 h0 g0), (wtx t (g0 0) a_text d_text), (wdk t (g0 1) a_desk v96.2.2.1), (wsm t (g0 5) a_stream v96.2.2.2.1), (wpl t (g0 6) a_plan v96.2.2.2.2.1), (wpa t (g0 3) a_past u96 v96.2.2.2.2.2)])) hP hD hS hA nd_0_1_2_3_4_6 rfl (fun _ => rfl) (kL_VX (Qx := (fun A => kQiS D (TY t) (fun (u96 : UAT) => kflat [(wx8 h0 g0), (wtx t (g0 0) a_text d_text), (wdk t (g0 1) a_desk v96.2.2.1), (wsm t (g0 5) a_stream v96.2.2.2.1), (wpl t (g0 6) a_plan v96.2.2.2.2.1), (wpa t (g0 3) a_past u96 v96.2.2.2.2.2)]) v96.2.1 A)) (cs := [(wx8 h0 g0), (wtx t (g0 0) a_text d_text), (wdk t (g0 1) a_desk v32.2.2.1), (wsm t (g0 5) a_stream v89.2.2.1), (wpl t (g0 6) a_plan v89.2.2.2), (wpa t (g0 3) a_past uu v32.2.2.2)]) (is := [0, 1, 2, 3, 4, 6]) (As := [.int 0]) (rest := []) ⟨hx, hb, hml, hown, hts⟩ hX hS hA hK hP hD nd_0_1_2_3_4_6 rfl (c_X8_backup l D t h0 g0 a_text d_text a_desk v32.2.2.1 a_stream v89.2.2.1 a_plan v89.2.2.2 a_past uu v32.2.2.2 _ 0 v96 e96 z96) (cwV 1 hts (gcX8_backup w_556) rfl rfl rfl hdX8_backupV ⟨Nat.le_of_ble_eq_true rfl, Nat.le_of_ble_eq_true rfl⟩) (ci := 7) (q0 := 0) rfl rfl rfl hl.1 rfl (Nat.le_of_ble_eq_true rfl) (kd tdlL_isBest_1 10 rfl) ⟨kfi (m := 10) (R' := 0) hc9, kfi (m := 1085) (R' := 0) hs9⟩) (fun u96 H locs hP hD hS => ?_)
        have hP : va_P D vwCl (kflat [(wx8 h0 g0), (wtx t (g0 0) a_text d_text), (wdk t (g0 1) a_desk v96.2.2.1), (wsm t (g0 5) a_stream v96.2.2.2.1), (wpl t (g0 6) a_plan v96.2.2.2.2.1), (wso t (g0 7) a_store s21_.2.2.2.2.2.2.1), (wpa t (g0 3) a_past u96 v96.2.2.2.2.2)]) H := hP
        have hD : va_D A (kflat [(wx8 h0 g0), (wtx t (g0 0) a_text d_text), (wdk t (g0 1) a_desk v96.2.2.1), (wsm t (g0 5) a_stream v96.2.2.2.1), (wpl t (g0 6) a_plan v96.2.2.2.2.1), (wso t (g0 7) a_store s21_.2.2.2.2.2.2.1), (wpa t (g0 3) a_past u96 v96.2.2.2.2.2)]) := hD
        have hc9 := kstp (m := 10) (R' := 0) hc9
        have hs9 := kstp (m := 1085) (R' := 0) hs9
        refine lv_istore (lv' := [(9, .int v96.2.1), (8, .int v89.2.1), (7, .int j57.1), (0, .ref h0), (1, .int p1), (2, .int v2.2), (3, .int v8.2.1), (4, .int s21_.1), (5, .int s21_.2.1), (6, .int s21_.2.2.1)]) hx hb (kd tdlL_isBest_1 11 rfl) hl (by decide) rfl (fun ls hl => ?_)
        refine lv_iload hx hb (kd tdlL_isBest_1 12 rfl) (lv_at hl 1 rfl) ?_
        refine lv_aload_n hx hb (kd tdlL_isBest_1 13 rfl) rfl (lv_at hl 3 rfl) ?_
        refine lv_iload hx hb (kd tdlL_isBest_1 14 rfl) (lv_at hl 0 rfl) ?_
        refine lv_iconst (v := 3) hx hb (kd tdlL_isBest_1 15 rfl) (by decide) ?_
        obtain ⟨v107, e107, hF⟩ := kc hF
        obtain ⟨z107, hF⟩ := kz0 hF
        refine kcL_i (S := Unit) (wf := (fun (_ : Unit) => [(wx8 h0 g0), (wdk t (g0 1) a_desk v96.2.2.1), (wso t (g0 7) a_store v107.2.2)])) hP hD hS hA nd_0_2_5 rfl (fun _ => rfl) (kL_VX (Qx := (fun A => kQiS D (TY t) (fun (_ : Unit) => kflat [(wx8 h0 g0), (wdk t (g0 1) a_desk v96.2.2.1), (wso t (g0 7) a_store v107.2.2)]) v107.2.1 A)) (cs := [(wx8 h0 g0), (wdk t (g0 1) a_desk v96.2.2.1), (wso t (g0 7) a_store s21_.2.2.2.2.2.2.1)]) (is := [0, 2, 5]) (As := [.int v96.2.1, .int 3]) (rest := [.int v89.2.1]) ⟨hx, hb, hml, hown, hts⟩ hX hS hA hK hP hD nd_0_2_5 rfl (c_X8_backupOf l D t h0 g0 a_desk v96.2.2.1 a_store s21_.2.2.2.2.2.2.1 _ v96.2.1 3 v107 e107 z107) (cwV 2 hts (gcX8_backupOf w_276) rfl rfl rfl hdX8_backupOfV ⟨Nat.le_of_ble_eq_true rfl, Nat.le_of_ble_eq_true rfl⟩) (ci := 7) (q0 := 0) rfl rfl rfl hl.1 rfl (Nat.le_of_ble_eq_true rfl) (kd tdlL_isBest_1 16 rfl) ⟨kfi (m := 0) (R' := 0) hc9, kfi (m := 0) (R' := 0) hs9⟩) (fun _ H locs hP hD hS => ?_)
        have hP : va_P D vwCl (kflat [(wx8 h0 g0), (wtx t (g0 0) a_text d_text), (wdk t (g0 1) a_desk v96.2.2.1), (wsm t (g0 5) a_stream v96.2.2.2.1), (wpl t (g0 6) a_plan v96.2.2.2.2.1), (wso t (g0 7) a_store v107.2.2), (wpa t (g0 3) a_past u96 v96.2.2.2.2.2)]) H := hP
        have hD : va_D A (kflat [(wx8 h0 g0), (wtx t (g0 0) a_text d_text), (wdk t (g0 1) a_desk v96.2.2.1), (wsm t (g0 5) a_stream v96.2.2.2.1), (wpl t (g0 6) a_plan v96.2.2.2.2.1), (wso t (g0 7) a_store v107.2.2), (wpa t (g0 3) a_past u96 v96.2.2.2.2.2)]) := hD
        have hc9 := kstp (m := 0) (R' := 0) hc9
        have hs9 := kstp (m := 0) (R' := 0) hs9
        refine lv_iadd hx hb (kd tdlL_isBest_1 17 rfl) ?_
        refine lv_istore (lv' := [(10, .int (v89.2.1 + v107.2.1)), (9, .int v96.2.1), (8, .int v89.2.1), (7, .int j57.1), (0, .ref h0), (1, .int p1), (2, .int v2.2), (3, .int v8.2.1), (4, .int s21_.1), (5, .int s21_.2.1), (6, .int s21_.2.2.1)]) hx hb (kd tdlL_isBest_1 18 rfl) hl (by decide) rfl (fun ls hl => ?_)
        refine lv_aload_n hx hb (kd tdlL_isBest_1 19 rfl) rfl (lv_at hl 4 rfl) ?_
        obtain ⟨v114, e114, hF⟩ := kc hF
        obtain ⟨z114, hF⟩ := kz0 hF
        refine kcL_i (S := UAT) (wf := (fun (u114 : UAT) => [(wx8 h0 g0), (wdk t (g0 1) a_desk v114.2.2.1), (wpa t (g0 3) a_past u114 v114.2.2.2)])) hP hD hS hA nd_0_2_6 rfl (fun _ => rfl) (kL_VX (Qx := (fun A => kQiS D (TY t) (fun (u114 : UAT) => kflat [(wx8 h0 g0), (wdk t (g0 1) a_desk v114.2.2.1), (wpa t (g0 3) a_past u114 v114.2.2.2)]) v114.2.1 A)) (cs := [(wx8 h0 g0), (wdk t (g0 1) a_desk v96.2.2.1), (wpa t (g0 3) a_past u96 v96.2.2.2.2.2)]) (is := [0, 2, 6]) (As := []) (rest := []) ⟨hx, hb, hml, hown, hts⟩ hX hS hA hK hP hD nd_0_2_6 rfl (c_X8_undo l D t h0 g0 a_desk v96.2.2.1 a_past u96 v96.2.2.2.2.2 _  v114 e114 z114) (cwV 0 hts (gcX8_undo w_577) rfl rfl rfl hdX8_undoV ⟨Nat.le_of_ble_eq_true rfl, Nat.le_of_ble_eq_true rfl⟩) (ci := 7) (q0 := 0) rfl rfl rfl hl.1 rfl (Nat.le_of_ble_eq_true rfl) (kd tdlL_isBest_1 20 rfl) ⟨kfi (m := 0) (R' := 0) hc9, kfi (m := 0) (R' := 0) hs9⟩) (fun u114 H locs hP hD hS => ?_)
        have hP : va_P D vwCl (kflat [(wx8 h0 g0), (wtx t (g0 0) a_text d_text), (wdk t (g0 1) a_desk v114.2.2.1), (wsm t (g0 5) a_stream v96.2.2.2.1), (wpl t (g0 6) a_plan v96.2.2.2.2.1), (wso t (g0 7) a_store v107.2.2), (wpa t (g0 3) a_past u114 v114.2.2.2)]) H := hP
        have hD : va_D A (kflat [(wx8 h0 g0), (wtx t (g0 0) a_text d_text), (wdk t (g0 1) a_desk v114.2.2.1), (wsm t (g0 5) a_stream v96.2.2.2.1), (wpl t (g0 6) a_plan v96.2.2.2.2.1), (wso t (g0 7) a_store v107.2.2), (wpa t (g0 3) a_past u114 v114.2.2.2)]) := hD
        have hc9 := kstp (m := 0) (R' := 0) hc9
        have hs9 := kstp (m := 0) (R' := 0) hs9
        refine lv_pop hx hb (kd tdlL_isBest_1 21 rfl) rfl ?_
        refine lv_aload_n hx hb (kd tdlL_isBest_1 22 rfl) rfl (lv_at hl 4 rfl) ?_
        obtain ⟨v119, e119, hF⟩ := kc hF
        obtain ⟨z119, hF⟩ := kz0 hF
        refine kcL_i (S := UAT) (wf := (fun (u119 : UAT) => [(wx8 h0 g0), (wdk t (g0 1) a_desk v119.2.2.1), (wpa t (g0 3) a_past u119 v119.2.2.2)])) hP hD hS hA nd_0_2_6 rfl (fun _ => rfl) (kL_VX (Qx := (fun A => kQiS D (TY t) (fun (u119 : UAT) => kflat [(wx8 h0 g0), (wdk t (g0 1) a_desk v119.2.2.1), (wpa t (g0 3) a_past u119 v119.2.2.2)]) v119.2.1 A)) (cs := [(wx8 h0 g0), (wdk t (g0 1) a_desk v114.2.2.1), (wpa t (g0 3) a_past u114 v114.2.2.2)]) (is := [0, 2, 6]) (As := []) (rest := []) ⟨hx, hb, hml, hown, hts⟩ hX hS hA hK hP hD nd_0_2_6 rfl (c_X8_undo l D t h0 g0 a_desk v114.2.2.1 a_past u114 v114.2.2.2 _  v119 e119 z119) (cwV 0 hts (gcX8_undo w_577) rfl rfl rfl hdX8_undoV ⟨Nat.le_of_ble_eq_true rfl, Nat.le_of_ble_eq_true rfl⟩) (ci := 7) (q0 := 0) rfl rfl rfl hl.1 rfl (Nat.le_of_ble_eq_true rfl) (kd tdlL_isBest_1 23 rfl) ⟨kfi (m := 0) (R' := 0) hc9, kfi (m := 0) (R' := 0) hs9⟩) (fun u119 H locs hP hD hS => ?_)
        have hP : va_P D vwCl (kflat [(wx8 h0 g0), (wtx t (g0 0) a_text d_text), (wdk t (g0 1) a_desk v119.2.2.1), (wsm t (g0 5) a_stream v96.2.2.2.1), (wpl t (g0 6) a_plan v96.2.2.2.2.1), (wso t (g0 7) a_store v107.2.2), (wpa t (g0 3) a_past u119 v119.2.2.2)]) H := hP
        have hD : va_D A (kflat [(wx8 h0 g0), (wtx t (g0 0) a_text d_text), (wdk t (g0 1) a_desk v119.2.2.1), (wsm t (g0 5) a_stream v96.2.2.2.1), (wpl t (g0 6) a_plan v96.2.2.2.2.1), (wso t (g0 7) a_store v107.2.2), (wpa t (g0 3) a_past u119 v119.2.2.2)]) := hD
        have hc9 := kstp (m := 0) (R' := 0) hc9
        have hs9 := kstp (m := 0) (R' := 0) hs9
        refine lv_pop hx hb (kd tdlL_isBest_1 24 rfl) rfl ?_
        refine lv_iload hx hb (kd tdlL_isBest_1 25 rfl) (lv_at hl 9 rfl) ?_
        refine lv_if_eq (tgt := 135) hx hb (kd tdlL_isBest_1 26 rfl) (by decide) (fun hc125 => ?_) (fun hc125 => ?_)
        · have hF := kt hc125 hF
          refine lv_iload hx hb (kd tdlL_isBest_1 30 rfl) (lv_at hl 10 rfl) ?_
          refine lv_istore (lv' := [(5, .int s21_.2.2.1), (10, .int (v89.2.1 + v107.2.1)), (9, .int v96.2.1), (8, .int v89.2.1), (7, .int j57.1), (0, .ref h0), (1, .int p1), (2, .int v2.2), (3, .int v8.2.1), (4, .int s21_.1), (6, .int s21_.2.2.1)]) hx hb (kd tdlL_isBest_1 31 rfl) hl (by decide) rfl (fun ls hl => ?_)
          refine lv_iload hx hb (kd tdlL_isBest_1 32 rfl) (lv_at hl 1 rfl) ?_
          refine lv_istore (lv' := [(4, .int (v89.2.1 + v107.2.1)), (5, .int s21_.2.2.1), (10, .int (v89.2.1 + v107.2.1)), (9, .int v96.2.1), (8, .int v89.2.1), (7, .int j57.1), (0, .ref h0), (1, .int p1), (2, .int v2.2), (3, .int v8.2.1), (6, .int s21_.2.2.1)]) hx hb (kd tdlL_isBest_1 33 rfl) hl (by decide) rfl (fun ls hl => ?_)
          refine lv_iinc (v := (s21_.2.2.1 + 1)) (lv' := [(6, .int (s21_.2.2.1 + 1)), (4, .int (v89.2.1 + v107.2.1)), (5, .int s21_.2.2.1), (10, .int (v89.2.1 + v107.2.1)), (9, .int v96.2.1), (8, .int v89.2.1), (7, .int j57.1), (0, .ref h0), (1, .int p1), (2, .int v2.2), (3, .int v8.2.1)]) hx hb (kd tdlL_isBest_1 34 rfl) hl (k := 10) rfl rfl (by decide) rfl (fun ls hl => ?_)
          refine lv_goto (tgt := 21) hx hb (kd tdlL_isBest_1 35 rfl) (by decide) ?_
          exact ih21 ((v89.2.1 + v107.2.1), s21_.2.2.1, (s21_.2.2.1 + 1), v119.2.2.1, v96.2.2.2.1, v96.2.2.2.2.1, v107.2.2, v119.2.2.2) hF _ _ _ _ _ _ hP hD hS (lv_sub hl [7, 8, 9, 10, 1, 2, 0] rfl) (kjm (R := 0) (R' := 0) hc9 (Nat.le_of_ble_eq_true rfl)) (kjm (R := 0) (R' := 0) hs9 (Nat.le_of_ble_eq_true rfl))
        · have hF := kf hc125 hF
          refine lv_iload hx hb (kd tdlL_isBest_1 27 rfl) (lv_at hl 0 rfl) ?_
          refine lv_iload hx hb (kd tdlL_isBest_1 28 rfl) (lv_at hl 8 rfl) ?_
          refine lv_icmp_ge (tgt := 143) hx hb (kd tdlL_isBest_1 29 rfl) (by decide) (fun hc132 => ?_) (fun hc132 => ?_)
          · have hF := kt hc132 hF
            refine lv_iinc (v := (s21_.2.2.1 + 1)) (lv' := [(6, .int (s21_.2.2.1 + 1)), (10, .int (v89.2.1 + v107.2.1)), (9, .int v96.2.1), (8, .int v89.2.1), (7, .int j57.1), (0, .ref h0), (1, .int p1), (2, .int v2.2), (3, .int v8.2.1), (4, .int s21_.1), (5, .int s21_.2.1)]) hx hb (kd tdlL_isBest_1 34 rfl) hl (k := 10) rfl rfl (by decide) rfl (fun ls hl => ?_)
            refine lv_goto (tgt := 21) hx hb (kd tdlL_isBest_1 35 rfl) (by decide) ?_
            exact ih21 (s21_.1, s21_.2.1, (s21_.2.2.1 + 1), v119.2.2.1, v96.2.2.2.1, v96.2.2.2.2.1, v107.2.2, v119.2.2.2) hF _ _ _ _ _ _ hP hD hS (lv_sub hl [5, 6, 7, 8, 9, 10, 0] rfl) (kjm (R := 0) (R' := 0) hc9 (Nat.le_of_ble_eq_true rfl)) (kjm (R := 0) (R' := 0) hs9 (Nat.le_of_ble_eq_true rfl))
          · have hF := kf hc132 hF
            refine lv_iload hx hb (kd tdlL_isBest_1 30 rfl) (lv_at hl 10 rfl) ?_
            refine lv_istore (lv' := [(5, .int s21_.2.2.1), (10, .int (v89.2.1 + v107.2.1)), (9, .int v96.2.1), (8, .int v89.2.1), (7, .int j57.1), (0, .ref h0), (1, .int p1), (2, .int v2.2), (3, .int v8.2.1), (4, .int s21_.1), (6, .int s21_.2.2.1)]) hx hb (kd tdlL_isBest_1 31 rfl) hl (by decide) rfl (fun ls hl => ?_)
            refine lv_iload hx hb (kd tdlL_isBest_1 32 rfl) (lv_at hl 1 rfl) ?_
            refine lv_istore (lv' := [(4, .int (v89.2.1 + v107.2.1)), (5, .int s21_.2.2.1), (10, .int (v89.2.1 + v107.2.1)), (9, .int v96.2.1), (8, .int v89.2.1), (7, .int j57.1), (0, .ref h0), (1, .int p1), (2, .int v2.2), (3, .int v8.2.1), (6, .int s21_.2.2.1)]) hx hb (kd tdlL_isBest_1 33 rfl) hl (by decide) rfl (fun ls hl => ?_)
            refine lv_iinc (v := (s21_.2.2.1 + 1)) (lv' := [(6, .int (s21_.2.2.1 + 1)), (4, .int (v89.2.1 + v107.2.1)), (5, .int s21_.2.2.1), (10, .int (v89.2.1 + v107.2.1)), (9, .int v96.2.1), (8, .int v89.2.1), (7, .int j57.1), (0, .ref h0), (1, .int p1), (2, .int v2.2), (3, .int v8.2.1)]) hx hb (kd tdlL_isBest_1 34 rfl) hl (k := 10) rfl rfl (by decide) rfl (fun ls hl => ?_)
            refine lv_goto (tgt := 21) hx hb (kd tdlL_isBest_1 35 rfl) (by decide) ?_
            exact ih21 ((v89.2.1 + v107.2.1), s21_.2.2.1, (s21_.2.2.1 + 1), v119.2.2.1, v96.2.2.2.1, v96.2.2.2.2.1, v107.2.2, v119.2.2.2) hF _ _ _ _ _ _ hP hD hS (lv_sub hl [7, 8, 9, 10, 1, 2, 0] rfl) (kjm (R := 0) (R' := 0) hc9 (Nat.le_of_ble_eq_true rfl)) (kjm (R := 0) (R' := 0) hs9 (Nat.le_of_ble_eq_true rfl))
      · have hF := kt hc61 hF
        exact hK64 (v32.2.2.1, j57.2.1, j57.2.2, s21_.2.2.2.2.2.2.1, v32.2.2.2) hF _ _ _ _ _ _ hP hD hS (lv_sub hl [1, 3, 4] rfl) (kjx (R := 10) (R' := 10) hc9 (Nat.le_of_ble_eq_true rfl)) (kjx (R := 1085) (R' := 1085) hs9 (Nat.le_of_ble_eq_true rfl))
    have hJ56 : ∀ j56 : SMT × PLT, J_L_isBest_56 (K_L_isBest_64 v2 v8) v32 s21_ d_text self21 j56 = some r → ∀ (H : Heap) (locs : List Loc) (ls : Array Slot) (uu : UAT) (c9 s9 : Nat), va_P D vwCl (kflat [(wx8 h0 g0), (wtx t (g0 0) a_text d_text), (wdk t (g0 1) a_desk v32.2.2.1), (wsm t (g0 5) a_stream j56.1), (wpl t (g0 6) a_plan j56.2), (wso t (g0 7) a_store s21_.2.2.2.2.2.2.1), (wpa t (g0 3) a_past uu v32.2.2.2)]) H → va_D A (kflat [(wx8 h0 g0), (wtx t (g0 0) a_text d_text), (wdk t (g0 1) a_desk v32.2.2.1), (wsm t (g0 5) a_stream j56.1), (wpl t (g0 6) a_plan j56.2), (wso t (g0 7) a_store s21_.2.2.2.2.2.2.1), (wpa t (g0 3) a_past uu v32.2.2.2)]) → va_S A s.heap H locs → lv_has ls 11 [(0, .ref h0), (1, .int p1), (2, .int v2.2), (3, .int v8.2.1), (4, .int s21_.1), (5, .int s21_.2.1), (6, .int s21_.2.2.1)] → c9 + (n9 * 20 + 10) ≤ 200 → s9 + (n9 * 2170 + 1085) ≤ 21700 → W p l e ({ frames := 7, cells := 200, slots := 21700, locals := 158 } : Room) s m args below meth c H locs c9 s9 (MQ below (kQiS D (TY t) (fun (u : UAT) => (kflat [(wx8 h0 g0), (wtx t (g0 0) a_text d_text), (wdk t (g0 1) a_desk r.2.1), (wsm t (g0 5) a_stream r.2.2.1), (wpl t (g0 6) a_plan r.2.2.2.1), (wso t (g0 7) a_store r.2.2.2.2.1), (wpa t (g0 3) a_past u r.2.2.2.2.2)])) r.1 A) args s 200 21700 A) (F0 m 56 ls []) := by
      clear hc9 hs9
      intro j56 hF H locs ls uu c9 s9 hP hD hS hl hc9 hs9
      refine lv_iconst (v := 0) hx hb (kd tdlL_isBest_0 31 rfl) (by decide) ?_
      exact hJ57 (0, j56.1, j56.2) hF _ _ _ _ _ _ hP hD hS (lv_sub hl [0, 1, 2, 3, 4, 5, 6] rfl) (kjm (R := 10) (R' := 10) hc9 (Nat.le_of_ble_eq_true rfl)) (kjm (R := 1085) (R' := 1085) hs9 (Nat.le_of_ble_eq_true rfl))
    refine lv_icmp_eq (tgt := 56) hx hb (kd tdlL_isBest_0 24 rfl) (by decide) (fun hc40 => ?_) (fun hc40 => ?_)
    · have hF := kt hc40 hF
      exact hJ56 (s21_.2.2.2.2.1, s21_.2.2.2.2.2.1) hF _ _ _ _ _ _ hP hD hS (lv_sub hl [0, 1, 2, 3, 4, 5, 6] rfl) (kjm (R := 10) (R' := 10) hc9 (Nat.le_of_ble_eq_true rfl)) (kjm (R := 1085) (R' := 1085) hs9 (Nat.le_of_ble_eq_true rfl))
    · have hF := kf hc40 hF
      refine lv_aload_n hx hb (kd tdlL_isBest_0 25 rfl) rfl (lv_at hl 0 rfl) ?_
      obtain ⟨v44, e44, hF⟩ := kc hF
      refine kcL_i (S := Unit) (wf := (fun (_ : Unit) => [(wx8 h0 g0), (wtx t (g0 0) a_text d_text), (wdk t (g0 1) a_desk v32.2.2.1), (wsm t (g0 5) a_stream v44.2.1), (wpl t (g0 6) a_plan v44.2.2)])) hP hD hS hA nd_0_1_2_3_4 rfl (fun _ => rfl) (kL_SX (Qx := (fun A => kQiS D (TY t) (fun (_ : Unit) => kflat [(wx8 h0 g0), (wtx t (g0 0) a_text d_text), (wdk t (g0 1) a_desk v32.2.2.1), (wsm t (g0 5) a_stream v44.2.1), (wpl t (g0 6) a_plan v44.2.2)]) v44.1 A)) (cs := [(wx8 h0 g0), (wtx t (g0 0) a_text d_text), (wdk t (g0 1) a_desk v32.2.2.1), (wsm t (g0 5) a_stream s21_.2.2.2.2.1), (wpl t (g0 6) a_plan s21_.2.2.2.2.2.1)]) (is := [0, 1, 2, 3, 4]) (As := [.ref h0]) (rest := []) ⟨hx, hb, hml, hown, hts⟩ hX hS hA hK hP hD nd_0_1_2_3_4 rfl (c_L_containersBehind l D t h0 g0 a_text d_text a_desk v32.2.2.1 a_stream s21_.2.2.2.2.1 a_plan s21_.2.2.2.2.2.1 _  v44 e44) (va_cwS 1 hts (gcL_containersBehind w_455) rfl rfl rfl hdL_containersBehindS ⟨Nat.le_of_ble_eq_true rfl, Nat.le_of_ble_eq_true rfl⟩) rfl hl.1 rfl (Nat.le_of_ble_eq_true rfl) (kd tdlL_isBest_0 26 rfl) ⟨kfi (m := 0) (R' := 10) hc9, kfi (m := 0) (R' := 1085) hs9⟩) (fun _ H locs hP hD hS => ?_)
      have hP : va_P D vwCl (kflat [(wx8 h0 g0), (wtx t (g0 0) a_text d_text), (wdk t (g0 1) a_desk v32.2.2.1), (wsm t (g0 5) a_stream v44.2.1), (wpl t (g0 6) a_plan v44.2.2), (wso t (g0 7) a_store s21_.2.2.2.2.2.2.1), (wpa t (g0 3) a_past u32 v32.2.2.2)]) H := hP
      have hD : va_D A (kflat [(wx8 h0 g0), (wtx t (g0 0) a_text d_text), (wdk t (g0 1) a_desk v32.2.2.1), (wsm t (g0 5) a_stream v44.2.1), (wpl t (g0 6) a_plan v44.2.2), (wso t (g0 7) a_store s21_.2.2.2.2.2.2.1), (wpa t (g0 3) a_past u32 v32.2.2.2)]) := hD
      have hc9 := kstp (m := 0) (R' := 10) hc9
      have hs9 := kstp (m := 0) (R' := 1085) hs9
      refine lv_bipush (v := 25) hx hb (kd tdlL_isBest_0 27 rfl) (by decide) ?_
      refine lv_icmp_ge (tgt := 56) hx hb (kd tdlL_isBest_0 28 rfl) (by decide) (fun hc49 => ?_) (fun hc49 => ?_)
      · have hF := kt hc49 hF
        exact hJ56 (v44.2.1, v44.2.2) hF _ _ _ _ _ _ hP hD hS (lv_sub hl [0, 1, 2, 3, 4, 5, 6] rfl) (kjm (R := 10) (R' := 10) hc9 (Nat.le_of_ble_eq_true rfl)) (kjm (R := 1085) (R' := 1085) hs9 (Nat.le_of_ble_eq_true rfl))
      · have hF := kf hc49 hF
        refine lv_iconst (v := 1) hx hb (kd tdlL_isBest_0 29 rfl) (by decide) ?_
        refine lv_goto (tgt := 57) hx hb (kd tdlL_isBest_0 30 rfl) (by decide) ?_
        exact hJ57 (1, v44.2.1, v44.2.2) hF _ _ _ _ _ _ hP hD hS (lv_sub hl [0, 1, 2, 3, 4, 5, 6] rfl) (kjm (R := 10) (R' := 10) hc9 (Nat.le_of_ble_eq_true rfl)) (kjm (R := 1085) (R' := 1085) hs9 (Nat.le_of_ble_eq_true rfl))
