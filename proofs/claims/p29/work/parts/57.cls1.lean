set_option maxHeartbeats 4000000 in
set_option maxRecDepth 100000 in
theorem c_X8_planWith (l : Launch) (D : va_G) (t : Nat → ClassId) (h0 : Nat) (g0 : Nat → Nat) (a_stream : Nat → Nat) (d_stream : SMT) (a_plan : Nat → Nat) (d_plan : PLT) (h1 : Nat) (a1 : Nat → Nat) (d1 : DKT) (sz : Nat)  (r : SMT × PLT) (hF : F_X8_planWith d_stream d_plan d1 = some r) : Met l yX8_planWith wX8_planWith ({ frames := 4, cells := 0, slots := 0, locals := 92 } : Room) (kPx D (TY t) (kflat [(wx8 h0 g0), (wsm t (g0 5) a_stream d_stream), (wpl t (g0 6) a_plan d_plan), (wdk t h1 a1 d1)]) [.ref h0, .ref h1] sz) (kQvS D (TY t) (fun (u : Unit) => (kflat [(wx8 h0 g0), (wsm t (g0 5) a_stream r.1), (wpl t (g0 6) a_plan r.2), (wdk t h1 a1 d1)])) (va_A (kflat [(wx8 h0 g0), (wsm t (g0 5) a_stream d_stream), (wpl t (g0 6) a_plan d_plan), (wdk t h1 a1 d1)]) sz)) 0 0 (va_A (kflat [(wx8 h0 g0), (wsm t (g0 5) a_stream d_stream), (wpl t (g0 6) a_plan d_plan), (wdk t h1 a1 d1)]) sz) := by
  refine kEx (cc := cX8_planWith) (maxL := 2) (ret := none) (Qx := fun A => kQvS D (TY t) (fun (u : Unit) => (kflat [(wx8 h0 g0), (wsm t (g0 5) a_stream r.1), (wpl t (g0 6) a_plan r.2), (wdk t h1 a1 d1)])) A) (lv0 := [(0, .ref h0), (1, .ref h1)]) RX8 rfl (by decide) rfl (Nat.le_of_ble_eq_true rfl) rfl ?_
  intro p e s m args below meth c A ls hx hb hml hr hlocks hown hts hA hX hK hP hD hS hl
  have L40 := hts (.fieldLink RX8 40 "ChunkCarriers" "stream" "LChunkCarriers$Stream;") (List.mem_cons_of_mem _ w_28)
  have L47 := hts (.fieldLink RX8 47 "ChunkCarriers" "plan" "LChunkCarriers$Plan;") (List.mem_cons_of_mem _ w_32)
  have inX8_ : ∀ w ∈ wsX80, w ∈ wX8_planWith := fun w h => List.mem_cons_of_mem _ (inlX8 w h)
  refine lv_aload_n hx hb (kd tdlX8_planWith_0 0 rfl) rfl (lv_at hl 0 rfl) ?_
  refine va_get (D := D) (ci := 7) (v := .ref (g0 5)) (C := RX8) (T := TX8) (N := 9) hx hb hts inX8_ hown hK hP 0 rfl rfl 5 (by decide) L40 (fun _ h9 => h9) rfl (kd tdlX8_planWith_0 1 rfl) ?_
  refine lv_aload_n hx hb (kd tdlX8_planWith_0 2 rfl) rfl (lv_at hl 1 rfl) ?_
  refine lv_iconst (v := 0) hx hb (kd tdlX8_planWith_0 3 rfl) (by decide) ?_
  obtain ⟨v6, e6, hF⟩ := kc hF
  refine kcL_i (S := Unit) (wf := (fun (_ : Unit) => [(wdk t h1 a1 d1)])) hP hD hS hA nd_3 rfl (fun _ => rfl) (kL_V (Qx := (fun A => kQi D (TY t) (kflat [(wdk t h1 a1 d1)]) v6 A)) (cs := [(wdk t h1 a1 d1)]) (is := [3]) (As := [.int 0]) (rest := [.ref (g0 5)]) ⟨hx, hb, hml, hown, hts⟩ hK hP hD nd_3 rfl (c_X1_settingAt l D t h1 a1 d1 _ 0 v6 e6) (cwV 1 hts (gcX1_settingAt w_193) rfl rfl rfl hdX1_settingAtV ⟨Nat.le_of_ble_eq_true rfl, Nat.le_of_ble_eq_true rfl⟩) (ci := 1) (q0 := 9) rfl rfl rfl hl.1 rfl (Nat.le_of_ble_eq_true rfl) (kd tdlX8_planWith_0 4 rfl) ⟨Nat.le_of_ble_eq_true rfl, Nat.le_of_ble_eq_true rfl⟩) (fun _ H locs hP hD hS => ?_)
  have hP : va_P D vwCl (kflat [(wx8 h0 g0), (wsm t (g0 5) a_stream d_stream), (wpl t (g0 6) a_plan d_plan), (wdk t h1 a1 d1)]) H := hP
  have hD : va_D A (kflat [(wx8 h0 g0), (wsm t (g0 5) a_stream d_stream), (wpl t (g0 6) a_plan d_plan), (wdk t h1 a1 d1)]) := hD
  obtain ⟨v9, e9, hF⟩ := kc hF
  refine kcL_v (S := Unit) (wf := (fun (_ : Unit) => [(wsm t (g0 5) a_stream v9)])) hP hD hS hA nd_1 rfl (fun _ => rfl) (kL_V (Qx := (fun A => kQv D (TY t) (kflat [(wsm t (g0 5) a_stream v9)]) A)) (cs := [(wsm t (g0 5) a_stream d_stream)]) (is := [1]) (As := [.int v6]) (rest := []) ⟨hx, hb, hml, hown, hts⟩ hK hP hD nd_1 rfl (c_X6_cut l D t (g0 5) a_stream d_stream _ v6 v9 e9) (cwV 1 hts (gcX6_cut w_492) rfl rfl rfl hdX6_cutV ⟨Nat.le_of_ble_eq_true rfl, Nat.le_of_ble_eq_true rfl⟩) (ci := 5) (q0 := 1) rfl rfl rfl hl.1 rfl (Nat.le_of_ble_eq_true rfl) (kd tdlX8_planWith_0 5 rfl) ⟨Nat.le_of_ble_eq_true rfl, Nat.le_of_ble_eq_true rfl⟩) (fun _ H locs hP hD hS => ?_)
  have hP : va_P D vwCl (kflat [(wx8 h0 g0), (wsm t (g0 5) a_stream v9), (wpl t (g0 6) a_plan d_plan), (wdk t h1 a1 d1)]) H := hP
  have hD : va_D A (kflat [(wx8 h0 g0), (wsm t (g0 5) a_stream v9), (wpl t (g0 6) a_plan d_plan), (wdk t h1 a1 d1)]) := hD
  refine lv_aload_n hx hb (kd tdlX8_planWith_0 6 rfl) rfl (lv_at hl 0 rfl) ?_
  refine va_get (D := D) (ci := 7) (v := .ref (g0 6)) (C := RX8) (T := TX8) (N := 9) hx hb hts inX8_ hown hK hP 0 rfl rfl 6 (by decide) L47 (fun _ h9 => h9) rfl (kd tdlX8_planWith_0 7 rfl) ?_
  refine lv_aload_n hx hb (kd tdlX8_planWith_0 8 rfl) rfl (lv_at hl 1 rfl) ?_
  refine lv_aload_n hx hb (kd tdlX8_planWith_0 9 rfl) rfl (lv_at hl 0 rfl) ?_
  refine va_get (D := D) (ci := 7) (v := .ref (g0 5)) (C := RX8) (T := TX8) (N := 9) hx hb hts inX8_ hown hK hP 0 rfl rfl 5 (by decide) L40 (fun _ h9 => h9) rfl (kd tdlX8_planWith_0 10 rfl) ?_
  refine lv_aload_n hx hb (kd tdlX8_planWith_0 11 rfl) rfl (lv_at hl 1 rfl) ?_
  refine lv_iconst (v := 2) hx hb (kd tdlX8_planWith_0 12 rfl) (by decide) ?_
  obtain ⟨v23, e23, hF⟩ := kc hF
  refine kcL_i (S := Unit) (wf := (fun (_ : Unit) => [(wdk t h1 a1 d1)])) hP hD hS hA nd_3 rfl (fun _ => rfl) (kL_V (Qx := (fun A => kQi D (TY t) (kflat [(wdk t h1 a1 d1)]) v23 A)) (cs := [(wdk t h1 a1 d1)]) (is := [3]) (As := [.int 2]) (rest := [.ref (g0 5), .ref h1, .ref (g0 6)]) ⟨hx, hb, hml, hown, hts⟩ hK hP hD nd_3 rfl (c_X1_settingAt l D t h1 a1 d1 _ 2 v23 e23) (cwV 1 hts (gcX1_settingAt w_193) rfl rfl rfl hdX1_settingAtV ⟨Nat.le_of_ble_eq_true rfl, Nat.le_of_ble_eq_true rfl⟩) (ci := 1) (q0 := 9) rfl rfl rfl hl.1 rfl (Nat.le_of_ble_eq_true rfl) (kd tdlX8_planWith_0 13 rfl) ⟨Nat.le_of_ble_eq_true rfl, Nat.le_of_ble_eq_true rfl⟩) (fun _ H locs hP hD hS => ?_)
  have hP : va_P D vwCl (kflat [(wx8 h0 g0), (wsm t (g0 5) a_stream v9), (wpl t (g0 6) a_plan d_plan), (wdk t h1 a1 d1)]) H := hP
  have hD : va_D A (kflat [(wx8 h0 g0), (wsm t (g0 5) a_stream v9), (wpl t (g0 6) a_plan d_plan), (wdk t h1 a1 d1)]) := hD
  obtain ⟨v26, e26, hF⟩ := kc hF
  refine kcL_v (S := Unit) (wf := (fun (_ : Unit) => [(wpl t (g0 6) a_plan v26), (wdk t h1 a1 d1), (wsm t (g0 5) a_stream v9)])) hP hD hS hA nd_2_3_1 rfl (fun _ => rfl) (kL_V (Qx := (fun A => kQv D (TY t) (kflat [(wpl t (g0 6) a_plan v26), (wdk t h1 a1 d1), (wsm t (g0 5) a_stream v9)]) A)) (cs := [(wpl t (g0 6) a_plan d_plan), (wdk t h1 a1 d1), (wsm t (g0 5) a_stream v9)]) (is := [2, 3, 1]) (As := [.ref h1, .ref (g0 5), .int v23]) (rest := []) ⟨hx, hb, hml, hown, hts⟩ hK hP hD nd_2_3_1 rfl (c_X4_layOut l D t (g0 6) a_plan d_plan h1 a1 d1 (g0 5) a_stream v9 _ v23 v26 e26) (cwV 3 hts (gcX4_layOut w_507) rfl rfl rfl hdX4_layOutV ⟨Nat.le_of_ble_eq_true rfl, Nat.le_of_ble_eq_true rfl⟩) (ci := 3) (q0 := 4) rfl rfl rfl hl.1 rfl (Nat.le_of_ble_eq_true rfl) (kd tdlX8_planWith_0 14 rfl) ⟨Nat.le_of_ble_eq_true rfl, Nat.le_of_ble_eq_true rfl⟩) (fun _ H locs hP hD hS => ?_)
  have hP : va_P D vwCl (kflat [(wx8 h0 g0), (wsm t (g0 5) a_stream v9), (wpl t (g0 6) a_plan v26), (wdk t h1 a1 d1)]) H := hP
  have hD : va_D A (kflat [(wx8 h0 g0), (wsm t (g0 5) a_stream v9), (wpl t (g0 6) a_plan v26), (wdk t h1 a1 d1)]) := hD
  cases ko hF
  exact kes_v () hx hb hr hlocks hK hP hD hS (Nat.le_of_ble_eq_true rfl) (Nat.le_of_ble_eq_true rfl) (kd tdlX8_planWith_0 15 rfl)
set_option maxHeartbeats 4000000 in
set_option maxRecDepth 100000 in
theorem c_X8_backup (l : Launch) (D : va_G) (t : Nat → ClassId) (h0 : Nat) (g0 : Nat → Nat) (a_text : Nat → Nat) (d_text : TXT) (a_desk : Nat → Nat) (d_desk : DKT) (a_stream : Nat → Nat) (d_stream : SMT) (a_plan : Nat → Nat) (d_plan : PLT) (a_past : Nat → Nat) (u_past : UAT) (d_past : PAT) (sz : Nat) (p1 : Int32) (r : Nat × Int32 × DKT × SMT × PLT × PAT) (hF : F_X8_backup d_text d_desk d_stream d_plan d_past p1 = some r) (hcd0 : r.1 = 0) : Met l yX8_backup wX8_backup ({ frames := 5, cells := 10, slots := 1085, locals := 122 } : Room) (kPx D (TY t) (kflat [(wx8 h0 g0), (wtx t (g0 0) a_text d_text), (wdk t (g0 1) a_desk d_desk), (wsm t (g0 5) a_stream d_stream), (wpl t (g0 6) a_plan d_plan), (wpa t (g0 3) a_past u_past d_past)]) [.ref h0, .int p1] sz) (kQiS D (TY t) (fun (u : UAT) => (kflat [(wx8 h0 g0), (wtx t (g0 0) a_text d_text), (wdk t (g0 1) a_desk r.2.2.1), (wsm t (g0 5) a_stream r.2.2.2.1), (wpl t (g0 6) a_plan r.2.2.2.2.1), (wpa t (g0 3) a_past u r.2.2.2.2.2)])) r.2.1 (va_A (kflat [(wx8 h0 g0), (wtx t (g0 0) a_text d_text), (wdk t (g0 1) a_desk d_desk), (wsm t (g0 5) a_stream d_stream), (wpl t (g0 6) a_plan d_plan), (wpa t (g0 3) a_past u_past d_past)]) sz)) 10 1085 (va_A (kflat [(wx8 h0 g0), (wtx t (g0 0) a_text d_text), (wdk t (g0 1) a_desk d_desk), (wsm t (g0 5) a_stream d_stream), (wpl t (g0 6) a_plan d_plan), (wpa t (g0 3) a_past u_past d_past)]) sz) := by
  refine kEx (cc := cX8_backup) (maxL := 2) (ret := (some .int)) (Qx := fun A => kQiS D (TY t) (fun (u : UAT) => (kflat [(wx8 h0 g0), (wtx t (g0 0) a_text d_text), (wdk t (g0 1) a_desk r.2.2.1), (wsm t (g0 5) a_stream r.2.2.2.1), (wpl t (g0 6) a_plan r.2.2.2.2.1), (wpa t (g0 3) a_past u r.2.2.2.2.2)])) r.2.1 A) (lv0 := [(0, .ref h0), (1, .int p1)]) RX8 rfl (by decide) rfl (Nat.le_of_ble_eq_true rfl) rfl ?_
  intro p e s m args below meth c A ls hx hb hml hr hlocks hown hts hA hX hK hP hD hS hl
  have L10 := hts (.fieldLink RX8 10 "ChunkCarriers" "text" "LChunkCarriers$Text;") (List.mem_cons_of_mem _ w_14)
  have L19 := hts (.fieldLink RX8 19 "ChunkCarriers" "desk" "LChunkCarriers$Desk;") (List.mem_cons_of_mem _ w_18)
  have L29 := hts (.fieldLink RX8 29 "ChunkCarriers" "past" "LChunkCarriers$Past;") (List.mem_cons_of_mem _ w_23)
  have L40 := hts (.fieldLink RX8 40 "ChunkCarriers" "stream" "LChunkCarriers$Stream;") (List.mem_cons_of_mem _ w_28)
  have L47 := hts (.fieldLink RX8 47 "ChunkCarriers" "plan" "LChunkCarriers$Plan;") (List.mem_cons_of_mem _ w_32)
  have inX8_ : ∀ w ∈ wsX80, w ∈ wX8_backup := fun w h => List.mem_cons_of_mem _ (inlX8 w h)
  refine lv_aload_n hx hb (kd tdlX8_backup_0 0 rfl) rfl (lv_at hl 0 rfl) ?_
  refine va_get (D := D) (ci := 7) (v := .ref (g0 0)) (C := RX8) (T := TX8) (N := 9) hx hb hts inX8_ hown hK hP 0 rfl rfl 0 (by decide) L10 (fun _ h9 => h9) rfl (kd tdlX8_backup_0 1 rfl) ?_
  refine lv_iload_n hx hb (kd tdlX8_backup_0 2 rfl) rfl (lv_at hl 1 rfl) ?_
  refine lv_aload_n hx hb (kd tdlX8_backup_0 3 rfl) rfl (lv_at hl 0 rfl) ?_
  refine va_get (D := D) (ci := 7) (v := .ref (g0 5)) (C := RX8) (T := TX8) (N := 9) hx hb hts inX8_ hown hK hP 0 rfl rfl 5 (by decide) L40 (fun _ h9 => h9) rfl (kd tdlX8_backup_0 4 rfl) ?_
  obtain ⟨v9, e9, hF⟩ := kc hF
  refine kcL_i (S := Unit) (wf := (fun (_ : Unit) => [(wtx t (g0 0) a_text d_text), (wsm t (g0 5) a_stream v9.2)])) hP hD hS hA nd_1_3 rfl (fun _ => rfl) (kL_V (Qx := (fun A => kQi D (TY t) (kflat [(wtx t (g0 0) a_text d_text), (wsm t (g0 5) a_stream v9.2)]) v9.1 A)) (cs := [(wtx t (g0 0) a_text d_text), (wsm t (g0 5) a_stream d_stream)]) (is := [1, 3]) (As := [.int p1, .ref (g0 5)]) (rest := []) ⟨hx, hb, hml, hown, hts⟩ hK hP hD nd_1_3 rfl (c_X7_readStream l D t (g0 0) a_text d_text (g0 5) a_stream d_stream _ p1 v9 e9) (cwV 2 hts (gcX7_readStream w_463) rfl rfl rfl hdX7_readStreamV ⟨Nat.le_of_ble_eq_true rfl, Nat.le_of_ble_eq_true rfl⟩) (ci := 6) (q0 := 1) rfl rfl rfl hl.1 rfl (Nat.le_of_ble_eq_true rfl) (kd tdlX8_backup_0 5 rfl) ⟨Nat.le_of_ble_eq_true rfl, Nat.le_of_ble_eq_true rfl⟩) (fun _ H locs hP hD hS => ?_)
  have hP : va_P D vwCl (kflat [(wx8 h0 g0), (wtx t (g0 0) a_text d_text), (wdk t (g0 1) a_desk d_desk), (wsm t (g0 5) a_stream v9.2), (wpl t (g0 6) a_plan d_plan), (wpa t (g0 3) a_past u_past d_past)]) H := hP
  have hD : va_D A (kflat [(wx8 h0 g0), (wtx t (g0 0) a_text d_text), (wdk t (g0 1) a_desk d_desk), (wsm t (g0 5) a_stream v9.2), (wpl t (g0 6) a_plan d_plan), (wpa t (g0 3) a_past u_past d_past)]) := hD
  refine lv_if_ne (tgt := 23) hx hb (kd tdlX8_backup_0 6 rfl) (by decide) (fun hc12 => ?_) (fun hc12 => ?_)
  · have hF := kf hc12 hF
    refine lv_aload_n hx hb (kd tdlX8_backup_0 11 rfl) rfl (lv_at hl 0 rfl) ?_
    refine lv_aload_n hx hb (kd tdlX8_backup_0 12 rfl) rfl (lv_at hl 0 rfl) ?_
    refine va_get (D := D) (ci := 7) (v := .ref (g0 1)) (C := RX8) (T := TX8) (N := 9) hx hb hts inX8_ hown hK hP 0 rfl rfl 1 (by decide) L19 (fun _ h9 => h9) rfl (kd tdlX8_backup_0 13 rfl) ?_
    obtain ⟨v28, e28, hF⟩ := kc hF
    refine kcL_v (S := Unit) (wf := (fun (_ : Unit) => [(wx8 h0 g0), (wsm t (g0 5) a_stream v28.1), (wpl t (g0 6) a_plan v28.2), (wdk t (g0 1) a_desk d_desk)])) hP hD hS hA nd_0_3_4_2 rfl (fun _ => rfl) (kL_VX (Qx := (fun A => kQvS D (TY t) (fun (u28 : Unit) => kflat [(wx8 h0 g0), (wsm t (g0 5) a_stream v28.1), (wpl t (g0 6) a_plan v28.2), (wdk t (g0 1) a_desk d_desk)]) A)) (cs := [(wx8 h0 g0), (wsm t (g0 5) a_stream v9.2), (wpl t (g0 6) a_plan d_plan), (wdk t (g0 1) a_desk d_desk)]) (is := [0, 3, 4, 2]) (As := [.ref (g0 1)]) (rest := []) ⟨hx, hb, hml, hown, hts⟩ hX hS hA hK hP hD nd_0_3_4_2 rfl (c_X8_planWith l D t h0 g0 a_stream v9.2 a_plan d_plan (g0 1) a_desk d_desk _  v28 e28) (cwV 1 hts (gcX8_planWith w_488) rfl rfl rfl hdX8_planWithV ⟨Nat.le_of_ble_eq_true rfl, Nat.le_of_ble_eq_true rfl⟩) (ci := 7) (q0 := 0) rfl rfl rfl hl.1 rfl (Nat.le_of_ble_eq_true rfl) (kd tdlX8_backup_0 14 rfl) ⟨Nat.le_of_ble_eq_true rfl, Nat.le_of_ble_eq_true rfl⟩) (fun _ H locs hP hD hS => ?_)
    have hP : va_P D vwCl (kflat [(wx8 h0 g0), (wtx t (g0 0) a_text d_text), (wdk t (g0 1) a_desk d_desk), (wsm t (g0 5) a_stream v28.1), (wpl t (g0 6) a_plan v28.2), (wpa t (g0 3) a_past u_past d_past)]) H := hP
    have hD : va_D A (kflat [(wx8 h0 g0), (wtx t (g0 0) a_text d_text), (wdk t (g0 1) a_desk d_desk), (wsm t (g0 5) a_stream v28.1), (wpl t (g0 6) a_plan v28.2), (wpa t (g0 3) a_past u_past d_past)]) := hD
    refine lv_aload_n hx hb (kd tdlX8_backup_0 15 rfl) rfl (lv_at hl 0 rfl) ?_
    refine va_get (D := D) (ci := 7) (v := .ref (g0 1)) (C := RX8) (T := TX8) (N := 9) hx hb hts inX8_ hown hK hP 0 rfl rfl 1 (by decide) L19 (fun _ h9 => h9) rfl (kd tdlX8_backup_0 16 rfl) ?_
    refine lv_aload_n hx hb (kd tdlX8_backup_0 17 rfl) rfl (lv_at hl 0 rfl) ?_
    refine va_get (D := D) (ci := 7) (v := .ref (g0 6)) (C := RX8) (T := TX8) (N := 9) hx hb hts inX8_ hown hK hP 0 rfl rfl 6 (by decide) L47 (fun _ h9 => h9) rfl (kd tdlX8_backup_0 18 rfl) ?_
    obtain ⟨v39, e39, hF⟩ := kc hF
    refine kcL_i (S := Unit) (wf := (fun (_ : Unit) => [(wdk t (g0 1) a_desk d_desk), (wpl t (g0 6) a_plan v28.2)])) hP hD hS hA nd_2_4 rfl (fun _ => rfl) (kL_V (Qx := (fun A => kQi D (TY t) (kflat [(wdk t (g0 1) a_desk d_desk), (wpl t (g0 6) a_plan v28.2)]) v39 A)) (cs := [(wdk t (g0 1) a_desk d_desk), (wpl t (g0 6) a_plan v28.2)]) (is := [2, 4]) (As := [.ref (g0 6)]) (rest := []) ⟨hx, hb, hml, hown, hts⟩ hK hP hD nd_2_4 rfl (c_X1_allows l D t (g0 1) a_desk d_desk (g0 6) a_plan v28.2 _  v39 e39) (cwV 1 hts (gcX1_allows w_560) rfl rfl rfl hdX1_allowsV ⟨Nat.le_of_ble_eq_true rfl, Nat.le_of_ble_eq_true rfl⟩) (ci := 1) (q0 := 3) rfl rfl rfl hl.1 rfl (Nat.le_of_ble_eq_true rfl) (kd tdlX8_backup_0 19 rfl) ⟨Nat.le_of_ble_eq_true rfl, Nat.le_of_ble_eq_true rfl⟩) (fun _ H locs hP hD hS => ?_)
    have hP : va_P D vwCl (kflat [(wx8 h0 g0), (wtx t (g0 0) a_text d_text), (wdk t (g0 1) a_desk d_desk), (wsm t (g0 5) a_stream v28.1), (wpl t (g0 6) a_plan v28.2), (wpa t (g0 3) a_past u_past d_past)]) H := hP
    have hD : va_D A (kflat [(wx8 h0 g0), (wtx t (g0 0) a_text d_text), (wdk t (g0 1) a_desk d_desk), (wsm t (g0 5) a_stream v28.1), (wpl t (g0 6) a_plan v28.2), (wpa t (g0 3) a_past u_past d_past)]) := hD
    refine lv_if_ne (tgt := 53) hx hb (kd tdlX8_backup_0 20 rfl) (by decide) (fun hc42 => ?_) (fun hc42 => ?_)
    · have hF := kf hc42 hF
      refine lv_aload_n hx hb (kd tdlX8_backup_0 25 rfl) rfl (lv_at hl 0 rfl) ?_
      refine va_get (D := D) (ci := 7) (v := .ref (g0 3)) (C := RX8) (T := TX8) (N := 9) hx hb hts inX8_ hown hK hP 0 rfl rfl 3 (by decide) L29 (fun _ h9 => h9) rfl (kd tdlX8_backup_0 26 rfl) ?_
      refine lv_aload_n hx hb (kd tdlX8_backup_0 27 rfl) rfl (lv_at hl 0 rfl) ?_
      refine va_get (D := D) (ci := 7) (v := .ref (g0 1)) (C := RX8) (T := TX8) (N := 9) hx hb hts inX8_ hown hK hP 0 rfl rfl 1 (by decide) L19 (fun _ h9 => h9) rfl (kd tdlX8_backup_0 28 rfl) ?_
      obtain ⟨v61, e61, hF⟩ := kc hF
      refine kcL_v (S := UAT) (wf := (fun (u61 : UAT) => [(wpa t (g0 3) a_past u61 v61), (wdk t (g0 1) a_desk d_desk)])) hP hD hS hA nd_5_2 rfl (fun _ => rfl) (kL_VX (Qx := (fun A => kQvS D (TY t) (fun (u61 : UAT) => kflat [(wpa t (g0 3) a_past u61 v61), (wdk t (g0 1) a_desk d_desk)]) A)) (cs := [(wpa t (g0 3) a_past u_past d_past), (wdk t (g0 1) a_desk d_desk)]) (is := [5, 2]) (As := [.ref (g0 1)]) (rest := []) ⟨hx, hb, hml, hown, hts⟩ hX hS hA hK hP hD nd_5_2 rfl (c_X3_remember l D t (g0 3) a_past u_past d_past (g0 1) a_desk d_desk _  v61 e61) (cwV 1 hts (gcX3_remember w_346) rfl rfl rfl hdX3_rememberV ⟨Nat.le_of_ble_eq_true rfl, Nat.le_of_ble_eq_true rfl⟩) (ci := 2) (q0 := 21) rfl rfl rfl hl.1 rfl (Nat.le_of_ble_eq_true rfl) (kd tdlX8_backup_0 29 rfl) ⟨Nat.le_of_ble_eq_true rfl, Nat.le_of_ble_eq_true rfl⟩) (fun u61 H locs hP hD hS => ?_)
      have hP : va_P D vwCl (kflat [(wx8 h0 g0), (wtx t (g0 0) a_text d_text), (wdk t (g0 1) a_desk d_desk), (wsm t (g0 5) a_stream v28.1), (wpl t (g0 6) a_plan v28.2), (wpa t (g0 3) a_past u61 v61)]) H := hP
      have hD : va_D A (kflat [(wx8 h0 g0), (wtx t (g0 0) a_text d_text), (wdk t (g0 1) a_desk d_desk), (wsm t (g0 5) a_stream v28.1), (wpl t (g0 6) a_plan v28.2), (wpa t (g0 3) a_past u61 v61)]) := hD
      refine lv_aload_n hx hb (kd tdlX8_backup_0 30 rfl) rfl (lv_at hl 0 rfl) ?_
      refine va_get (D := D) (ci := 7) (v := .ref (g0 1)) (C := RX8) (T := TX8) (N := 9) hx hb hts inX8_ hown hK hP 0 rfl rfl 1 (by decide) L19 (fun _ h9 => h9) rfl (kd tdlX8_backup_0 31 rfl) ?_
      refine lv_aload_n hx hb (kd tdlX8_backup_0 32 rfl) rfl (lv_at hl 0 rfl) ?_
      refine va_get (D := D) (ci := 7) (v := .ref (g0 6)) (C := RX8) (T := TX8) (N := 9) hx hb hts inX8_ hown hK hP 0 rfl rfl 6 (by decide) L47 (fun _ h9 => h9) rfl (kd tdlX8_backup_0 33 rfl) ?_
      refine lv_aload_n hx hb (kd tdlX8_backup_0 34 rfl) rfl (lv_at hl 0 rfl) ?_
      refine va_get (D := D) (ci := 7) (v := .ref (g0 5)) (C := RX8) (T := TX8) (N := 9) hx hb hts inX8_ hown hK hP 0 rfl rfl 5 (by decide) L40 (fun _ h9 => h9) rfl (kd tdlX8_backup_0 35 rfl) ?_
      obtain ⟨v76, e76, hF⟩ := kc hF
      refine kcL_i (S := Unit) (wf := (fun (_ : Unit) => [(wdk t (g0 1) a_desk v76.2), (wpl t (g0 6) a_plan v28.2), (wsm t (g0 5) a_stream v28.1)])) hP hD hS hA nd_2_4_3 rfl (fun _ => rfl) (kL_V (Qx := (fun A => kQi D (TY t) (kflat [(wdk t (g0 1) a_desk v76.2), (wpl t (g0 6) a_plan v28.2), (wsm t (g0 5) a_stream v28.1)]) v76.1 A)) (cs := [(wdk t (g0 1) a_desk d_desk), (wpl t (g0 6) a_plan v28.2), (wsm t (g0 5) a_stream v28.1)]) (is := [2, 4, 3]) (As := [.ref (g0 6), .ref (g0 5)]) (rest := []) ⟨hx, hb, hml, hown, hts⟩ hK hP hD nd_2_4_3 rfl (c_X1_addBackup l D t (g0 1) a_desk d_desk (g0 6) a_plan v28.2 (g0 5) a_stream v28.1 _  v76 e76) (cwV 2 hts (gcX1_addBackup w_569) rfl rfl rfl hdX1_addBackupV ⟨Nat.le_of_ble_eq_true rfl, Nat.le_of_ble_eq_true rfl⟩) (ci := 1) (q0 := 3) rfl rfl rfl hl.1 rfl (Nat.le_of_ble_eq_true rfl) (kd tdlX8_backup_0 36 rfl) ⟨Nat.le_of_ble_eq_true rfl, Nat.le_of_ble_eq_true rfl⟩) (fun _ H locs hP hD hS => ?_)
      have hP : va_P D vwCl (kflat [(wx8 h0 g0), (wtx t (g0 0) a_text d_text), (wdk t (g0 1) a_desk v76.2), (wsm t (g0 5) a_stream v28.1), (wpl t (g0 6) a_plan v28.2), (wpa t (g0 3) a_past u61 v61)]) H := hP
      have hD : va_D A (kflat [(wx8 h0 g0), (wtx t (g0 0) a_text d_text), (wdk t (g0 1) a_desk v76.2), (wsm t (g0 5) a_stream v28.1), (wpl t (g0 6) a_plan v28.2), (wpa t (g0 3) a_past u61 v61)]) := hD
      cases ko hF
      exact kes_i u61 hx hb hr hlocks hK hP hD hS rfl (Nat.le_of_ble_eq_true rfl) (Nat.le_of_ble_eq_true rfl) (kd tdlX8_backup_0 37 rfl)
    · have hF := kt hc42 hF
      cases ko hF
      exact absurd (show (3 : Nat) = 0 from hcd0) (by decide)
  · have hF := kt hc12 hF
    cases ko hF
    exact absurd (show (1 : Nat) = 0 from hcd0) (by decide)
set_option maxHeartbeats 4000000 in
set_option maxRecDepth 100000 in
theorem c_X8_delete (l : Launch) (D : va_G) (t : Nat → ClassId) (h0 : Nat) (g0 : Nat → Nat) (a_desk : Nat → Nat) (d_desk : DKT) (a_past : Nat → Nat) (u_past : UAT) (d_past : PAT) (sz : Nat) (p1 : Int32) (r : Nat × Int32 × DKT × PAT) (hF : F_X8_delete d_desk d_past p1 = some r) (hcd0 : r.1 = 0) : Met l yX8_delete wX8_delete ({ frames := 4, cells := 10, slots := 1085, locals := 122 } : Room) (kPx D (TY t) (kflat [(wx8 h0 g0), (wdk t (g0 1) a_desk d_desk), (wpa t (g0 3) a_past u_past d_past)]) [.ref h0, .int p1] sz) (kQiS D (TY t) (fun (u : UAT) => (kflat [(wx8 h0 g0), (wdk t (g0 1) a_desk r.2.2.1), (wpa t (g0 3) a_past u r.2.2.2)])) r.2.1 (va_A (kflat [(wx8 h0 g0), (wdk t (g0 1) a_desk d_desk), (wpa t (g0 3) a_past u_past d_past)]) sz)) 10 1085 (va_A (kflat [(wx8 h0 g0), (wdk t (g0 1) a_desk d_desk), (wpa t (g0 3) a_past u_past d_past)]) sz) := by
  refine kEx (cc := cX8_delete) (maxL := 2) (ret := (some .int)) (Qx := fun A => kQiS D (TY t) (fun (u : UAT) => (kflat [(wx8 h0 g0), (wdk t (g0 1) a_desk r.2.2.1), (wpa t (g0 3) a_past u r.2.2.2)])) r.2.1 A) (lv0 := [(0, .ref h0), (1, .int p1)]) RX8 rfl (by decide) rfl (Nat.le_of_ble_eq_true rfl) rfl ?_
  intro p e s m args below meth c A ls hx hb hml hr hlocks hown hts hA hX hK hP hD hS hl
  have L19 := hts (.fieldLink RX8 19 "ChunkCarriers" "desk" "LChunkCarriers$Desk;") (List.mem_cons_of_mem _ w_18)
  have L29 := hts (.fieldLink RX8 29 "ChunkCarriers" "past" "LChunkCarriers$Past;") (List.mem_cons_of_mem _ w_23)
  have inX8_ : ∀ w ∈ wsX80, w ∈ wX8_delete := fun w h => List.mem_cons_of_mem _ (inlX8 w h)
  refine lv_aload_n hx hb (kd tdlX8_delete_0 0 rfl) rfl (lv_at hl 0 rfl) ?_
  refine va_get (D := D) (ci := 7) (v := .ref (g0 1)) (C := RX8) (T := TX8) (N := 9) hx hb hts inX8_ hown hK hP 0 rfl rfl 1 (by decide) L19 (fun _ h9 => h9) rfl (kd tdlX8_delete_0 1 rfl) ?_
  refine lv_iload_n hx hb (kd tdlX8_delete_0 2 rfl) rfl (lv_at hl 1 rfl) ?_
  obtain ⟨v5, e5, hF⟩ := kc hF
  refine kcL_i (S := Unit) (wf := (fun (_ : Unit) => [(wdk t (g0 1) a_desk d_desk)])) hP hD hS hA nd_1 rfl (fun _ => rfl) (kL_V (Qx := (fun A => kQi D (TY t) (kflat [(wdk t (g0 1) a_desk d_desk)]) v5 A)) (cs := [(wdk t (g0 1) a_desk d_desk)]) (is := [1]) (As := [.int p1]) (rest := []) ⟨hx, hb, hml, hown, hts⟩ hK hP hD nd_1 rfl (c_X1_hasBackup l D t (g0 1) a_desk d_desk _ p1 v5 e5) (cwV 1 hts (gcX1_hasBackup w_280) rfl rfl rfl hdX1_hasBackupV ⟨Nat.le_of_ble_eq_true rfl, Nat.le_of_ble_eq_true rfl⟩) (ci := 1) (q0 := 1) rfl rfl rfl hl.1 rfl (Nat.le_of_ble_eq_true rfl) (kd tdlX8_delete_0 3 rfl) ⟨Nat.le_of_ble_eq_true rfl, Nat.le_of_ble_eq_true rfl⟩) (fun _ H locs hP hD hS => ?_)
  have hP : va_P D vwCl (kflat [(wx8 h0 g0), (wdk t (g0 1) a_desk d_desk), (wpa t (g0 3) a_past u_past d_past)]) H := hP
  have hD : va_D A (kflat [(wx8 h0 g0), (wdk t (g0 1) a_desk d_desk), (wpa t (g0 3) a_past u_past d_past)]) := hD
  refine lv_if_ne (tgt := 19) hx hb (kd tdlX8_delete_0 4 rfl) (by decide) (fun hc8 => ?_) (fun hc8 => ?_)
  · have hF := kf hc8 hF
    refine lv_aload_n hx hb (kd tdlX8_delete_0 9 rfl) rfl (lv_at hl 0 rfl) ?_
    refine va_get (D := D) (ci := 7) (v := .ref (g0 3)) (C := RX8) (T := TX8) (N := 9) hx hb hts inX8_ hown hK hP 0 rfl rfl 3 (by decide) L29 (fun _ h9 => h9) rfl (kd tdlX8_delete_0 10 rfl) ?_
    refine lv_aload_n hx hb (kd tdlX8_delete_0 11 rfl) rfl (lv_at hl 0 rfl) ?_
    refine va_get (D := D) (ci := 7) (v := .ref (g0 1)) (C := RX8) (T := TX8) (N := 9) hx hb hts inX8_ hown hK hP 0 rfl rfl 1 (by decide) L19 (fun _ h9 => h9) rfl (kd tdlX8_delete_0 12 rfl) ?_
    obtain ⟨v27, e27, hF⟩ := kc hF
    refine kcL_v (S := UAT) (wf := (fun (u27 : UAT) => [(wpa t (g0 3) a_past u27 v27), (wdk t (g0 1) a_desk d_desk)])) hP hD hS hA nd_2_1 rfl (fun _ => rfl) (kL_VX (Qx := (fun A => kQvS D (TY t) (fun (u27 : UAT) => kflat [(wpa t (g0 3) a_past u27 v27), (wdk t (g0 1) a_desk d_desk)]) A)) (cs := [(wpa t (g0 3) a_past u_past d_past), (wdk t (g0 1) a_desk d_desk)]) (is := [2, 1]) (As := [.ref (g0 1)]) (rest := []) ⟨hx, hb, hml, hown, hts⟩ hX hS hA hK hP hD nd_2_1 rfl (c_X3_remember l D t (g0 3) a_past u_past d_past (g0 1) a_desk d_desk _  v27 e27) (cwV 1 hts (gcX3_remember w_346) rfl rfl rfl hdX3_rememberV ⟨Nat.le_of_ble_eq_true rfl, Nat.le_of_ble_eq_true rfl⟩) (ci := 2) (q0 := 11) rfl rfl rfl hl.1 rfl (Nat.le_of_ble_eq_true rfl) (kd tdlX8_delete_0 13 rfl) ⟨Nat.le_of_ble_eq_true rfl, Nat.le_of_ble_eq_true rfl⟩) (fun u27 H locs hP hD hS => ?_)
    have hP : va_P D vwCl (kflat [(wx8 h0 g0), (wdk t (g0 1) a_desk d_desk), (wpa t (g0 3) a_past u27 v27)]) H := hP
    have hD : va_D A (kflat [(wx8 h0 g0), (wdk t (g0 1) a_desk d_desk), (wpa t (g0 3) a_past u27 v27)]) := hD
    refine lv_aload_n hx hb (kd tdlX8_delete_0 14 rfl) rfl (lv_at hl 0 rfl) ?_
    refine va_get (D := D) (ci := 7) (v := .ref (g0 1)) (C := RX8) (T := TX8) (N := 9) hx hb hts inX8_ hown hK hP 0 rfl rfl 1 (by decide) L19 (fun _ h9 => h9) rfl (kd tdlX8_delete_0 15 rfl) ?_
    refine lv_iload_n hx hb (kd tdlX8_delete_0 16 rfl) rfl (lv_at hl 1 rfl) ?_
    obtain ⟨v35, e35, hF⟩ := kc hF
    refine kcL_i (S := Unit) (wf := (fun (_ : Unit) => [(wdk t (g0 1) a_desk v35.2)])) hP hD hS hA nd_1 rfl (fun _ => rfl) (kL_V (Qx := (fun A => kQi D (TY t) (kflat [(wdk t (g0 1) a_desk v35.2)]) v35.1 A)) (cs := [(wdk t (g0 1) a_desk d_desk)]) (is := [1]) (As := [.int p1]) (rest := []) ⟨hx, hb, hml, hown, hts⟩ hK hP hD nd_1 rfl (c_X1_removeBackup l D t (g0 1) a_desk d_desk _ p1 v35 e35) (cwV 1 hts (gcX1_removeBackup w_353) rfl rfl rfl hdX1_removeBackupV ⟨Nat.le_of_ble_eq_true rfl, Nat.le_of_ble_eq_true rfl⟩) (ci := 1) (q0 := 1) rfl rfl rfl hl.1 rfl (Nat.le_of_ble_eq_true rfl) (kd tdlX8_delete_0 17 rfl) ⟨Nat.le_of_ble_eq_true rfl, Nat.le_of_ble_eq_true rfl⟩) (fun _ H locs hP hD hS => ?_)
    have hP : va_P D vwCl (kflat [(wx8 h0 g0), (wdk t (g0 1) a_desk v35.2), (wpa t (g0 3) a_past u27 v27)]) H := hP
    have hD : va_D A (kflat [(wx8 h0 g0), (wdk t (g0 1) a_desk v35.2), (wpa t (g0 3) a_past u27 v27)]) := hD
    cases ko hF
    exact kes_i u27 hx hb hr hlocks hK hP hD hS rfl (Nat.le_of_ble_eq_true rfl) (Nat.le_of_ble_eq_true rfl) (kd tdlX8_delete_0 18 rfl)
  · have hF := kt hc8 hF
    cases ko hF
    exact absurd (show (1 : Nat) = 0 from hcd0) (by decide)
set_option maxHeartbeats 4000000 in
set_option maxRecDepth 100000 in
theorem c_X8_carry (l : Launch) (D : va_G) (t : Nat → ClassId) (h0 : Nat) (g0 : Nat → Nat) (a_desk : Nat → Nat) (d_desk : DKT) (a_carrier : Nat → Nat) (d_carrier : CRT) (a_past : Nat → Nat) (u_past : UAT) (d_past : PAT) (sz : Nat)  (r : Int32 × DKT × CRT × PAT) (hF : F_X8_carry d_desk d_carrier d_past = some r) : Met l yX8_carry wX8_carry ({ frames := 5, cells := 10, slots := 1085, locals := 122 } : Room) (kPx D (TY t) (kflat [(wx8 h0 g0), (wdk t (g0 1) a_desk d_desk), (wcr t (g0 8) a_carrier d_carrier), (wpa t (g0 3) a_past u_past d_past)]) [.ref h0] sz) (kQiS D (TY t) (fun (u : UAT) => (kflat [(wx8 h0 g0), (wdk t (g0 1) a_desk r.2.1), (wcr t (g0 8) a_carrier r.2.2.1), (wpa t (g0 3) a_past u r.2.2.2)])) r.1 (va_A (kflat [(wx8 h0 g0), (wdk t (g0 1) a_desk d_desk), (wcr t (g0 8) a_carrier d_carrier), (wpa t (g0 3) a_past u_past d_past)]) sz)) 10 1085 (va_A (kflat [(wx8 h0 g0), (wdk t (g0 1) a_desk d_desk), (wcr t (g0 8) a_carrier d_carrier), (wpa t (g0 3) a_past u_past d_past)]) sz) := by
  refine kEx (cc := cX8_carry) (maxL := 1) (ret := (some .int)) (Qx := fun A => kQiS D (TY t) (fun (u : UAT) => (kflat [(wx8 h0 g0), (wdk t (g0 1) a_desk r.2.1), (wcr t (g0 8) a_carrier r.2.2.1), (wpa t (g0 3) a_past u r.2.2.2)])) r.1 A) (lv0 := [(0, .ref h0)]) RX8 rfl (by decide) rfl (Nat.le_of_ble_eq_true rfl) rfl ?_
  intro p e s m args below meth c A ls hx hb hml hr hlocks hown hts hA hX hK hP hD hS hl
  have L19 := hts (.fieldLink RX8 19 "ChunkCarriers" "desk" "LChunkCarriers$Desk;") (List.mem_cons_of_mem _ w_18)
  have L29 := hts (.fieldLink RX8 29 "ChunkCarriers" "past" "LChunkCarriers$Past;") (List.mem_cons_of_mem _ w_23)
  have L61 := hts (.fieldLink RX8 61 "ChunkCarriers" "carrier" "LChunkCarriers$Carrier;") (List.mem_cons_of_mem _ w_40)
  have inX8_ : ∀ w ∈ wsX80, w ∈ wX8_carry := fun w h => List.mem_cons_of_mem _ (inlX8 w h)
  refine lv_aload_n hx hb (kd tdlX8_carry_0 0 rfl) rfl (lv_at hl 0 rfl) ?_
  refine va_get (D := D) (ci := 7) (v := .ref (g0 3)) (C := RX8) (T := TX8) (N := 9) hx hb hts inX8_ hown hK hP 0 rfl rfl 3 (by decide) L29 (fun _ h9 => h9) rfl (kd tdlX8_carry_0 1 rfl) ?_
  refine lv_aload_n hx hb (kd tdlX8_carry_0 2 rfl) rfl (lv_at hl 0 rfl) ?_
  refine va_get (D := D) (ci := 7) (v := .ref (g0 1)) (C := RX8) (T := TX8) (N := 9) hx hb hts inX8_ hown hK hP 0 rfl rfl 1 (by decide) L19 (fun _ h9 => h9) rfl (kd tdlX8_carry_0 3 rfl) ?_
  obtain ⟨v8, e8, hF⟩ := kc hF
  refine kcL_v (S := UAT) (wf := (fun (u8 : UAT) => [(wpa t (g0 3) a_past u8 v8), (wdk t (g0 1) a_desk d_desk)])) hP hD hS hA nd_3_1 rfl (fun _ => rfl) (kL_VX (Qx := (fun A => kQvS D (TY t) (fun (u8 : UAT) => kflat [(wpa t (g0 3) a_past u8 v8), (wdk t (g0 1) a_desk d_desk)]) A)) (cs := [(wpa t (g0 3) a_past u_past d_past), (wdk t (g0 1) a_desk d_desk)]) (is := [3, 1]) (As := [.ref (g0 1)]) (rest := []) ⟨hx, hb, hml, hown, hts⟩ hX hS hA hK hP hD nd_3_1 rfl (c_X3_remember l D t (g0 3) a_past u_past d_past (g0 1) a_desk d_desk _  v8 e8) (cwV 1 hts (gcX3_remember w_346) rfl rfl rfl hdX3_rememberV ⟨Nat.le_of_ble_eq_true rfl, Nat.le_of_ble_eq_true rfl⟩) (ci := 2) (q0 := 16) rfl rfl rfl hl.1 rfl (Nat.le_of_ble_eq_true rfl) (kd tdlX8_carry_0 4 rfl) ⟨Nat.le_of_ble_eq_true rfl, Nat.le_of_ble_eq_true rfl⟩) (fun u8 H locs hP hD hS => ?_)
  have hP : va_P D vwCl (kflat [(wx8 h0 g0), (wdk t (g0 1) a_desk d_desk), (wcr t (g0 8) a_carrier d_carrier), (wpa t (g0 3) a_past u8 v8)]) H := hP
  have hD : va_D A (kflat [(wx8 h0 g0), (wdk t (g0 1) a_desk d_desk), (wcr t (g0 8) a_carrier d_carrier), (wpa t (g0 3) a_past u8 v8)]) := hD
  refine lv_aload_n hx hb (kd tdlX8_carry_0 5 rfl) rfl (lv_at hl 0 rfl) ?_
  refine va_get (D := D) (ci := 7) (v := .ref (g0 8)) (C := RX8) (T := TX8) (N := 9) hx hb hts inX8_ hown hK hP 0 rfl rfl 8 (by decide) L61 (fun _ h9 => h9) rfl (kd tdlX8_carry_0 6 rfl) ?_
  refine lv_aload_n hx hb (kd tdlX8_carry_0 7 rfl) rfl (lv_at hl 0 rfl) ?_
  refine va_get (D := D) (ci := 7) (v := .ref (g0 1)) (C := RX8) (T := TX8) (N := 9) hx hb hts inX8_ hown hK hP 0 rfl rfl 1 (by decide) L19 (fun _ h9 => h9) rfl (kd tdlX8_carry_0 8 rfl) ?_
  obtain ⟨v19, e19, hF⟩ := kc hF
  refine kcL_i (S := Unit) (wf := (fun (_ : Unit) => [(wcr t (g0 8) a_carrier v19.2.1), (wdk t (g0 1) a_desk v19.2.2)])) hP hD hS hA nd_2_1 rfl (fun _ => rfl) (kL_V (Qx := (fun A => kQi D (TY t) (kflat [(wcr t (g0 8) a_carrier v19.2.1), (wdk t (g0 1) a_desk v19.2.2)]) v19.1 A)) (cs := [(wcr t (g0 8) a_carrier d_carrier), (wdk t (g0 1) a_desk d_desk)]) (is := [2, 1]) (As := [.ref (g0 1)]) (rest := []) ⟨hx, hb, hml, hown, hts⟩ hK hP hD nd_2_1 rfl (c_X0_carryForward l D t (g0 8) a_carrier d_carrier (g0 1) a_desk d_desk _  v19 e19) (cwV 1 hts (gcX0_carryForward w_361) rfl rfl rfl hdX0_carryForwardV ⟨Nat.le_of_ble_eq_true rfl, Nat.le_of_ble_eq_true rfl⟩) (ci := 0) (q0 := 11) rfl rfl rfl hl.1 rfl (Nat.le_of_ble_eq_true rfl) (kd tdlX8_carry_0 9 rfl) ⟨Nat.le_of_ble_eq_true rfl, Nat.le_of_ble_eq_true rfl⟩) (fun _ H locs hP hD hS => ?_)
  have hP : va_P D vwCl (kflat [(wx8 h0 g0), (wdk t (g0 1) a_desk v19.2.2), (wcr t (g0 8) a_carrier v19.2.1), (wpa t (g0 3) a_past u8 v8)]) H := hP
  have hD : va_D A (kflat [(wx8 h0 g0), (wdk t (g0 1) a_desk v19.2.2), (wcr t (g0 8) a_carrier v19.2.1), (wpa t (g0 3) a_past u8 v8)]) := hD
  cases ko hF
  exact kes_i u8 hx hb hr hlocks hK hP hD hS rfl (Nat.le_of_ble_eq_true rfl) (Nat.le_of_ble_eq_true rfl) (kd tdlX8_carry_0 10 rfl)
set_option maxHeartbeats 4000000 in
set_option maxRecDepth 100000 in
theorem c_X8_set (l : Launch) (D : va_G) (t : Nat → ClassId) (h0 : Nat) (g0 : Nat → Nat) (a_desk : Nat → Nat) (d_desk : DKT) (a_past : Nat → Nat) (u_past : UAT) (d_past : PAT) (sz : Nat) (p1 : Int32) (p2 : Int32) (r : Nat × Int32 × DKT × PAT) (hF : F_X8_set d_desk d_past p1 p2 = some r) (hcd0 : r.1 = 0) : Met l yX8_set wX8_set ({ frames := 4, cells := 10, slots := 1085, locals := 122 } : Room) (kPx D (TY t) (kflat [(wx8 h0 g0), (wdk t (g0 1) a_desk d_desk), (wpa t (g0 3) a_past u_past d_past)]) [.ref h0, .int p1, .int p2] sz) (kQiS D (TY t) (fun (u : UAT) => (kflat [(wx8 h0 g0), (wdk t (g0 1) a_desk r.2.2.1), (wpa t (g0 3) a_past u r.2.2.2)])) r.2.1 (va_A (kflat [(wx8 h0 g0), (wdk t (g0 1) a_desk d_desk), (wpa t (g0 3) a_past u_past d_past)]) sz)) 10 1085 (va_A (kflat [(wx8 h0 g0), (wdk t (g0 1) a_desk d_desk), (wpa t (g0 3) a_past u_past d_past)]) sz) := by
  refine kEx (cc := cX8_set) (maxL := 3) (ret := (some .int)) (Qx := fun A => kQiS D (TY t) (fun (u : UAT) => (kflat [(wx8 h0 g0), (wdk t (g0 1) a_desk r.2.2.1), (wpa t (g0 3) a_past u r.2.2.2)])) r.2.1 A) (lv0 := [(0, .ref h0), (1, .int p1), (2, .int p2)]) RX8 rfl (by decide) rfl (Nat.le_of_ble_eq_true rfl) rfl ?_
  intro p e s m args below meth c A ls hx hb hml hr hlocks hown hts hA hX hK hP hD hS hl
  have L19 := hts (.fieldLink RX8 19 "ChunkCarriers" "desk" "LChunkCarriers$Desk;") (List.mem_cons_of_mem _ w_18)
  have L29 := hts (.fieldLink RX8 29 "ChunkCarriers" "past" "LChunkCarriers$Past;") (List.mem_cons_of_mem _ w_23)
  have inX8_ : ∀ w ∈ wsX80, w ∈ wX8_set := fun w h => List.mem_cons_of_mem _ (inlX8 w h)
  refine lv_iload_n hx hb (kd tdlX8_set_0 0 rfl) rfl (lv_at hl 1 rfl) ?_
  refine lv_iload_n hx hb (kd tdlX8_set_0 1 rfl) rfl (lv_at hl 2 rfl) ?_
  obtain ⟨v2, e2, hF⟩ := kc hF
  refine kcL_i (S := Unit) (wf := (fun (_ : Unit) => [])) hP hD hS hA nd_ rfl (fun _ => rfl) (kL_SX (Qx := (fun A => kQiS D (TY t) (fun (u2 : Unit) => kflat []) v2 A)) (cs := []) (is := []) (As := [.int p1, .int p2]) (rest := []) ⟨hx, hb, hml, hown, hts⟩ hX hS hA hK hP hD nd_ rfl (c_X8_isSetting l D t  _ p1 p2 v2 e2) (va_cwS 2 hts (gcX8_isSetting w_418) rfl rfl rfl hdX8_isSettingS ⟨Nat.le_of_ble_eq_true rfl, Nat.le_of_ble_eq_true rfl⟩) rfl hl.1 rfl (Nat.le_of_ble_eq_true rfl) (kd tdlX8_set_0 2 rfl) ⟨Nat.le_of_ble_eq_true rfl, Nat.le_of_ble_eq_true rfl⟩) (fun _ H locs hP hD hS => ?_)
  have hP : va_P D vwCl (kflat [(wx8 h0 g0), (wdk t (g0 1) a_desk d_desk), (wpa t (g0 3) a_past u_past d_past)]) H := hP
  have hD : va_D A (kflat [(wx8 h0 g0), (wdk t (g0 1) a_desk d_desk), (wpa t (g0 3) a_past u_past d_past)]) := hD
  refine lv_if_ne (tgt := 16) hx hb (kd tdlX8_set_0 3 rfl) (by decide) (fun hc5 => ?_) (fun hc5 => ?_)
  · have hF := kf hc5 hF
    refine lv_aload_n hx hb (kd tdlX8_set_0 8 rfl) rfl (lv_at hl 0 rfl) ?_
    refine va_get (D := D) (ci := 7) (v := .ref (g0 3)) (C := RX8) (T := TX8) (N := 9) hx hb hts inX8_ hown hK hP 0 rfl rfl 3 (by decide) L29 (fun _ h9 => h9) rfl (kd tdlX8_set_0 9 rfl) ?_
    refine lv_aload_n hx hb (kd tdlX8_set_0 10 rfl) rfl (lv_at hl 0 rfl) ?_
    refine va_get (D := D) (ci := 7) (v := .ref (g0 1)) (C := RX8) (T := TX8) (N := 9) hx hb hts inX8_ hown hK hP 0 rfl rfl 1 (by decide) L19 (fun _ h9 => h9) rfl (kd tdlX8_set_0 11 rfl) ?_
    obtain ⟨v24, e24, hF⟩ := kc hF
    refine kcL_v (S := UAT) (wf := (fun (u24 : UAT) => [(wpa t (g0 3) a_past u24 v24), (wdk t (g0 1) a_desk d_desk)])) hP hD hS hA nd_2_1 rfl (fun _ => rfl) (kL_VX (Qx := (fun A => kQvS D (TY t) (fun (u24 : UAT) => kflat [(wpa t (g0 3) a_past u24 v24), (wdk t (g0 1) a_desk d_desk)]) A)) (cs := [(wpa t (g0 3) a_past u_past d_past), (wdk t (g0 1) a_desk d_desk)]) (is := [2, 1]) (As := [.ref (g0 1)]) (rest := []) ⟨hx, hb, hml, hown, hts⟩ hX hS hA hK hP hD nd_2_1 rfl (c_X3_remember l D t (g0 3) a_past u_past d_past (g0 1) a_desk d_desk _  v24 e24) (cwV 1 hts (gcX3_remember w_346) rfl rfl rfl hdX3_rememberV ⟨Nat.le_of_ble_eq_true rfl, Nat.le_of_ble_eq_true rfl⟩) (ci := 2) (q0 := 11) rfl rfl rfl hl.1 rfl (Nat.le_of_ble_eq_true rfl) (kd tdlX8_set_0 12 rfl) ⟨Nat.le_of_ble_eq_true rfl, Nat.le_of_ble_eq_true rfl⟩) (fun u24 H locs hP hD hS => ?_)
    have hP : va_P D vwCl (kflat [(wx8 h0 g0), (wdk t (g0 1) a_desk d_desk), (wpa t (g0 3) a_past u24 v24)]) H := hP
    have hD : va_D A (kflat [(wx8 h0 g0), (wdk t (g0 1) a_desk d_desk), (wpa t (g0 3) a_past u24 v24)]) := hD
    refine lv_aload_n hx hb (kd tdlX8_set_0 13 rfl) rfl (lv_at hl 0 rfl) ?_
    refine va_get (D := D) (ci := 7) (v := .ref (g0 1)) (C := RX8) (T := TX8) (N := 9) hx hb hts inX8_ hown hK hP 0 rfl rfl 1 (by decide) L19 (fun _ h9 => h9) rfl (kd tdlX8_set_0 14 rfl) ?_
    refine lv_iload_n hx hb (kd tdlX8_set_0 15 rfl) rfl (lv_at hl 1 rfl) ?_
    refine lv_iload_n hx hb (kd tdlX8_set_0 16 rfl) rfl (lv_at hl 2 rfl) ?_
    obtain ⟨v33, e33, hF⟩ := kc hF
    refine kcL_i (S := Unit) (wf := (fun (_ : Unit) => [(wdk t (g0 1) a_desk v33.2)])) hP hD hS hA nd_1 rfl (fun _ => rfl) (kL_VX (Qx := (fun A => kQiS D (TY t) (fun (u33 : Unit) => kflat [(wdk t (g0 1) a_desk v33.2)]) v33.1 A)) (cs := [(wdk t (g0 1) a_desk d_desk)]) (is := [1]) (As := [.int p1, .int p2]) (rest := []) ⟨hx, hb, hml, hown, hts⟩ hX hS hA hK hP hD nd_1 rfl (c_X1_changeSetting l D t (g0 1) a_desk d_desk _ p1 p2 v33 e33) (cwV 2 hts (gcX1_changeSetting w_423) rfl rfl rfl hdX1_changeSettingV ⟨Nat.le_of_ble_eq_true rfl, Nat.le_of_ble_eq_true rfl⟩) (ci := 1) (q0 := 1) rfl rfl rfl hl.1 rfl (Nat.le_of_ble_eq_true rfl) (kd tdlX8_set_0 17 rfl) ⟨Nat.le_of_ble_eq_true rfl, Nat.le_of_ble_eq_true rfl⟩) (fun _ H locs hP hD hS => ?_)
    have hP : va_P D vwCl (kflat [(wx8 h0 g0), (wdk t (g0 1) a_desk v33.2), (wpa t (g0 3) a_past u24 v24)]) H := hP
    have hD : va_D A (kflat [(wx8 h0 g0), (wdk t (g0 1) a_desk v33.2), (wpa t (g0 3) a_past u24 v24)]) := hD
    cases ko hF
    exact kes_i u24 hx hb hr hlocks hK hP hD hS rfl (Nat.le_of_ble_eq_true rfl) (Nat.le_of_ble_eq_true rfl) (kd tdlX8_set_0 18 rfl)
  · have hF := kt hc5 hF
    cases ko hF
    exact absurd (show (2 : Nat) = 0 from hcd0) (by decide)
set_option maxHeartbeats 4000000 in
set_option maxRecDepth 100000 in
theorem c_X8_undo (l : Launch) (D : va_G) (t : Nat → ClassId) (h0 : Nat) (g0 : Nat → Nat) (a_desk : Nat → Nat) (d_desk : DKT) (a_past : Nat → Nat) (u_past : UAT) (d_past : PAT) (sz : Nat)  (r : Nat × Int32 × DKT × PAT) (hF : F_X8_undo d_desk d_past = some r) (hcd0 : r.1 = 0) : Met l yX8_undo wX8_undo ({ frames := 3, cells := 0, slots := 0, locals := 81 } : Room) (kPx D (TY t) (kflat [(wx8 h0 g0), (wdk t (g0 1) a_desk d_desk), (wpa t (g0 3) a_past u_past d_past)]) [.ref h0] sz) (kQiS D (TY t) (fun (u : UAT) => (kflat [(wx8 h0 g0), (wdk t (g0 1) a_desk r.2.2.1), (wpa t (g0 3) a_past u r.2.2.2)])) r.2.1 (va_A (kflat [(wx8 h0 g0), (wdk t (g0 1) a_desk d_desk), (wpa t (g0 3) a_past u_past d_past)]) sz)) 0 0 (va_A (kflat [(wx8 h0 g0), (wdk t (g0 1) a_desk d_desk), (wpa t (g0 3) a_past u_past d_past)]) sz) := by
  refine kEx (cc := cX8_undo) (maxL := 1) (ret := (some .int)) (Qx := fun A => kQiS D (TY t) (fun (u : UAT) => (kflat [(wx8 h0 g0), (wdk t (g0 1) a_desk r.2.2.1), (wpa t (g0 3) a_past u r.2.2.2)])) r.2.1 A) (lv0 := [(0, .ref h0)]) RX8 rfl (by decide) rfl (Nat.le_of_ble_eq_true rfl) rfl ?_
  intro p e s m args below meth c A ls hx hb hml hr hlocks hown hts hA hX hK hP hD hS hl
  have L19 := hts (.fieldLink RX8 19 "ChunkCarriers" "desk" "LChunkCarriers$Desk;") (List.mem_cons_of_mem _ w_18)
  have L243 := hts (.fieldLink RX8 243 "ChunkCarriers$Past" "count" "I") (List.mem_cons_of_mem _ w_581)
  have L29 := hts (.fieldLink RX8 29 "ChunkCarriers" "past" "LChunkCarriers$Past;") (List.mem_cons_of_mem _ w_23)
  have inX3_ : ∀ w ∈ wsX30, w ∈ wX8_undo := fun w h => List.mem_cons_of_mem _ (inlX3 w h)
  have inX8_ : ∀ w ∈ wsX80, w ∈ wX8_undo := fun w h => List.mem_cons_of_mem _ (inlX8 w h)
  refine lv_aload_n hx hb (kd tdlX8_undo_0 0 rfl) rfl (lv_at hl 0 rfl) ?_
  refine va_get (D := D) (ci := 7) (v := .ref (g0 3)) (C := RX8) (T := TX8) (N := 9) hx hb hts inX8_ hown hK hP 0 rfl rfl 3 (by decide) L29 (fun _ h9 => h9) rfl (kd tdlX8_undo_0 1 rfl) ?_
  refine va_get (D := D) (ci := 2) (v := .int (pa_count d_past)) (C := RX3) (T := TX3) (N := 3) hx hb hts inX3_ hown hK hP 11 rfl rfl 2 (by decide) L243 (fun _ h9 => h9) rfl (kd tdlX8_undo_0 2 rfl) ?_
  refine lv_if_ne (tgt := 18) hx hb (kd tdlX8_undo_0 3 rfl) (by decide) (fun hc7 => ?_) (fun hc7 => ?_)
  · have hF := kf hc7 hF
    refine lv_aload_n hx hb (kd tdlX8_undo_0 8 rfl) rfl (lv_at hl 0 rfl) ?_
    refine va_get (D := D) (ci := 7) (v := .ref (g0 3)) (C := RX8) (T := TX8) (N := 9) hx hb hts inX8_ hown hK hP 0 rfl rfl 3 (by decide) L29 (fun _ h9 => h9) rfl (kd tdlX8_undo_0 9 rfl) ?_
    refine lv_aload_n hx hb (kd tdlX8_undo_0 10 rfl) rfl (lv_at hl 0 rfl) ?_
    refine va_get (D := D) (ci := 7) (v := .ref (g0 1)) (C := RX8) (T := TX8) (N := 9) hx hb hts inX8_ hown hK hP 0 rfl rfl 1 (by decide) L19 (fun _ h9 => h9) rfl (kd tdlX8_undo_0 11 rfl) ?_
    obtain ⟨v26, e26, hF⟩ := kc hF
    refine kcL_v (S := UAT) (wf := (fun (u26 : UAT) => [(wpa t (g0 3) a_past u26 v26.1), (wdk t (g0 1) a_desk v26.2)])) hP hD hS hA nd_2_1 rfl (fun _ => rfl) (kL_VX (Qx := (fun A => kQvS D (TY t) (fun (u26 : UAT) => kflat [(wpa t (g0 3) a_past u26 v26.1), (wdk t (g0 1) a_desk v26.2)]) A)) (cs := [(wpa t (g0 3) a_past u_past d_past), (wdk t (g0 1) a_desk d_desk)]) (is := [2, 1]) (As := [.ref (g0 1)]) (rest := []) ⟨hx, hb, hml, hown, hts⟩ hX hS hA hK hP hD nd_2_1 rfl (c_X3_takeBack l D t (g0 3) a_past u_past d_past (g0 1) a_desk d_desk _  v26 e26) (cwV 1 hts (gcX3_takeBack w_582) rfl rfl rfl hdX3_takeBackV ⟨Nat.le_of_ble_eq_true rfl, Nat.le_of_ble_eq_true rfl⟩) (ci := 2) (q0 := 11) rfl rfl rfl hl.1 rfl (Nat.le_of_ble_eq_true rfl) (kd tdlX8_undo_0 12 rfl) ⟨Nat.le_of_ble_eq_true rfl, Nat.le_of_ble_eq_true rfl⟩) (fun u26 H locs hP hD hS => ?_)
    have hP : va_P D vwCl (kflat [(wx8 h0 g0), (wdk t (g0 1) a_desk v26.2), (wpa t (g0 3) a_past u26 v26.1)]) H := hP
    have hD : va_D A (kflat [(wx8 h0 g0), (wdk t (g0 1) a_desk v26.2), (wpa t (g0 3) a_past u26 v26.1)]) := hD
    refine lv_aload_n hx hb (kd tdlX8_undo_0 13 rfl) rfl (lv_at hl 0 rfl) ?_
    refine va_get (D := D) (ci := 7) (v := .ref (g0 3)) (C := RX8) (T := TX8) (N := 9) hx hb hts inX8_ hown hK hP 0 rfl rfl 3 (by decide) L29 (fun _ h9 => h9) rfl (kd tdlX8_undo_0 14 rfl) ?_
    refine va_get (D := D) (ci := 2) (v := .int (pa_count v26.1)) (C := RX3) (T := TX3) (N := 3) hx hb hts inX3_ hown hK hP 11 rfl rfl 2 (by decide) L243 (fun _ h9 => h9) rfl (kd tdlX8_undo_0 15 rfl) ?_
    cases ko hF
    exact kes_i u26 hx hb hr hlocks hK hP hD hS rfl (Nat.le_of_ble_eq_true rfl) (Nat.le_of_ble_eq_true rfl) (kd tdlX8_undo_0 16 rfl)
  · have hF := kt hc7 hF
    cases ko hF
    exact absurd (show (3 : Nat) = 0 from hcd0) (by decide)
set_option maxHeartbeats 4000000 in
set_option maxRecDepth 100000 in
theorem c_X8_wouldPut (l : Launch) (D : va_G) (t : Nat → ClassId) (h0 : Nat) (g0 : Nat → Nat) (a_text : Nat → Nat) (d_text : TXT) (a_desk : Nat → Nat) (d_desk : DKT) (a_stream : Nat → Nat) (d_stream : SMT) (a_plan : Nat → Nat) (d_plan : PLT) (sz : Nat) (p1 : Int32) (r : Nat × Int32 × SMT × PLT) (hF : F_X8_wouldPut d_text d_desk d_stream d_plan p1 = some r) (hcd0 : r.1 = 0) : Met l yX8_wouldPut wX8_wouldPut ({ frames := 5, cells := 0, slots := 0, locals := 113 } : Room) (kPx D (TY t) (kflat [(wx8 h0 g0), (wtx t (g0 0) a_text d_text), (wdk t (g0 1) a_desk d_desk), (wsm t (g0 5) a_stream d_stream), (wpl t (g0 6) a_plan d_plan)]) [.ref h0, .int p1] sz) (kQiS D (TY t) (fun (u : Unit) => (kflat [(wx8 h0 g0), (wtx t (g0 0) a_text d_text), (wdk t (g0 1) a_desk d_desk), (wsm t (g0 5) a_stream r.2.2.1), (wpl t (g0 6) a_plan r.2.2.2)])) r.2.1 (va_A (kflat [(wx8 h0 g0), (wtx t (g0 0) a_text d_text), (wdk t (g0 1) a_desk d_desk), (wsm t (g0 5) a_stream d_stream), (wpl t (g0 6) a_plan d_plan)]) sz)) 0 0 (va_A (kflat [(wx8 h0 g0), (wtx t (g0 0) a_text d_text), (wdk t (g0 1) a_desk d_desk), (wsm t (g0 5) a_stream d_stream), (wpl t (g0 6) a_plan d_plan)]) sz) := by
  refine kEx (cc := cX8_wouldPut) (maxL := 2) (ret := (some .int)) (Qx := fun A => kQiS D (TY t) (fun (u : Unit) => (kflat [(wx8 h0 g0), (wtx t (g0 0) a_text d_text), (wdk t (g0 1) a_desk d_desk), (wsm t (g0 5) a_stream r.2.2.1), (wpl t (g0 6) a_plan r.2.2.2)])) r.2.1 A) (lv0 := [(0, .ref h0), (1, .int p1)]) RX8 rfl (by decide) rfl (Nat.le_of_ble_eq_true rfl) rfl ?_
  intro p e s m args below meth c A ls hx hb hml hr hlocks hown hts hA hX hK hP hD hS hl
  have L10 := hts (.fieldLink RX8 10 "ChunkCarriers" "text" "LChunkCarriers$Text;") (List.mem_cons_of_mem _ w_14)
  have L19 := hts (.fieldLink RX8 19 "ChunkCarriers" "desk" "LChunkCarriers$Desk;") (List.mem_cons_of_mem _ w_18)
  have L257 := hts (.fieldLink RX8 257 "ChunkCarriers$Plan" "puts" "I") (List.mem_cons_of_mem _ w_462)
  have L40 := hts (.fieldLink RX8 40 "ChunkCarriers" "stream" "LChunkCarriers$Stream;") (List.mem_cons_of_mem _ w_28)
  have L47 := hts (.fieldLink RX8 47 "ChunkCarriers" "plan" "LChunkCarriers$Plan;") (List.mem_cons_of_mem _ w_32)
  have inX4_ : ∀ w ∈ wsX40, w ∈ wX8_wouldPut := fun w h => List.mem_cons_of_mem _ (inlX4 w h)
  have inX8_ : ∀ w ∈ wsX80, w ∈ wX8_wouldPut := fun w h => List.mem_cons_of_mem _ (inlX8 w h)
  refine lv_aload_n hx hb (kd tdlX8_wouldPut_0 0 rfl) rfl (lv_at hl 0 rfl) ?_
  refine va_get (D := D) (ci := 7) (v := .ref (g0 0)) (C := RX8) (T := TX8) (N := 9) hx hb hts inX8_ hown hK hP 0 rfl rfl 0 (by decide) L10 (fun _ h9 => h9) rfl (kd tdlX8_wouldPut_0 1 rfl) ?_
  refine lv_iload_n hx hb (kd tdlX8_wouldPut_0 2 rfl) rfl (lv_at hl 1 rfl) ?_
  refine lv_aload_n hx hb (kd tdlX8_wouldPut_0 3 rfl) rfl (lv_at hl 0 rfl) ?_
  refine va_get (D := D) (ci := 7) (v := .ref (g0 5)) (C := RX8) (T := TX8) (N := 9) hx hb hts inX8_ hown hK hP 0 rfl rfl 5 (by decide) L40 (fun _ h9 => h9) rfl (kd tdlX8_wouldPut_0 4 rfl) ?_
  obtain ⟨v9, e9, hF⟩ := kc hF
  refine kcL_i (S := Unit) (wf := (fun (_ : Unit) => [(wtx t (g0 0) a_text d_text), (wsm t (g0 5) a_stream v9.2)])) hP hD hS hA nd_1_3 rfl (fun _ => rfl) (kL_V (Qx := (fun A => kQi D (TY t) (kflat [(wtx t (g0 0) a_text d_text), (wsm t (g0 5) a_stream v9.2)]) v9.1 A)) (cs := [(wtx t (g0 0) a_text d_text), (wsm t (g0 5) a_stream d_stream)]) (is := [1, 3]) (As := [.int p1, .ref (g0 5)]) (rest := []) ⟨hx, hb, hml, hown, hts⟩ hK hP hD nd_1_3 rfl (c_X7_readStream l D t (g0 0) a_text d_text (g0 5) a_stream d_stream _ p1 v9 e9) (cwV 2 hts (gcX7_readStream w_463) rfl rfl rfl hdX7_readStreamV ⟨Nat.le_of_ble_eq_true rfl, Nat.le_of_ble_eq_true rfl⟩) (ci := 6) (q0 := 1) rfl rfl rfl hl.1 rfl (Nat.le_of_ble_eq_true rfl) (kd tdlX8_wouldPut_0 5 rfl) ⟨Nat.le_of_ble_eq_true rfl, Nat.le_of_ble_eq_true rfl⟩) (fun _ H locs hP hD hS => ?_)
  have hP : va_P D vwCl (kflat [(wx8 h0 g0), (wtx t (g0 0) a_text d_text), (wdk t (g0 1) a_desk d_desk), (wsm t (g0 5) a_stream v9.2), (wpl t (g0 6) a_plan d_plan)]) H := hP
  have hD : va_D A (kflat [(wx8 h0 g0), (wtx t (g0 0) a_text d_text), (wdk t (g0 1) a_desk d_desk), (wsm t (g0 5) a_stream v9.2), (wpl t (g0 6) a_plan d_plan)]) := hD
  refine lv_if_ne (tgt := 23) hx hb (kd tdlX8_wouldPut_0 6 rfl) (by decide) (fun hc12 => ?_) (fun hc12 => ?_)
  · have hF := kf hc12 hF
    refine lv_aload_n hx hb (kd tdlX8_wouldPut_0 11 rfl) rfl (lv_at hl 0 rfl) ?_
    refine lv_aload_n hx hb (kd tdlX8_wouldPut_0 12 rfl) rfl (lv_at hl 0 rfl) ?_
    refine va_get (D := D) (ci := 7) (v := .ref (g0 1)) (C := RX8) (T := TX8) (N := 9) hx hb hts inX8_ hown hK hP 0 rfl rfl 1 (by decide) L19 (fun _ h9 => h9) rfl (kd tdlX8_wouldPut_0 13 rfl) ?_
    obtain ⟨v28, e28, hF⟩ := kc hF
    refine kcL_v (S := Unit) (wf := (fun (_ : Unit) => [(wx8 h0 g0), (wsm t (g0 5) a_stream v28.1), (wpl t (g0 6) a_plan v28.2), (wdk t (g0 1) a_desk d_desk)])) hP hD hS hA nd_0_3_4_2 rfl (fun _ => rfl) (kL_VX (Qx := (fun A => kQvS D (TY t) (fun (u28 : Unit) => kflat [(wx8 h0 g0), (wsm t (g0 5) a_stream v28.1), (wpl t (g0 6) a_plan v28.2), (wdk t (g0 1) a_desk d_desk)]) A)) (cs := [(wx8 h0 g0), (wsm t (g0 5) a_stream v9.2), (wpl t (g0 6) a_plan d_plan), (wdk t (g0 1) a_desk d_desk)]) (is := [0, 3, 4, 2]) (As := [.ref (g0 1)]) (rest := []) ⟨hx, hb, hml, hown, hts⟩ hX hS hA hK hP hD nd_0_3_4_2 rfl (c_X8_planWith l D t h0 g0 a_stream v9.2 a_plan d_plan (g0 1) a_desk d_desk _  v28 e28) (cwV 1 hts (gcX8_planWith w_488) rfl rfl rfl hdX8_planWithV ⟨Nat.le_of_ble_eq_true rfl, Nat.le_of_ble_eq_true rfl⟩) (ci := 7) (q0 := 0) rfl rfl rfl hl.1 rfl (Nat.le_of_ble_eq_true rfl) (kd tdlX8_wouldPut_0 14 rfl) ⟨Nat.le_of_ble_eq_true rfl, Nat.le_of_ble_eq_true rfl⟩) (fun _ H locs hP hD hS => ?_)
    have hP : va_P D vwCl (kflat [(wx8 h0 g0), (wtx t (g0 0) a_text d_text), (wdk t (g0 1) a_desk d_desk), (wsm t (g0 5) a_stream v28.1), (wpl t (g0 6) a_plan v28.2)]) H := hP
    have hD : va_D A (kflat [(wx8 h0 g0), (wtx t (g0 0) a_text d_text), (wdk t (g0 1) a_desk d_desk), (wsm t (g0 5) a_stream v28.1), (wpl t (g0 6) a_plan v28.2)]) := hD
    refine lv_aload_n hx hb (kd tdlX8_wouldPut_0 15 rfl) rfl (lv_at hl 0 rfl) ?_
    refine va_get (D := D) (ci := 7) (v := .ref (g0 6)) (C := RX8) (T := TX8) (N := 9) hx hb hts inX8_ hown hK hP 0 rfl rfl 6 (by decide) L47 (fun _ h9 => h9) rfl (kd tdlX8_wouldPut_0 16 rfl) ?_
    refine va_get (D := D) (ci := 3) (v := .int (pl_puts v28.2)) (C := RX4) (T := TX4) (N := 8) hx hb hts inX4_ hown hK hP 16 rfl rfl 3 (by decide) L257 (fun _ h9 => h9) rfl (kd tdlX8_wouldPut_0 17 rfl) ?_
    cases ko hF
    exact kes_i () hx hb hr hlocks hK hP hD hS rfl (Nat.le_of_ble_eq_true rfl) (Nat.le_of_ble_eq_true rfl) (kd tdlX8_wouldPut_0 18 rfl)
  · have hF := kt hc12 hF
    cases ko hF
    exact absurd (show (1 : Nat) = 0 from hcd0) (by decide)
set_option maxHeartbeats 4000000 in
set_option maxRecDepth 100000 in
theorem c_X8_bestLimit (l : Launch) (D : va_G) (t : Nat → ClassId) (h0 : Nat) (g0 : Nat → Nat) (a_text : Nat → Nat) (d_text : TXT) (a_desk : Nat → Nat) (d_desk : DKT) (a_stream : Nat → Nat) (d_stream : SMT) (a_plan : Nat → Nat) (d_plan : PLT) (a_store : Nat → Nat) (d_store : SOT) (sz : Nat) (p1 : Int32) (r : Nat × Int32 × SMT × PLT × SOT) (hF : F_X8_bestLimit d_text d_desk d_stream d_plan d_store p1 = some r) (hcd0 : r.1 = 0) : Met l yX8_bestLimit wX8_bestLimit ({ frames := 4, cells := 0, slots := 0, locals := 92 } : Room) (kPx D (TY t) (kflat [(wx8 h0 g0), (wtx t (g0 0) a_text d_text), (wdk t (g0 1) a_desk d_desk), (wsm t (g0 5) a_stream d_stream), (wpl t (g0 6) a_plan d_plan), (wso t (g0 7) a_store d_store)]) [.ref h0, .int p1] sz) (kQiS D (TY t) (fun (u : Unit) => (kflat [(wx8 h0 g0), (wtx t (g0 0) a_text d_text), (wdk t (g0 1) a_desk d_desk), (wsm t (g0 5) a_stream r.2.2.1), (wpl t (g0 6) a_plan r.2.2.2.1), (wso t (g0 7) a_store r.2.2.2.2)])) r.2.1 (va_A (kflat [(wx8 h0 g0), (wtx t (g0 0) a_text d_text), (wdk t (g0 1) a_desk d_desk), (wsm t (g0 5) a_stream d_stream), (wpl t (g0 6) a_plan d_plan), (wso t (g0 7) a_store d_store)]) sz)) 0 0 (va_A (kflat [(wx8 h0 g0), (wtx t (g0 0) a_text d_text), (wdk t (g0 1) a_desk d_desk), (wsm t (g0 5) a_stream d_stream), (wpl t (g0 6) a_plan d_plan), (wso t (g0 7) a_store d_store)]) sz) := by
  refine kEx (cc := cX8_bestLimit) (maxL := 6) (ret := (some .int)) (Qx := fun A => kQiS D (TY t) (fun (u : Unit) => (kflat [(wx8 h0 g0), (wtx t (g0 0) a_text d_text), (wdk t (g0 1) a_desk d_desk), (wsm t (g0 5) a_stream r.2.2.1), (wpl t (g0 6) a_plan r.2.2.2.1), (wso t (g0 7) a_store r.2.2.2.2)])) r.2.1 A) (lv0 := [(0, .ref h0), (1, .int p1)]) RX8 rfl (by decide) rfl (Nat.le_of_ble_eq_true rfl) rfl ?_
  intro p e s m args below meth c A ls hx hb hml hr hlocks hown hts hA hX hK hP hD hS hl
  have L10 := hts (.fieldLink RX8 10 "ChunkCarriers" "text" "LChunkCarriers$Text;") (List.mem_cons_of_mem _ w_14)
  have L19 := hts (.fieldLink RX8 19 "ChunkCarriers" "desk" "LChunkCarriers$Desk;") (List.mem_cons_of_mem _ w_18)
  have L257 := hts (.fieldLink RX8 257 "ChunkCarriers$Plan" "puts" "I") (List.mem_cons_of_mem _ w_462)
  have L271 := hts (.fieldLink RX8 271 "ChunkCarriers$Store" "loads" "I") (List.mem_cons_of_mem _ w_295)
  have L40 := hts (.fieldLink RX8 40 "ChunkCarriers" "stream" "LChunkCarriers$Stream;") (List.mem_cons_of_mem _ w_28)
  have L47 := hts (.fieldLink RX8 47 "ChunkCarriers" "plan" "LChunkCarriers$Plan;") (List.mem_cons_of_mem _ w_32)
  have L54 := hts (.fieldLink RX8 54 "ChunkCarriers" "store" "LChunkCarriers$Store;") (List.mem_cons_of_mem _ w_36)
  have inX4_ : ∀ w ∈ wsX40, w ∈ wX8_bestLimit := fun w h => List.mem_cons_of_mem _ (inlX4 w h)
  have inX5_ : ∀ w ∈ wsX50, w ∈ wX8_bestLimit := fun w h => List.mem_cons_of_mem _ (inlX5 w h)
  have inX8_ : ∀ w ∈ wsX80, w ∈ wX8_bestLimit := fun w h => List.mem_cons_of_mem _ (inlX8 w h)
  refine lv_aload_n hx hb (kd tdlX8_bestLimit_0 0 rfl) rfl (lv_at hl 0 rfl) ?_
  refine va_get (D := D) (ci := 7) (v := .ref (g0 0)) (C := RX8) (T := TX8) (N := 9) hx hb hts inX8_ hown hK hP 0 rfl rfl 0 (by decide) L10 (fun _ h9 => h9) rfl (kd tdlX8_bestLimit_0 1 rfl) ?_
  refine lv_iload_n hx hb (kd tdlX8_bestLimit_0 2 rfl) rfl (lv_at hl 1 rfl) ?_
  refine lv_aload_n hx hb (kd tdlX8_bestLimit_0 3 rfl) rfl (lv_at hl 0 rfl) ?_
  refine va_get (D := D) (ci := 7) (v := .ref (g0 5)) (C := RX8) (T := TX8) (N := 9) hx hb hts inX8_ hown hK hP 0 rfl rfl 5 (by decide) L40 (fun _ h9 => h9) rfl (kd tdlX8_bestLimit_0 4 rfl) ?_
  obtain ⟨v9, e9, hF⟩ := kc hF
  refine kcL_i (S := Unit) (wf := (fun (_ : Unit) => [(wtx t (g0 0) a_text d_text), (wsm t (g0 5) a_stream v9.2)])) hP hD hS hA nd_1_3 rfl (fun _ => rfl) (kL_V (Qx := (fun A => kQi D (TY t) (kflat [(wtx t (g0 0) a_text d_text), (wsm t (g0 5) a_stream v9.2)]) v9.1 A)) (cs := [(wtx t (g0 0) a_text d_text), (wsm t (g0 5) a_stream d_stream)]) (is := [1, 3]) (As := [.int p1, .ref (g0 5)]) (rest := []) ⟨hx, hb, hml, hown, hts⟩ hK hP hD nd_1_3 rfl (c_X7_readStream l D t (g0 0) a_text d_text (g0 5) a_stream d_stream _ p1 v9 e9) (cwV 2 hts (gcX7_readStream w_463) rfl rfl rfl hdX7_readStreamV ⟨Nat.le_of_ble_eq_true rfl, Nat.le_of_ble_eq_true rfl⟩) (ci := 6) (q0 := 1) rfl rfl rfl hl.1 rfl (Nat.le_of_ble_eq_true rfl) (kd tdlX8_bestLimit_0 5 rfl) ⟨Nat.le_of_ble_eq_true rfl, Nat.le_of_ble_eq_true rfl⟩) (fun _ H locs hP hD hS => ?_)
  have hP : va_P D vwCl (kflat [(wx8 h0 g0), (wtx t (g0 0) a_text d_text), (wdk t (g0 1) a_desk d_desk), (wsm t (g0 5) a_stream v9.2), (wpl t (g0 6) a_plan d_plan), (wso t (g0 7) a_store d_store)]) H := hP
  have hD : va_D A (kflat [(wx8 h0 g0), (wtx t (g0 0) a_text d_text), (wdk t (g0 1) a_desk d_desk), (wsm t (g0 5) a_stream v9.2), (wpl t (g0 6) a_plan d_plan), (wso t (g0 7) a_store d_store)]) := hD
  refine lv_if_ne (tgt := 23) hx hb (kd tdlX8_bestLimit_0 6 rfl) (by decide) (fun hc12 => ?_) (fun hc12 => ?_)
  · have hF := kf hc12 hF
    refine lv_aload_n hx hb (kd tdlX8_bestLimit_0 11 rfl) rfl (lv_at hl 0 rfl) ?_
    refine va_get (D := D) (ci := 7) (v := .ref (g0 5)) (C := RX8) (T := TX8) (N := 9) hx hb hts inX8_ hown hK hP 0 rfl rfl 5 (by decide) L40 (fun _ h9 => h9) rfl (kd tdlX8_bestLimit_0 12 rfl) ?_
    refine lv_aload_n hx hb (kd tdlX8_bestLimit_0 13 rfl) rfl (lv_at hl 0 rfl) ?_
    refine va_get (D := D) (ci := 7) (v := .ref (g0 1)) (C := RX8) (T := TX8) (N := 9) hx hb hts inX8_ hown hK hP 0 rfl rfl 1 (by decide) L19 (fun _ h9 => h9) rfl (kd tdlX8_bestLimit_0 14 rfl) ?_
    refine lv_iconst (v := 0) hx hb (kd tdlX8_bestLimit_0 15 rfl) (by decide) ?_
    obtain ⟨v32, e32, hF⟩ := kc hF
    refine kcL_i (S := Unit) (wf := (fun (_ : Unit) => [(wdk t (g0 1) a_desk d_desk)])) hP hD hS hA nd_2 rfl (fun _ => rfl) (kL_V (Qx := (fun A => kQi D (TY t) (kflat [(wdk t (g0 1) a_desk d_desk)]) v32 A)) (cs := [(wdk t (g0 1) a_desk d_desk)]) (is := [2]) (As := [.int 0]) (rest := [.ref (g0 5)]) ⟨hx, hb, hml, hown, hts⟩ hK hP hD nd_2 rfl (c_X1_settingAt l D t (g0 1) a_desk d_desk _ 0 v32 e32) (cwV 1 hts (gcX1_settingAt w_193) rfl rfl rfl hdX1_settingAtV ⟨Nat.le_of_ble_eq_true rfl, Nat.le_of_ble_eq_true rfl⟩) (ci := 1) (q0 := 3) rfl rfl rfl hl.1 rfl (Nat.le_of_ble_eq_true rfl) (kd tdlX8_bestLimit_0 16 rfl) ⟨Nat.le_of_ble_eq_true rfl, Nat.le_of_ble_eq_true rfl⟩) (fun _ H locs hP hD hS => ?_)
    have hP : va_P D vwCl (kflat [(wx8 h0 g0), (wtx t (g0 0) a_text d_text), (wdk t (g0 1) a_desk d_desk), (wsm t (g0 5) a_stream v9.2), (wpl t (g0 6) a_plan d_plan), (wso t (g0 7) a_store d_store)]) H := hP
    have hD : va_D A (kflat [(wx8 h0 g0), (wtx t (g0 0) a_text d_text), (wdk t (g0 1) a_desk d_desk), (wsm t (g0 5) a_stream v9.2), (wpl t (g0 6) a_plan d_plan), (wso t (g0 7) a_store d_store)]) := hD
    obtain ⟨v35, e35, hF⟩ := kc hF
    refine kcL_v (S := Unit) (wf := (fun (_ : Unit) => [(wsm t (g0 5) a_stream v35)])) hP hD hS hA nd_3 rfl (fun _ => rfl) (kL_V (Qx := (fun A => kQv D (TY t) (kflat [(wsm t (g0 5) a_stream v35)]) A)) (cs := [(wsm t (g0 5) a_stream v9.2)]) (is := [3]) (As := [.int v32]) (rest := []) ⟨hx, hb, hml, hown, hts⟩ hK hP hD nd_3 rfl (c_X6_cut l D t (g0 5) a_stream v9.2 _ v32 v35 e35) (cwV 1 hts (gcX6_cut w_492) rfl rfl rfl hdX6_cutV ⟨Nat.le_of_ble_eq_true rfl, Nat.le_of_ble_eq_true rfl⟩) (ci := 5) (q0 := 13) rfl rfl rfl hl.1 rfl (Nat.le_of_ble_eq_true rfl) (kd tdlX8_bestLimit_0 17 rfl) ⟨Nat.le_of_ble_eq_true rfl, Nat.le_of_ble_eq_true rfl⟩) (fun _ H locs hP hD hS => ?_)
    have hP : va_P D vwCl (kflat [(wx8 h0 g0), (wtx t (g0 0) a_text d_text), (wdk t (g0 1) a_desk d_desk), (wsm t (g0 5) a_stream v35), (wpl t (g0 6) a_plan d_plan), (wso t (g0 7) a_store d_store)]) H := hP
    have hD : va_D A (kflat [(wx8 h0 g0), (wtx t (g0 0) a_text d_text), (wdk t (g0 1) a_desk d_desk), (wsm t (g0 5) a_stream v35), (wpl t (g0 6) a_plan d_plan), (wso t (g0 7) a_store d_store)]) := hD
    refine lv_iconst (v := (-1)) hx hb (kd tdlX8_bestLimit_0 18 rfl) (by decide) ?_
    refine lv_istore_n (lv' := [(2, .int (-1)), (0, .ref h0), (1, .int p1)]) hx hb (kd tdlX8_bestLimit_0 19 rfl) rfl hl (by decide) rfl (fun ls hl => ?_)
    refine lv_iconst (v := 0) hx hb (kd tdlX8_bestLimit_0 20 rfl) (by decide) ?_
    refine lv_istore_n (lv' := [(3, .int 0), (2, .int (-1)), (0, .ref h0), (1, .int p1)]) hx hb (kd tdlX8_bestLimit_0 21 rfl) rfl hl (by decide) rfl (fun ls hl => ?_)
    refine lv_iconst (v := 1) hx hb (kd tdlX8_bestLimit_0 22 rfl) (by decide) ?_
    refine lv_istore (lv' := [(4, .int 1), (3, .int 0), (2, .int (-1)), (0, .ref h0), (1, .int p1)]) hx hb (kd tdlX8_bestLimit_0 23 rfl) hl (by decide) rfl (fun ls hl => ?_)
    refine lp_ind (f := B_X8_bestLimit_45 v35 d_desk) (r := r) (P := fun s45_ => ∀ (H : Heap) (locs : List Loc) (ls : Array Slot), va_P D vwCl (kflat [(wx8 h0 g0), (wtx t (g0 0) a_text d_text), (wdk t (g0 1) a_desk d_desk), (wsm t (g0 5) a_stream v35), (wpl t (g0 6) a_plan s45_.2.2.2.1), (wso t (g0 7) a_store s45_.2.2.2.2)]) H → va_D A (kflat [(wx8 h0 g0), (wtx t (g0 0) a_text d_text), (wdk t (g0 1) a_desk d_desk), (wsm t (g0 5) a_stream v35), (wpl t (g0 6) a_plan s45_.2.2.2.1), (wso t (g0 7) a_store s45_.2.2.2.2)]) → va_S A s.heap H locs → lv_has ls 6 [(0, .ref h0), (2, .int s45_.1), (3, .int s45_.2.1), (4, .int s45_.2.2.1)] → W p l e ({ frames := 4, cells := 0, slots := 0, locals := 92 } : Room) s m args below meth c H locs 0 0 (MQ below (kQiS D (TY t) (fun (u : Unit) => (kflat [(wx8 h0 g0), (wtx t (g0 0) a_text d_text), (wdk t (g0 1) a_desk d_desk), (wsm t (g0 5) a_stream r.2.2.1), (wpl t (g0 6) a_plan r.2.2.2.1), (wso t (g0 7) a_store r.2.2.2.2)])) r.2.1 A) args s 0 0 A) (F0 m 45 ls [])) ?_ FU ((-1), 0, 1, d_plan, d_store) hF _ _ _ hP hD hS (lv_sub hl [3, 2, 1, 0] rfl)
    intro self45 ih45 s45_ hF H locs ls hP hD hS hl
    refine lv_iload hx hb (kd tdlX8_bestLimit_0 24 rfl) (lv_at hl 3 rfl) ?_
    refine lv_bipush (v := 9) hx hb (kd tdlX8_bestLimit_0 25 rfl) (by decide) ?_
    refine lv_icmp_gt (tgt := 135) hx hb (kd tdlX8_bestLimit_0 26 rfl) (by decide) (fun hc49 => ?_) (fun hc49 => ?_)
    · have hF := kt hc49 hF
      refine lv_iload_n hx hb (kd tdlX8_bestLimit_1 22 rfl) rfl (lv_at hl 1 rfl) ?_
      cases ko hF
      exact kes_i () hx hb hr hlocks hK hP hD hS rfl (Nat.le_of_ble_eq_true rfl) (Nat.le_of_ble_eq_true rfl) (kd tdlX8_bestLimit_1 23 rfl)
    · have hF := kf hc49 hF
      refine lv_aload_n hx hb (kd tdlX8_bestLimit_0 27 rfl) rfl (lv_at hl 0 rfl) ?_
      refine va_get (D := D) (ci := 7) (v := .ref (g0 6)) (C := RX8) (T := TX8) (N := 9) hx hb hts inX8_ hown hK hP 0 rfl rfl 6 (by decide) L47 (fun _ h9 => h9) rfl (kd tdlX8_bestLimit_0 28 rfl) ?_
      refine lv_aload_n hx hb (kd tdlX8_bestLimit_0 29 rfl) rfl (lv_at hl 0 rfl) ?_
      refine va_get (D := D) (ci := 7) (v := .ref (g0 1)) (C := RX8) (T := TX8) (N := 9) hx hb hts inX8_ hown hK hP 0 rfl rfl 1 (by decide) L19 (fun _ h9 => h9) rfl (kd tdlX8_bestLimit_0 30 rfl) ?_
      refine lv_aload_n hx hb (kd tdlX8_bestLimit_0 31 rfl) rfl (lv_at hl 0 rfl) ?_
      refine va_get (D := D) (ci := 7) (v := .ref (g0 5)) (C := RX8) (T := TX8) (N := 9) hx hb hts inX8_ hown hK hP 0 rfl rfl 5 (by decide) L40 (fun _ h9 => h9) rfl (kd tdlX8_bestLimit_0 32 rfl) ?_
      refine lv_iload hx hb (kd tdlX8_bestLimit_0 33 rfl) (lv_at hl 3 rfl) ?_
      obtain ⟨v66, e66, hF⟩ := kc hF
      refine kcL_v (S := Unit) (wf := (fun (_ : Unit) => [(wpl t (g0 6) a_plan v66), (wdk t (g0 1) a_desk d_desk), (wsm t (g0 5) a_stream v35)])) hP hD hS hA nd_4_2_3 rfl (fun _ => rfl) (kL_V (Qx := (fun A => kQv D (TY t) (kflat [(wpl t (g0 6) a_plan v66), (wdk t (g0 1) a_desk d_desk), (wsm t (g0 5) a_stream v35)]) A)) (cs := [(wpl t (g0 6) a_plan s45_.2.2.2.1), (wdk t (g0 1) a_desk d_desk), (wsm t (g0 5) a_stream v35)]) (is := [4, 2, 3]) (As := [.ref (g0 1), .ref (g0 5), .int s45_.2.2.1]) (rest := []) ⟨hx, hb, hml, hown, hts⟩ hK hP hD nd_4_2_3 rfl (c_X4_layOut l D t (g0 6) a_plan s45_.2.2.2.1 (g0 1) a_desk d_desk (g0 5) a_stream v35 _ s45_.2.2.1 v66 e66) (cwV 3 hts (gcX4_layOut w_507) rfl rfl rfl hdX4_layOutV ⟨Nat.le_of_ble_eq_true rfl, Nat.le_of_ble_eq_true rfl⟩) (ci := 3) (q0 := 16) rfl rfl rfl hl.1 rfl (Nat.le_of_ble_eq_true rfl) (kd tdlX8_bestLimit_0 34 rfl) ⟨Nat.le_of_ble_eq_true rfl, Nat.le_of_ble_eq_true rfl⟩) (fun _ H locs hP hD hS => ?_)
      have hP : va_P D vwCl (kflat [(wx8 h0 g0), (wtx t (g0 0) a_text d_text), (wdk t (g0 1) a_desk d_desk), (wsm t (g0 5) a_stream v35), (wpl t (g0 6) a_plan v66), (wso t (g0 7) a_store s45_.2.2.2.2)]) H := hP
      have hD : va_D A (kflat [(wx8 h0 g0), (wtx t (g0 0) a_text d_text), (wdk t (g0 1) a_desk d_desk), (wsm t (g0 5) a_stream v35), (wpl t (g0 6) a_plan v66), (wso t (g0 7) a_store s45_.2.2.2.2)]) := hD
      refine lv_aload_n hx hb (kd tdlX8_bestLimit_0 35 rfl) rfl (lv_at hl 0 rfl) ?_
      refine va_get (D := D) (ci := 7) (v := .ref (g0 7)) (C := RX8) (T := TX8) (N := 9) hx hb hts inX8_ hown hK hP 0 rfl rfl 7 (by decide) L54 (fun _ h9 => h9) rfl (kd tdlX8_bestLimit_0 36 rfl) ?_
      refine lv_aload_n hx hb (kd tdlX8_bestLimit_0 37 rfl) rfl (lv_at hl 0 rfl) ?_
      refine va_get (D := D) (ci := 7) (v := .ref (g0 1)) (C := RX8) (T := TX8) (N := 9) hx hb hts inX8_ hown hK hP 0 rfl rfl 1 (by decide) L19 (fun _ h9 => h9) rfl (kd tdlX8_bestLimit_0 38 rfl) ?_
      refine lv_iconst (v := 4) hx hb (kd tdlX8_bestLimit_0 39 rfl) (by decide) ?_
      obtain ⟨v78, e78, hF⟩ := kc hF
      refine kcL_i (S := Unit) (wf := (fun (_ : Unit) => [(wdk t (g0 1) a_desk d_desk)])) hP hD hS hA nd_2 rfl (fun _ => rfl) (kL_V (Qx := (fun A => kQi D (TY t) (kflat [(wdk t (g0 1) a_desk d_desk)]) v78 A)) (cs := [(wdk t (g0 1) a_desk d_desk)]) (is := [2]) (As := [.int 4]) (rest := [.ref (g0 7)]) ⟨hx, hb, hml, hown, hts⟩ hK hP hD nd_2 rfl (c_X1_settingAt l D t (g0 1) a_desk d_desk _ 4 v78 e78) (cwV 1 hts (gcX1_settingAt w_193) rfl rfl rfl hdX1_settingAtV ⟨Nat.le_of_ble_eq_true rfl, Nat.le_of_ble_eq_true rfl⟩) (ci := 1) (q0 := 3) rfl rfl rfl hl.1 rfl (Nat.le_of_ble_eq_true rfl) (kd tdlX8_bestLimit_0 40 rfl) ⟨Nat.le_of_ble_eq_true rfl, Nat.le_of_ble_eq_true rfl⟩) (fun _ H locs hP hD hS => ?_)
      have hP : va_P D vwCl (kflat [(wx8 h0 g0), (wtx t (g0 0) a_text d_text), (wdk t (g0 1) a_desk d_desk), (wsm t (g0 5) a_stream v35), (wpl t (g0 6) a_plan v66), (wso t (g0 7) a_store s45_.2.2.2.2)]) H := hP
      have hD : va_D A (kflat [(wx8 h0 g0), (wtx t (g0 0) a_text d_text), (wdk t (g0 1) a_desk d_desk), (wsm t (g0 5) a_stream v35), (wpl t (g0 6) a_plan v66), (wso t (g0 7) a_store s45_.2.2.2.2)]) := hD
      obtain ⟨v81, e81, hF⟩ := kc hF
      refine kcL_v (S := Unit) (wf := (fun (_ : Unit) => [(wso t (g0 7) a_store v81)])) hP hD hS hA nd_5 rfl (fun _ => rfl) (kL_V (Qx := (fun A => kQv D (TY t) (kflat [(wso t (g0 7) a_store v81)]) A)) (cs := [(wso t (g0 7) a_store s45_.2.2.2.2)]) (is := [5]) (As := [.int v78]) (rest := []) ⟨hx, hb, hml, hown, hts⟩ hK hP hD nd_5 rfl (c_X5_open l D t (g0 7) a_store s45_.2.2.2.2 _ v78 v81 e81) (cwV 1 hts (gcX5_open w_296) rfl rfl rfl hdX5_openV ⟨Nat.le_of_ble_eq_true rfl, Nat.le_of_ble_eq_true rfl⟩) (ci := 4) (q0 := 21) rfl rfl rfl hl.1 rfl (Nat.le_of_ble_eq_true rfl) (kd tdlX8_bestLimit_0 41 rfl) ⟨Nat.le_of_ble_eq_true rfl, Nat.le_of_ble_eq_true rfl⟩) (fun _ H locs hP hD hS => ?_)
      have hP : va_P D vwCl (kflat [(wx8 h0 g0), (wtx t (g0 0) a_text d_text), (wdk t (g0 1) a_desk d_desk), (wsm t (g0 5) a_stream v35), (wpl t (g0 6) a_plan v66), (wso t (g0 7) a_store v81)]) H := hP
      have hD : va_D A (kflat [(wx8 h0 g0), (wtx t (g0 0) a_text d_text), (wdk t (g0 1) a_desk d_desk), (wsm t (g0 5) a_stream v35), (wpl t (g0 6) a_plan v66), (wso t (g0 7) a_store v81)]) := hD
      refine lv_aload_n hx hb (kd tdlX8_bestLimit_0 42 rfl) rfl (lv_at hl 0 rfl) ?_
      refine va_get (D := D) (ci := 7) (v := .ref (g0 6)) (C := RX8) (T := TX8) (N := 9) hx hb hts inX8_ hown hK hP 0 rfl rfl 6 (by decide) L47 (fun _ h9 => h9) rfl (kd tdlX8_bestLimit_0 43 rfl) ?_
      refine lv_aload_n hx hb (kd tdlX8_bestLimit_0 44 rfl) rfl (lv_at hl 0 rfl) ?_
      refine va_get (D := D) (ci := 7) (v := .ref (g0 7)) (C := RX8) (T := TX8) (N := 9) hx hb hts inX8_ hown hK hP 0 rfl rfl 7 (by decide) L54 (fun _ h9 => h9) rfl (kd tdlX8_bestLimit_1 0 rfl) ?_
      obtain ⟨v92, e92, hF⟩ := kc hF
      refine kcL_v (S := Unit) (wf := (fun (_ : Unit) => [(wpl t (g0 6) a_plan v66), (wso t (g0 7) a_store v92)])) hP hD hS hA nd_4_5 rfl (fun _ => rfl) (kL_V (Qx := (fun A => kQv D (TY t) (kflat [(wpl t (g0 6) a_plan v66), (wso t (g0 7) a_store v92)]) A)) (cs := [(wpl t (g0 6) a_plan v66), (wso t (g0 7) a_store v81)]) (is := [4, 5]) (As := [.ref (g0 7)]) (rest := []) ⟨hx, hb, hml, hown, hts⟩ hK hP hD nd_4_5 rfl (c_X4_passThrough l D t (g0 6) a_plan v66 (g0 7) a_store v81 _  v92 e92) (cwV 1 hts (gcX4_passThrough w_639) rfl rfl rfl hdX4_passThroughV ⟨Nat.le_of_ble_eq_true rfl, Nat.le_of_ble_eq_true rfl⟩) (ci := 3) (q0 := 16) rfl rfl rfl hl.1 rfl (Nat.le_of_ble_eq_true rfl) (kd tdlX8_bestLimit_1 1 rfl) ⟨Nat.le_of_ble_eq_true rfl, Nat.le_of_ble_eq_true rfl⟩) (fun _ H locs hP hD hS => ?_)
      have hP : va_P D vwCl (kflat [(wx8 h0 g0), (wtx t (g0 0) a_text d_text), (wdk t (g0 1) a_desk d_desk), (wsm t (g0 5) a_stream v35), (wpl t (g0 6) a_plan v66), (wso t (g0 7) a_store v92)]) H := hP
      have hD : va_D A (kflat [(wx8 h0 g0), (wtx t (g0 0) a_text d_text), (wdk t (g0 1) a_desk d_desk), (wsm t (g0 5) a_stream v35), (wpl t (g0 6) a_plan v66), (wso t (g0 7) a_store v92)]) := hD
      refine lv_aload_n hx hb (kd tdlX8_bestLimit_1 2 rfl) rfl (lv_at hl 0 rfl) ?_
      refine va_get (D := D) (ci := 7) (v := .ref (g0 6)) (C := RX8) (T := TX8) (N := 9) hx hb hts inX8_ hown hK hP 0 rfl rfl 6 (by decide) L47 (fun _ h9 => h9) rfl (kd tdlX8_bestLimit_1 3 rfl) ?_
      refine va_get (D := D) (ci := 3) (v := .int (pl_puts v66)) (C := RX4) (T := TX4) (N := 8) hx hb hts inX4_ hown hK hP 16 rfl rfl 3 (by decide) L257 (fun _ h9 => h9) rfl (kd tdlX8_bestLimit_1 4 rfl) ?_
      refine lv_aload_n hx hb (kd tdlX8_bestLimit_1 5 rfl) rfl (lv_at hl 0 rfl) ?_
      refine va_get (D := D) (ci := 7) (v := .ref (g0 7)) (C := RX8) (T := TX8) (N := 9) hx hb hts inX8_ hown hK hP 0 rfl rfl 7 (by decide) L54 (fun _ h9 => h9) rfl (kd tdlX8_bestLimit_1 6 rfl) ?_
      refine va_get (D := D) (ci := 4) (v := .int (so_loads v92)) (C := RX5) (T := TX5) (N := 6) hx hb hts inX5_ hown hK hP 21 rfl rfl 4 (by decide) L271 (fun _ h9 => h9) rfl (kd tdlX8_bestLimit_1 7 rfl) ?_
      refine lv_iadd hx hb (kd tdlX8_bestLimit_1 8 rfl) ?_
      refine lv_istore (lv' := [(5, .int ((pl_puts v66) + (so_loads v92))), (0, .ref h0), (2, .int s45_.1), (3, .int s45_.2.1), (4, .int s45_.2.2.1)]) hx hb (kd tdlX8_bestLimit_1 9 rfl) hl (by decide) rfl (fun ls hl => ?_)
      refine lv_iload_n hx hb (kd tdlX8_bestLimit_1 10 rfl) rfl (lv_at hl 2 rfl) ?_
      refine lv_iconst (v := (-1)) hx hb (kd tdlX8_bestLimit_1 11 rfl) (by decide) ?_
      refine lv_icmp_eq (tgt := 123) hx hb (kd tdlX8_bestLimit_1 12 rfl) (by decide) (fun hc114 => ?_) (fun hc114 => ?_)
      · have hF := kt hc114 hF
        refine lv_iload hx hb (kd tdlX8_bestLimit_1 16 rfl) (lv_at hl 4 rfl) ?_
        refine lv_istore_n (lv' := [(2, .int s45_.2.2.1), (5, .int ((pl_puts v66) + (so_loads v92))), (0, .ref h0), (3, .int s45_.2.1), (4, .int s45_.2.2.1)]) hx hb (kd tdlX8_bestLimit_1 17 rfl) rfl hl (by decide) rfl (fun ls hl => ?_)
        refine lv_iload hx hb (kd tdlX8_bestLimit_1 18 rfl) (lv_at hl 1 rfl) ?_
        refine lv_istore_n (lv' := [(3, .int ((pl_puts v66) + (so_loads v92))), (2, .int s45_.2.2.1), (5, .int ((pl_puts v66) + (so_loads v92))), (0, .ref h0), (4, .int s45_.2.2.1)]) hx hb (kd tdlX8_bestLimit_1 19 rfl) rfl hl (by decide) rfl (fun ls hl => ?_)
        refine lv_iinc (v := (s45_.2.2.1 + 1)) (lv' := [(4, .int (s45_.2.2.1 + 1)), (3, .int ((pl_puts v66) + (so_loads v92))), (2, .int s45_.2.2.1), (5, .int ((pl_puts v66) + (so_loads v92))), (0, .ref h0)]) hx hb (kd tdlX8_bestLimit_1 20 rfl) hl (k := 4) rfl rfl (by decide) rfl (fun ls hl => ?_)
        refine lv_goto (tgt := 45) hx hb (kd tdlX8_bestLimit_1 21 rfl) (by decide) ?_
        exact ih45 (s45_.2.2.1, ((pl_puts v66) + (so_loads v92)), (s45_.2.2.1 + 1), v66, v92) hF _ _ _ hP hD hS (lv_sub hl [4, 2, 1, 0] rfl)
      · have hF := kf hc114 hF
        refine lv_iload hx hb (kd tdlX8_bestLimit_1 13 rfl) (lv_at hl 0 rfl) ?_
        refine lv_iload_n hx hb (kd tdlX8_bestLimit_1 14 rfl) rfl (lv_at hl 3 rfl) ?_
        refine lv_icmp_ge (tgt := 129) hx hb (kd tdlX8_bestLimit_1 15 rfl) (by decide) (fun hc120 => ?_) (fun hc120 => ?_)
        · have hF := kt hc120 hF
          refine lv_iinc (v := (s45_.2.2.1 + 1)) (lv' := [(4, .int (s45_.2.2.1 + 1)), (5, .int ((pl_puts v66) + (so_loads v92))), (0, .ref h0), (2, .int s45_.1), (3, .int s45_.2.1)]) hx hb (kd tdlX8_bestLimit_1 20 rfl) hl (k := 4) rfl rfl (by decide) rfl (fun ls hl => ?_)
          refine lv_goto (tgt := 45) hx hb (kd tdlX8_bestLimit_1 21 rfl) (by decide) ?_
          exact ih45 (s45_.1, s45_.2.1, (s45_.2.2.1 + 1), v66, v92) hF _ _ _ hP hD hS (lv_sub hl [2, 3, 4, 0] rfl)
        · have hF := kf hc120 hF
          refine lv_iload hx hb (kd tdlX8_bestLimit_1 16 rfl) (lv_at hl 4 rfl) ?_
          refine lv_istore_n (lv' := [(2, .int s45_.2.2.1), (5, .int ((pl_puts v66) + (so_loads v92))), (0, .ref h0), (3, .int s45_.2.1), (4, .int s45_.2.2.1)]) hx hb (kd tdlX8_bestLimit_1 17 rfl) rfl hl (by decide) rfl (fun ls hl => ?_)
          refine lv_iload hx hb (kd tdlX8_bestLimit_1 18 rfl) (lv_at hl 1 rfl) ?_
          refine lv_istore_n (lv' := [(3, .int ((pl_puts v66) + (so_loads v92))), (2, .int s45_.2.2.1), (5, .int ((pl_puts v66) + (so_loads v92))), (0, .ref h0), (4, .int s45_.2.2.1)]) hx hb (kd tdlX8_bestLimit_1 19 rfl) rfl hl (by decide) rfl (fun ls hl => ?_)
          refine lv_iinc (v := (s45_.2.2.1 + 1)) (lv' := [(4, .int (s45_.2.2.1 + 1)), (3, .int ((pl_puts v66) + (so_loads v92))), (2, .int s45_.2.2.1), (5, .int ((pl_puts v66) + (so_loads v92))), (0, .ref h0)]) hx hb (kd tdlX8_bestLimit_1 20 rfl) hl (k := 4) rfl rfl (by decide) rfl (fun ls hl => ?_)
          refine lv_goto (tgt := 45) hx hb (kd tdlX8_bestLimit_1 21 rfl) (by decide) ?_
          exact ih45 (s45_.2.2.1, ((pl_puts v66) + (so_loads v92)), (s45_.2.2.1 + 1), v66, v92) hF _ _ _ hP hD hS (lv_sub hl [4, 2, 1, 0] rfl)
  · have hF := kt hc12 hF
    cases ko hF
    exact absurd (show (1 : Nat) = 0 from hcd0) (by decide)
set_option maxHeartbeats 4000000 in
set_option maxRecDepth 100000 in
theorem c_X8_withoutGroups (l : Launch) (D : va_G) (t : Nat → ClassId)  (sz : Nat) (p0 : Int64) (p2 : Int32) (r : Int64) (hF : F_X8_withoutGroups p0 p2 = some r) : Met l yX8_withoutGroups wX8_withoutGroups ({ frames := 0, cells := 0, slots := 0, locals := 0 } : Room) (kPc D (TY t) ([] : va_W) [.long p0, .int p2] sz) (kQl D (TY t) ([] : va_W) r (va_A ([] : va_W) sz)) 0 0 (va_A ([] : va_W) sz) := by
  refine kE (cc := cX8_withoutGroups) (maxL := 6) (ret := (some .long)) (Qx := fun A => kQl D (TY t) ([] : va_W) r A) (lv0 := [(0, .long p0), (2, .int p2)]) RX8 rfl (by decide) rfl (Nat.le_of_ble_eq_true rfl) rfl ?_
  intro p e s m args below meth c A ls hx hb hml hr hlocks hown hts hA hK hP hD hS hl
  have Lc277 := hts (.constantLong RX8 277 (10000)) (List.mem_cons_of_mem _ w_615)
  have hP : va_P D vwCl (([] : va_W)) s.heap := hP
  have hD : va_D A (([] : va_W)) := hD
  refine lv_lload_n hx hb (kd tdlX8_withoutGroups_0 0 rfl) rfl (lv_at hl 0 rfl) ?_
  refine lv_lstore_n (lv' := [(3, .long p0), (0, .long p0), (2, .int p2)]) hx hb (kd tdlX8_withoutGroups_0 1 rfl) rfl hl (by decide) rfl (fun ls hl => ?_)
  refine lv_iconst (v := 0) hx hb (kd tdlX8_withoutGroups_0 2 rfl) (by decide) ?_
  refine lv_istore (lv' := [(5, .int 0), (3, .long p0), (0, .long p0), (2, .int p2)]) hx hb (kd tdlX8_withoutGroups_0 3 rfl) hl (by decide) rfl (fun ls hl => ?_)
  refine lp_ind (f := B_X8_withoutGroups_5 p2) (r := r) (P := fun s5_ => ∀ (H : Heap) (locs : List Loc) (ls : Array Slot), va_P D vwCl (([] : va_W)) H → va_D A (([] : va_W)) → va_S A s.heap H locs → lv_has ls 6 [(2, .int p2), (3, .long s5_.1), (5, .int s5_.2)] → W p l e ({ frames := 0, cells := 0, slots := 0, locals := 0 } : Room) s m args below meth c H locs 0 0 (MQ below (kQl D (TY t) ([] : va_W) r A) args s 0 0 A) (F0 m 5 ls [])) ?_ FU (p0, 0) hF _ _ _ hP hD hS (lv_sub hl [3, 1, 0] rfl)
  intro self5 ih5 s5_ hF H locs ls hP hD hS hl
  refine lv_iload hx hb (kd tdlX8_withoutGroups_0 4 rfl) (lv_at hl 2 rfl) ?_
  refine lv_iload_n hx hb (kd tdlX8_withoutGroups_0 5 rfl) rfl (lv_at hl 0 rfl) ?_
  refine lv_icmp_ge (tgt := 23) hx hb (kd tdlX8_withoutGroups_0 6 rfl) (by decide) (fun hc8 => ?_) (fun hc8 => ?_)
  · have hF := kt hc8 hF
    refine lv_lload_n hx hb (kd tdlX8_withoutGroups_0 13 rfl) rfl (lv_at hl 1 rfl) ?_
    cases ko hF
    exact ke_l hx hb hr hlocks hK hP hD hS rfl (kd tdlX8_withoutGroups_0 14 rfl)
  · have hF := kf hc8 hF
    refine lv_lload_n hx hb (kd tdlX8_withoutGroups_0 7 rfl) rfl (lv_at hl 1 rfl) ?_
    refine lv_ldc2 (v := (10000)) hx hb hown Lc277 (kd tdlX8_withoutGroups_0 8 rfl) ?_
    obtain ⟨hz15, hF⟩ := kgzl hF
    refine lv_ldiv hx hb (kd tdlX8_withoutGroups_0 9 rfl) hz15 ?_
    refine lv_lstore_n (lv' := [(3, .long (s5_.1 / (10000))), (2, .int p2), (5, .int s5_.2)]) hx hb (kd tdlX8_withoutGroups_0 10 rfl) rfl hl (by decide) rfl (fun ls hl => ?_)
    refine lv_iinc (v := (s5_.2 + 1)) (lv' := [(5, .int (s5_.2 + 1)), (3, .long (s5_.1 / (10000))), (2, .int p2)]) hx hb (kd tdlX8_withoutGroups_0 11 rfl) hl (k := 2) rfl rfl (by decide) rfl (fun ls hl => ?_)
    refine lv_goto (tgt := 5) hx hb (kd tdlX8_withoutGroups_0 12 rfl) (by decide) ?_
    exact ih5 ((s5_.1 / (10000)), (s5_.2 + 1)) hF _ _ _ hP hD hS (lv_sub hl [2, 1, 0] rfl)
set_option maxHeartbeats 4000000 in
set_option maxRecDepth 100000 in
theorem c_X8_setsOnTrial (l : Launch) (D : va_G) (t : Nat → ClassId) (h0 : Nat) (g0 : Nat → Nat) (a_trial : Nat → Nat) (d_trial : DKT) (sz : Nat) (p1 : Int32) (p2 : Int32) (r : Int32 × DKT) (hF : F_X8_setsOnTrial d_trial p1 p2 = some r) : Met l yX8_setsOnTrial wX8_setsOnTrial ({ frames := 2, cells := 0, slots := 0, locals := 44 } : Room) (kPx D (TY t) (kflat [(wx8 h0 g0), (wdk t (g0 2) a_trial d_trial)]) [.ref h0, .int p1, .int p2] sz) (kQiS D (TY t) (fun (u : Unit) => (kflat [(wx8 h0 g0), (wdk t (g0 2) a_trial r.2)])) r.1 (va_A (kflat [(wx8 h0 g0), (wdk t (g0 2) a_trial d_trial)]) sz)) 0 0 (va_A (kflat [(wx8 h0 g0), (wdk t (g0 2) a_trial d_trial)]) sz) := by
  refine kEx (cc := cX8_setsOnTrial) (maxL := 3) (ret := (some .boolean)) (Qx := fun A => kQiS D (TY t) (fun (u : Unit) => (kflat [(wx8 h0 g0), (wdk t (g0 2) a_trial r.2)])) r.1 A) (lv0 := [(0, .ref h0), (1, .int p1), (2, .int p2)]) RX8 rfl (by decide) rfl (Nat.le_of_ble_eq_true rfl) rfl ?_
  intro p e s m args below meth c A ls hx hb hml hr hlocks hown hts hA hX hK hP hD hS hl
  have L23 := hts (.fieldLink RX8 23 "ChunkCarriers" "trial" "LChunkCarriers$Desk;") (List.mem_cons_of_mem _ w_19)
  have inX8_ : ∀ w ∈ wsX80, w ∈ wX8_setsOnTrial := fun w h => List.mem_cons_of_mem _ (inlX8 w h)
  refine lv_iload_n hx hb (kd tdlX8_setsOnTrial_0 0 rfl) rfl (lv_at hl 1 rfl) ?_
  refine lv_iload_n hx hb (kd tdlX8_setsOnTrial_0 1 rfl) rfl (lv_at hl 2 rfl) ?_
  obtain ⟨v2, e2, hF⟩ := kc hF
  refine kcL_i (S := Unit) (wf := (fun (_ : Unit) => [])) hP hD hS hA nd_ rfl (fun _ => rfl) (kL_SX (Qx := (fun A => kQiS D (TY t) (fun (u2 : Unit) => kflat []) v2 A)) (cs := []) (is := []) (As := [.int p1, .int p2]) (rest := []) ⟨hx, hb, hml, hown, hts⟩ hX hS hA hK hP hD nd_ rfl (c_X8_isSetting l D t  _ p1 p2 v2 e2) (va_cwS 2 hts (gcX8_isSetting w_418) rfl rfl rfl hdX8_isSettingS ⟨Nat.le_of_ble_eq_true rfl, Nat.le_of_ble_eq_true rfl⟩) rfl hl.1 rfl (Nat.le_of_ble_eq_true rfl) (kd tdlX8_setsOnTrial_0 2 rfl) ⟨Nat.le_of_ble_eq_true rfl, Nat.le_of_ble_eq_true rfl⟩) (fun _ H locs hP hD hS => ?_)
  have hP : va_P D vwCl (kflat [(wx8 h0 g0), (wdk t (g0 2) a_trial d_trial)]) H := hP
  have hD : va_D A (kflat [(wx8 h0 g0), (wdk t (g0 2) a_trial d_trial)]) := hD
  refine lv_if_ne (tgt := 10) hx hb (kd tdlX8_setsOnTrial_0 3 rfl) (by decide) (fun hc5 => ?_) (fun hc5 => ?_)
  · have hF := kf hc5 hF
    refine lv_aload_n hx hb (kd tdlX8_setsOnTrial_0 6 rfl) rfl (lv_at hl 0 rfl) ?_
    refine va_get (D := D) (ci := 7) (v := .ref (g0 2)) (C := RX8) (T := TX8) (N := 9) hx hb hts inX8_ hown hK hP 0 rfl rfl 2 (by decide) L23 (fun _ h9 => h9) rfl (kd tdlX8_setsOnTrial_0 7 rfl) ?_
    refine lv_iload_n hx hb (kd tdlX8_setsOnTrial_0 8 rfl) rfl (lv_at hl 1 rfl) ?_
    refine lv_iload_n hx hb (kd tdlX8_setsOnTrial_0 9 rfl) rfl (lv_at hl 2 rfl) ?_
    obtain ⟨v16, e16, hF⟩ := kc hF
    refine kcL_i (S := Unit) (wf := (fun (_ : Unit) => [(wdk t (g0 2) a_trial v16.2)])) hP hD hS hA nd_1 rfl (fun _ => rfl) (kL_VX (Qx := (fun A => kQiS D (TY t) (fun (u16 : Unit) => kflat [(wdk t (g0 2) a_trial v16.2)]) v16.1 A)) (cs := [(wdk t (g0 2) a_trial d_trial)]) (is := [1]) (As := [.int p1, .int p2]) (rest := []) ⟨hx, hb, hml, hown, hts⟩ hX hS hA hK hP hD nd_1 rfl (c_X1_changeSetting l D t (g0 2) a_trial d_trial _ p1 p2 v16 e16) (cwV 2 hts (gcX1_changeSetting w_423) rfl rfl rfl hdX1_changeSettingV ⟨Nat.le_of_ble_eq_true rfl, Nat.le_of_ble_eq_true rfl⟩) (ci := 1) (q0 := 1) rfl rfl rfl hl.1 rfl (Nat.le_of_ble_eq_true rfl) (kd tdlX8_setsOnTrial_0 10 rfl) ⟨Nat.le_of_ble_eq_true rfl, Nat.le_of_ble_eq_true rfl⟩) (fun _ H locs hP hD hS => ?_)
    have hP : va_P D vwCl (kflat [(wx8 h0 g0), (wdk t (g0 2) a_trial v16.2)]) H := hP
    have hD : va_D A (kflat [(wx8 h0 g0), (wdk t (g0 2) a_trial v16.2)]) := hD
    refine lv_pop hx hb (kd tdlX8_setsOnTrial_0 11 rfl) rfl ?_
    refine lv_iconst (v := 1) hx hb (kd tdlX8_setsOnTrial_0 12 rfl) (by decide) ?_
    cases ko hF
    exact kes_z () hx hb hr hlocks rfl hK hP hD hS rfl (Nat.le_of_ble_eq_true rfl) (Nat.le_of_ble_eq_true rfl) (kd tdlX8_setsOnTrial_0 13 rfl)
  · have hF := kt hc5 hF
    refine lv_iconst (v := 0) hx hb (kd tdlX8_setsOnTrial_0 4 rfl) (by decide) ?_
    cases ko hF
    exact kes_z () hx hb hr hlocks rfl hK hP hD hS rfl (Nat.le_of_ble_eq_true rfl) (Nat.le_of_ble_eq_true rfl) (kd tdlX8_setsOnTrial_0 5 rfl)
set_option maxHeartbeats 4000000 in
set_option maxRecDepth 100000 in
theorem c_X8_deletesOnTrial (l : Launch) (D : va_G) (t : Nat → ClassId) (h0 : Nat) (g0 : Nat → Nat) (a_trial : Nat → Nat) (d_trial : DKT) (sz : Nat) (p1 : Int32) (r : Int32 × DKT) (hF : F_X8_deletesOnTrial d_trial p1 = some r) : Met l yX8_deletesOnTrial wX8_deletesOnTrial ({ frames := 4, cells := 0, slots := 0, locals := 88 } : Room) (kPx D (TY t) (kflat [(wx8 h0 g0), (wdk t (g0 2) a_trial d_trial)]) [.ref h0, .int p1] sz) (kQiS D (TY t) (fun (u : Unit) => (kflat [(wx8 h0 g0), (wdk t (g0 2) a_trial r.2)])) r.1 (va_A (kflat [(wx8 h0 g0), (wdk t (g0 2) a_trial d_trial)]) sz)) 0 0 (va_A (kflat [(wx8 h0 g0), (wdk t (g0 2) a_trial d_trial)]) sz) := by
  refine kEx (cc := cX8_deletesOnTrial) (maxL := 2) (ret := (some .boolean)) (Qx := fun A => kQiS D (TY t) (fun (u : Unit) => (kflat [(wx8 h0 g0), (wdk t (g0 2) a_trial r.2)])) r.1 A) (lv0 := [(0, .ref h0), (1, .int p1)]) RX8 rfl (by decide) rfl (Nat.le_of_ble_eq_true rfl) rfl ?_
  intro p e s m args below meth c A ls hx hb hml hr hlocks hown hts hA hX hK hP hD hS hl
  have L23 := hts (.fieldLink RX8 23 "ChunkCarriers" "trial" "LChunkCarriers$Desk;") (List.mem_cons_of_mem _ w_19)
  have inX8_ : ∀ w ∈ wsX80, w ∈ wX8_deletesOnTrial := fun w h => List.mem_cons_of_mem _ (inlX8 w h)
  refine lv_aload_n hx hb (kd tdlX8_deletesOnTrial_0 0 rfl) rfl (lv_at hl 0 rfl) ?_
  refine va_get (D := D) (ci := 7) (v := .ref (g0 2)) (C := RX8) (T := TX8) (N := 9) hx hb hts inX8_ hown hK hP 0 rfl rfl 2 (by decide) L23 (fun _ h9 => h9) rfl (kd tdlX8_deletesOnTrial_0 1 rfl) ?_
  refine lv_iload_n hx hb (kd tdlX8_deletesOnTrial_0 2 rfl) rfl (lv_at hl 1 rfl) ?_
  obtain ⟨v5, e5, hF⟩ := kc hF
  refine kcL_i (S := Unit) (wf := (fun (_ : Unit) => [(wdk t (g0 2) a_trial d_trial)])) hP hD hS hA nd_1 rfl (fun _ => rfl) (kL_V (Qx := (fun A => kQi D (TY t) (kflat [(wdk t (g0 2) a_trial d_trial)]) v5 A)) (cs := [(wdk t (g0 2) a_trial d_trial)]) (is := [1]) (As := [.int p1]) (rest := []) ⟨hx, hb, hml, hown, hts⟩ hK hP hD nd_1 rfl (c_X1_hasBackup l D t (g0 2) a_trial d_trial _ p1 v5 e5) (cwV 1 hts (gcX1_hasBackup w_280) rfl rfl rfl hdX1_hasBackupV ⟨Nat.le_of_ble_eq_true rfl, Nat.le_of_ble_eq_true rfl⟩) (ci := 1) (q0 := 1) rfl rfl rfl hl.1 rfl (Nat.le_of_ble_eq_true rfl) (kd tdlX8_deletesOnTrial_0 3 rfl) ⟨Nat.le_of_ble_eq_true rfl, Nat.le_of_ble_eq_true rfl⟩) (fun _ H locs hP hD hS => ?_)
  have hP : va_P D vwCl (kflat [(wx8 h0 g0), (wdk t (g0 2) a_trial d_trial)]) H := hP
  have hD : va_D A (kflat [(wx8 h0 g0), (wdk t (g0 2) a_trial d_trial)]) := hD
  refine lv_if_ne (tgt := 13) hx hb (kd tdlX8_deletesOnTrial_0 4 rfl) (by decide) (fun hc8 => ?_) (fun hc8 => ?_)
  · have hF := kf hc8 hF
    refine lv_aload_n hx hb (kd tdlX8_deletesOnTrial_0 7 rfl) rfl (lv_at hl 0 rfl) ?_
    refine va_get (D := D) (ci := 7) (v := .ref (g0 2)) (C := RX8) (T := TX8) (N := 9) hx hb hts inX8_ hown hK hP 0 rfl rfl 2 (by decide) L23 (fun _ h9 => h9) rfl (kd tdlX8_deletesOnTrial_0 8 rfl) ?_
    refine lv_iload_n hx hb (kd tdlX8_deletesOnTrial_0 9 rfl) rfl (lv_at hl 1 rfl) ?_
    obtain ⟨v18, e18, hF⟩ := kc hF
    refine kcL_i (S := Unit) (wf := (fun (_ : Unit) => [(wdk t (g0 2) a_trial v18.2)])) hP hD hS hA nd_1 rfl (fun _ => rfl) (kL_V (Qx := (fun A => kQi D (TY t) (kflat [(wdk t (g0 2) a_trial v18.2)]) v18.1 A)) (cs := [(wdk t (g0 2) a_trial d_trial)]) (is := [1]) (As := [.int p1]) (rest := []) ⟨hx, hb, hml, hown, hts⟩ hK hP hD nd_1 rfl (c_X1_removeBackup l D t (g0 2) a_trial d_trial _ p1 v18 e18) (cwV 1 hts (gcX1_removeBackup w_353) rfl rfl rfl hdX1_removeBackupV ⟨Nat.le_of_ble_eq_true rfl, Nat.le_of_ble_eq_true rfl⟩) (ci := 1) (q0 := 1) rfl rfl rfl hl.1 rfl (Nat.le_of_ble_eq_true rfl) (kd tdlX8_deletesOnTrial_0 10 rfl) ⟨Nat.le_of_ble_eq_true rfl, Nat.le_of_ble_eq_true rfl⟩) (fun _ H locs hP hD hS => ?_)
    have hP : va_P D vwCl (kflat [(wx8 h0 g0), (wdk t (g0 2) a_trial v18.2)]) H := hP
    have hD : va_D A (kflat [(wx8 h0 g0), (wdk t (g0 2) a_trial v18.2)]) := hD
    refine lv_pop hx hb (kd tdlX8_deletesOnTrial_0 11 rfl) rfl ?_
    refine lv_iconst (v := 1) hx hb (kd tdlX8_deletesOnTrial_0 12 rfl) (by decide) ?_
    cases ko hF
    exact kes_z () hx hb hr hlocks rfl hK hP hD hS rfl (Nat.le_of_ble_eq_true rfl) (Nat.le_of_ble_eq_true rfl) (kd tdlX8_deletesOnTrial_0 13 rfl)
  · have hF := kt hc8 hF
    refine lv_iconst (v := 0) hx hb (kd tdlX8_deletesOnTrial_0 5 rfl) (by decide) ?_
    cases ko hF
    exact kes_z () hx hb hr hlocks rfl hK hP hD hS rfl (Nat.le_of_ble_eq_true rfl) (Nat.le_of_ble_eq_true rfl) (kd tdlX8_deletesOnTrial_0 6 rfl)
set_option maxHeartbeats 4000000 in
set_option maxRecDepth 100000 in
theorem c_X8_backsUpOnTrial (l : Launch) (D : va_G) (t : Nat → ClassId) (h0 : Nat) (g0 : Nat → Nat) (a_trial : Nat → Nat) (d_trial : DKT) (a_stream : Nat → Nat) (d_stream : SMT) (a_plan : Nat → Nat) (d_plan : PLT) (sz : Nat)  (r : Int32 × DKT × SMT × PLT) (hF : F_X8_backsUpOnTrial d_trial d_stream d_plan = some r) : Met l yX8_backsUpOnTrial wX8_backsUpOnTrial ({ frames := 5, cells := 0, slots := 0, locals := 113 } : Room) (kPx D (TY t) (kflat [(wx8 h0 g0), (wdk t (g0 2) a_trial d_trial), (wsm t (g0 5) a_stream d_stream), (wpl t (g0 6) a_plan d_plan)]) [.ref h0] sz) (kQiS D (TY t) (fun (u : Unit) => (kflat [(wx8 h0 g0), (wdk t (g0 2) a_trial r.2.1), (wsm t (g0 5) a_stream r.2.2.1), (wpl t (g0 6) a_plan r.2.2.2)])) r.1 (va_A (kflat [(wx8 h0 g0), (wdk t (g0 2) a_trial d_trial), (wsm t (g0 5) a_stream d_stream), (wpl t (g0 6) a_plan d_plan)]) sz)) 0 0 (va_A (kflat [(wx8 h0 g0), (wdk t (g0 2) a_trial d_trial), (wsm t (g0 5) a_stream d_stream), (wpl t (g0 6) a_plan d_plan)]) sz) := by
  refine kEx (cc := cX8_backsUpOnTrial) (maxL := 1) (ret := (some .boolean)) (Qx := fun A => kQiS D (TY t) (fun (u : Unit) => (kflat [(wx8 h0 g0), (wdk t (g0 2) a_trial r.2.1), (wsm t (g0 5) a_stream r.2.2.1), (wpl t (g0 6) a_plan r.2.2.2)])) r.1 A) (lv0 := [(0, .ref h0)]) RX8 rfl (by decide) rfl (Nat.le_of_ble_eq_true rfl) rfl ?_
  intro p e s m args below meth c A ls hx hb hml hr hlocks hown hts hA hX hK hP hD hS hl
  have L23 := hts (.fieldLink RX8 23 "ChunkCarriers" "trial" "LChunkCarriers$Desk;") (List.mem_cons_of_mem _ w_19)
  have L40 := hts (.fieldLink RX8 40 "ChunkCarriers" "stream" "LChunkCarriers$Stream;") (List.mem_cons_of_mem _ w_28)
  have L47 := hts (.fieldLink RX8 47 "ChunkCarriers" "plan" "LChunkCarriers$Plan;") (List.mem_cons_of_mem _ w_32)
  have inX8_ : ∀ w ∈ wsX80, w ∈ wX8_backsUpOnTrial := fun w h => List.mem_cons_of_mem _ (inlX8 w h)
  refine lv_aload_n hx hb (kd tdlX8_backsUpOnTrial_0 0 rfl) rfl (lv_at hl 0 rfl) ?_
  refine lv_aload_n hx hb (kd tdlX8_backsUpOnTrial_0 1 rfl) rfl (lv_at hl 0 rfl) ?_
  refine va_get (D := D) (ci := 7) (v := .ref (g0 2)) (C := RX8) (T := TX8) (N := 9) hx hb hts inX8_ hown hK hP 0 rfl rfl 2 (by decide) L23 (fun _ h9 => h9) rfl (kd tdlX8_backsUpOnTrial_0 2 rfl) ?_
  obtain ⟨v5, e5, hF⟩ := kc hF
  refine kcL_v (S := Unit) (wf := (fun (_ : Unit) => [(wx8 h0 g0), (wsm t (g0 5) a_stream v5.1), (wpl t (g0 6) a_plan v5.2), (wdk t (g0 2) a_trial d_trial)])) hP hD hS hA nd_0_2_3_1 rfl (fun _ => rfl) (kL_VX (Qx := (fun A => kQvS D (TY t) (fun (u5 : Unit) => kflat [(wx8 h0 g0), (wsm t (g0 5) a_stream v5.1), (wpl t (g0 6) a_plan v5.2), (wdk t (g0 2) a_trial d_trial)]) A)) (cs := [(wx8 h0 g0), (wsm t (g0 5) a_stream d_stream), (wpl t (g0 6) a_plan d_plan), (wdk t (g0 2) a_trial d_trial)]) (is := [0, 2, 3, 1]) (As := [.ref (g0 2)]) (rest := []) ⟨hx, hb, hml, hown, hts⟩ hX hS hA hK hP hD nd_0_2_3_1 rfl (c_X8_planWith l D t h0 g0 a_stream d_stream a_plan d_plan (g0 2) a_trial d_trial _  v5 e5) (cwV 1 hts (gcX8_planWith w_488) rfl rfl rfl hdX8_planWithV ⟨Nat.le_of_ble_eq_true rfl, Nat.le_of_ble_eq_true rfl⟩) (ci := 7) (q0 := 0) rfl rfl rfl hl.1 rfl (Nat.le_of_ble_eq_true rfl) (kd tdlX8_backsUpOnTrial_0 3 rfl) ⟨Nat.le_of_ble_eq_true rfl, Nat.le_of_ble_eq_true rfl⟩) (fun _ H locs hP hD hS => ?_)
  have hP : va_P D vwCl (kflat [(wx8 h0 g0), (wdk t (g0 2) a_trial d_trial), (wsm t (g0 5) a_stream v5.1), (wpl t (g0 6) a_plan v5.2)]) H := hP
  have hD : va_D A (kflat [(wx8 h0 g0), (wdk t (g0 2) a_trial d_trial), (wsm t (g0 5) a_stream v5.1), (wpl t (g0 6) a_plan v5.2)]) := hD
  refine lv_aload_n hx hb (kd tdlX8_backsUpOnTrial_0 4 rfl) rfl (lv_at hl 0 rfl) ?_
  refine va_get (D := D) (ci := 7) (v := .ref (g0 2)) (C := RX8) (T := TX8) (N := 9) hx hb hts inX8_ hown hK hP 0 rfl rfl 2 (by decide) L23 (fun _ h9 => h9) rfl (kd tdlX8_backsUpOnTrial_0 5 rfl) ?_
  refine lv_aload_n hx hb (kd tdlX8_backsUpOnTrial_0 6 rfl) rfl (lv_at hl 0 rfl) ?_
  refine va_get (D := D) (ci := 7) (v := .ref (g0 6)) (C := RX8) (T := TX8) (N := 9) hx hb hts inX8_ hown hK hP 0 rfl rfl 6 (by decide) L47 (fun _ h9 => h9) rfl (kd tdlX8_backsUpOnTrial_0 7 rfl) ?_
  obtain ⟨v16, e16, hF⟩ := kc hF
  refine kcL_i (S := Unit) (wf := (fun (_ : Unit) => [(wdk t (g0 2) a_trial d_trial), (wpl t (g0 6) a_plan v5.2)])) hP hD hS hA nd_1_3 rfl (fun _ => rfl) (kL_V (Qx := (fun A => kQi D (TY t) (kflat [(wdk t (g0 2) a_trial d_trial), (wpl t (g0 6) a_plan v5.2)]) v16 A)) (cs := [(wdk t (g0 2) a_trial d_trial), (wpl t (g0 6) a_plan v5.2)]) (is := [1, 3]) (As := [.ref (g0 6)]) (rest := []) ⟨hx, hb, hml, hown, hts⟩ hK hP hD nd_1_3 rfl (c_X1_allows l D t (g0 2) a_trial d_trial (g0 6) a_plan v5.2 _  v16 e16) (cwV 1 hts (gcX1_allows w_560) rfl rfl rfl hdX1_allowsV ⟨Nat.le_of_ble_eq_true rfl, Nat.le_of_ble_eq_true rfl⟩) (ci := 1) (q0 := 1) rfl rfl rfl hl.1 rfl (Nat.le_of_ble_eq_true rfl) (kd tdlX8_backsUpOnTrial_0 8 rfl) ⟨Nat.le_of_ble_eq_true rfl, Nat.le_of_ble_eq_true rfl⟩) (fun _ H locs hP hD hS => ?_)
  have hP : va_P D vwCl (kflat [(wx8 h0 g0), (wdk t (g0 2) a_trial d_trial), (wsm t (g0 5) a_stream v5.1), (wpl t (g0 6) a_plan v5.2)]) H := hP
  have hD : va_D A (kflat [(wx8 h0 g0), (wdk t (g0 2) a_trial d_trial), (wsm t (g0 5) a_stream v5.1), (wpl t (g0 6) a_plan v5.2)]) := hD
  refine lv_if_ne (tgt := 24) hx hb (kd tdlX8_backsUpOnTrial_0 9 rfl) (by decide) (fun hc19 => ?_) (fun hc19 => ?_)
  · have hF := kf hc19 hF
    refine lv_aload_n hx hb (kd tdlX8_backsUpOnTrial_0 12 rfl) rfl (lv_at hl 0 rfl) ?_
    refine va_get (D := D) (ci := 7) (v := .ref (g0 2)) (C := RX8) (T := TX8) (N := 9) hx hb hts inX8_ hown hK hP 0 rfl rfl 2 (by decide) L23 (fun _ h9 => h9) rfl (kd tdlX8_backsUpOnTrial_0 13 rfl) ?_
    refine lv_aload_n hx hb (kd tdlX8_backsUpOnTrial_0 14 rfl) rfl (lv_at hl 0 rfl) ?_
    refine va_get (D := D) (ci := 7) (v := .ref (g0 6)) (C := RX8) (T := TX8) (N := 9) hx hb hts inX8_ hown hK hP 0 rfl rfl 6 (by decide) L47 (fun _ h9 => h9) rfl (kd tdlX8_backsUpOnTrial_0 15 rfl) ?_
    refine lv_aload_n hx hb (kd tdlX8_backsUpOnTrial_0 16 rfl) rfl (lv_at hl 0 rfl) ?_
    refine va_get (D := D) (ci := 7) (v := .ref (g0 5)) (C := RX8) (T := TX8) (N := 9) hx hb hts inX8_ hown hK hP 0 rfl rfl 5 (by decide) L40 (fun _ h9 => h9) rfl (kd tdlX8_backsUpOnTrial_0 17 rfl) ?_
    obtain ⟨v36, e36, hF⟩ := kc hF
    refine kcL_i (S := Unit) (wf := (fun (_ : Unit) => [(wdk t (g0 2) a_trial v36.2), (wpl t (g0 6) a_plan v5.2), (wsm t (g0 5) a_stream v5.1)])) hP hD hS hA nd_1_3_2 rfl (fun _ => rfl) (kL_V (Qx := (fun A => kQi D (TY t) (kflat [(wdk t (g0 2) a_trial v36.2), (wpl t (g0 6) a_plan v5.2), (wsm t (g0 5) a_stream v5.1)]) v36.1 A)) (cs := [(wdk t (g0 2) a_trial d_trial), (wpl t (g0 6) a_plan v5.2), (wsm t (g0 5) a_stream v5.1)]) (is := [1, 3, 2]) (As := [.ref (g0 6), .ref (g0 5)]) (rest := []) ⟨hx, hb, hml, hown, hts⟩ hK hP hD nd_1_3_2 rfl (c_X1_addBackup l D t (g0 2) a_trial d_trial (g0 6) a_plan v5.2 (g0 5) a_stream v5.1 _  v36 e36) (cwV 2 hts (gcX1_addBackup w_569) rfl rfl rfl hdX1_addBackupV ⟨Nat.le_of_ble_eq_true rfl, Nat.le_of_ble_eq_true rfl⟩) (ci := 1) (q0 := 1) rfl rfl rfl hl.1 rfl (Nat.le_of_ble_eq_true rfl) (kd tdlX8_backsUpOnTrial_0 18 rfl) ⟨Nat.le_of_ble_eq_true rfl, Nat.le_of_ble_eq_true rfl⟩) (fun _ H locs hP hD hS => ?_)
    have hP : va_P D vwCl (kflat [(wx8 h0 g0), (wdk t (g0 2) a_trial v36.2), (wsm t (g0 5) a_stream v5.1), (wpl t (g0 6) a_plan v5.2)]) H := hP
    have hD : va_D A (kflat [(wx8 h0 g0), (wdk t (g0 2) a_trial v36.2), (wsm t (g0 5) a_stream v5.1), (wpl t (g0 6) a_plan v5.2)]) := hD
    refine lv_pop hx hb (kd tdlX8_backsUpOnTrial_0 19 rfl) rfl ?_
    refine lv_iconst (v := 1) hx hb (kd tdlX8_backsUpOnTrial_0 20 rfl) (by decide) ?_
    cases ko hF
    exact kes_z () hx hb hr hlocks rfl hK hP hD hS rfl (Nat.le_of_ble_eq_true rfl) (Nat.le_of_ble_eq_true rfl) (kd tdlX8_backsUpOnTrial_0 21 rfl)
  · have hF := kt hc19 hF
    refine lv_iconst (v := 0) hx hb (kd tdlX8_backsUpOnTrial_0 10 rfl) (by decide) ?_
    cases ko hF
    exact kes_z () hx hb hr hlocks rfl hK hP hD hS rfl (Nat.le_of_ble_eq_true rfl) (Nat.le_of_ble_eq_true rfl) (kd tdlX8_backsUpOnTrial_0 11 rfl)
