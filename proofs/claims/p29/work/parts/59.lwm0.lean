set_option maxHeartbeats 4000000 in
set_option maxRecDepth 100000 in
theorem c_L_low (l : Launch) (D : va_G) (t : Nat → ClassId)  (sz : Nat) (p0 : Int32) (p1 : Int32) (r : Int32) (hF : F_L_low p0 p1 = some r) : Met l yL_low wL_low ({ frames := 0, cells := 0, slots := 0, locals := 0 } : Room) (kPc D (TY t) ([] : va_W) [.int p0, .int p1] sz) (kQi D (TY t) ([] : va_W) r (va_A ([] : va_W) sz)) 0 0 (va_A ([] : va_W) sz) := by
  refine kE (cc := cL_low) (maxL := 2) (ret := (some .int)) (Qx := fun A => kQi D (TY t) ([] : va_W) r A) (lv0 := [(0, .int p0), (1, .int p1)]) RL rfl (by decide) rfl (Nat.le_of_ble_eq_true rfl) rfl ?_
  intro p e s m args below meth c A ls hx hb hml hr hlocks hown hts hA hK hP hD hS hl
  have Lc7 := hts (.constant RL 7 (2147483647)) (List.mem_cons_of_mem _ w_341)
  have hP : va_P D vwCl (([] : va_W)) s.heap := hP
  have hD : va_D A (([] : va_W)) := hD
  refine lv_iload_n hx hb (kd tdlL_low_0 0 rfl) rfl (lv_at hl 0 rfl) ?_
  refine lv_ldc (v := (2147483647)) hx hb hown Lc7 (kd tdlL_low_0 1 rfl) ?_
  refine lv_iand hx hb (kd tdlL_low_0 2 rfl) ?_
  refine lv_iload_n hx hb (kd tdlL_low_0 3 rfl) rfl (lv_at hl 1 rfl) ?_
  obtain ⟨hz5, hF⟩ := kgz hF
  refine lv_irem hx hb (kd tdlL_low_0 4 rfl) hz5 ?_
  cases ko hF
  exact ke_i hx hb hr hlocks hK hP hD hS rfl (kd tdlL_low_0 5 rfl)
set_option maxHeartbeats 4000000 in
set_option maxRecDepth 100000 in
theorem c_L_worth (l : Launch) (D : va_G) (t : Nat → ClassId)  (sz : Nat) (p0 : Int32) (p1 : Int32) (r : Int32) (hF : F_L_worth p0 p1 = some r) : Met l yL_worth wL_worth ({ frames := 0, cells := 0, slots := 0, locals := 0 } : Room) (kPc D (TY t) ([] : va_W) [.int p0, .int p1] sz) (kQi D (TY t) ([] : va_W) r (va_A ([] : va_W) sz)) 0 0 (va_A ([] : va_W) sz) := by
  refine kE (cc := cL_worth) (maxL := 3) (ret := (some .int)) (Qx := fun A => kQi D (TY t) ([] : va_W) r A) (lv0 := [(0, .int p0), (1, .int p1)]) RL rfl (by decide) rfl (Nat.le_of_ble_eq_true rfl) rfl ?_
  intro p e s m args below meth c A ls hx hb hml hr hlocks hown hts hA hK hP hD hS hl
  have hP : va_P D vwCl (([] : va_W)) s.heap := hP
  have hD : va_D A (([] : va_W)) := hD
  refine lv_iload_n hx hb (kd tdlL_worth_0 0 rfl) rfl (lv_at hl 0 rfl) ?_
  refine lv_iconst (v := 3) hx hb (kd tdlL_worth_0 1 rfl) (by decide) ?_
  refine lv_iload_n hx hb (kd tdlL_worth_0 2 rfl) rfl (lv_at hl 1 rfl) ?_
  refine lv_bipush (v := 7) hx hb (kd tdlL_worth_0 3 rfl) (by decide) ?_
  obtain ⟨hz5, hF⟩ := kgz hF
  refine lv_irem hx hb (kd tdlL_worth_0 4 rfl) hz5 ?_
  refine lv_imul hx hb (kd tdlL_worth_0 5 rfl) ?_
  refine lv_ishr hx hb (kd tdlL_worth_0 6 rfl) ?_
  refine lv_bipush (v := 7) hx hb (kd tdlL_worth_0 7 rfl) (by decide) ?_
  refine lv_iand hx hb (kd tdlL_worth_0 8 rfl) ?_
  refine lv_istore_n (lv' := [(2, .int ((p0 >>> ((3 * (p1 - p1 / 7 * 7)) &&& 31)) &&& 7)), (0, .int p0), (1, .int p1)]) hx hb (kd tdlL_worth_0 9 rfl) rfl hl (by decide) rfl (fun ls hl => ?_)
  refine lv_iload_n hx hb (kd tdlL_worth_0 10 rfl) rfl (lv_at hl 2 rfl) ?_
  refine lv_iload_n hx hb (kd tdlL_worth_0 11 rfl) rfl (lv_at hl 1 rfl) ?_
  refine lv_bipush (v := 22) hx hb (kd tdlL_worth_0 12 rfl) (by decide) ?_
  refine lv_ishr hx hb (kd tdlL_worth_0 13 rfl) ?_
  refine lv_bipush (v := 31) hx hb (kd tdlL_worth_0 14 rfl) (by decide) ?_
  refine lv_iand hx hb (kd tdlL_worth_0 15 rfl) ?_
  refine lv_icmp_ne (tgt := 30) hx hb (kd tdlL_worth_0 16 rfl) (by decide) (fun hc20 => ?_) (fun hc20 => ?_)
  · have hF := kf hc20 hF
    refine lv_iconst (v := 1) hx hb (kd tdlL_worth_0 21 rfl) (by decide) ?_
    refine lv_iload_n hx hb (kd tdlL_worth_0 22 rfl) rfl (lv_at hl 0 rfl) ?_
    refine lv_iadd hx hb (kd tdlL_worth_0 23 rfl) ?_
    cases ko hF
    exact ke_i hx hb hr hlocks hK hP hD hS rfl (kd tdlL_worth_0 24 rfl)
  · have hF := kt hc20 hF
    refine lv_bipush (v := 8) hx hb (kd tdlL_worth_0 17 rfl) (by decide) ?_
    refine lv_iload_n hx hb (kd tdlL_worth_0 18 rfl) rfl (lv_at hl 0 rfl) ?_
    refine lv_isub hx hb (kd tdlL_worth_0 19 rfl) ?_
    refine lv_goto (tgt := 33) hx hb (kd tdlL_worth_0 20 rfl) (by decide) ?_
    cases ko hF
    exact ke_i hx hb hr hlocks hK hP hD hS rfl (kd tdlL_worth_0 24 rfl)
set_option maxHeartbeats 8000000 in
set_option maxRecDepth 100000 in
theorem c_L_type (l : Launch) (D : va_G) (t : Nat → ClassId) (h0 : Nat) (g0 : Nat → Nat) (a_text : Nat → Nat) (d_text : TXT) (sz : Nat) (p1 : Int32) (p2 : Int32) (r : TXT) (hF : F_L_type d_text p1 p2 = some r) : Met l yL_type wL_type ({ frames := 3, cells := 0, slots := 0, locals := 62 } : Room) (kPx D (TY t) (kflat [(wx8 h0 g0), (wtx t (g0 0) a_text d_text)]) [.ref h0, .int p1, .int p2] sz) (kQvS D (TY t) (fun (u : Unit) => (kflat [(wx8 h0 g0), (wtx t (g0 0) a_text r)])) (va_A (kflat [(wx8 h0 g0), (wtx t (g0 0) a_text d_text)]) sz)) 0 0 (va_A (kflat [(wx8 h0 g0), (wtx t (g0 0) a_text d_text)]) sz) := by
  refine kEx (cc := cL_type) (maxL := 4) (ret := none) (Qx := fun A => kQvS D (TY t) (fun (u : Unit) => (kflat [(wx8 h0 g0), (wtx t (g0 0) a_text r)])) A) (lv0 := [(0, .ref h0), (1, .int p1), (2, .int p2)]) RL rfl (by decide) rfl (Nat.le_of_ble_eq_true rfl) rfl ?_
  intro p e s m args below meth c A ls hx hb hml hr hlocks hown hts hA hX hK hP hD hS hl
  refine lv_aload_n hx hb (kd tdlL_type_0 0 rfl) rfl (lv_at hl 0 rfl) ?_
  obtain ⟨v1, e1, hF⟩ := kc hF
  refine kcL_i (S := Unit) (wf := (fun (_ : Unit) => [(wx8 h0 g0), (wtx t (g0 0) a_text v1.2)])) hP hD hS hA nd_0_1 rfl (fun _ => rfl) (kL_VX (Qx := (fun A => kQiS D (TY t) (fun (_ : Unit) => kflat [(wx8 h0 g0), (wtx t (g0 0) a_text v1.2)]) v1.1 A)) (cs := [(wx8 h0 g0), (wtx t (g0 0) a_text d_text)]) (is := [0, 1]) (As := []) (rest := []) ⟨hx, hb, hml, hown, hts⟩ hX hS hA hK hP hD nd_0_1 rfl (c_X8_clearText l D t h0 g0 a_text d_text _  v1 e1) (cwV 0 hts (gcX8_clearText w_431) rfl rfl rfl hdX8_clearTextV ⟨Nat.le_of_ble_eq_true rfl, Nat.le_of_ble_eq_true rfl⟩) (ci := 7) (q0 := 0) rfl rfl rfl hl.1 rfl (Nat.le_of_ble_eq_true rfl) (kd tdlL_type_0 1 rfl) ⟨Nat.le_of_ble_eq_true rfl, Nat.le_of_ble_eq_true rfl⟩) (fun _ H locs hP hD hS => ?_)
  have hP : va_P D vwCl (kflat [(wx8 h0 g0), (wtx t (g0 0) a_text v1.2)]) H := hP
  have hD : va_D A (kflat [(wx8 h0 g0), (wtx t (g0 0) a_text v1.2)]) := hD
  refine lv_pop hx hb (kd tdlL_type_0 2 rfl) rfl ?_
  refine lv_iconst (v := 0) hx hb (kd tdlL_type_0 3 rfl) (by decide) ?_
  refine lv_istore_n (lv' := [(3, .int 0), (0, .ref h0), (1, .int p1), (2, .int p2)]) hx hb (kd tdlL_type_0 4 rfl) rfl hl (by decide) rfl (fun ls hl => ?_)
  refine lp_ind (f := B_L_type_7 p2 p1) (r := r) (P := fun s7_ => ∀ (H : Heap) (locs : List Loc) (ls : Array Slot), va_P D vwCl (kflat [(wx8 h0 g0), (wtx t (g0 0) a_text s7_.2)]) H → va_D A (kflat [(wx8 h0 g0), (wtx t (g0 0) a_text s7_.2)]) → va_S A s.heap H locs → lv_has ls 4 [(0, .ref h0), (1, .int p1), (2, .int p2), (3, .int s7_.1)] → W p l e ({ frames := 3, cells := 0, slots := 0, locals := 62 } : Room) s m args below meth c H locs 0 0 (MQ below (kQvS D (TY t) (fun (u : Unit) => (kflat [(wx8 h0 g0), (wtx t (g0 0) a_text r)])) A) args s 0 0 A) (F0 m 7 ls [])) ?_ FU (0, v1.2) hF _ _ _ hP hD hS (lv_sub hl [1, 2, 3, 0] rfl)
  intro self7 ih7 s7_ hF H locs ls  hP hD hS hl
  refine lv_iload_n hx hb (kd tdlL_type_0 5 rfl) rfl (lv_at hl 3 rfl) ?_
  refine lv_iload_n hx hb (kd tdlL_type_0 6 rfl) rfl (lv_at hl 2 rfl) ?_
  refine lv_icmp_ge (tgt := 31) hx hb (kd tdlL_type_0 7 rfl) (by decide) (fun hc9 => ?_) (fun hc9 => ?_)
  · have hF := kt hc9 hF
    cases ko hF
    exact kes_v () hx hb hr hlocks hK hP hD hS (Nat.le_of_ble_eq_true rfl) (Nat.le_of_ble_eq_true rfl) (kd tdlL_type_0 18 rfl)
  · have hF := kf hc9 hF
    refine lv_aload_n hx hb (kd tdlL_type_0 8 rfl) rfl (lv_at hl 0 rfl) ?_
    refine lv_bipush (v := 96) hx hb (kd tdlL_type_0 9 rfl) (by decide) ?_
    refine lv_iload_n hx hb (kd tdlL_type_0 10 rfl) rfl (lv_at hl 1 rfl) ?_
    refine lv_iload_n hx hb (kd tdlL_type_0 11 rfl) rfl (lv_at hl 3 rfl) ?_
    obtain ⟨v17, e17, hF⟩ := kc hF
    refine kcL_i (S := Unit) (wf := (fun (_ : Unit) => [])) hP hD hS hA nd_ rfl (fun _ => rfl) (kL_S (Qx := (fun A => kQi D (TY t) (kflat []) v17 A)) (cs := []) (is := []) (As := [.int p1, .int s7_.1]) (rest := [.int 96, .ref h0]) ⟨hx, hb, hml, hown, hts⟩ hK hP hD nd_ rfl (c_L_worth l D t  _ p1 s7_.1 v17 e17) (va_cwS 2 hts (gcL_worth w_436) rfl rfl rfl hdL_worthS ⟨Nat.le_of_ble_eq_true rfl, Nat.le_of_ble_eq_true rfl⟩) rfl hl.1 rfl (Nat.le_of_ble_eq_true rfl) (kd tdlL_type_0 12 rfl) ⟨Nat.le_of_ble_eq_true rfl, Nat.le_of_ble_eq_true rfl⟩) (fun _ H locs hP hD hS => ?_)
    have hP : va_P D vwCl (kflat [(wx8 h0 g0), (wtx t (g0 0) a_text s7_.2)]) H := hP
    have hD : va_D A (kflat [(wx8 h0 g0), (wtx t (g0 0) a_text s7_.2)]) := hD
    refine lv_iadd hx hb (kd tdlL_type_0 13 rfl) ?_
    obtain ⟨v21, e21, hF⟩ := kc hF
    obtain ⟨z21, hF⟩ := kz0 hF
    refine kcL_i (S := Unit) (wf := (fun (_ : Unit) => [(wx8 h0 g0), (wtx t (g0 0) a_text v21.2.2)])) hP hD hS hA nd_0_1 rfl (fun _ => rfl) (kL_VX (Qx := (fun A => kQiS D (TY t) (fun (_ : Unit) => kflat [(wx8 h0 g0), (wtx t (g0 0) a_text v21.2.2)]) v21.2.1 A)) (cs := [(wx8 h0 g0), (wtx t (g0 0) a_text s7_.2)]) (is := [0, 1]) (As := [.int ((96 : Int32) + v17)]) (rest := []) ⟨hx, hb, hml, hown, hts⟩ hX hS hA hK hP hD nd_0_1 rfl (c_X8_append l D t h0 g0 a_text s7_.2 _ ((96 : Int32) + v17) v21 e21 z21) (cwV 1 hts (gcX8_append w_439) rfl rfl rfl hdX8_appendV ⟨Nat.le_of_ble_eq_true rfl, Nat.le_of_ble_eq_true rfl⟩) (ci := 7) (q0 := 0) rfl rfl rfl hl.1 rfl (Nat.le_of_ble_eq_true rfl) (kd tdlL_type_0 14 rfl) ⟨Nat.le_of_ble_eq_true rfl, Nat.le_of_ble_eq_true rfl⟩) (fun _ H locs hP hD hS => ?_)
    have hP : va_P D vwCl (kflat [(wx8 h0 g0), (wtx t (g0 0) a_text v21.2.2)]) H := hP
    have hD : va_D A (kflat [(wx8 h0 g0), (wtx t (g0 0) a_text v21.2.2)]) := hD
    refine lv_pop hx hb (kd tdlL_type_0 15 rfl) rfl ?_
    refine lv_iinc (v := (s7_.1 + 1)) (lv' := [(3, .int (s7_.1 + 1)), (0, .ref h0), (1, .int p1), (2, .int p2)]) hx hb (kd tdlL_type_0 16 rfl) hl (k := 3) rfl rfl (by decide) rfl (fun ls hl => ?_)
    refine lv_goto (tgt := 7) hx hb (kd tdlL_type_0 17 rfl) (by decide) ?_
    exact ih7 ((s7_.1 + 1), v21.2.2) hF _ _ _ hP hD hS (lv_sub hl [1, 2, 3, 0] rfl)
set_option maxHeartbeats 8000000 in
set_option maxRecDepth 100000 in
theorem c_L_containersBehind (l : Launch) (D : va_G) (t : Nat → ClassId) (h0 : Nat) (g0 : Nat → Nat) (a_text : Nat → Nat) (d_text : TXT) (a_desk : Nat → Nat) (d_desk : DKT) (a_stream : Nat → Nat) (d_stream : SMT) (a_plan : Nat → Nat) (d_plan : PLT) (sz : Nat)  (r : Int32 × SMT × PLT) (hF : F_L_containersBehind d_text d_desk d_stream d_plan = some r) : Met l yL_containersBehind wL_containersBehind ({ frames := 6, cells := 0, slots := 0, locals := 134 } : Room) (kPx D (TY t) (kflat [(wx8 h0 g0), (wtx t (g0 0) a_text d_text), (wdk t (g0 1) a_desk d_desk), (wsm t (g0 5) a_stream d_stream), (wpl t (g0 6) a_plan d_plan)]) [.ref h0] sz) (kQiS D (TY t) (fun (u : Unit) => (kflat [(wx8 h0 g0), (wtx t (g0 0) a_text d_text), (wdk t (g0 1) a_desk d_desk), (wsm t (g0 5) a_stream r.2.1), (wpl t (g0 6) a_plan r.2.2)])) r.1 (va_A (kflat [(wx8 h0 g0), (wtx t (g0 0) a_text d_text), (wdk t (g0 1) a_desk d_desk), (wsm t (g0 5) a_stream d_stream), (wpl t (g0 6) a_plan d_plan)]) sz)) 0 0 (va_A (kflat [(wx8 h0 g0), (wtx t (g0 0) a_text d_text), (wdk t (g0 1) a_desk d_desk), (wsm t (g0 5) a_stream d_stream), (wpl t (g0 6) a_plan d_plan)]) sz) := by
  refine kEx (cc := cL_containersBehind) (maxL := 5) (ret := (some .int)) (Qx := fun A => kQiS D (TY t) (fun (u : Unit) => (kflat [(wx8 h0 g0), (wtx t (g0 0) a_text d_text), (wdk t (g0 1) a_desk d_desk), (wsm t (g0 5) a_stream r.2.1), (wpl t (g0 6) a_plan r.2.2)])) r.1 A) (lv0 := [(0, .ref h0)]) RL rfl (by decide) rfl (Nat.le_of_ble_eq_true rfl) rfl ?_
  intro p e s m args below meth c A ls hx hb hml hr hlocks hown hts hA hX hK hP hD hS hl
  refine lv_aload_n hx hb (kd tdlL_containersBehind_0 0 rfl) rfl (lv_at hl 0 rfl) ?_
  refine lv_iconst (v := 0) hx hb (kd tdlL_containersBehind_0 1 rfl) (by decide) ?_
  obtain ⟨v2, e2, hF⟩ := kc hF
  obtain ⟨z2, hF⟩ := kz0 hF
  refine kcL_i (S := Unit) (wf := (fun (_ : Unit) => [(wx8 h0 g0), (wdk t (g0 1) a_desk d_desk)])) hP hD hS hA nd_0_2 rfl (fun _ => rfl) (kL_VX (Qx := (fun A => kQiS D (TY t) (fun (_ : Unit) => kflat [(wx8 h0 g0), (wdk t (g0 1) a_desk d_desk)]) v2.2 A)) (cs := [(wx8 h0 g0), (wdk t (g0 1) a_desk d_desk)]) (is := [0, 2]) (As := [.int 0]) (rest := []) ⟨hx, hb, hml, hown, hts⟩ hX hS hA hK hP hD nd_0_2 rfl (c_X8_about l D t h0 g0 a_desk d_desk _ 0 v2 e2 z2) (cwV 1 hts (gcX8_about w_123) rfl rfl rfl hdX8_aboutV ⟨Nat.le_of_ble_eq_true rfl, Nat.le_of_ble_eq_true rfl⟩) (ci := 7) (q0 := 0) rfl rfl rfl hl.1 rfl (Nat.le_of_ble_eq_true rfl) (kd tdlL_containersBehind_0 2 rfl) ⟨Nat.le_of_ble_eq_true rfl, Nat.le_of_ble_eq_true rfl⟩) (fun _ H locs hP hD hS => ?_)
  have hP : va_P D vwCl (kflat [(wx8 h0 g0), (wtx t (g0 0) a_text d_text), (wdk t (g0 1) a_desk d_desk), (wsm t (g0 5) a_stream d_stream), (wpl t (g0 6) a_plan d_plan)]) H := hP
  have hD : va_D A (kflat [(wx8 h0 g0), (wtx t (g0 0) a_text d_text), (wdk t (g0 1) a_desk d_desk), (wsm t (g0 5) a_stream d_stream), (wpl t (g0 6) a_plan d_plan)]) := hD
  refine lv_istore_n (lv' := [(1, .int v2.2), (0, .ref h0)]) hx hb (kd tdlL_containersBehind_0 3 rfl) rfl hl (by decide) rfl (fun ls hl => ?_)
  refine lv_aload_n hx hb (kd tdlL_containersBehind_0 4 rfl) rfl (lv_at hl 1 rfl) ?_
  refine lv_iconst (v := 0) hx hb (kd tdlL_containersBehind_0 5 rfl) (by decide) ?_
  obtain ⟨v8, e8, hF⟩ := kc hF
  obtain ⟨z8, hF⟩ := kz0 hF
  refine kcL_i (S := Unit) (wf := (fun (_ : Unit) => [(wx8 h0 g0), (wtx t (g0 0) a_text d_text), (wdk t (g0 1) a_desk d_desk), (wsm t (g0 5) a_stream v8.2.2.1), (wpl t (g0 6) a_plan v8.2.2.2)])) hP hD hS hA nd_0_1_2_3_4 rfl (fun _ => rfl) (kL_VX (Qx := (fun A => kQiS D (TY t) (fun (_ : Unit) => kflat [(wx8 h0 g0), (wtx t (g0 0) a_text d_text), (wdk t (g0 1) a_desk d_desk), (wsm t (g0 5) a_stream v8.2.2.1), (wpl t (g0 6) a_plan v8.2.2.2)]) v8.2.1 A)) (cs := [(wx8 h0 g0), (wtx t (g0 0) a_text d_text), (wdk t (g0 1) a_desk d_desk), (wsm t (g0 5) a_stream d_stream), (wpl t (g0 6) a_plan d_plan)]) (is := [0, 1, 2, 3, 4]) (As := [.int 0]) (rest := []) ⟨hx, hb, hml, hown, hts⟩ hX hS hA hK hP hD nd_0_1_2_3_4 rfl (c_X8_wouldPut l D t h0 g0 a_text d_text a_desk d_desk a_stream d_stream a_plan d_plan _ 0 v8 e8 z8) (cwV 1 hts (gcX8_wouldPut w_458) rfl rfl rfl hdX8_wouldPutV ⟨Nat.le_of_ble_eq_true rfl, Nat.le_of_ble_eq_true rfl⟩) (ci := 7) (q0 := 0) rfl rfl rfl hl.1 rfl (Nat.le_of_ble_eq_true rfl) (kd tdlL_containersBehind_0 6 rfl) ⟨Nat.le_of_ble_eq_true rfl, Nat.le_of_ble_eq_true rfl⟩) (fun _ H locs hP hD hS => ?_)
  have hP : va_P D vwCl (kflat [(wx8 h0 g0), (wtx t (g0 0) a_text d_text), (wdk t (g0 1) a_desk d_desk), (wsm t (g0 5) a_stream v8.2.2.1), (wpl t (g0 6) a_plan v8.2.2.2)]) H := hP
  have hD : va_D A (kflat [(wx8 h0 g0), (wtx t (g0 0) a_text d_text), (wdk t (g0 1) a_desk d_desk), (wsm t (g0 5) a_stream v8.2.2.1), (wpl t (g0 6) a_plan v8.2.2.2)]) := hD
  refine lv_istore_n (lv' := [(2, .int v8.2.1), (1, .int v2.2), (0, .ref h0)]) hx hb (kd tdlL_containersBehind_0 7 rfl) rfl hl (by decide) rfl (fun ls hl => ?_)
  refine lv_iload_n hx hb (kd tdlL_containersBehind_0 8 rfl) rfl (lv_at hl 1 rfl) ?_
  have hJ27 : ∀ j27 : Int32, J_L_containersBehind_27 d_desk v8 v2 j27 = some r → ∀ (H : Heap) (locs : List Loc) (ls : Array Slot), va_P D vwCl (kflat [(wx8 h0 g0), (wtx t (g0 0) a_text d_text), (wdk t (g0 1) a_desk d_desk), (wsm t (g0 5) a_stream v8.2.2.1), (wpl t (g0 6) a_plan v8.2.2.2)]) H → va_D A (kflat [(wx8 h0 g0), (wtx t (g0 0) a_text d_text), (wdk t (g0 1) a_desk d_desk), (wsm t (g0 5) a_stream v8.2.2.1), (wpl t (g0 6) a_plan v8.2.2.2)]) → va_S A s.heap H locs → lv_has ls 5 [(0, .ref h0), (1, .int v2.2), (2, .int v8.2.1)] → W p l e ({ frames := 6, cells := 0, slots := 0, locals := 134 } : Room) s m args below meth c H locs 0 0 (MQ below (kQiS D (TY t) (fun (u : Unit) => (kflat [(wx8 h0 g0), (wtx t (g0 0) a_text d_text), (wdk t (g0 1) a_desk d_desk), (wsm t (g0 5) a_stream r.2.1), (wpl t (g0 6) a_plan r.2.2)])) r.1 A) args s 0 0 A) (F0 m 27 ls [.int j27]) := by
    intro j27 hF H locs ls  hP hD hS hl
    refine lv_istore_n (lv' := [(3, .int j27), (0, .ref h0), (1, .int v2.2), (2, .int v8.2.1)]) hx hb (kd tdlL_containersBehind_0 17 rfl) rfl hl (by decide) rfl (fun ls hl => ?_)
    refine lv_iload_n hx hb (kd tdlL_containersBehind_0 18 rfl) rfl (lv_at hl 0 rfl) ?_
    have hJ49 : ∀ j49 : Int32, J_L_containersBehind_49 v8 d_desk v2 j49 = some r → ∀ (H : Heap) (locs : List Loc) (ls : Array Slot), va_P D vwCl (kflat [(wx8 h0 g0), (wtx t (g0 0) a_text d_text), (wdk t (g0 1) a_desk d_desk), (wsm t (g0 5) a_stream v8.2.2.1), (wpl t (g0 6) a_plan v8.2.2.2)]) H → va_D A (kflat [(wx8 h0 g0), (wtx t (g0 0) a_text d_text), (wdk t (g0 1) a_desk d_desk), (wsm t (g0 5) a_stream v8.2.2.1), (wpl t (g0 6) a_plan v8.2.2.2)]) → va_S A s.heap H locs → lv_has ls 5 [(0, .ref h0), (1, .int v2.2), (2, .int v8.2.1)] → W p l e ({ frames := 6, cells := 0, slots := 0, locals := 134 } : Room) s m args below meth c H locs 0 0 (MQ below (kQiS D (TY t) (fun (u : Unit) => (kflat [(wx8 h0 g0), (wtx t (g0 0) a_text d_text), (wdk t (g0 1) a_desk d_desk), (wsm t (g0 5) a_stream r.2.1), (wpl t (g0 6) a_plan r.2.2)])) r.1 A) args s 0 0 A) (F0 m 49 ls [.int j49]) := by
      intro j49 hF H locs ls  hP hD hS hl
      refine lv_istore (lv' := [(4, .int j49), (0, .ref h0), (1, .int v2.2), (2, .int v8.2.1)]) hx hb (kd tdlL_containersBehind_0 31 rfl) hl (by decide) rfl (fun ls hl => ?_)
      refine lv_iload_n hx hb (kd tdlL_containersBehind_0 32 rfl) rfl (lv_at hl 3 rfl) ?_
      refine lv_iload hx hb (kd tdlL_containersBehind_0 33 rfl) (lv_at hl 0 rfl) ?_
      refine lv_icmp_gt (tgt := 61) hx hb (kd tdlL_containersBehind_0 34 rfl) (by decide) (fun hc54 => ?_) (fun hc54 => ?_)
      · have hF := kt hc54 hF
        refine lv_iload_n hx hb (kd tdlL_containersBehind_0 37 rfl) rfl (lv_at hl 2 rfl) ?_
        refine lv_iload_n hx hb (kd tdlL_containersBehind_0 38 rfl) rfl (lv_at hl 3 rfl) ?_
        refine lv_iload hx hb (kd tdlL_containersBehind_0 39 rfl) (lv_at hl 0 rfl) ?_
        refine lv_isub hx hb (kd tdlL_containersBehind_0 40 rfl) ?_
        refine lv_aload_n hx hb (kd tdlL_containersBehind_0 41 rfl) rfl (lv_at hl 1 rfl) ?_
        refine lv_iconst (v := 1) hx hb (kd tdlL_containersBehind_0 42 rfl) (by decide) ?_
        obtain ⟨v68, e68, hF⟩ := kc hF
        obtain ⟨z68, hF⟩ := kz0 hF
        refine kcL_i (S := Unit) (wf := (fun (_ : Unit) => [(wx8 h0 g0), (wdk t (g0 1) a_desk d_desk)])) hP hD hS hA nd_0_2 rfl (fun _ => rfl) (kL_VX (Qx := (fun A => kQiS D (TY t) (fun (_ : Unit) => kflat [(wx8 h0 g0), (wdk t (g0 1) a_desk d_desk)]) v68.2 A)) (cs := [(wx8 h0 g0), (wdk t (g0 1) a_desk d_desk)]) (is := [0, 2]) (As := [.int 1]) (rest := [.int (v8.2.1 - j49), .int v2.2]) ⟨hx, hb, hml, hown, hts⟩ hX hS hA hK hP hD nd_0_2 rfl (c_X8_setting l D t h0 g0 a_desk d_desk _ 1 v68 e68 z68) (cwV 1 hts (gcX8_setting w_189) rfl rfl rfl hdX8_settingV ⟨Nat.le_of_ble_eq_true rfl, Nat.le_of_ble_eq_true rfl⟩) (ci := 7) (q0 := 0) rfl rfl rfl hl.1 rfl (Nat.le_of_ble_eq_true rfl) (kd tdlL_containersBehind_0 43 rfl) ⟨Nat.le_of_ble_eq_true rfl, Nat.le_of_ble_eq_true rfl⟩) (fun _ H locs hP hD hS => ?_)
        have hP : va_P D vwCl (kflat [(wx8 h0 g0), (wtx t (g0 0) a_text d_text), (wdk t (g0 1) a_desk d_desk), (wsm t (g0 5) a_stream v8.2.2.1), (wpl t (g0 6) a_plan v8.2.2.2)]) H := hP
        have hD : va_D A (kflat [(wx8 h0 g0), (wtx t (g0 0) a_text d_text), (wdk t (g0 1) a_desk d_desk), (wsm t (g0 5) a_stream v8.2.2.1), (wpl t (g0 6) a_plan v8.2.2.2)]) := hD
        refine lv_iadd hx hb (kd tdlL_containersBehind_0 44 rfl) ?_
        refine lv_iconst (v := 1) hx hb (kd tdlL_containersBehind_1 0 rfl) (by decide) ?_
        refine lv_isub hx hb (kd tdlL_containersBehind_1 1 rfl) ?_
        refine lv_aload_n hx hb (kd tdlL_containersBehind_1 2 rfl) rfl (lv_at hl 1 rfl) ?_
        refine lv_iconst (v := 1) hx hb (kd tdlL_containersBehind_1 3 rfl) (by decide) ?_
        obtain ⟨v76, e76, hF⟩ := kc hF
        obtain ⟨z76, hF⟩ := kz0 hF
        refine kcL_i (S := Unit) (wf := (fun (_ : Unit) => [(wx8 h0 g0), (wdk t (g0 1) a_desk d_desk)])) hP hD hS hA nd_0_2 rfl (fun _ => rfl) (kL_VX (Qx := (fun A => kQiS D (TY t) (fun (_ : Unit) => kflat [(wx8 h0 g0), (wdk t (g0 1) a_desk d_desk)]) v76.2 A)) (cs := [(wx8 h0 g0), (wdk t (g0 1) a_desk d_desk)]) (is := [0, 2]) (As := [.int 1]) (rest := [.int (((v8.2.1 - j49) + v68.2) - 1), .int v2.2]) ⟨hx, hb, hml, hown, hts⟩ hX hS hA hK hP hD nd_0_2 rfl (c_X8_setting l D t h0 g0 a_desk d_desk _ 1 v76 e76 z76) (cwV 1 hts (gcX8_setting w_189) rfl rfl rfl hdX8_settingV ⟨Nat.le_of_ble_eq_true rfl, Nat.le_of_ble_eq_true rfl⟩) (ci := 7) (q0 := 0) rfl rfl rfl hl.1 rfl (Nat.le_of_ble_eq_true rfl) (kd tdlL_containersBehind_1 4 rfl) ⟨Nat.le_of_ble_eq_true rfl, Nat.le_of_ble_eq_true rfl⟩) (fun _ H locs hP hD hS => ?_)
        have hP : va_P D vwCl (kflat [(wx8 h0 g0), (wtx t (g0 0) a_text d_text), (wdk t (g0 1) a_desk d_desk), (wsm t (g0 5) a_stream v8.2.2.1), (wpl t (g0 6) a_plan v8.2.2.2)]) H := hP
        have hD : va_D A (kflat [(wx8 h0 g0), (wtx t (g0 0) a_text d_text), (wdk t (g0 1) a_desk d_desk), (wsm t (g0 5) a_stream v8.2.2.1), (wpl t (g0 6) a_plan v8.2.2.2)]) := hD
        obtain ⟨hz79, hF⟩ := kgz hF
        refine lv_idiv hx hb (kd tdlL_containersBehind_1 5 rfl) hz79 ?_
        refine lv_iadd hx hb (kd tdlL_containersBehind_1 6 rfl) ?_
        cases ko hF
        exact kes_i () hx hb hr hlocks hK hP hD hS rfl (Nat.le_of_ble_eq_true rfl) (Nat.le_of_ble_eq_true rfl) (kd tdlL_containersBehind_1 7 rfl)
      · have hF := kf hc54 hF
        refine lv_iload_n hx hb (kd tdlL_containersBehind_0 35 rfl) rfl (lv_at hl 2 rfl) ?_
        refine lv_goto (tgt := 81) hx hb (kd tdlL_containersBehind_0 36 rfl) (by decide) ?_
        cases ko hF
        exact kes_i () hx hb hr hlocks hK hP hD hS rfl (Nat.le_of_ble_eq_true rfl) (Nat.le_of_ble_eq_true rfl) (kd tdlL_containersBehind_1 7 rfl)
    refine lv_if_ge (tgt := 36) hx hb (kd tdlL_containersBehind_0 19 rfl) (by decide) (fun hc29 => ?_) (fun hc29 => ?_)
    · have hF := kt hc29 hF
      refine lv_aload_n hx hb (kd tdlL_containersBehind_0 22 rfl) rfl (lv_at hl 1 rfl) ?_
      refine lv_iload_n hx hb (kd tdlL_containersBehind_0 23 rfl) rfl (lv_at hl 0 rfl) ?_
      refine lv_iconst (v := 0) hx hb (kd tdlL_containersBehind_0 24 rfl) (by decide) ?_
      obtain ⟨v39, e39, hF⟩ := kc hF
      obtain ⟨z39, hF⟩ := kz0 hF
      refine kcL_i (S := Unit) (wf := (fun (_ : Unit) => [(wx8 h0 g0), (wdk t (g0 1) a_desk d_desk)])) hP hD hS hA nd_0_2 rfl (fun _ => rfl) (kL_VX (Qx := (fun A => kQiS D (TY t) (fun (_ : Unit) => kflat [(wx8 h0 g0), (wdk t (g0 1) a_desk d_desk)]) v39.2 A)) (cs := [(wx8 h0 g0), (wdk t (g0 1) a_desk d_desk)]) (is := [0, 2]) (As := [.int j27, .int 0]) (rest := []) ⟨hx, hb, hml, hown, hts⟩ hX hS hA hK hP hD nd_0_2 rfl (c_X8_containerOf l D t h0 g0 a_desk d_desk _ j27 0 v39 e39 z39) (cwV 2 hts (gcX8_containerOf w_209) rfl rfl rfl hdX8_containerOfV ⟨Nat.le_of_ble_eq_true rfl, Nat.le_of_ble_eq_true rfl⟩) (ci := 7) (q0 := 0) rfl rfl rfl hl.1 rfl (Nat.le_of_ble_eq_true rfl) (kd tdlL_containersBehind_0 25 rfl) ⟨Nat.le_of_ble_eq_true rfl, Nat.le_of_ble_eq_true rfl⟩) (fun _ H locs hP hD hS => ?_)
      have hP : va_P D vwCl (kflat [(wx8 h0 g0), (wtx t (g0 0) a_text d_text), (wdk t (g0 1) a_desk d_desk), (wsm t (g0 5) a_stream v8.2.2.1), (wpl t (g0 6) a_plan v8.2.2.2)]) H := hP
      have hD : va_D A (kflat [(wx8 h0 g0), (wtx t (g0 0) a_text d_text), (wdk t (g0 1) a_desk d_desk), (wsm t (g0 5) a_stream v8.2.2.1), (wpl t (g0 6) a_plan v8.2.2.2)]) := hD
      refine lv_aload_n hx hb (kd tdlL_containersBehind_0 26 rfl) rfl (lv_at hl 1 rfl) ?_
      refine lv_iload_n hx hb (kd tdlL_containersBehind_0 27 rfl) rfl (lv_at hl 0 rfl) ?_
      refine lv_iconst (v := 1) hx hb (kd tdlL_containersBehind_0 28 rfl) (by decide) ?_
      obtain ⟨v45, e45, hF⟩ := kc hF
      obtain ⟨z45, hF⟩ := kz0 hF
      refine kcL_i (S := Unit) (wf := (fun (_ : Unit) => [(wx8 h0 g0), (wdk t (g0 1) a_desk d_desk)])) hP hD hS hA nd_0_2 rfl (fun _ => rfl) (kL_VX (Qx := (fun A => kQiS D (TY t) (fun (_ : Unit) => kflat [(wx8 h0 g0), (wdk t (g0 1) a_desk d_desk)]) v45.2 A)) (cs := [(wx8 h0 g0), (wdk t (g0 1) a_desk d_desk)]) (is := [0, 2]) (As := [.int j27, .int 1]) (rest := [.int v39.2]) ⟨hx, hb, hml, hown, hts⟩ hX hS hA hK hP hD nd_0_2 rfl (c_X8_containerOf l D t h0 g0 a_desk d_desk _ j27 1 v45 e45 z45) (cwV 2 hts (gcX8_containerOf w_209) rfl rfl rfl hdX8_containerOfV ⟨Nat.le_of_ble_eq_true rfl, Nat.le_of_ble_eq_true rfl⟩) (ci := 7) (q0 := 0) rfl rfl rfl hl.1 rfl (Nat.le_of_ble_eq_true rfl) (kd tdlL_containersBehind_0 29 rfl) ⟨Nat.le_of_ble_eq_true rfl, Nat.le_of_ble_eq_true rfl⟩) (fun _ H locs hP hD hS => ?_)
      have hP : va_P D vwCl (kflat [(wx8 h0 g0), (wtx t (g0 0) a_text d_text), (wdk t (g0 1) a_desk d_desk), (wsm t (g0 5) a_stream v8.2.2.1), (wpl t (g0 6) a_plan v8.2.2.2)]) H := hP
      have hD : va_D A (kflat [(wx8 h0 g0), (wtx t (g0 0) a_text d_text), (wdk t (g0 1) a_desk d_desk), (wsm t (g0 5) a_stream v8.2.2.1), (wpl t (g0 6) a_plan v8.2.2.2)]) := hD
      refine lv_isub hx hb (kd tdlL_containersBehind_0 30 rfl) ?_
      exact hJ49 ((v39.2 - v45.2)) hF _ _ _ hP hD hS (lv_sub hl [1, 2, 3] rfl)
    · have hF := kf hc29 hF
      refine lv_iconst (v := 0) hx hb (kd tdlL_containersBehind_0 20 rfl) (by decide) ?_
      refine lv_goto (tgt := 49) hx hb (kd tdlL_containersBehind_0 21 rfl) (by decide) ?_
      exact hJ49 (0) hF _ _ _ hP hD hS (lv_sub hl [1, 2, 3] rfl)
  refine lv_if_ne (tgt := 20) hx hb (kd tdlL_containersBehind_0 9 rfl) (by decide) (fun hc13 => ?_) (fun hc13 => ?_)
  · have hF := kf hc13 hF
    refine lv_aload_n hx hb (kd tdlL_containersBehind_0 12 rfl) rfl (lv_at hl 2 rfl) ?_
    refine lv_iload_n hx hb (kd tdlL_containersBehind_0 13 rfl) rfl (lv_at hl 1 rfl) ?_
    refine lv_iconst (v := 1) hx hb (kd tdlL_containersBehind_0 14 rfl) (by decide) ?_
    refine lv_isub hx hb (kd tdlL_containersBehind_0 15 rfl) ?_
    obtain ⟨v24, e24, hF⟩ := kc hF
    obtain ⟨z24, hF⟩ := kz0 hF
    refine kcL_i (S := Unit) (wf := (fun (_ : Unit) => [(wx8 h0 g0), (wdk t (g0 1) a_desk d_desk)])) hP hD hS hA nd_0_2 rfl (fun _ => rfl) (kL_VX (Qx := (fun A => kQiS D (TY t) (fun (_ : Unit) => kflat [(wx8 h0 g0), (wdk t (g0 1) a_desk d_desk)]) v24.2 A)) (cs := [(wx8 h0 g0), (wdk t (g0 1) a_desk d_desk)]) (is := [0, 2]) (As := [.int (v2.2 - 1)]) (rest := []) ⟨hx, hb, hml, hown, hts⟩ hX hS hA hK hP hD nd_0_2 rfl (c_X8_container l D t h0 g0 a_desk d_desk _ (v2.2 - 1) v24 e24 z24) (cwV 1 hts (gcX8_container w_197) rfl rfl rfl hdX8_containerV ⟨Nat.le_of_ble_eq_true rfl, Nat.le_of_ble_eq_true rfl⟩) (ci := 7) (q0 := 0) rfl rfl rfl hl.1 rfl (Nat.le_of_ble_eq_true rfl) (kd tdlL_containersBehind_0 16 rfl) ⟨Nat.le_of_ble_eq_true rfl, Nat.le_of_ble_eq_true rfl⟩) (fun _ H locs hP hD hS => ?_)
    have hP : va_P D vwCl (kflat [(wx8 h0 g0), (wtx t (g0 0) a_text d_text), (wdk t (g0 1) a_desk d_desk), (wsm t (g0 5) a_stream v8.2.2.1), (wpl t (g0 6) a_plan v8.2.2.2)]) H := hP
    have hD : va_D A (kflat [(wx8 h0 g0), (wtx t (g0 0) a_text d_text), (wdk t (g0 1) a_desk d_desk), (wsm t (g0 5) a_stream v8.2.2.1), (wpl t (g0 6) a_plan v8.2.2.2)]) := hD
    exact hJ27 (v24.2) hF _ _ _ hP hD hS (lv_sub hl [2, 1, 0] rfl)
  · have hF := kt hc13 hF
    refine lv_iconst (v := (-1)) hx hb (kd tdlL_containersBehind_0 10 rfl) (by decide) ?_
    refine lv_goto (tgt := 27) hx hb (kd tdlL_containersBehind_0 11 rfl) (by decide) ?_
    exact hJ27 ((-1)) hF _ _ _ hP hD hS (lv_sub hl [2, 1, 0] rfl)
set_option maxHeartbeats 8000000 in
set_option maxRecDepth 100000 in
theorem c_L_digest (l : Launch) (D : va_G) (t : Nat → ClassId) (h0 : Nat) (g0 : Nat → Nat) (a_desk : Nat → Nat) (d_desk : DKT) (sz : Nat)  (r : Int64) (hF : F_L_digest d_desk = some r) : Met l yL_digest wL_digest ({ frames := 6, cells := 0, slots := 0, locals := 133 } : Room) (kPx D (TY t) (kflat [(wx8 h0 g0), (wdk t (g0 1) a_desk d_desk)]) [.ref h0] sz) (kQlS D (TY t) (fun (u : Unit) => (kflat [(wx8 h0 g0), (wdk t (g0 1) a_desk d_desk)])) r (va_A (kflat [(wx8 h0 g0), (wdk t (g0 1) a_desk d_desk)]) sz)) 0 0 (va_A (kflat [(wx8 h0 g0), (wdk t (g0 1) a_desk d_desk)]) sz) := by
  refine kEx (cc := cL_digest) (maxL := 6) (ret := (some .long)) (Qx := fun A => kQlS D (TY t) (fun (u : Unit) => (kflat [(wx8 h0 g0), (wdk t (g0 1) a_desk d_desk)])) r A) (lv0 := [(0, .ref h0)]) RL rfl (by decide) rfl (Nat.le_of_ble_eq_true rfl) rfl ?_
  intro p e s m args below meth c A ls hx hb hml hr hlocks hown hts hA hX hK hP hD hS hl
  have Lc39 := hts (.constantLong RL 39 (3)) (List.mem_cons_of_mem _ w_120)
  have Lc41 := hts (.constantLong RL 41 (31)) (List.mem_cons_of_mem _ w_121)
  have Lc43 := hts (.constantLong RL 43 (64)) (List.mem_cons_of_mem _ w_122)
  refine lv_ldc2 (v := (3)) hx hb hown Lc39 (kd tdlL_digest_0 0 rfl) ?_
  refine lv_lstore_n (lv' := [(1, .long (3)), (0, .ref h0)]) hx hb (kd tdlL_digest_0 1 rfl) rfl hl (by decide) rfl (fun ls hl => ?_)
  refine lv_iconst (v := 0) hx hb (kd tdlL_digest_0 2 rfl) (by decide) ?_
  refine lv_istore_n (lv' := [(3, .int 0), (1, .long (3)), (0, .ref h0)]) hx hb (kd tdlL_digest_0 3 rfl) rfl hl (by decide) rfl (fun ls hl => ?_)
  have hK31 : ∀ k31 : Int64, K_L_digest_31 d_desk k31 = some r → ∀ (H : Heap) (locs : List Loc) (ls : Array Slot), va_P D vwCl (kflat [(wx8 h0 g0), (wdk t (g0 1) a_desk d_desk)]) H → va_D A (kflat [(wx8 h0 g0), (wdk t (g0 1) a_desk d_desk)]) → va_S A s.heap H locs → lv_has ls 6 [(0, .ref h0), (1, .long k31)] → W p l e ({ frames := 6, cells := 0, slots := 0, locals := 133 } : Room) s m args below meth c H locs 0 0 (MQ below (kQlS D (TY t) (fun (u : Unit) => (kflat [(wx8 h0 g0), (wdk t (g0 1) a_desk d_desk)])) r A) args s 0 0 A) (F0 m 31 ls []) := by
    intro k31 hF H locs ls  hP hD hS hl
    refine lv_iconst (v := 0) hx hb (kd tdlL_digest_0 18 rfl) (by decide) ?_
    refine lv_istore_n (lv' := [(3, .int 0), (0, .ref h0), (1, .long k31)]) hx hb (kd tdlL_digest_0 19 rfl) rfl hl (by decide) rfl (fun ls hl => ?_)
    have hK57 : ∀ k57 : Int64, K_L_digest_57 d_desk k57 = some r → ∀ (H : Heap) (locs : List Loc) (ls : Array Slot), va_P D vwCl (kflat [(wx8 h0 g0), (wdk t (g0 1) a_desk d_desk)]) H → va_D A (kflat [(wx8 h0 g0), (wdk t (g0 1) a_desk d_desk)]) → va_S A s.heap H locs → lv_has ls 6 [(0, .ref h0), (1, .long k57)] → W p l e ({ frames := 6, cells := 0, slots := 0, locals := 133 } : Room) s m args below meth c H locs 0 0 (MQ below (kQlS D (TY t) (fun (u : Unit) => (kflat [(wx8 h0 g0), (wdk t (g0 1) a_desk d_desk)])) r A) args s 0 0 A) (F0 m 57 ls []) := by
      intro k57 hF H locs ls  hP hD hS hl
      refine lv_iconst (v := 0) hx hb (kd tdlL_digest_0 34 rfl) (by decide) ?_
      refine lv_istore_n (lv' := [(3, .int 0), (0, .ref h0), (1, .long k57)]) hx hb (kd tdlL_digest_0 35 rfl) rfl hl (by decide) rfl (fun ls hl => ?_)
      refine lp_ind (f := B_L_digest_59 d_desk) (r := r) (P := fun s59_ => ∀ (H : Heap) (locs : List Loc) (ls : Array Slot), va_P D vwCl (kflat [(wx8 h0 g0), (wdk t (g0 1) a_desk d_desk)]) H → va_D A (kflat [(wx8 h0 g0), (wdk t (g0 1) a_desk d_desk)]) → va_S A s.heap H locs → lv_has ls 6 [(0, .ref h0), (1, .long s59_.1), (3, .int s59_.2)] → W p l e ({ frames := 6, cells := 0, slots := 0, locals := 133 } : Room) s m args below meth c H locs 0 0 (MQ below (kQlS D (TY t) (fun (u : Unit) => (kflat [(wx8 h0 g0), (wdk t (g0 1) a_desk d_desk)])) r A) args s 0 0 A) (F0 m 59 ls [])) ?_ FU (k57, 0) hF _ _ _ hP hD hS (lv_sub hl [1, 2, 0] rfl)
      intro self59 ih59 s59_ hF H locs ls  hP hD hS hl
      refine lv_iload_n hx hb (kd tdlL_digest_0 36 rfl) rfl (lv_at hl 2 rfl) ?_
      refine lv_aload_n hx hb (kd tdlL_digest_0 37 rfl) rfl (lv_at hl 0 rfl) ?_
      refine lv_iconst (v := 0) hx hb (kd tdlL_digest_0 38 rfl) (by decide) ?_
      obtain ⟨v62, e62, hF⟩ := kc hF
      obtain ⟨z62, hF⟩ := kz0 hF
      refine kcL_i (S := Unit) (wf := (fun (_ : Unit) => [(wx8 h0 g0), (wdk t (g0 1) a_desk d_desk)])) hP hD hS hA nd_0_1 rfl (fun _ => rfl) (kL_VX (Qx := (fun A => kQiS D (TY t) (fun (_ : Unit) => kflat [(wx8 h0 g0), (wdk t (g0 1) a_desk d_desk)]) v62.2 A)) (cs := [(wx8 h0 g0), (wdk t (g0 1) a_desk d_desk)]) (is := [0, 1]) (As := [.int 0]) (rest := [.int s59_.2]) ⟨hx, hb, hml, hown, hts⟩ hX hS hA hK hP hD nd_0_1 rfl (c_X8_about l D t h0 g0 a_desk d_desk _ 0 v62 e62 z62) (cwV 1 hts (gcX8_about w_123) rfl rfl rfl hdX8_aboutV ⟨Nat.le_of_ble_eq_true rfl, Nat.le_of_ble_eq_true rfl⟩) (ci := 7) (q0 := 0) rfl rfl rfl hl.1 rfl (Nat.le_of_ble_eq_true rfl) (kd tdlL_digest_0 39 rfl) ⟨Nat.le_of_ble_eq_true rfl, Nat.le_of_ble_eq_true rfl⟩) (fun _ H locs hP hD hS => ?_)
      have hP : va_P D vwCl (kflat [(wx8 h0 g0), (wdk t (g0 1) a_desk d_desk)]) H := hP
      have hD : va_D A (kflat [(wx8 h0 g0), (wdk t (g0 1) a_desk d_desk)]) := hD
      refine lv_icmp_ge (tgt := 157) hx hb (kd tdlL_digest_0 40 rfl) (by decide) (fun hc65 => ?_) (fun hc65 => ?_)
      · have hF := kt hc65 hF
        refine lv_lload_n hx hb (kd tdlL_digest_2 2 rfl) rfl (lv_at hl 1 rfl) ?_
        cases ko hF
        exact kes_l () hx hb hr hlocks hK hP hD hS rfl (Nat.le_of_ble_eq_true rfl) (Nat.le_of_ble_eq_true rfl) (kd tdlL_digest_2 3 rfl)
      · have hF := kf hc65 hF
        refine lv_aload_n hx hb (kd tdlL_digest_0 41 rfl) rfl (lv_at hl 0 rfl) ?_
        refine lv_iload_n hx hb (kd tdlL_digest_0 42 rfl) rfl (lv_at hl 2 rfl) ?_
        obtain ⟨v70, e70, hF⟩ := kc hF
        obtain ⟨z70, hF⟩ := kz0 hF
        refine kcL_i (S := Unit) (wf := (fun (_ : Unit) => [(wx8 h0 g0), (wdk t (g0 1) a_desk d_desk)])) hP hD hS hA nd_0_1 rfl (fun _ => rfl) (kL_VX (Qx := (fun A => kQiS D (TY t) (fun (_ : Unit) => kflat [(wx8 h0 g0), (wdk t (g0 1) a_desk d_desk)]) v70.2 A)) (cs := [(wx8 h0 g0), (wdk t (g0 1) a_desk d_desk)]) (is := [0, 1]) (As := [.int s59_.2]) (rest := []) ⟨hx, hb, hml, hown, hts⟩ hX hS hA hK hP hD nd_0_1 rfl (c_X8_container l D t h0 g0 a_desk d_desk _ s59_.2 v70 e70 z70) (cwV 1 hts (gcX8_container w_197) rfl rfl rfl hdX8_containerV ⟨Nat.le_of_ble_eq_true rfl, Nat.le_of_ble_eq_true rfl⟩) (ci := 7) (q0 := 0) rfl rfl rfl hl.1 rfl (Nat.le_of_ble_eq_true rfl) (kd tdlL_digest_0 43 rfl) ⟨Nat.le_of_ble_eq_true rfl, Nat.le_of_ble_eq_true rfl⟩) (fun _ H locs hP hD hS => ?_)
        have hP : va_P D vwCl (kflat [(wx8 h0 g0), (wdk t (g0 1) a_desk d_desk)]) H := hP
        have hD : va_D A (kflat [(wx8 h0 g0), (wdk t (g0 1) a_desk d_desk)]) := hD
        refine lv_istore (lv' := [(4, .int v70.2), (0, .ref h0), (1, .long s59_.1), (3, .int s59_.2)]) hx hb (kd tdlL_digest_0 44 rfl) hl (by decide) rfl (fun ls hl => ?_)
        refine lv_ldc2 (v := (31)) hx hb hown Lc41 (kd tdlL_digest_1 0 rfl) ?_
        refine lv_lload_n hx hb (kd tdlL_digest_1 1 rfl) rfl (lv_at hl 2 rfl) ?_
        refine lv_lmul hx hb (kd tdlL_digest_1 2 rfl) ?_
        refine lv_ldc2 (v := (64)) hx hb hown Lc43 (kd tdlL_digest_1 3 rfl) ?_
        refine lv_iload hx hb (kd tdlL_digest_1 4 rfl) (lv_at hl 0 rfl) ?_
        refine lv_i2l hx hb (kd tdlL_digest_1 5 rfl) rfl ?_
        refine lv_lmul hx hb (kd tdlL_digest_1 6 rfl) ?_
        refine lv_ladd hx hb (kd tdlL_digest_1 7 rfl) ?_
        refine lv_aload_n hx hb (kd tdlL_digest_1 8 rfl) rfl (lv_at hl 1 rfl) ?_
        refine lv_iload hx hb (kd tdlL_digest_1 9 rfl) (lv_at hl 0 rfl) ?_
        refine lv_iconst (v := 0) hx hb (kd tdlL_digest_1 10 rfl) (by decide) ?_
        obtain ⟨v92, e92, hF⟩ := kc hF
        obtain ⟨z92, hF⟩ := kz0 hF
        refine kcL_i (S := Unit) (wf := (fun (_ : Unit) => [(wx8 h0 g0), (wdk t (g0 1) a_desk d_desk)])) hP hD hS hA nd_0_1 rfl (fun _ => rfl) (kL_VX (Qx := (fun A => kQiS D (TY t) (fun (_ : Unit) => kflat [(wx8 h0 g0), (wdk t (g0 1) a_desk d_desk)]) v92.2 A)) (cs := [(wx8 h0 g0), (wdk t (g0 1) a_desk d_desk)]) (is := [0, 1]) (As := [.int v70.2, .int 0]) (rest := [.long (((31) * s59_.1) + ((64) * (Int32.toInt64 v70.2)))]) ⟨hx, hb, hml, hown, hts⟩ hX hS hA hK hP hD nd_0_1 rfl (c_X8_containerOf l D t h0 g0 a_desk d_desk _ v70.2 0 v92 e92 z92) (cwV 2 hts (gcX8_containerOf w_209) rfl rfl rfl hdX8_containerOfV ⟨Nat.le_of_ble_eq_true rfl, Nat.le_of_ble_eq_true rfl⟩) (ci := 7) (q0 := 0) rfl rfl rfl hl.1 rfl (Nat.le_of_ble_eq_true rfl) (kd tdlL_digest_1 11 rfl) ⟨Nat.le_of_ble_eq_true rfl, Nat.le_of_ble_eq_true rfl⟩) (fun _ H locs hP hD hS => ?_)
        have hP : va_P D vwCl (kflat [(wx8 h0 g0), (wdk t (g0 1) a_desk d_desk)]) H := hP
        have hD : va_D A (kflat [(wx8 h0 g0), (wdk t (g0 1) a_desk d_desk)]) := hD
        refine lv_i2l hx hb (kd tdlL_digest_1 12 rfl) rfl ?_
        refine lv_ladd hx hb (kd tdlL_digest_1 13 rfl) ?_
        refine lv_lstore_n (lv' := [(1, .long ((((31) * s59_.1) + ((64) * (Int32.toInt64 v70.2))) + (Int32.toInt64 v92.2))), (4, .int v70.2), (0, .ref h0), (3, .int s59_.2)]) hx hb (kd tdlL_digest_1 14 rfl) rfl hl (by decide) rfl (fun ls hl => ?_)
        refine lv_iconst (v := 0) hx hb (kd tdlL_digest_1 15 rfl) (by decide) ?_
        refine lv_istore (lv' := [(5, .int 0), (1, .long ((((31) * s59_.1) + ((64) * (Int32.toInt64 v70.2))) + (Int32.toInt64 v92.2))), (4, .int v70.2), (0, .ref h0), (3, .int s59_.2)]) hx hb (kd tdlL_digest_1 16 rfl) hl (by decide) rfl (fun ls hl => ?_)
        refine lp_ind (f := B_L_digest_101 d_desk v70 self59 s59_) (r := r) (P := fun s101_ => ∀ (H : Heap) (locs : List Loc) (ls : Array Slot), va_P D vwCl (kflat [(wx8 h0 g0), (wdk t (g0 1) a_desk d_desk)]) H → va_D A (kflat [(wx8 h0 g0), (wdk t (g0 1) a_desk d_desk)]) → va_S A s.heap H locs → lv_has ls 6 [(0, .ref h0), (1, .long s101_.1), (3, .int s59_.2), (4, .int v70.2), (5, .int s101_.2)] → W p l e ({ frames := 6, cells := 0, slots := 0, locals := 133 } : Room) s m args below meth c H locs 0 0 (MQ below (kQlS D (TY t) (fun (u : Unit) => (kflat [(wx8 h0 g0), (wdk t (g0 1) a_desk d_desk)])) r A) args s 0 0 A) (F0 m 101 ls [])) ?_ FU (((((31) * s59_.1) + ((64) * (Int32.toInt64 v70.2))) + (Int32.toInt64 v92.2)), 0) hF _ _ _ hP hD hS (lv_sub hl [3, 1, 4, 2, 0] rfl)
        intro self101 ih101 s101_ hF H locs ls  hP hD hS hl
        refine lv_iload hx hb (kd tdlL_digest_1 17 rfl) (lv_at hl 4 rfl) ?_
        refine lv_aload_n hx hb (kd tdlL_digest_1 18 rfl) rfl (lv_at hl 0 rfl) ?_
        refine lv_iload hx hb (kd tdlL_digest_1 19 rfl) (lv_at hl 3 rfl) ?_
        refine lv_iconst (v := 1) hx hb (kd tdlL_digest_1 20 rfl) (by decide) ?_
        obtain ⟨v107, e107, hF⟩ := kc hF
        obtain ⟨z107, hF⟩ := kz0 hF
        refine kcL_i (S := Unit) (wf := (fun (_ : Unit) => [(wx8 h0 g0), (wdk t (g0 1) a_desk d_desk)])) hP hD hS hA nd_0_1 rfl (fun _ => rfl) (kL_VX (Qx := (fun A => kQiS D (TY t) (fun (_ : Unit) => kflat [(wx8 h0 g0), (wdk t (g0 1) a_desk d_desk)]) v107.2 A)) (cs := [(wx8 h0 g0), (wdk t (g0 1) a_desk d_desk)]) (is := [0, 1]) (As := [.int v70.2, .int 1]) (rest := [.int s101_.2]) ⟨hx, hb, hml, hown, hts⟩ hX hS hA hK hP hD nd_0_1 rfl (c_X8_containerOf l D t h0 g0 a_desk d_desk _ v70.2 1 v107 e107 z107) (cwV 2 hts (gcX8_containerOf w_209) rfl rfl rfl hdX8_containerOfV ⟨Nat.le_of_ble_eq_true rfl, Nat.le_of_ble_eq_true rfl⟩) (ci := 7) (q0 := 0) rfl rfl rfl hl.1 rfl (Nat.le_of_ble_eq_true rfl) (kd tdlL_digest_1 21 rfl) ⟨Nat.le_of_ble_eq_true rfl, Nat.le_of_ble_eq_true rfl⟩) (fun _ H locs hP hD hS => ?_)
        have hP : va_P D vwCl (kflat [(wx8 h0 g0), (wdk t (g0 1) a_desk d_desk)]) H := hP
        have hD : va_D A (kflat [(wx8 h0 g0), (wdk t (g0 1) a_desk d_desk)]) := hD
        refine lv_icmp_ge (tgt := 151) hx hb (kd tdlL_digest_1 22 rfl) (by decide) (fun hc110 => ?_) (fun hc110 => ?_)
        · have hF := kt hc110 hF
          refine lv_iinc (v := (s59_.2 + 1)) (lv' := [(3, .int (s59_.2 + 1)), (0, .ref h0), (1, .long s101_.1), (4, .int v70.2), (5, .int s101_.2)]) hx hb (kd tdlL_digest_2 0 rfl) hl (k := 2) rfl rfl (by decide) rfl (fun ls hl => ?_)
          refine lv_goto (tgt := 59) hx hb (kd tdlL_digest_2 1 rfl) (by decide) ?_
          exact ih59 (s101_.1, (s59_.2 + 1)) hF _ _ _ hP hD hS (lv_sub hl [1, 2, 0] rfl)
        · have hF := kf hc110 hF
          refine lv_ldc2 (v := (31)) hx hb hown Lc41 (kd tdlL_digest_1 23 rfl) ?_
          refine lv_ldc2 (v := (31)) hx hb hown Lc41 (kd tdlL_digest_1 24 rfl) ?_
          refine lv_lload_n hx hb (kd tdlL_digest_1 25 rfl) rfl (lv_at hl 1 rfl) ?_
          refine lv_lmul hx hb (kd tdlL_digest_1 26 rfl) ?_
          refine lv_aload_n hx hb (kd tdlL_digest_1 27 rfl) rfl (lv_at hl 0 rfl) ?_
          refine lv_iload hx hb (kd tdlL_digest_1 28 rfl) (lv_at hl 3 rfl) ?_
          refine lv_iload hx hb (kd tdlL_digest_1 29 rfl) (lv_at hl 4 rfl) ?_
          refine lv_iconst (v := 1) hx hb (kd tdlL_digest_1 30 rfl) (by decide) ?_
          obtain ⟨v127, e127, hF⟩ := kc hF
          obtain ⟨z127, hF⟩ := kz0 hF
          refine kcL_i (S := Unit) (wf := (fun (_ : Unit) => [(wx8 h0 g0), (wdk t (g0 1) a_desk d_desk)])) hP hD hS hA nd_0_1 rfl (fun _ => rfl) (kL_VX (Qx := (fun A => kQiS D (TY t) (fun (_ : Unit) => kflat [(wx8 h0 g0), (wdk t (g0 1) a_desk d_desk)]) v127.2 A)) (cs := [(wx8 h0 g0), (wdk t (g0 1) a_desk d_desk)]) (is := [0, 1]) (As := [.int v70.2, .int s101_.2, .int 1]) (rest := [.long ((31) * s101_.1), .long (31)]) ⟨hx, hb, hml, hown, hts⟩ hX hS hA hK hP hD nd_0_1 rfl (c_X8_entry l D t h0 g0 a_desk d_desk _ v70.2 s101_.2 1 v127 e127 z127) (cwV 3 hts (gcX8_entry w_248) rfl rfl rfl hdX8_entryV ⟨Nat.le_of_ble_eq_true rfl, Nat.le_of_ble_eq_true rfl⟩) (ci := 7) (q0 := 0) rfl rfl rfl hl.1 rfl (Nat.le_of_ble_eq_true rfl) (kd tdlL_digest_1 31 rfl) ⟨Nat.le_of_ble_eq_true rfl, Nat.le_of_ble_eq_true rfl⟩) (fun _ H locs hP hD hS => ?_)
          have hP : va_P D vwCl (kflat [(wx8 h0 g0), (wdk t (g0 1) a_desk d_desk)]) H := hP
          have hD : va_D A (kflat [(wx8 h0 g0), (wdk t (g0 1) a_desk d_desk)]) := hD
          refine lv_i2l hx hb (kd tdlL_digest_1 32 rfl) rfl ?_
          refine lv_ladd hx hb (kd tdlL_digest_1 33 rfl) ?_
          refine lv_lmul hx hb (kd tdlL_digest_1 34 rfl) ?_
          refine lv_aload_n hx hb (kd tdlL_digest_1 35 rfl) rfl (lv_at hl 0 rfl) ?_
          refine lv_iload hx hb (kd tdlL_digest_1 36 rfl) (lv_at hl 3 rfl) ?_
          refine lv_iload hx hb (kd tdlL_digest_1 37 rfl) (lv_at hl 4 rfl) ?_
          refine lv_iconst (v := 2) hx hb (kd tdlL_digest_1 38 rfl) (by decide) ?_
          obtain ⟨v139, e139, hF⟩ := kc hF
          obtain ⟨z139, hF⟩ := kz0 hF
          refine kcL_i (S := Unit) (wf := (fun (_ : Unit) => [(wx8 h0 g0), (wdk t (g0 1) a_desk d_desk)])) hP hD hS hA nd_0_1 rfl (fun _ => rfl) (kL_VX (Qx := (fun A => kQiS D (TY t) (fun (_ : Unit) => kflat [(wx8 h0 g0), (wdk t (g0 1) a_desk d_desk)]) v139.2 A)) (cs := [(wx8 h0 g0), (wdk t (g0 1) a_desk d_desk)]) (is := [0, 1]) (As := [.int v70.2, .int s101_.2, .int 2]) (rest := [.long ((31) * (((31) * s101_.1) + (Int32.toInt64 v127.2)))]) ⟨hx, hb, hml, hown, hts⟩ hX hS hA hK hP hD nd_0_1 rfl (c_X8_entry l D t h0 g0 a_desk d_desk _ v70.2 s101_.2 2 v139 e139 z139) (cwV 3 hts (gcX8_entry w_248) rfl rfl rfl hdX8_entryV ⟨Nat.le_of_ble_eq_true rfl, Nat.le_of_ble_eq_true rfl⟩) (ci := 7) (q0 := 0) rfl rfl rfl hl.1 rfl (Nat.le_of_ble_eq_true rfl) (kd tdlL_digest_1 39 rfl) ⟨Nat.le_of_ble_eq_true rfl, Nat.le_of_ble_eq_true rfl⟩) (fun _ H locs hP hD hS => ?_)
          have hP : va_P D vwCl (kflat [(wx8 h0 g0), (wdk t (g0 1) a_desk d_desk)]) H := hP
          have hD : va_D A (kflat [(wx8 h0 g0), (wdk t (g0 1) a_desk d_desk)]) := hD
          refine lv_i2l hx hb (kd tdlL_digest_1 40 rfl) rfl ?_
          refine lv_ladd hx hb (kd tdlL_digest_1 41 rfl) ?_
          refine lv_lstore_n (lv' := [(1, .long (((31) * (((31) * s101_.1) + (Int32.toInt64 v127.2))) + (Int32.toInt64 v139.2))), (0, .ref h0), (3, .int s59_.2), (4, .int v70.2), (5, .int s101_.2)]) hx hb (kd tdlL_digest_1 42 rfl) rfl hl (by decide) rfl (fun ls hl => ?_)
          refine lv_iinc (v := (s101_.2 + 1)) (lv' := [(5, .int (s101_.2 + 1)), (1, .long (((31) * (((31) * s101_.1) + (Int32.toInt64 v127.2))) + (Int32.toInt64 v139.2))), (0, .ref h0), (3, .int s59_.2), (4, .int v70.2)]) hx hb (kd tdlL_digest_1 43 rfl) hl (k := 4) rfl rfl (by decide) rfl (fun ls hl => ?_)
          refine lv_goto (tgt := 101) hx hb (kd tdlL_digest_1 44 rfl) (by decide) ?_
          exact ih101 ((((31) * (((31) * s101_.1) + (Int32.toInt64 v127.2))) + (Int32.toInt64 v139.2)), (s101_.2 + 1)) hF _ _ _ hP hD hS (lv_sub hl [2, 1, 3, 4, 0] rfl)
    refine lp_ind (f := B_L_digest_33 d_desk (K_L_digest_57 d_desk)) (r := r) (P := fun s33_ => ∀ (H : Heap) (locs : List Loc) (ls : Array Slot), va_P D vwCl (kflat [(wx8 h0 g0), (wdk t (g0 1) a_desk d_desk)]) H → va_D A (kflat [(wx8 h0 g0), (wdk t (g0 1) a_desk d_desk)]) → va_S A s.heap H locs → lv_has ls 6 [(0, .ref h0), (1, .long s33_.1), (3, .int s33_.2)] → W p l e ({ frames := 6, cells := 0, slots := 0, locals := 133 } : Room) s m args below meth c H locs 0 0 (MQ below (kQlS D (TY t) (fun (u : Unit) => (kflat [(wx8 h0 g0), (wdk t (g0 1) a_desk d_desk)])) r A) args s 0 0 A) (F0 m 33 ls [])) ?_ FU (k31, 0) hF _ _ _ hP hD hS (lv_sub hl [1, 2, 0] rfl)
    intro self33 ih33 s33_ hF H locs ls  hP hD hS hl
    refine lv_iload_n hx hb (kd tdlL_digest_0 20 rfl) rfl (lv_at hl 2 rfl) ?_
    refine lv_iconst (v := 5) hx hb (kd tdlL_digest_0 21 rfl) (by decide) ?_
    refine lv_icmp_ge (tgt := 57) hx hb (kd tdlL_digest_0 22 rfl) (by decide) (fun hc35 => ?_) (fun hc35 => ?_)
    · have hF := kt hc35 hF
      exact hK57 (s33_.1) hF _ _ _ hP hD hS (lv_sub hl [0, 1] rfl)
    · have hF := kf hc35 hF
      refine lv_ldc2 (v := (31)) hx hb hown Lc41 (kd tdlL_digest_0 23 rfl) ?_
      refine lv_lload_n hx hb (kd tdlL_digest_0 24 rfl) rfl (lv_at hl 1 rfl) ?_
      refine lv_lmul hx hb (kd tdlL_digest_0 25 rfl) ?_
      refine lv_aload_n hx hb (kd tdlL_digest_0 26 rfl) rfl (lv_at hl 0 rfl) ?_
      refine lv_iload_n hx hb (kd tdlL_digest_0 27 rfl) rfl (lv_at hl 2 rfl) ?_
      obtain ⟨v45, e45, hF⟩ := kc hF
      obtain ⟨z45, hF⟩ := kz0 hF
      refine kcL_i (S := Unit) (wf := (fun (_ : Unit) => [(wx8 h0 g0), (wdk t (g0 1) a_desk d_desk)])) hP hD hS hA nd_0_1 rfl (fun _ => rfl) (kL_VX (Qx := (fun A => kQiS D (TY t) (fun (_ : Unit) => kflat [(wx8 h0 g0), (wdk t (g0 1) a_desk d_desk)]) v45.2 A)) (cs := [(wx8 h0 g0), (wdk t (g0 1) a_desk d_desk)]) (is := [0, 1]) (As := [.int s33_.2]) (rest := [.long ((31) * s33_.1)]) ⟨hx, hb, hml, hown, hts⟩ hX hS hA hK hP hD nd_0_1 rfl (c_X8_setting l D t h0 g0 a_desk d_desk _ s33_.2 v45 e45 z45) (cwV 1 hts (gcX8_setting w_189) rfl rfl rfl hdX8_settingV ⟨Nat.le_of_ble_eq_true rfl, Nat.le_of_ble_eq_true rfl⟩) (ci := 7) (q0 := 0) rfl rfl rfl hl.1 rfl (Nat.le_of_ble_eq_true rfl) (kd tdlL_digest_0 28 rfl) ⟨Nat.le_of_ble_eq_true rfl, Nat.le_of_ble_eq_true rfl⟩) (fun _ H locs hP hD hS => ?_)
      have hP : va_P D vwCl (kflat [(wx8 h0 g0), (wdk t (g0 1) a_desk d_desk)]) H := hP
      have hD : va_D A (kflat [(wx8 h0 g0), (wdk t (g0 1) a_desk d_desk)]) := hD
      refine lv_i2l hx hb (kd tdlL_digest_0 29 rfl) rfl ?_
      refine lv_ladd hx hb (kd tdlL_digest_0 30 rfl) ?_
      refine lv_lstore_n (lv' := [(1, .long (((31) * s33_.1) + (Int32.toInt64 v45.2))), (0, .ref h0), (3, .int s33_.2)]) hx hb (kd tdlL_digest_0 31 rfl) rfl hl (by decide) rfl (fun ls hl => ?_)
      refine lv_iinc (v := (s33_.2 + 1)) (lv' := [(3, .int (s33_.2 + 1)), (1, .long (((31) * s33_.1) + (Int32.toInt64 v45.2))), (0, .ref h0)]) hx hb (kd tdlL_digest_0 32 rfl) hl (k := 2) rfl rfl (by decide) rfl (fun ls hl => ?_)
      refine lv_goto (tgt := 33) hx hb (kd tdlL_digest_0 33 rfl) (by decide) ?_
      exact ih33 ((((31) * s33_.1) + (Int32.toInt64 v45.2)), (s33_.2 + 1)) hF _ _ _ hP hD hS (lv_sub hl [2, 1, 0] rfl)
  refine lp_ind (f := B_L_digest_6 d_desk (K_L_digest_31 d_desk)) (r := r) (P := fun s6_ => ∀ (H : Heap) (locs : List Loc) (ls : Array Slot), va_P D vwCl (kflat [(wx8 h0 g0), (wdk t (g0 1) a_desk d_desk)]) H → va_D A (kflat [(wx8 h0 g0), (wdk t (g0 1) a_desk d_desk)]) → va_S A s.heap H locs → lv_has ls 6 [(0, .ref h0), (1, .long s6_.1), (3, .int s6_.2)] → W p l e ({ frames := 6, cells := 0, slots := 0, locals := 133 } : Room) s m args below meth c H locs 0 0 (MQ below (kQlS D (TY t) (fun (u : Unit) => (kflat [(wx8 h0 g0), (wdk t (g0 1) a_desk d_desk)])) r A) args s 0 0 A) (F0 m 6 ls [])) ?_ FU ((3), 0) hF _ _ _ hP hD hS (lv_sub hl [2, 1, 0] rfl)
  intro self6 ih6 s6_ hF H locs ls  hP hD hS hl
  refine lv_iload_n hx hb (kd tdlL_digest_0 4 rfl) rfl (lv_at hl 2 rfl) ?_
  refine lv_bipush (v := 10) hx hb (kd tdlL_digest_0 5 rfl) (by decide) ?_
  refine lv_icmp_ge (tgt := 31) hx hb (kd tdlL_digest_0 6 rfl) (by decide) (fun hc9 => ?_) (fun hc9 => ?_)
  · have hF := kt hc9 hF
    exact hK31 (s6_.1) hF _ _ _ hP hD hS (lv_sub hl [0, 1] rfl)
  · have hF := kf hc9 hF
    refine lv_ldc2 (v := (31)) hx hb hown Lc41 (kd tdlL_digest_0 7 rfl) ?_
    refine lv_lload_n hx hb (kd tdlL_digest_0 8 rfl) rfl (lv_at hl 1 rfl) ?_
    refine lv_lmul hx hb (kd tdlL_digest_0 9 rfl) ?_
    refine lv_aload_n hx hb (kd tdlL_digest_0 10 rfl) rfl (lv_at hl 0 rfl) ?_
    refine lv_iload_n hx hb (kd tdlL_digest_0 11 rfl) rfl (lv_at hl 2 rfl) ?_
    obtain ⟨v19, e19, hF⟩ := kc hF
    obtain ⟨z19, hF⟩ := kz0 hF
    refine kcL_i (S := Unit) (wf := (fun (_ : Unit) => [(wx8 h0 g0), (wdk t (g0 1) a_desk d_desk)])) hP hD hS hA nd_0_1 rfl (fun _ => rfl) (kL_VX (Qx := (fun A => kQiS D (TY t) (fun (_ : Unit) => kflat [(wx8 h0 g0), (wdk t (g0 1) a_desk d_desk)]) v19.2 A)) (cs := [(wx8 h0 g0), (wdk t (g0 1) a_desk d_desk)]) (is := [0, 1]) (As := [.int s6_.2]) (rest := [.long ((31) * s6_.1)]) ⟨hx, hb, hml, hown, hts⟩ hX hS hA hK hP hD nd_0_1 rfl (c_X8_about l D t h0 g0 a_desk d_desk _ s6_.2 v19 e19 z19) (cwV 1 hts (gcX8_about w_123) rfl rfl rfl hdX8_aboutV ⟨Nat.le_of_ble_eq_true rfl, Nat.le_of_ble_eq_true rfl⟩) (ci := 7) (q0 := 0) rfl rfl rfl hl.1 rfl (Nat.le_of_ble_eq_true rfl) (kd tdlL_digest_0 12 rfl) ⟨Nat.le_of_ble_eq_true rfl, Nat.le_of_ble_eq_true rfl⟩) (fun _ H locs hP hD hS => ?_)
    have hP : va_P D vwCl (kflat [(wx8 h0 g0), (wdk t (g0 1) a_desk d_desk)]) H := hP
    have hD : va_D A (kflat [(wx8 h0 g0), (wdk t (g0 1) a_desk d_desk)]) := hD
    refine lv_i2l hx hb (kd tdlL_digest_0 13 rfl) rfl ?_
    refine lv_ladd hx hb (kd tdlL_digest_0 14 rfl) ?_
    refine lv_lstore_n (lv' := [(1, .long (((31) * s6_.1) + (Int32.toInt64 v19.2))), (0, .ref h0), (3, .int s6_.2)]) hx hb (kd tdlL_digest_0 15 rfl) rfl hl (by decide) rfl (fun ls hl => ?_)
    refine lv_iinc (v := (s6_.2 + 1)) (lv' := [(3, .int (s6_.2 + 1)), (1, .long (((31) * s6_.1) + (Int32.toInt64 v19.2))), (0, .ref h0)]) hx hb (kd tdlL_digest_0 16 rfl) hl (k := 2) rfl rfl (by decide) rfl (fun ls hl => ?_)
    refine lv_goto (tgt := 6) hx hb (kd tdlL_digest_0 17 rfl) (by decide) ?_
    exact ih6 ((((31) * s6_.1) + (Int32.toInt64 v19.2)), (s6_.2 + 1)) hF _ _ _ hP hD hS (lv_sub hl [2, 1, 0] rfl)
set_option maxHeartbeats 4000000 in
set_option maxRecDepth 100000 in
theorem c_L_isThere (l : Launch) (D : va_G) (t : Nat → ClassId)  (sz : Nat) (p0 : Int32) (p1 : Int32) (r : Int32) (hF : F_L_isThere p0 p1 = some r) : Met l yL_isThere wL_isThere ({ frames := 0, cells := 0, slots := 0, locals := 0 } : Room) (kPc D (TY t) ([] : va_W) [.int p0, .int p1] sz) (kQi D (TY t) ([] : va_W) r (va_A ([] : va_W) sz)) 0 0 (va_A ([] : va_W) sz) := by
  refine kE (cc := cL_isThere) (maxL := 2) (ret := (some .boolean)) (Qx := fun A => kQi D (TY t) ([] : va_W) r A) (lv0 := [(0, .int p0), (1, .int p1)]) RL rfl (by decide) rfl (Nat.le_of_ble_eq_true rfl) rfl ?_
  intro p e s m args below meth c A ls hx hb hml hr hlocks hown hts hA hK hP hD hS hl
  have hP : va_P D vwCl (([] : va_W)) s.heap := hP
  have hD : va_D A (([] : va_W)) := hD
  refine lv_iload_n hx hb (kd tdlL_isThere_0 0 rfl) rfl (lv_at hl 0 rfl) ?_
  refine lv_iload_n hx hb (kd tdlL_isThere_0 1 rfl) rfl (lv_at hl 1 rfl) ?_
  refine lv_ishr hx hb (kd tdlL_isThere_0 2 rfl) ?_
  refine lv_iconst (v := 1) hx hb (kd tdlL_isThere_0 3 rfl) (by decide) ?_
  refine lv_iand hx hb (kd tdlL_isThere_0 4 rfl) ?_
  refine lv_iconst (v := 1) hx hb (kd tdlL_isThere_0 5 rfl) (by decide) ?_
  refine lv_icmp_ne (tgt := 13) hx hb (kd tdlL_isThere_0 6 rfl) (by decide) (fun hc6 => ?_) (fun hc6 => ?_)
  · have hF := kf hc6 hF
    refine lv_iconst (v := 0) hx hb (kd tdlL_isThere_0 9 rfl) (by decide) ?_
    cases ko hF
    exact ke_z hx hb hr hlocks rfl hK hP hD hS rfl (kd tdlL_isThere_0 10 rfl)
  · have hF := kt hc6 hF
    refine lv_iconst (v := 1) hx hb (kd tdlL_isThere_0 7 rfl) (by decide) ?_
    refine lv_goto (tgt := 14) hx hb (kd tdlL_isThere_0 8 rfl) (by decide) ?_
    cases ko hF
    exact ke_z hx hb hr hlocks rfl hK hP hD hS rfl (kd tdlL_isThere_0 10 rfl)
set_option maxHeartbeats 8000000 in
set_option maxRecDepth 100000 in
theorem c_L_references (l : Launch) (D : va_G) (t : Nat → ClassId) (h0 : Nat) (g0 : Nat → Nat) (a_desk : Nat → Nat) (d_desk : DKT) (a_store : Nat → Nat) (d_store : SOT) (sz : Nat) (p1 : Int32) (r : Int64 × SOT) (hF : F_L_references d_desk d_store p1 = some r) : Met l yL_references wL_references ({ frames := 6, cells := 0, slots := 0, locals := 132 } : Room) (kPx D (TY t) (kflat [(wx8 h0 g0), (wdk t (g0 1) a_desk d_desk), (wso t (g0 7) a_store d_store)]) [.ref h0, .int p1] sz) (kQlS D (TY t) (fun (u : Unit) => (kflat [(wx8 h0 g0), (wdk t (g0 1) a_desk d_desk), (wso t (g0 7) a_store r.2)])) r.1 (va_A (kflat [(wx8 h0 g0), (wdk t (g0 1) a_desk d_desk), (wso t (g0 7) a_store d_store)]) sz)) 0 0 (va_A (kflat [(wx8 h0 g0), (wdk t (g0 1) a_desk d_desk), (wso t (g0 7) a_store d_store)]) sz) := by
  refine kEx (cc := cL_references) (maxL := 7) (ret := (some .long)) (Qx := fun A => kQlS D (TY t) (fun (u : Unit) => (kflat [(wx8 h0 g0), (wdk t (g0 1) a_desk d_desk), (wso t (g0 7) a_store r.2)])) r.1 A) (lv0 := [(0, .ref h0), (1, .int p1)]) RL rfl (by decide) rfl (Nat.le_of_ble_eq_true rfl) rfl ?_
  intro p e s m args below meth c A ls hx hb hml hr hlocks hown hts hA hX hK hP hD hS hl
  have Lc41 := hts (.constantLong RL 41 (31)) (List.mem_cons_of_mem _ w_121)
  have Lc49 := hts (.constantLong RL 49 (5)) (List.mem_cons_of_mem _ w_272)
  refine lv_ldc2 (v := (5)) hx hb hown Lc49 (kd tdlL_references_0 0 rfl) ?_
  refine lv_lstore_n (lv' := [(2, .long (5)), (0, .ref h0), (1, .int p1)]) hx hb (kd tdlL_references_0 1 rfl) rfl hl (by decide) rfl (fun ls hl => ?_)
  refine lv_iconst (v := 0) hx hb (kd tdlL_references_0 2 rfl) (by decide) ?_
  refine lv_istore (lv' := [(4, .int 0), (2, .long (5)), (0, .ref h0), (1, .int p1)]) hx hb (kd tdlL_references_0 3 rfl) hl (by decide) rfl (fun ls hl => ?_)
  refine lp_ind (f := B_L_references_7 p1 d_desk) (r := r) (P := fun s7_ => ∀ (H : Heap) (locs : List Loc) (ls : Array Slot), va_P D vwCl (kflat [(wx8 h0 g0), (wdk t (g0 1) a_desk d_desk), (wso t (g0 7) a_store s7_.2.2)]) H → va_D A (kflat [(wx8 h0 g0), (wdk t (g0 1) a_desk d_desk), (wso t (g0 7) a_store s7_.2.2)]) → va_S A s.heap H locs → lv_has ls 7 [(0, .ref h0), (1, .int p1), (2, .long s7_.1), (4, .int s7_.2.1)] → W p l e ({ frames := 6, cells := 0, slots := 0, locals := 132 } : Room) s m args below meth c H locs 0 0 (MQ below (kQlS D (TY t) (fun (u : Unit) => (kflat [(wx8 h0 g0), (wdk t (g0 1) a_desk d_desk), (wso t (g0 7) a_store r.2)])) r.1 A) args s 0 0 A) (F0 m 7 ls [])) ?_ FU ((5), 0, d_store) hF _ _ _ hP hD hS (lv_sub hl [2, 3, 1, 0] rfl)
  intro self7 ih7 s7_ hF H locs ls  hP hD hS hl
  refine lv_iload hx hb (kd tdlL_references_0 4 rfl) (lv_at hl 3 rfl) ?_
  refine lv_bipush (v := 8) hx hb (kd tdlL_references_0 5 rfl) (by decide) ?_
  refine lv_icmp_ge (tgt := 100) hx hb (kd tdlL_references_0 6 rfl) (by decide) (fun hc11 => ?_) (fun hc11 => ?_)
  · have hF := kt hc11 hF
    refine lv_lload_n hx hb (kd tdlL_references_1 9 rfl) rfl (lv_at hl 2 rfl) ?_
    cases ko hF
    exact kes_l () hx hb hr hlocks hK hP hD hS rfl (Nat.le_of_ble_eq_true rfl) (Nat.le_of_ble_eq_true rfl) (kd tdlL_references_1 10 rfl)
  · have hF := kf hc11 hF
    refine lv_iload_n hx hb (kd tdlL_references_0 7 rfl) rfl (lv_at hl 1 rfl) ?_
    refine lv_iload hx hb (kd tdlL_references_0 8 rfl) (lv_at hl 3 rfl) ?_
    obtain ⟨v17, e17, hF⟩ := kc hF
    refine kcL_i (S := Unit) (wf := (fun (_ : Unit) => [])) hP hD hS hA nd_ rfl (fun _ => rfl) (kL_S (Qx := (fun A => kQi D (TY t) (kflat []) v17 A)) (cs := []) (is := []) (As := [.int p1, .int s7_.2.1]) (rest := []) ⟨hx, hb, hml, hown, hts⟩ hK hP hD nd_ rfl (c_L_isThere l D t  _ p1 s7_.2.1 v17 e17) (va_cwS 2 hts (gcL_isThere w_273) rfl rfl rfl hdL_isThereS ⟨Nat.le_of_ble_eq_true rfl, Nat.le_of_ble_eq_true rfl⟩) rfl hl.1 rfl (Nat.le_of_ble_eq_true rfl) (kd tdlL_references_0 9 rfl) ⟨Nat.le_of_ble_eq_true rfl, Nat.le_of_ble_eq_true rfl⟩) (fun _ H locs hP hD hS => ?_)
    have hP : va_P D vwCl (kflat [(wx8 h0 g0), (wdk t (g0 1) a_desk d_desk), (wso t (g0 7) a_store s7_.2.2)]) H := hP
    have hD : va_D A (kflat [(wx8 h0 g0), (wdk t (g0 1) a_desk d_desk), (wso t (g0 7) a_store s7_.2.2)]) := hD
    have hJ34 : ∀ j34 : Int32 × SOT, J_L_references_34 self7 s7_ d_desk j34 = some r → ∀ (H : Heap) (locs : List Loc) (ls : Array Slot), va_P D vwCl (kflat [(wx8 h0 g0), (wdk t (g0 1) a_desk d_desk), (wso t (g0 7) a_store j34.2)]) H → va_D A (kflat [(wx8 h0 g0), (wdk t (g0 1) a_desk d_desk), (wso t (g0 7) a_store j34.2)]) → va_S A s.heap H locs → lv_has ls 7 [(0, .ref h0), (1, .int p1), (2, .long s7_.1), (4, .int s7_.2.1)] → W p l e ({ frames := 6, cells := 0, slots := 0, locals := 132 } : Room) s m args below meth c H locs 0 0 (MQ below (kQlS D (TY t) (fun (u : Unit) => (kflat [(wx8 h0 g0), (wdk t (g0 1) a_desk d_desk), (wso t (g0 7) a_store r.2)])) r.1 A) args s 0 0 A) (F0 m 34 ls [.int j34.1]) := by
      intro j34 hF H locs ls  hP hD hS hl
      refine lv_istore (lv' := [(5, .int j34.1), (0, .ref h0), (1, .int p1), (2, .long s7_.1), (4, .int s7_.2.1)]) hx hb (kd tdlL_references_0 17 rfl) hl (by decide) rfl (fun ls hl => ?_)
      refine lv_ldc2 (v := (31)) hx hb hown Lc41 (kd tdlL_references_0 18 rfl) ?_
      refine lv_lload_n hx hb (kd tdlL_references_0 19 rfl) rfl (lv_at hl 3 rfl) ?_
      refine lv_lmul hx hb (kd tdlL_references_0 20 rfl) ?_
      refine lv_iload hx hb (kd tdlL_references_0 21 rfl) (lv_at hl 0 rfl) ?_
      refine lv_i2l hx hb (kd tdlL_references_0 22 rfl) rfl ?_
      refine lv_ladd hx hb (kd tdlL_references_0 23 rfl) ?_
      refine lv_lstore_n (lv' := [(2, .long (((31) * s7_.1) + (Int32.toInt64 j34.1))), (5, .int j34.1), (0, .ref h0), (1, .int p1), (4, .int s7_.2.1)]) hx hb (kd tdlL_references_0 24 rfl) rfl hl (by decide) rfl (fun ls hl => ?_)
      refine lv_iconst (v := 0) hx hb (kd tdlL_references_0 25 rfl) (by decide) ?_
      refine lv_istore (lv' := [(6, .int 0), (2, .long (((31) * s7_.1) + (Int32.toInt64 j34.1))), (5, .int j34.1), (0, .ref h0), (1, .int p1), (4, .int s7_.2.1)]) hx hb (kd tdlL_references_0 26 rfl) hl (by decide) rfl (fun ls hl => ?_)
      refine lp_ind (f := B_L_references_49 j34 self7 s7_ d_desk) (r := r) (P := fun s49_ => ∀ (H : Heap) (locs : List Loc) (ls : Array Slot), va_P D vwCl (kflat [(wx8 h0 g0), (wdk t (g0 1) a_desk d_desk), (wso t (g0 7) a_store j34.2)]) H → va_D A (kflat [(wx8 h0 g0), (wdk t (g0 1) a_desk d_desk), (wso t (g0 7) a_store j34.2)]) → va_S A s.heap H locs → lv_has ls 7 [(0, .ref h0), (1, .int p1), (2, .long s49_.1), (4, .int s7_.2.1), (5, .int j34.1), (6, .int s49_.2)] → W p l e ({ frames := 6, cells := 0, slots := 0, locals := 132 } : Room) s m args below meth c H locs 0 0 (MQ below (kQlS D (TY t) (fun (u : Unit) => (kflat [(wx8 h0 g0), (wdk t (g0 1) a_desk d_desk), (wso t (g0 7) a_store r.2)])) r.1 A) args s 0 0 A) (F0 m 49 ls [])) ?_ FU ((((31) * s7_.1) + (Int32.toInt64 j34.1)), 0) hF _ _ _ hP hD hS (lv_sub hl [3, 4, 1, 5, 2, 0] rfl)
      intro self49 ih49 s49_ hF H locs ls  hP hD hS hl
      refine lv_iload hx hb (kd tdlL_references_0 27 rfl) (lv_at hl 5 rfl) ?_
      refine lv_iload hx hb (kd tdlL_references_0 28 rfl) (lv_at hl 4 rfl) ?_
      refine lv_icmp_ge (tgt := 94) hx hb (kd tdlL_references_0 29 rfl) (by decide) (fun hc53 => ?_) (fun hc53 => ?_)
      · have hF := kt hc53 hF
        refine lv_iinc (v := (s7_.2.1 + 1)) (lv' := [(4, .int (s7_.2.1 + 1)), (0, .ref h0), (1, .int p1), (2, .long s49_.1), (5, .int j34.1), (6, .int s49_.2)]) hx hb (kd tdlL_references_1 7 rfl) hl (k := 3) rfl rfl (by decide) rfl (fun ls hl => ?_)
        refine lv_goto (tgt := 7) hx hb (kd tdlL_references_1 8 rfl) (by decide) ?_
        exact ih7 (s49_.1, (s7_.2.1 + 1), j34.2) hF _ _ _ hP hD hS (lv_sub hl [1, 2, 3, 0] rfl)
      · have hF := kf hc53 hF
        refine lv_ldc2 (v := (31)) hx hb hown Lc41 (kd tdlL_references_0 30 rfl) ?_
        refine lv_ldc2 (v := (31)) hx hb hown Lc41 (kd tdlL_references_0 31 rfl) ?_
        refine lv_lload_n hx hb (kd tdlL_references_0 32 rfl) rfl (lv_at hl 2 rfl) ?_
        refine lv_lmul hx hb (kd tdlL_references_0 33 rfl) ?_
        refine lv_aload_n hx hb (kd tdlL_references_0 34 rfl) rfl (lv_at hl 0 rfl) ?_
        refine lv_iload hx hb (kd tdlL_references_0 35 rfl) (lv_at hl 3 rfl) ?_
        refine lv_iload hx hb (kd tdlL_references_0 36 rfl) (lv_at hl 5 rfl) ?_
        refine lv_iconst (v := 0) hx hb (kd tdlL_references_0 37 rfl) (by decide) ?_
        obtain ⟨v70, e70, hF⟩ := kc hF
        obtain ⟨z70, hF⟩ := kz0 hF
        refine kcL_i (S := Unit) (wf := (fun (_ : Unit) => [(wx8 h0 g0), (wdk t (g0 1) a_desk d_desk)])) hP hD hS hA nd_0_1 rfl (fun _ => rfl) (kL_VX (Qx := (fun A => kQiS D (TY t) (fun (_ : Unit) => kflat [(wx8 h0 g0), (wdk t (g0 1) a_desk d_desk)]) v70.2 A)) (cs := [(wx8 h0 g0), (wdk t (g0 1) a_desk d_desk)]) (is := [0, 1]) (As := [.int s7_.2.1, .int s49_.2, .int 0]) (rest := [.long ((31) * s49_.1), .long (31)]) ⟨hx, hb, hml, hown, hts⟩ hX hS hA hK hP hD nd_0_1 rfl (c_X8_reference l D t h0 g0 a_desk d_desk _ s7_.2.1 s49_.2 0 v70 e70 z70) (cwV 3 hts (gcX8_reference w_326) rfl rfl rfl hdX8_referenceV ⟨Nat.le_of_ble_eq_true rfl, Nat.le_of_ble_eq_true rfl⟩) (ci := 7) (q0 := 0) rfl rfl rfl hl.1 rfl (Nat.le_of_ble_eq_true rfl) (kd tdlL_references_0 38 rfl) ⟨Nat.le_of_ble_eq_true rfl, Nat.le_of_ble_eq_true rfl⟩) (fun _ H locs hP hD hS => ?_)
        have hP : va_P D vwCl (kflat [(wx8 h0 g0), (wdk t (g0 1) a_desk d_desk), (wso t (g0 7) a_store j34.2)]) H := hP
        have hD : va_D A (kflat [(wx8 h0 g0), (wdk t (g0 1) a_desk d_desk), (wso t (g0 7) a_store j34.2)]) := hD
        refine lv_i2l hx hb (kd tdlL_references_0 39 rfl) rfl ?_
        refine lv_ladd hx hb (kd tdlL_references_0 40 rfl) ?_
        refine lv_lmul hx hb (kd tdlL_references_0 41 rfl) ?_
        refine lv_aload_n hx hb (kd tdlL_references_0 42 rfl) rfl (lv_at hl 0 rfl) ?_
        refine lv_iload hx hb (kd tdlL_references_0 43 rfl) (lv_at hl 3 rfl) ?_
        refine lv_iload hx hb (kd tdlL_references_0 44 rfl) (lv_at hl 5 rfl) ?_
        refine lv_iconst (v := 1) hx hb (kd tdlL_references_1 0 rfl) (by decide) ?_
        obtain ⟨v82, e82, hF⟩ := kc hF
        obtain ⟨z82, hF⟩ := kz0 hF
        refine kcL_i (S := Unit) (wf := (fun (_ : Unit) => [(wx8 h0 g0), (wdk t (g0 1) a_desk d_desk)])) hP hD hS hA nd_0_1 rfl (fun _ => rfl) (kL_VX (Qx := (fun A => kQiS D (TY t) (fun (_ : Unit) => kflat [(wx8 h0 g0), (wdk t (g0 1) a_desk d_desk)]) v82.2 A)) (cs := [(wx8 h0 g0), (wdk t (g0 1) a_desk d_desk)]) (is := [0, 1]) (As := [.int s7_.2.1, .int s49_.2, .int 1]) (rest := [.long ((31) * (((31) * s49_.1) + (Int32.toInt64 v70.2)))]) ⟨hx, hb, hml, hown, hts⟩ hX hS hA hK hP hD nd_0_1 rfl (c_X8_reference l D t h0 g0 a_desk d_desk _ s7_.2.1 s49_.2 1 v82 e82 z82) (cwV 3 hts (gcX8_reference w_326) rfl rfl rfl hdX8_referenceV ⟨Nat.le_of_ble_eq_true rfl, Nat.le_of_ble_eq_true rfl⟩) (ci := 7) (q0 := 0) rfl rfl rfl hl.1 rfl (Nat.le_of_ble_eq_true rfl) (kd tdlL_references_1 1 rfl) ⟨Nat.le_of_ble_eq_true rfl, Nat.le_of_ble_eq_true rfl⟩) (fun _ H locs hP hD hS => ?_)
        have hP : va_P D vwCl (kflat [(wx8 h0 g0), (wdk t (g0 1) a_desk d_desk), (wso t (g0 7) a_store j34.2)]) H := hP
        have hD : va_D A (kflat [(wx8 h0 g0), (wdk t (g0 1) a_desk d_desk), (wso t (g0 7) a_store j34.2)]) := hD
        refine lv_i2l hx hb (kd tdlL_references_1 2 rfl) rfl ?_
        refine lv_ladd hx hb (kd tdlL_references_1 3 rfl) ?_
        refine lv_lstore_n (lv' := [(2, .long (((31) * (((31) * s49_.1) + (Int32.toInt64 v70.2))) + (Int32.toInt64 v82.2))), (0, .ref h0), (1, .int p1), (4, .int s7_.2.1), (5, .int j34.1), (6, .int s49_.2)]) hx hb (kd tdlL_references_1 4 rfl) rfl hl (by decide) rfl (fun ls hl => ?_)
        refine lv_iinc (v := (s49_.2 + 1)) (lv' := [(6, .int (s49_.2 + 1)), (2, .long (((31) * (((31) * s49_.1) + (Int32.toInt64 v70.2))) + (Int32.toInt64 v82.2))), (0, .ref h0), (1, .int p1), (4, .int s7_.2.1), (5, .int j34.1)]) hx hb (kd tdlL_references_1 5 rfl) hl (k := 5) rfl rfl (by decide) rfl (fun ls hl => ?_)
        refine lv_goto (tgt := 49) hx hb (kd tdlL_references_1 6 rfl) (by decide) ?_
        exact ih49 ((((31) * (((31) * s49_.1) + (Int32.toInt64 v70.2))) + (Int32.toInt64 v82.2)), (s49_.2 + 1)) hF _ _ _ hP hD hS (lv_sub hl [2, 3, 1, 4, 5, 0] rfl)
    refine lv_if_eq (tgt := 33) hx hb (kd tdlL_references_0 10 rfl) (by decide) (fun hc20 => ?_) (fun hc20 => ?_)
    · have hF := kt hc20 hF
      refine lv_iconst (v := 0) hx hb (kd tdlL_references_0 16 rfl) (by decide) ?_
      exact hJ34 (0, s7_.2.2) hF _ _ _ hP hD hS (lv_sub hl [0, 1, 2, 3] rfl)
    · have hF := kf hc20 hF
      refine lv_aload_n hx hb (kd tdlL_references_0 11 rfl) rfl (lv_at hl 0 rfl) ?_
      refine lv_iload hx hb (kd tdlL_references_0 12 rfl) (lv_at hl 3 rfl) ?_
      refine lv_iconst (v := 0) hx hb (kd tdlL_references_0 13 rfl) (by decide) ?_
      obtain ⟨v27, e27, hF⟩ := kc hF
      obtain ⟨z27, hF⟩ := kz0 hF
      refine kcL_i (S := Unit) (wf := (fun (_ : Unit) => [(wx8 h0 g0), (wdk t (g0 1) a_desk d_desk), (wso t (g0 7) a_store v27.2.2)])) hP hD hS hA nd_0_1_2 rfl (fun _ => rfl) (kL_VX (Qx := (fun A => kQiS D (TY t) (fun (_ : Unit) => kflat [(wx8 h0 g0), (wdk t (g0 1) a_desk d_desk), (wso t (g0 7) a_store v27.2.2)]) v27.2.1 A)) (cs := [(wx8 h0 g0), (wdk t (g0 1) a_desk d_desk), (wso t (g0 7) a_store s7_.2.2)]) (is := [0, 1, 2]) (As := [.int s7_.2.1, .int 0]) (rest := []) ⟨hx, hb, hml, hown, hts⟩ hX hS hA hK hP hD nd_0_1_2 rfl (c_X8_backupOf l D t h0 g0 a_desk d_desk a_store s7_.2.2 _ s7_.2.1 0 v27 e27 z27) (cwV 2 hts (gcX8_backupOf w_276) rfl rfl rfl hdX8_backupOfV ⟨Nat.le_of_ble_eq_true rfl, Nat.le_of_ble_eq_true rfl⟩) (ci := 7) (q0 := 0) rfl rfl rfl hl.1 rfl (Nat.le_of_ble_eq_true rfl) (kd tdlL_references_0 14 rfl) ⟨Nat.le_of_ble_eq_true rfl, Nat.le_of_ble_eq_true rfl⟩) (fun _ H locs hP hD hS => ?_)
      have hP : va_P D vwCl (kflat [(wx8 h0 g0), (wdk t (g0 1) a_desk d_desk), (wso t (g0 7) a_store v27.2.2)]) H := hP
      have hD : va_D A (kflat [(wx8 h0 g0), (wdk t (g0 1) a_desk d_desk), (wso t (g0 7) a_store v27.2.2)]) := hD
      refine lv_goto (tgt := 34) hx hb (kd tdlL_references_0 15 rfl) (by decide) ?_
      exact hJ34 (v27.2.1, v27.2.2) hF _ _ _ hP hD hS (lv_sub hl [0, 1, 2, 3] rfl)
set_option maxHeartbeats 8000000 in
set_option maxRecDepth 100000 in
theorem c_L_act (l : Launch) (D : va_G) (t : Nat → ClassId) (h0 : Nat) (g0 : Nat → Nat) (a_text : Nat → Nat) (d_text : TXT) (a_desk : Nat → Nat) (d_desk : DKT) (a_stream : Nat → Nat) (d_stream : SMT) (a_plan : Nat → Nat) (d_plan : PLT) (a_carrier : Nat → Nat) (d_carrier : CRT) (a_past : Nat → Nat) (u_past : UAT) (d_past : PAT) (sz : Nat) (p1 : Int32) (p2 : Int32) (p3 : Int32) (r : Int32 × TXT × DKT × SMT × PLT × CRT × PAT) (hF : F_L_act d_text d_desk d_stream d_plan d_carrier d_past p1 p2 p3 = some r) : Met l yL_act wL_act ({ frames := 7, cells := 10, slots := 1085, locals := 158 } : Room) (kPx D (TY t) (kflat [(wx8 h0 g0), (wtx t (g0 0) a_text d_text), (wdk t (g0 1) a_desk d_desk), (wsm t (g0 5) a_stream d_stream), (wpl t (g0 6) a_plan d_plan), (wcr t (g0 8) a_carrier d_carrier), (wpa t (g0 3) a_past u_past d_past)]) [.ref h0, .int p1, .int p2, .int p3] sz) (kQiS D (TY t) (fun (u : UAT) => (kflat [(wx8 h0 g0), (wtx t (g0 0) a_text r.2.1), (wdk t (g0 1) a_desk r.2.2.1), (wsm t (g0 5) a_stream r.2.2.2.1), (wpl t (g0 6) a_plan r.2.2.2.2.1), (wcr t (g0 8) a_carrier r.2.2.2.2.2.1), (wpa t (g0 3) a_past u r.2.2.2.2.2.2)])) r.1 (va_A (kflat [(wx8 h0 g0), (wtx t (g0 0) a_text d_text), (wdk t (g0 1) a_desk d_desk), (wsm t (g0 5) a_stream d_stream), (wpl t (g0 6) a_plan d_plan), (wcr t (g0 8) a_carrier d_carrier), (wpa t (g0 3) a_past u_past d_past)]) sz)) 10 1085 (va_A (kflat [(wx8 h0 g0), (wtx t (g0 0) a_text d_text), (wdk t (g0 1) a_desk d_desk), (wsm t (g0 5) a_stream d_stream), (wpl t (g0 6) a_plan d_plan), (wcr t (g0 8) a_carrier d_carrier), (wpa t (g0 3) a_past u_past d_past)]) sz) := by
  refine kEx (cc := cL_act) (maxL := 5) (ret := (some .int)) (Qx := fun A => kQiS D (TY t) (fun (u : UAT) => (kflat [(wx8 h0 g0), (wtx t (g0 0) a_text r.2.1), (wdk t (g0 1) a_desk r.2.2.1), (wsm t (g0 5) a_stream r.2.2.2.1), (wpl t (g0 6) a_plan r.2.2.2.2.1), (wcr t (g0 8) a_carrier r.2.2.2.2.2.1), (wpa t (g0 3) a_past u r.2.2.2.2.2.2)])) r.1 A) (lv0 := [(0, .ref h0), (1, .int p1), (2, .int p2), (3, .int p3)]) RL rfl (by decide) rfl (Nat.le_of_ble_eq_true rfl) rfl ?_
  intro p e s m args below meth c A ls hx hb hml hr hlocks hown hts hA hX hK hP hD hS hl
  have hc9 : 0 + (0 + 10) ≤ 10 := Nat.le_of_ble_eq_true rfl
  have hs9 : 0 + (0 + 1085) ≤ 1085 := Nat.le_of_ble_eq_true rfl
  refine lv_iload_n hx hb (kd tdlL_act_0 0 rfl) rfl (lv_at hl 1 rfl) ?_
  refine lv_iconst (v := 4) hx hb (kd tdlL_act_0 1 rfl) (by decide) ?_
  refine lv_ishr hx hb (kd tdlL_act_0 2 rfl) ?_
  refine lv_bipush (v := 8) hx hb (kd tdlL_act_0 3 rfl) (by decide) ?_
  obtain ⟨v5, e5, hF⟩ := kc hF
  refine kcL_i (S := Unit) (wf := (fun (_ : Unit) => [])) hP hD hS hA nd_ rfl (fun _ => rfl) (kL_S (Qx := (fun A => kQi D (TY t) (kflat []) v5 A)) (cs := []) (is := []) (As := [.int (p1 >>> (4 &&& 31)), .int 8]) (rest := []) ⟨hx, hb, hml, hown, hts⟩ hK hP hD nd_ rfl (c_L_low l D t  _ (p1 >>> (4 &&& 31)) 8 v5 e5) (va_cwS 2 hts (gcL_low w_338) rfl rfl rfl hdL_lowS ⟨Nat.le_of_ble_eq_true rfl, Nat.le_of_ble_eq_true rfl⟩) rfl hl.1 rfl (Nat.le_of_ble_eq_true rfl) (kd tdlL_act_0 4 rfl) ⟨kfi (m := 0) (R' := 10) hc9, kfi (m := 0) (R' := 1085) hs9⟩) (fun _ H locs hP hD hS => ?_)
  have hP : va_P D vwCl (kflat [(wx8 h0 g0), (wtx t (g0 0) a_text d_text), (wdk t (g0 1) a_desk d_desk), (wsm t (g0 5) a_stream d_stream), (wpl t (g0 6) a_plan d_plan), (wcr t (g0 8) a_carrier d_carrier), (wpa t (g0 3) a_past u_past d_past)]) H := hP
  have hD : va_D A (kflat [(wx8 h0 g0), (wtx t (g0 0) a_text d_text), (wdk t (g0 1) a_desk d_desk), (wsm t (g0 5) a_stream d_stream), (wpl t (g0 6) a_plan d_plan), (wcr t (g0 8) a_carrier d_carrier), (wpa t (g0 3) a_past u_past d_past)]) := hD
  have hc9 := kstp (m := 0) (R' := 10) hc9
  have hs9 := kstp (m := 0) (R' := 1085) hs9
  refine lv_istore (lv' := [(4, .int v5), (0, .ref h0), (1, .int p1), (2, .int p2), (3, .int p3)]) hx hb (kd tdlL_act_0 5 rfl) hl (by decide) rfl (fun ls hl => ?_)
  refine lv_iload_n hx hb (kd tdlL_act_0 6 rfl) rfl (lv_at hl 2 rfl) ?_
  refine lv_bipush (v := 7) hx hb (kd tdlL_act_0 7 rfl) (by decide) ?_
  refine lv_iand hx hb (kd tdlL_act_0 8 rfl) ?_
  by_cases hw14 : (Int32.toInt (p1 &&& 7) < 0 ∨ 2 < Int32.toInt (p1 &&& 7))
  · have hF := kt hw14 hF
    refine lv_tableOut (tgt := 122) hx hb (kd tdlL_act_0 9 rfl) hw14 (by decide) ?_
    refine lv_aload_n hx hb (kd tdlL_act_1 19 rfl) rfl (lv_at hl 1 rfl) ?_
    refine lv_iload_n hx hb (kd tdlL_act_1 20 rfl) rfl (lv_at hl 3 rfl) ?_
    refine lv_iconst (v := 1) hx hb (kd tdlL_act_1 21 rfl) (by decide) ?_
    refine lv_iload_n hx hb (kd tdlL_act_1 22 rfl) rfl (lv_at hl 2 rfl) ?_
    refine lv_iconst (v := 4) hx hb (kd tdlL_act_1 23 rfl) (by decide) ?_
    refine lv_ishr hx hb (kd tdlL_act_1 24 rfl) ?_
    refine lv_bipush (v := 30) hx hb (kd tdlL_act_1 25 rfl) (by decide) ?_
    obtain ⟨v130, e130, hF⟩ := kc hF
    refine kcL_i (S := Unit) (wf := (fun (_ : Unit) => [])) hP hD hS hA nd_ rfl (fun _ => rfl) (kL_S (Qx := (fun A => kQi D (TY t) (kflat []) v130 A)) (cs := []) (is := []) (As := [.int (p1 >>> (4 &&& 31)), .int 30]) (rest := [.int 1, .int p2, .ref h0]) ⟨hx, hb, hml, hown, hts⟩ hK hP hD nd_ rfl (c_L_low l D t  _ (p1 >>> (4 &&& 31)) 30 v130 e130) (va_cwS 2 hts (gcL_low w_338) rfl rfl rfl hdL_lowS ⟨Nat.le_of_ble_eq_true rfl, Nat.le_of_ble_eq_true rfl⟩) rfl hl.1 rfl (Nat.le_of_ble_eq_true rfl) (kd tdlL_act_1 26 rfl) ⟨kfi (m := 0) (R' := 10) hc9, kfi (m := 0) (R' := 1085) hs9⟩) (fun _ H locs hP hD hS => ?_)
    have hP : va_P D vwCl (kflat [(wx8 h0 g0), (wtx t (g0 0) a_text d_text), (wdk t (g0 1) a_desk d_desk), (wsm t (g0 5) a_stream d_stream), (wpl t (g0 6) a_plan d_plan), (wcr t (g0 8) a_carrier d_carrier), (wpa t (g0 3) a_past u_past d_past)]) H := hP
    have hD : va_D A (kflat [(wx8 h0 g0), (wtx t (g0 0) a_text d_text), (wdk t (g0 1) a_desk d_desk), (wsm t (g0 5) a_stream d_stream), (wpl t (g0 6) a_plan d_plan), (wcr t (g0 8) a_carrier d_carrier), (wpa t (g0 3) a_past u_past d_past)]) := hD
    have hc9 := kstp (m := 0) (R' := 10) hc9
    have hs9 := kstp (m := 0) (R' := 1085) hs9
    refine lv_iadd hx hb (kd tdlL_act_1 27 rfl) ?_
    obtain ⟨v134, e134, hF⟩ := kc hF
    refine kcL_v (S := Unit) (wf := (fun (_ : Unit) => [(wx8 h0 g0), (wtx t (g0 0) a_text v134)])) hP hD hS hA nd_0_1 rfl (fun _ => rfl) (kL_SX (Qx := (fun A => kQvS D (TY t) (fun (_ : Unit) => kflat [(wx8 h0 g0), (wtx t (g0 0) a_text v134)]) A)) (cs := [(wx8 h0 g0), (wtx t (g0 0) a_text d_text)]) (is := [0, 1]) (As := [.ref h0, .int p2, .int ((1 : Int32) + v130)]) (rest := []) ⟨hx, hb, hml, hown, hts⟩ hX hS hA hK hP hD nd_0_1 rfl (c_L_type l D t h0 g0 a_text d_text _ p2 ((1 : Int32) + v130) v134 e134) (va_cwS 3 hts (gcL_type w_428) rfl rfl rfl hdL_typeS ⟨Nat.le_of_ble_eq_true rfl, Nat.le_of_ble_eq_true rfl⟩) rfl hl.1 rfl (Nat.le_of_ble_eq_true rfl) (kd tdlL_act_1 28 rfl) ⟨kfi (m := 0) (R' := 10) hc9, kfi (m := 0) (R' := 1085) hs9⟩) (fun _ H locs hP hD hS => ?_)
    have hP : va_P D vwCl (kflat [(wx8 h0 g0), (wtx t (g0 0) a_text v134), (wdk t (g0 1) a_desk d_desk), (wsm t (g0 5) a_stream d_stream), (wpl t (g0 6) a_plan d_plan), (wcr t (g0 8) a_carrier d_carrier), (wpa t (g0 3) a_past u_past d_past)]) H := hP
    have hD : va_D A (kflat [(wx8 h0 g0), (wtx t (g0 0) a_text v134), (wdk t (g0 1) a_desk d_desk), (wsm t (g0 5) a_stream d_stream), (wpl t (g0 6) a_plan d_plan), (wcr t (g0 8) a_carrier d_carrier), (wpa t (g0 3) a_past u_past d_past)]) := hD
    have hc9 := kstp (m := 0) (R' := 10) hc9
    have hs9 := kstp (m := 0) (R' := 1085) hs9
    refine lv_iload_n hx hb (kd tdlL_act_1 29 rfl) rfl (lv_at hl 4 rfl) ?_
    refine lv_sipush (v := 255) hx hb (kd tdlL_act_1 30 rfl) (by decide) ?_
    have hJ153 : ∀ j153 : SMT × PLT, J_L_act_153 d_desk d_carrier d_past p3 v134 j153 = some r → ∀ (H : Heap) (locs : List Loc) (ls : Array Slot) (uu : UAT) (c9 s9 : Nat), va_P D vwCl (kflat [(wx8 h0 g0), (wtx t (g0 0) a_text v134), (wdk t (g0 1) a_desk d_desk), (wsm t (g0 5) a_stream j153.1), (wpl t (g0 6) a_plan j153.2), (wcr t (g0 8) a_carrier d_carrier), (wpa t (g0 3) a_past uu d_past)]) H → va_D A (kflat [(wx8 h0 g0), (wtx t (g0 0) a_text v134), (wdk t (g0 1) a_desk d_desk), (wsm t (g0 5) a_stream j153.1), (wpl t (g0 6) a_plan j153.2), (wcr t (g0 8) a_carrier d_carrier), (wpa t (g0 3) a_past uu d_past)]) → va_S A s.heap H locs → lv_has ls 5 [(0, .ref h0), (3, .int p3)] → c9 + (0 + 10) ≤ 10 → s9 + (0 + 1085) ≤ 1085 → W p l e ({ frames := 7, cells := 10, slots := 1085, locals := 158 } : Room) s m args below meth c H locs c9 s9 (MQ below (kQiS D (TY t) (fun (u : UAT) => (kflat [(wx8 h0 g0), (wtx t (g0 0) a_text r.2.1), (wdk t (g0 1) a_desk r.2.2.1), (wsm t (g0 5) a_stream r.2.2.2.1), (wpl t (g0 6) a_plan r.2.2.2.2.1), (wcr t (g0 8) a_carrier r.2.2.2.2.2.1), (wpa t (g0 3) a_past u r.2.2.2.2.2.2)])) r.1 A) args s 10 1085 A) (F0 m 153 ls []) := by
      clear hc9 hs9
      intro j153 hF H locs ls uu c9 s9 hP hD hS hl hc9 hs9
      refine lv_aload_n hx hb (kd tdlL_act_1 36 rfl) rfl (lv_at hl 0 rfl) ?_
      obtain ⟨v154, e154, hF⟩ := kc hF
      refine kcL_i (S := UAT) (wf := (fun (u154 : UAT) => [(wx8 h0 g0), (wdk t (g0 1) a_desk v154.2.1), (wcr t (g0 8) a_carrier v154.2.2.1), (wpa t (g0 3) a_past u154 v154.2.2.2)])) hP hD hS hA nd_0_2_5_6 rfl (fun _ => rfl) (kL_VX (Qx := (fun A => kQiS D (TY t) (fun (u154 : UAT) => kflat [(wx8 h0 g0), (wdk t (g0 1) a_desk v154.2.1), (wcr t (g0 8) a_carrier v154.2.2.1), (wpa t (g0 3) a_past u154 v154.2.2.2)]) v154.1 A)) (cs := [(wx8 h0 g0), (wdk t (g0 1) a_desk d_desk), (wcr t (g0 8) a_carrier d_carrier), (wpa t (g0 3) a_past uu d_past)]) (is := [0, 2, 5, 6]) (As := []) (rest := []) ⟨hx, hb, hml, hown, hts⟩ hX hS hA hK hP hD nd_0_2_5_6 rfl (c_X8_carry l D t h0 g0 a_desk d_desk a_carrier d_carrier a_past uu d_past _  v154 e154) (cwV 0 hts (gcX8_carry w_357) rfl rfl rfl hdX8_carryV ⟨Nat.le_of_ble_eq_true rfl, Nat.le_of_ble_eq_true rfl⟩) (ci := 7) (q0 := 0) rfl rfl rfl hl.1 rfl (Nat.le_of_ble_eq_true rfl) (kd tdlL_act_1 37 rfl) ⟨kfi (m := 10) (R' := 0) hc9, kfi (m := 1085) (R' := 0) hs9⟩) (fun u154 H locs hP hD hS => ?_)
      have hP : va_P D vwCl (kflat [(wx8 h0 g0), (wtx t (g0 0) a_text v134), (wdk t (g0 1) a_desk v154.2.1), (wsm t (g0 5) a_stream j153.1), (wpl t (g0 6) a_plan j153.2), (wcr t (g0 8) a_carrier v154.2.2.1), (wpa t (g0 3) a_past u154 v154.2.2.2)]) H := hP
      have hD : va_D A (kflat [(wx8 h0 g0), (wtx t (g0 0) a_text v134), (wdk t (g0 1) a_desk v154.2.1), (wsm t (g0 5) a_stream j153.1), (wpl t (g0 6) a_plan j153.2), (wcr t (g0 8) a_carrier v154.2.2.1), (wpa t (g0 3) a_past u154 v154.2.2.2)]) := hD
      have hc9 := kstp (m := 10) (R' := 0) hc9
      have hs9 := kstp (m := 1085) (R' := 0) hs9
      refine lv_pop hx hb (kd tdlL_act_1 38 rfl) rfl ?_
      refine lv_iload_n hx hb (kd tdlL_act_1 39 rfl) rfl (lv_at hl 1 rfl) ?_
      cases ko hF
      exact kes_i u154 hx hb hr hlocks hK hP hD hS rfl (kfr hc9) (kfr hs9) (kd tdlL_act_1 40 rfl)
    refine lv_icmp_eq (tgt := 153) hx hb (kd tdlL_act_1 31 rfl) (by decide) (fun hc141 => ?_) (fun hc141 => ?_)
    · have hF := kt hc141 hF
      exact hJ153 (d_stream, d_plan) hF _ _ _ _ _ _ hP hD hS (lv_sub hl [1, 4] rfl) (kjm (R := 10) (R' := 10) hc9 (Nat.le_of_ble_eq_true rfl)) (kjm (R := 1085) (R' := 1085) hs9 (Nat.le_of_ble_eq_true rfl))
    · have hF := kf hc141 hF
      refine lv_aload_n hx hb (kd tdlL_act_1 32 rfl) rfl (lv_at hl 1 rfl) ?_
      obtain ⟨v145, e145, hF⟩ := kc hF
      refine kcL_i (S := Unit) (wf := (fun (_ : Unit) => [(wx8 h0 g0), (wtx t (g0 0) a_text v134), (wdk t (g0 1) a_desk d_desk), (wsm t (g0 5) a_stream v145.2.1), (wpl t (g0 6) a_plan v145.2.2)])) hP hD hS hA nd_0_1_2_3_4 rfl (fun _ => rfl) (kL_SX (Qx := (fun A => kQiS D (TY t) (fun (_ : Unit) => kflat [(wx8 h0 g0), (wtx t (g0 0) a_text v134), (wdk t (g0 1) a_desk d_desk), (wsm t (g0 5) a_stream v145.2.1), (wpl t (g0 6) a_plan v145.2.2)]) v145.1 A)) (cs := [(wx8 h0 g0), (wtx t (g0 0) a_text v134), (wdk t (g0 1) a_desk d_desk), (wsm t (g0 5) a_stream d_stream), (wpl t (g0 6) a_plan d_plan)]) (is := [0, 1, 2, 3, 4]) (As := [.ref h0]) (rest := []) ⟨hx, hb, hml, hown, hts⟩ hX hS hA hK hP hD nd_0_1_2_3_4 rfl (c_L_containersBehind l D t h0 g0 a_text v134 a_desk d_desk a_stream d_stream a_plan d_plan _  v145 e145) (va_cwS 1 hts (gcL_containersBehind w_455) rfl rfl rfl hdL_containersBehindS ⟨Nat.le_of_ble_eq_true rfl, Nat.le_of_ble_eq_true rfl⟩) rfl hl.1 rfl (Nat.le_of_ble_eq_true rfl) (kd tdlL_act_1 33 rfl) ⟨kfi (m := 0) (R' := 10) hc9, kfi (m := 0) (R' := 1085) hs9⟩) (fun _ H locs hP hD hS => ?_)
      have hP : va_P D vwCl (kflat [(wx8 h0 g0), (wtx t (g0 0) a_text v134), (wdk t (g0 1) a_desk d_desk), (wsm t (g0 5) a_stream v145.2.1), (wpl t (g0 6) a_plan v145.2.2), (wcr t (g0 8) a_carrier d_carrier), (wpa t (g0 3) a_past u_past d_past)]) H := hP
      have hD : va_D A (kflat [(wx8 h0 g0), (wtx t (g0 0) a_text v134), (wdk t (g0 1) a_desk d_desk), (wsm t (g0 5) a_stream v145.2.1), (wpl t (g0 6) a_plan v145.2.2), (wcr t (g0 8) a_carrier d_carrier), (wpa t (g0 3) a_past u_past d_past)]) := hD
      have hc9 := kstp (m := 0) (R' := 10) hc9
      have hs9 := kstp (m := 0) (R' := 1085) hs9
      refine lv_bipush (v := 24) hx hb (kd tdlL_act_1 34 rfl) (by decide) ?_
      refine lv_icmp_le (tgt := 160) hx hb (kd tdlL_act_1 35 rfl) (by decide) (fun hc150 => ?_) (fun hc150 => ?_)
      · have hF := kt hc150 hF
        refine lv_iload_n hx hb (kd tdlL_act_1 41 rfl) rfl (lv_at hl 4 rfl) ?_
        refine lv_iconst (v := 1) hx hb (kd tdlL_act_1 42 rfl) (by decide) ?_
        refine lv_aload_n hx hb (kd tdlL_act_1 43 rfl) rfl (lv_at hl 1 rfl) ?_
        refine lv_iconst (v := 0) hx hb (kd tdlL_act_1 44 rfl) (by decide) ?_
        obtain ⟨v164, e164, hF⟩ := kc hF
        obtain ⟨z164, hF⟩ := kz0 hF
        refine kcL_i (S := UAT) (wf := (fun (u164 : UAT) => [(wx8 h0 g0), (wtx t (g0 0) a_text v134), (wdk t (g0 1) a_desk v164.2.2.1), (wsm t (g0 5) a_stream v164.2.2.2.1), (wpl t (g0 6) a_plan v164.2.2.2.2.1), (wpa t (g0 3) a_past u164 v164.2.2.2.2.2)])) hP hD hS hA nd_0_1_2_3_4_6 rfl (fun _ => rfl) (kL_VX (Qx := (fun A => kQiS D (TY t) (fun (u164 : UAT) => kflat [(wx8 h0 g0), (wtx t (g0 0) a_text v134), (wdk t (g0 1) a_desk v164.2.2.1), (wsm t (g0 5) a_stream v164.2.2.2.1), (wpl t (g0 6) a_plan v164.2.2.2.2.1), (wpa t (g0 3) a_past u164 v164.2.2.2.2.2)]) v164.2.1 A)) (cs := [(wx8 h0 g0), (wtx t (g0 0) a_text v134), (wdk t (g0 1) a_desk d_desk), (wsm t (g0 5) a_stream v145.2.1), (wpl t (g0 6) a_plan v145.2.2), (wpa t (g0 3) a_past u_past d_past)]) (is := [0, 1, 2, 3, 4, 6]) (As := [.int 0]) (rest := [.int 1, .int p3]) ⟨hx, hb, hml, hown, hts⟩ hX hS hA hK hP hD nd_0_1_2_3_4_6 rfl (c_X8_backup l D t h0 g0 a_text v134 a_desk d_desk a_stream v145.2.1 a_plan v145.2.2 a_past u_past d_past _ 0 v164 e164 z164) (cwV 1 hts (gcX8_backup w_556) rfl rfl rfl hdX8_backupV ⟨Nat.le_of_ble_eq_true rfl, Nat.le_of_ble_eq_true rfl⟩) (ci := 7) (q0 := 0) rfl rfl rfl hl.1 rfl (Nat.le_of_ble_eq_true rfl) (kd tdlL_act_2 0 rfl) ⟨kfi (m := 10) (R' := 0) hc9, kfi (m := 1085) (R' := 0) hs9⟩) (fun u164 H locs hP hD hS => ?_)
        have hP : va_P D vwCl (kflat [(wx8 h0 g0), (wtx t (g0 0) a_text v134), (wdk t (g0 1) a_desk v164.2.2.1), (wsm t (g0 5) a_stream v164.2.2.2.1), (wpl t (g0 6) a_plan v164.2.2.2.2.1), (wcr t (g0 8) a_carrier d_carrier), (wpa t (g0 3) a_past u164 v164.2.2.2.2.2)]) H := hP
        have hD : va_D A (kflat [(wx8 h0 g0), (wtx t (g0 0) a_text v134), (wdk t (g0 1) a_desk v164.2.2.1), (wsm t (g0 5) a_stream v164.2.2.2.1), (wpl t (g0 6) a_plan v164.2.2.2.2.1), (wcr t (g0 8) a_carrier d_carrier), (wpa t (g0 3) a_past u164 v164.2.2.2.2.2)]) := hD
        have hc9 := kstp (m := 10) (R' := 0) hc9
        have hs9 := kstp (m := 1085) (R' := 0) hs9
        refine lv_ishl hx hb (kd tdlL_act_2 1 rfl) ?_
        refine lv_ior hx hb (kd tdlL_act_2 2 rfl) ?_
        cases ko hF
        exact kes_i u164 hx hb hr hlocks hK hP hD hS rfl (kfr hc9) (kfr hs9) (kd tdlL_act_2 3 rfl)
      · have hF := kf hc150 hF
        exact hJ153 (v145.2.1, v145.2.2) hF _ _ _ _ _ _ hP hD hS (lv_sub hl [1, 4] rfl) (kjm (R := 10) (R' := 10) hc9 (Nat.le_of_ble_eq_true rfl)) (kjm (R := 1085) (R' := 1085) hs9 (Nat.le_of_ble_eq_true rfl))
  · have hF := kf hw14 hF
    by_cases hv14_0 : (p1 &&& 7) = 0
    · have hF := kt hv14_0 hF
      refine ksw (n := 0) (off := (26)) (tgt := 40) hx hb (kd tdlL_act_0 9 rfl) hv14_0 (by decide) (by decide) (by decide) (by decide) ?_
      refine lv_iload_n hx hb (kd tdlL_act_0 10 rfl) rfl (lv_at hl 4 rfl) ?_
      refine lv_iload hx hb (kd tdlL_act_0 11 rfl) (lv_at hl 0 rfl) ?_
      obtain ⟨v43, e43, hF⟩ := kc hF
      refine kcL_i (S := Unit) (wf := (fun (_ : Unit) => [])) hP hD hS hA nd_ rfl (fun _ => rfl) (kL_S (Qx := (fun A => kQi D (TY t) (kflat []) v43 A)) (cs := []) (is := []) (As := [.int p3, .int v5]) (rest := []) ⟨hx, hb, hml, hown, hts⟩ hK hP hD nd_ rfl (c_L_isThere l D t  _ p3 v5 v43 e43) (va_cwS 2 hts (gcL_isThere w_273) rfl rfl rfl hdL_isThereS ⟨Nat.le_of_ble_eq_true rfl, Nat.le_of_ble_eq_true rfl⟩) rfl hl.1 rfl (Nat.le_of_ble_eq_true rfl) (kd tdlL_act_0 12 rfl) ⟨kfi (m := 0) (R' := 10) hc9, kfi (m := 0) (R' := 1085) hs9⟩) (fun _ H locs hP hD hS => ?_)
      have hP : va_P D vwCl (kflat [(wx8 h0 g0), (wtx t (g0 0) a_text d_text), (wdk t (g0 1) a_desk d_desk), (wsm t (g0 5) a_stream d_stream), (wpl t (g0 6) a_plan d_plan), (wcr t (g0 8) a_carrier d_carrier), (wpa t (g0 3) a_past u_past d_past)]) H := hP
      have hD : va_D A (kflat [(wx8 h0 g0), (wtx t (g0 0) a_text d_text), (wdk t (g0 1) a_desk d_desk), (wsm t (g0 5) a_stream d_stream), (wpl t (g0 6) a_plan d_plan), (wcr t (g0 8) a_carrier d_carrier), (wpa t (g0 3) a_past u_past d_past)]) := hD
      have hc9 := kstp (m := 0) (R' := 10) hc9
      have hs9 := kstp (m := 0) (R' := 1085) hs9
      refine lv_if_eq (tgt := 65) hx hb (kd tdlL_act_0 13 rfl) (by decide) (fun hc46 => ?_) (fun hc46 => ?_)
      · have hF := kt hc46 hF
        refine lv_aload_n hx hb (kd tdlL_act_0 26 rfl) rfl (lv_at hl 1 rfl) ?_
        obtain ⟨v66, e66, hF⟩ := kc hF
        refine kcL_i (S := UAT) (wf := (fun (u66 : UAT) => [(wx8 h0 g0), (wdk t (g0 1) a_desk v66.2.1), (wcr t (g0 8) a_carrier v66.2.2.1), (wpa t (g0 3) a_past u66 v66.2.2.2)])) hP hD hS hA nd_0_2_5_6 rfl (fun _ => rfl) (kL_VX (Qx := (fun A => kQiS D (TY t) (fun (u66 : UAT) => kflat [(wx8 h0 g0), (wdk t (g0 1) a_desk v66.2.1), (wcr t (g0 8) a_carrier v66.2.2.1), (wpa t (g0 3) a_past u66 v66.2.2.2)]) v66.1 A)) (cs := [(wx8 h0 g0), (wdk t (g0 1) a_desk d_desk), (wcr t (g0 8) a_carrier d_carrier), (wpa t (g0 3) a_past u_past d_past)]) (is := [0, 2, 5, 6]) (As := []) (rest := []) ⟨hx, hb, hml, hown, hts⟩ hX hS hA hK hP hD nd_0_2_5_6 rfl (c_X8_carry l D t h0 g0 a_desk d_desk a_carrier d_carrier a_past u_past d_past _  v66 e66) (cwV 0 hts (gcX8_carry w_357) rfl rfl rfl hdX8_carryV ⟨Nat.le_of_ble_eq_true rfl, Nat.le_of_ble_eq_true rfl⟩) (ci := 7) (q0 := 0) rfl rfl rfl hl.1 rfl (Nat.le_of_ble_eq_true rfl) (kd tdlL_act_0 27 rfl) ⟨kfi (m := 10) (R' := 0) hc9, kfi (m := 1085) (R' := 0) hs9⟩) (fun u66 H locs hP hD hS => ?_)
        have hP : va_P D vwCl (kflat [(wx8 h0 g0), (wtx t (g0 0) a_text d_text), (wdk t (g0 1) a_desk v66.2.1), (wsm t (g0 5) a_stream d_stream), (wpl t (g0 6) a_plan d_plan), (wcr t (g0 8) a_carrier v66.2.2.1), (wpa t (g0 3) a_past u66 v66.2.2.2)]) H := hP
        have hD : va_D A (kflat [(wx8 h0 g0), (wtx t (g0 0) a_text d_text), (wdk t (g0 1) a_desk v66.2.1), (wsm t (g0 5) a_stream d_stream), (wpl t (g0 6) a_plan d_plan), (wcr t (g0 8) a_carrier v66.2.2.1), (wpa t (g0 3) a_past u66 v66.2.2.2)]) := hD
        have hc9 := kstp (m := 10) (R' := 0) hc9
        have hs9 := kstp (m := 1085) (R' := 0) hs9
        refine lv_pop hx hb (kd tdlL_act_0 28 rfl) rfl ?_
        refine lv_iload_n hx hb (kd tdlL_act_0 29 rfl) rfl (lv_at hl 4 rfl) ?_
        cases ko hF
        exact kes_i u66 hx hb hr hlocks hK hP hD hS rfl (kfr hc9) (kfr hs9) (kd tdlL_act_0 30 rfl)
      · have hF := kf hc46 hF
        refine lv_aload_n hx hb (kd tdlL_act_0 14 rfl) rfl (lv_at hl 1 rfl) ?_
        refine lv_iload hx hb (kd tdlL_act_0 15 rfl) (lv_at hl 0 rfl) ?_
        obtain ⟨v52, e52, hF⟩ := kc hF
        obtain ⟨z52, hF⟩ := kz0 hF
        refine kcL_i (S := UAT) (wf := (fun (u52 : UAT) => [(wx8 h0 g0), (wdk t (g0 1) a_desk v52.2.2.1), (wpa t (g0 3) a_past u52 v52.2.2.2)])) hP hD hS hA nd_0_2_6 rfl (fun _ => rfl) (kL_VX (Qx := (fun A => kQiS D (TY t) (fun (u52 : UAT) => kflat [(wx8 h0 g0), (wdk t (g0 1) a_desk v52.2.2.1), (wpa t (g0 3) a_past u52 v52.2.2.2)]) v52.2.1 A)) (cs := [(wx8 h0 g0), (wdk t (g0 1) a_desk d_desk), (wpa t (g0 3) a_past u_past d_past)]) (is := [0, 2, 6]) (As := [.int v5]) (rest := []) ⟨hx, hb, hml, hown, hts⟩ hX hS hA hK hP hD nd_0_2_6 rfl (c_X8_delete l D t h0 g0 a_desk d_desk a_past u_past d_past _ v5 v52 e52 z52) (cwV 1 hts (gcX8_delete w_342) rfl rfl rfl hdX8_deleteV ⟨Nat.le_of_ble_eq_true rfl, Nat.le_of_ble_eq_true rfl⟩) (ci := 7) (q0 := 0) rfl rfl rfl hl.1 rfl (Nat.le_of_ble_eq_true rfl) (kd tdlL_act_0 16 rfl) ⟨kfi (m := 10) (R' := 0) hc9, kfi (m := 1085) (R' := 0) hs9⟩) (fun u52 H locs hP hD hS => ?_)
        have hP : va_P D vwCl (kflat [(wx8 h0 g0), (wtx t (g0 0) a_text d_text), (wdk t (g0 1) a_desk v52.2.2.1), (wsm t (g0 5) a_stream d_stream), (wpl t (g0 6) a_plan d_plan), (wcr t (g0 8) a_carrier d_carrier), (wpa t (g0 3) a_past u52 v52.2.2.2)]) H := hP
        have hD : va_D A (kflat [(wx8 h0 g0), (wtx t (g0 0) a_text d_text), (wdk t (g0 1) a_desk v52.2.2.1), (wsm t (g0 5) a_stream d_stream), (wpl t (g0 6) a_plan d_plan), (wcr t (g0 8) a_carrier d_carrier), (wpa t (g0 3) a_past u52 v52.2.2.2)]) := hD
        have hc9 := kstp (m := 10) (R' := 0) hc9
        have hs9 := kstp (m := 1085) (R' := 0) hs9
        refine lv_pop hx hb (kd tdlL_act_0 17 rfl) rfl ?_
        refine lv_iload_n hx hb (kd tdlL_act_0 18 rfl) rfl (lv_at hl 4 rfl) ?_
        refine lv_iconst (v := 1) hx hb (kd tdlL_act_0 19 rfl) (by decide) ?_
        refine lv_iload hx hb (kd tdlL_act_0 20 rfl) (lv_at hl 0 rfl) ?_
        refine lv_ishl hx hb (kd tdlL_act_0 21 rfl) ?_
        refine lv_iconst (v := (-1)) hx hb (kd tdlL_act_0 22 rfl) (by decide) ?_
        refine lv_ixor hx hb (kd tdlL_act_0 23 rfl) ?_
        refine lv_iand hx hb (kd tdlL_act_0 24 rfl) ?_
        cases ko hF
        exact kes_i u52 hx hb hr hlocks hK hP hD hS rfl (kfr hc9) (kfr hs9) (kd tdlL_act_0 25 rfl)
    · have hF := kf hv14_0 hF
      by_cases hv14_1 : (p1 &&& 7) = 1
      · have hF := kt hv14_1 hF
        refine ksw (n := 1) (off := (58)) (tgt := 72) hx hb (kd tdlL_act_0 9 rfl) hv14_1 (by decide) (by decide) (by decide) (by decide) ?_
        refine lv_aload_n hx hb (kd tdlL_act_0 31 rfl) rfl (lv_at hl 1 rfl) ?_
        obtain ⟨v73, e73, hF⟩ := kc hF
        refine kcL_i (S := UAT) (wf := (fun (u73 : UAT) => [(wx8 h0 g0), (wdk t (g0 1) a_desk v73.2.1), (wcr t (g0 8) a_carrier v73.2.2.1), (wpa t (g0 3) a_past u73 v73.2.2.2)])) hP hD hS hA nd_0_2_5_6 rfl (fun _ => rfl) (kL_VX (Qx := (fun A => kQiS D (TY t) (fun (u73 : UAT) => kflat [(wx8 h0 g0), (wdk t (g0 1) a_desk v73.2.1), (wcr t (g0 8) a_carrier v73.2.2.1), (wpa t (g0 3) a_past u73 v73.2.2.2)]) v73.1 A)) (cs := [(wx8 h0 g0), (wdk t (g0 1) a_desk d_desk), (wcr t (g0 8) a_carrier d_carrier), (wpa t (g0 3) a_past u_past d_past)]) (is := [0, 2, 5, 6]) (As := []) (rest := []) ⟨hx, hb, hml, hown, hts⟩ hX hS hA hK hP hD nd_0_2_5_6 rfl (c_X8_carry l D t h0 g0 a_desk d_desk a_carrier d_carrier a_past u_past d_past _  v73 e73) (cwV 0 hts (gcX8_carry w_357) rfl rfl rfl hdX8_carryV ⟨Nat.le_of_ble_eq_true rfl, Nat.le_of_ble_eq_true rfl⟩) (ci := 7) (q0 := 0) rfl rfl rfl hl.1 rfl (Nat.le_of_ble_eq_true rfl) (kd tdlL_act_0 32 rfl) ⟨kfi (m := 10) (R' := 0) hc9, kfi (m := 1085) (R' := 0) hs9⟩) (fun u73 H locs hP hD hS => ?_)
        have hP : va_P D vwCl (kflat [(wx8 h0 g0), (wtx t (g0 0) a_text d_text), (wdk t (g0 1) a_desk v73.2.1), (wsm t (g0 5) a_stream d_stream), (wpl t (g0 6) a_plan d_plan), (wcr t (g0 8) a_carrier v73.2.2.1), (wpa t (g0 3) a_past u73 v73.2.2.2)]) H := hP
        have hD : va_D A (kflat [(wx8 h0 g0), (wtx t (g0 0) a_text d_text), (wdk t (g0 1) a_desk v73.2.1), (wsm t (g0 5) a_stream d_stream), (wpl t (g0 6) a_plan d_plan), (wcr t (g0 8) a_carrier v73.2.2.1), (wpa t (g0 3) a_past u73 v73.2.2.2)]) := hD
        have hc9 := kstp (m := 10) (R' := 0) hc9
        have hs9 := kstp (m := 1085) (R' := 0) hs9
        refine lv_pop hx hb (kd tdlL_act_0 33 rfl) rfl ?_
        refine lv_iload_n hx hb (kd tdlL_act_0 34 rfl) rfl (lv_at hl 4 rfl) ?_
        cases ko hF
        exact kes_i u73 hx hb hr hlocks hK hP hD hS rfl (kfr hc9) (kfr hs9) (kd tdlL_act_0 35 rfl)
      · have hF := kf hv14_1 hF
        have hv14_2 : (p1 &&& 7) = 2 := keq (k := 2) (by have a0 := kne hv14_0 (k := 0) (by decide); have a1 := kne hv14_1 (k := 1) (by decide); omega) (by decide)
        refine ksw (n := 2) (off := (65)) (tgt := 79) hx hb (kd tdlL_act_0 9 rfl) hv14_2 (by decide) (by decide) (by decide) (by decide) ?_
        refine lv_aload_n hx hb (kd tdlL_act_0 36 rfl) rfl (lv_at hl 1 rfl) ?_
        refine lv_iload_n hx hb (kd tdlL_act_0 37 rfl) rfl (lv_at hl 2 rfl) ?_
        refine lv_iconst (v := 4) hx hb (kd tdlL_act_0 38 rfl) (by decide) ?_
        refine lv_ishr hx hb (kd tdlL_act_0 39 rfl) ?_
        refine lv_iconst (v := 5) hx hb (kd tdlL_act_0 40 rfl) (by decide) ?_
        obtain ⟨v84, e84, hF⟩ := kc hF
        refine kcL_i (S := Unit) (wf := (fun (_ : Unit) => [])) hP hD hS hA nd_ rfl (fun _ => rfl) (kL_S (Qx := (fun A => kQi D (TY t) (kflat []) v84 A)) (cs := []) (is := []) (As := [.int (p1 >>> (4 &&& 31)), .int 5]) (rest := [.ref h0]) ⟨hx, hb, hml, hown, hts⟩ hK hP hD nd_ rfl (c_L_low l D t  _ (p1 >>> (4 &&& 31)) 5 v84 e84) (va_cwS 2 hts (gcL_low w_338) rfl rfl rfl hdL_lowS ⟨Nat.le_of_ble_eq_true rfl, Nat.le_of_ble_eq_true rfl⟩) rfl hl.1 rfl (Nat.le_of_ble_eq_true rfl) (kd tdlL_act_0 41 rfl) ⟨kfi (m := 0) (R' := 10) hc9, kfi (m := 0) (R' := 1085) hs9⟩) (fun _ H locs hP hD hS => ?_)
        have hP : va_P D vwCl (kflat [(wx8 h0 g0), (wtx t (g0 0) a_text d_text), (wdk t (g0 1) a_desk d_desk), (wsm t (g0 5) a_stream d_stream), (wpl t (g0 6) a_plan d_plan), (wcr t (g0 8) a_carrier d_carrier), (wpa t (g0 3) a_past u_past d_past)]) H := hP
        have hD : va_D A (kflat [(wx8 h0 g0), (wtx t (g0 0) a_text d_text), (wdk t (g0 1) a_desk d_desk), (wsm t (g0 5) a_stream d_stream), (wpl t (g0 6) a_plan d_plan), (wcr t (g0 8) a_carrier d_carrier), (wpa t (g0 3) a_past u_past d_past)]) := hD
        have hc9 := kstp (m := 0) (R' := 10) hc9
        have hs9 := kstp (m := 0) (R' := 1085) hs9
        refine lv_iload_n hx hb (kd tdlL_act_0 42 rfl) rfl (lv_at hl 2 rfl) ?_
        refine lv_iconst (v := 4) hx hb (kd tdlL_act_0 43 rfl) (by decide) ?_
        refine lv_ishr hx hb (kd tdlL_act_0 44 rfl) ?_
        refine lv_iconst (v := 5) hx hb (kd tdlL_act_1 0 rfl) (by decide) ?_
        obtain ⟨v91, e91, hF⟩ := kc hF
        refine kcL_i (S := Unit) (wf := (fun (_ : Unit) => [])) hP hD hS hA nd_ rfl (fun _ => rfl) (kL_S (Qx := (fun A => kQi D (TY t) (kflat []) v91 A)) (cs := []) (is := []) (As := [.int (p1 >>> (4 &&& 31)), .int 5]) (rest := [.int v84, .ref h0]) ⟨hx, hb, hml, hown, hts⟩ hK hP hD nd_ rfl (c_L_low l D t  _ (p1 >>> (4 &&& 31)) 5 v91 e91) (va_cwS 2 hts (gcL_low w_338) rfl rfl rfl hdL_lowS ⟨Nat.le_of_ble_eq_true rfl, Nat.le_of_ble_eq_true rfl⟩) rfl hl.1 rfl (Nat.le_of_ble_eq_true rfl) (kd tdlL_act_1 1 rfl) ⟨kfi (m := 0) (R' := 10) hc9, kfi (m := 0) (R' := 1085) hs9⟩) (fun _ H locs hP hD hS => ?_)
        have hP : va_P D vwCl (kflat [(wx8 h0 g0), (wtx t (g0 0) a_text d_text), (wdk t (g0 1) a_desk d_desk), (wsm t (g0 5) a_stream d_stream), (wpl t (g0 6) a_plan d_plan), (wcr t (g0 8) a_carrier d_carrier), (wpa t (g0 3) a_past u_past d_past)]) H := hP
        have hD : va_D A (kflat [(wx8 h0 g0), (wtx t (g0 0) a_text d_text), (wdk t (g0 1) a_desk d_desk), (wsm t (g0 5) a_stream d_stream), (wpl t (g0 6) a_plan d_plan), (wcr t (g0 8) a_carrier d_carrier), (wpa t (g0 3) a_past u_past d_past)]) := hD
        have hc9 := kstp (m := 0) (R' := 10) hc9
        have hs9 := kstp (m := 0) (R' := 1085) hs9
        refine lv_iconst (v := 3) hx hb (kd tdlL_act_1 2 rfl) (by decide) ?_
        have hJ116 : ∀ j116 : Int32, J_L_act_116 d_desk d_past v84 p3 d_text d_stream d_plan d_carrier j116 = some r → ∀ (H : Heap) (locs : List Loc) (ls : Array Slot) (uu : UAT) (c9 s9 : Nat), va_P D vwCl (kflat [(wx8 h0 g0), (wtx t (g0 0) a_text d_text), (wdk t (g0 1) a_desk d_desk), (wsm t (g0 5) a_stream d_stream), (wpl t (g0 6) a_plan d_plan), (wcr t (g0 8) a_carrier d_carrier), (wpa t (g0 3) a_past uu d_past)]) H → va_D A (kflat [(wx8 h0 g0), (wtx t (g0 0) a_text d_text), (wdk t (g0 1) a_desk d_desk), (wsm t (g0 5) a_stream d_stream), (wpl t (g0 6) a_plan d_plan), (wcr t (g0 8) a_carrier d_carrier), (wpa t (g0 3) a_past uu d_past)]) → va_S A s.heap H locs → lv_has ls 5 [(3, .int p3)] → c9 + (0 + 10) ≤ 10 → s9 + (0 + 1085) ≤ 1085 → W p l e ({ frames := 7, cells := 10, slots := 1085, locals := 158 } : Room) s m args below meth c H locs c9 s9 (MQ below (kQiS D (TY t) (fun (u : UAT) => (kflat [(wx8 h0 g0), (wtx t (g0 0) a_text r.2.1), (wdk t (g0 1) a_desk r.2.2.1), (wsm t (g0 5) a_stream r.2.2.2.1), (wpl t (g0 6) a_plan r.2.2.2.2.1), (wcr t (g0 8) a_carrier r.2.2.2.2.2.1), (wpa t (g0 3) a_past u r.2.2.2.2.2.2)])) r.1 A) args s 10 1085 A) (F0 m 116 ls [.int j116, .int v84, .ref h0]) := by
          clear hc9 hs9
          intro j116 hF H locs ls uu c9 s9 hP hD hS hl hc9 hs9
          obtain ⟨v116, e116, hF⟩ := kc hF
          obtain ⟨z116, hF⟩ := kz0 hF
          refine kcL_i (S := UAT) (wf := (fun (u116 : UAT) => [(wx8 h0 g0), (wdk t (g0 1) a_desk v116.2.2.1), (wpa t (g0 3) a_past u116 v116.2.2.2)])) hP hD hS hA nd_0_2_6 rfl (fun _ => rfl) (kL_VX (Qx := (fun A => kQiS D (TY t) (fun (u116 : UAT) => kflat [(wx8 h0 g0), (wdk t (g0 1) a_desk v116.2.2.1), (wpa t (g0 3) a_past u116 v116.2.2.2)]) v116.2.1 A)) (cs := [(wx8 h0 g0), (wdk t (g0 1) a_desk d_desk), (wpa t (g0 3) a_past uu d_past)]) (is := [0, 2, 6]) (As := [.int v84, .int j116]) (rest := []) ⟨hx, hb, hml, hown, hts⟩ hX hS hA hK hP hD nd_0_2_6 rfl (c_X8_set l D t h0 g0 a_desk d_desk a_past uu d_past _ v84 j116 v116 e116 z116) (cwV 2 hts (gcX8_set w_414) rfl rfl rfl hdX8_setV ⟨Nat.le_of_ble_eq_true rfl, Nat.le_of_ble_eq_true rfl⟩) (ci := 7) (q0 := 0) rfl rfl rfl hl.1 rfl (Nat.le_of_ble_eq_true rfl) (kd tdlL_act_1 15 rfl) ⟨kfi (m := 10) (R' := 0) hc9, kfi (m := 1085) (R' := 0) hs9⟩) (fun u116 H locs hP hD hS => ?_)
          have hP : va_P D vwCl (kflat [(wx8 h0 g0), (wtx t (g0 0) a_text d_text), (wdk t (g0 1) a_desk v116.2.2.1), (wsm t (g0 5) a_stream d_stream), (wpl t (g0 6) a_plan d_plan), (wcr t (g0 8) a_carrier d_carrier), (wpa t (g0 3) a_past u116 v116.2.2.2)]) H := hP
          have hD : va_D A (kflat [(wx8 h0 g0), (wtx t (g0 0) a_text d_text), (wdk t (g0 1) a_desk v116.2.2.1), (wsm t (g0 5) a_stream d_stream), (wpl t (g0 6) a_plan d_plan), (wcr t (g0 8) a_carrier d_carrier), (wpa t (g0 3) a_past u116 v116.2.2.2)]) := hD
          have hc9 := kstp (m := 10) (R' := 0) hc9
          have hs9 := kstp (m := 1085) (R' := 0) hs9
          refine lv_pop hx hb (kd tdlL_act_1 16 rfl) rfl ?_
          refine lv_iload_n hx hb (kd tdlL_act_1 17 rfl) rfl (lv_at hl 0 rfl) ?_
          cases ko hF
          exact kes_i u116 hx hb hr hlocks hK hP hD hS rfl (kfr hc9) (kfr hs9) (kd tdlL_act_1 18 rfl)
        refine lv_icmp_ne (tgt := 109) hx hb (kd tdlL_act_1 3 rfl) (by decide) (fun hc95 => ?_) (fun hc95 => ?_)
        · have hF := kf hc95 hF
          refine lv_iconst (v := 2) hx hb (kd tdlL_act_1 10 rfl) (by decide) ?_
          refine lv_iload_n hx hb (kd tdlL_act_1 11 rfl) rfl (lv_at hl 3 rfl) ?_
          refine lv_iconst (v := 3) hx hb (kd tdlL_act_1 12 rfl) (by decide) ?_
          obtain ⟨v112, e112, hF⟩ := kc hF
          refine kcL_i (S := Unit) (wf := (fun (_ : Unit) => [])) hP hD hS hA nd_ rfl (fun _ => rfl) (kL_S (Qx := (fun A => kQi D (TY t) (kflat []) v112 A)) (cs := []) (is := []) (As := [.int p2, .int 3]) (rest := [.int 2, .int v84, .ref h0]) ⟨hx, hb, hml, hown, hts⟩ hK hP hD nd_ rfl (c_L_low l D t  _ p2 3 v112 e112) (va_cwS 2 hts (gcL_low w_338) rfl rfl rfl hdL_lowS ⟨Nat.le_of_ble_eq_true rfl, Nat.le_of_ble_eq_true rfl⟩) rfl hl.1 rfl (Nat.le_of_ble_eq_true rfl) (kd tdlL_act_1 13 rfl) ⟨kfi (m := 0) (R' := 10) hc9, kfi (m := 0) (R' := 1085) hs9⟩) (fun _ H locs hP hD hS => ?_)
          have hP : va_P D vwCl (kflat [(wx8 h0 g0), (wtx t (g0 0) a_text d_text), (wdk t (g0 1) a_desk d_desk), (wsm t (g0 5) a_stream d_stream), (wpl t (g0 6) a_plan d_plan), (wcr t (g0 8) a_carrier d_carrier), (wpa t (g0 3) a_past u_past d_past)]) H := hP
          have hD : va_D A (kflat [(wx8 h0 g0), (wtx t (g0 0) a_text d_text), (wdk t (g0 1) a_desk d_desk), (wsm t (g0 5) a_stream d_stream), (wpl t (g0 6) a_plan d_plan), (wcr t (g0 8) a_carrier d_carrier), (wpa t (g0 3) a_past u_past d_past)]) := hD
          have hc9 := kstp (m := 0) (R' := 10) hc9
          have hs9 := kstp (m := 0) (R' := 1085) hs9
          refine lv_iadd hx hb (kd tdlL_act_1 14 rfl) ?_
          exact hJ116 (((2 : Int32) + v112)) hF _ _ _ _ _ _ hP hD hS (lv_sub hl [4] rfl) (kjm (R := 10) (R' := 10) hc9 (Nat.le_of_ble_eq_true rfl)) (kjm (R := 1085) (R' := 1085) hs9 (Nat.le_of_ble_eq_true rfl))
        · have hF := kt hc95 hF
          refine lv_iconst (v := 1) hx hb (kd tdlL_act_1 4 rfl) (by decide) ?_
          refine lv_iload_n hx hb (kd tdlL_act_1 5 rfl) rfl (lv_at hl 3 rfl) ?_
          refine lv_bipush (v := 100) hx hb (kd tdlL_act_1 6 rfl) (by decide) ?_
          obtain ⟨v102, e102, hF⟩ := kc hF
          refine kcL_i (S := Unit) (wf := (fun (_ : Unit) => [])) hP hD hS hA nd_ rfl (fun _ => rfl) (kL_S (Qx := (fun A => kQi D (TY t) (kflat []) v102 A)) (cs := []) (is := []) (As := [.int p2, .int 100]) (rest := [.int 1, .int v84, .ref h0]) ⟨hx, hb, hml, hown, hts⟩ hK hP hD nd_ rfl (c_L_low l D t  _ p2 100 v102 e102) (va_cwS 2 hts (gcL_low w_338) rfl rfl rfl hdL_lowS ⟨Nat.le_of_ble_eq_true rfl, Nat.le_of_ble_eq_true rfl⟩) rfl hl.1 rfl (Nat.le_of_ble_eq_true rfl) (kd tdlL_act_1 7 rfl) ⟨kfi (m := 0) (R' := 10) hc9, kfi (m := 0) (R' := 1085) hs9⟩) (fun _ H locs hP hD hS => ?_)
          have hP : va_P D vwCl (kflat [(wx8 h0 g0), (wtx t (g0 0) a_text d_text), (wdk t (g0 1) a_desk d_desk), (wsm t (g0 5) a_stream d_stream), (wpl t (g0 6) a_plan d_plan), (wcr t (g0 8) a_carrier d_carrier), (wpa t (g0 3) a_past u_past d_past)]) H := hP
          have hD : va_D A (kflat [(wx8 h0 g0), (wtx t (g0 0) a_text d_text), (wdk t (g0 1) a_desk d_desk), (wsm t (g0 5) a_stream d_stream), (wpl t (g0 6) a_plan d_plan), (wcr t (g0 8) a_carrier d_carrier), (wpa t (g0 3) a_past u_past d_past)]) := hD
          have hc9 := kstp (m := 0) (R' := 10) hc9
          have hs9 := kstp (m := 0) (R' := 1085) hs9
          refine lv_iadd hx hb (kd tdlL_act_1 8 rfl) ?_
          refine lv_goto (tgt := 116) hx hb (kd tdlL_act_1 9 rfl) (by decide) ?_
          exact hJ116 (((1 : Int32) + v102)) hF _ _ _ _ _ _ hP hD hS (lv_sub hl [4] rfl) (kjm (R := 10) (R' := 10) hc9 (Nat.le_of_ble_eq_true rfl)) (kjm (R := 1085) (R' := 1085) hs9 (Nat.le_of_ble_eq_true rfl))
