set_option maxHeartbeats 16000000 in
set_option maxRecDepth 100000 in
theorem law_run {p : Program} {l : Launch} {e : Env} {s : State} {m : MethodId} {below : List Frame} {meth : Method} {c : Code} {D : va_G} {A : Nat → Prop} {t : Nat → ClassId} {b L : Nat} {xs : Nat → Int32} {c0 : Cond} {H : Heap} {locs : List Loc} {ls : Array Slot} {c9 s9 : Nat} (h0 : Nat) (g0 : Nat → Nat) (a_text : Nat → Nat) (d_text : TXT) (a_desk : Nat → Nat) (d_desk : DKT) (a_trial : Nat → Nat) (d_trial : DKT) (a_past : Nat → Nat) (u_past : UAT) (d_past : PAT) (u_sv : UAT) (d_sv : SVT) (a_stream : Nat → Nat) (d_stream : SMT) (a_plan : Nat → Nat) (d_plan : PLT) (a_store : Nat → Nat) (d_store : SOT) (a_carrier : Nat → Nat) (d_carrier : CRT) (hx : p.tables.exec = Jvm.exec) (hb : c.code = cL_law) (hr : meth.sig.returnType = some .boolean) (hlocks : meth.locks = false) (hml : c.maxLocals = 25) (hown : s.vm.findClass RL = some m.cls) (hts : ∀ w ∈ c0 :: BIG, w.before #[Value.ref b] s = true) (hX : kX A s s.heap) (hK : va_K D vwCl (TY t) s) (hA : ∀ q, s.heap.size ≤ q → A q) (hA2 : ∀ q, A q → s.heap.size ≤ q) (hsx : va_X b L xs s s.heap) (hbl : b < s.heap.size) (hbA : ¬ A b) (hS : va_S A s.heap H locs) (hP : va_P D vwCl (kflat [(wx8 h0 g0), (wtx t (g0 0) a_text d_text), (wdk t (g0 1) a_desk d_desk), (wdk t (g0 2) a_trial d_trial), (wpa t (g0 3) a_past u_past d_past), (wsv t (g0 4) u_sv d_sv), (wsm t (g0 5) a_stream d_stream), (wpl t (g0 6) a_plan d_plan), (wso t (g0 7) a_store d_store), (wcr t (g0 8) a_carrier d_carrier)]) H) (hD : va_D A (kflat [(wx8 h0 g0), (wtx t (g0 0) a_text d_text), (wdk t (g0 1) a_desk d_desk), (wdk t (g0 2) a_trial d_trial), (wpa t (g0 3) a_past u_past d_past), (wsv t (g0 4) u_sv d_sv), (wsm t (g0 5) a_stream d_stream), (wpl t (g0 6) a_plan d_plan), (wso t (g0 7) a_store d_store), (wcr t (g0 8) a_carrier d_carrier)])) (hl : lv_has ls 25 [(1, .ref h0), (0, .ref b)]) (hc9 : c9 + (0 + 3000) ≤ 600130) (hs9 : s9 + (0 + 325500) ≤ 7301080) (hF : F_L_law L xs d_text d_desk d_trial d_past d_sv d_stream d_plan d_store d_carrier = some 1) : W p l e room_1 s m #[Value.ref b] below meth c H locs c9 s9 (lw_Z below #[Value.ref b] s) (F0 m 8 ls []) := by
  unfold F_L_law at hF
  have Lc110 := hts (.constantLong RL 110 (19088743)) (List.mem_cons_of_mem _ w_3)
  have Lc116 := hts (.constantLong RL 116 (30005000)) (List.mem_cons_of_mem _ w_4)
  refine lv_iconst (v := 0) hx hb (kd tdlL_law_0 4 rfl) (by decide) ?_
  refine lv_istore_n (lv' := [(2, .int 0), (1, .ref h0), (0, .ref b)]) hx hb (kd tdlL_law_0 5 rfl) rfl hl (by decide) rfl (fun ls hl => ?_)
  refine lv_iconst (v := 0) hx hb (kd tdlL_law_0 6 rfl) (by decide) ?_
  refine lv_istore_n (lv' := [(3, .int 0), (2, .int 0), (1, .ref h0), (0, .ref b)]) hx hb (kd tdlL_law_0 7 rfl) rfl hl (by decide) rfl (fun ls hl => ?_)
  refine lv_aload_n hx hb (kd tdlL_law_0 8 rfl) rfl (lv_at hl 2 rfl) ?_
  refine lv_iconst (v := 0) hx hb (kd tdlL_law_0 9 rfl) (by decide) ?_
  obtain ⟨v14, e14, hF⟩ := kc hF
  obtain ⟨z14, hF⟩ := kz0 hF
  refine kcL_i (S := UAT) (wf := (fun (u14 : UAT) => [(wx8 h0 g0), (wdk t (g0 1) a_desk d_desk), (wsv t (g0 4) u14 v14.2.2)])) hP hD hS hA nd_0_2_5 rfl (fun _ => rfl) (kL_VX (Qx := (fun A => kQiS D (TY t) (fun (u14 : UAT) => kflat [(wx8 h0 g0), (wdk t (g0 1) a_desk d_desk), (wsv t (g0 4) u14 v14.2.2)]) v14.2.1 A)) (cs := [(wx8 h0 g0), (wdk t (g0 1) a_desk d_desk), (wsv t (g0 4) u_sv d_sv)]) (is := [0, 2, 5]) (As := [.int 0]) (rest := []) ⟨hx, hb, hml, hown, hts⟩ hX hS hA hK hP hD nd_0_2_5 rfl (c_X8_save l D t h0 g0 a_desk d_desk u_sv d_sv _ 0 v14 e14 z14) (cwV 1 hts (gcX8_save w_94) rfl rfl rfl hdX8_saveV ⟨Nat.le_of_ble_eq_true rfl, Nat.le_of_ble_eq_true rfl⟩) (ci := 7) (q0 := 0) rfl rfl rfl hl.1 rfl (Nat.le_of_ble_eq_true rfl) (kd tdlL_law_0 10 rfl) ⟨kfi (m := 10) (R' := 2990) hc9, kfi (m := 1085) (R' := 324415) hs9⟩) (fun u14 H locs hP hD hS => ?_)
  have hP : va_P D vwCl (kflat [(wx8 h0 g0), (wtx t (g0 0) a_text d_text), (wdk t (g0 1) a_desk d_desk), (wdk t (g0 2) a_trial d_trial), (wpa t (g0 3) a_past u_past d_past), (wsv t (g0 4) u14 v14.2.2), (wsm t (g0 5) a_stream d_stream), (wpl t (g0 6) a_plan d_plan), (wso t (g0 7) a_store d_store), (wcr t (g0 8) a_carrier d_carrier)]) H := hP
  have hD : va_D A (kflat [(wx8 h0 g0), (wtx t (g0 0) a_text d_text), (wdk t (g0 1) a_desk d_desk), (wdk t (g0 2) a_trial d_trial), (wpa t (g0 3) a_past u_past d_past), (wsv t (g0 4) u14 v14.2.2), (wsm t (g0 5) a_stream d_stream), (wpl t (g0 6) a_plan d_plan), (wso t (g0 7) a_store d_store), (wcr t (g0 8) a_carrier d_carrier)]) := hD
  have hc9 := kstp (m := 10) (R' := 2990) hc9
  have hs9 := kstp (m := 1085) (R' := 324415) hs9
  refine lv_pop hx hb (kd tdlL_law_0 11 rfl) rfl ?_
  refine lv_aload_n hx hb (kd tdlL_law_0 12 rfl) rfl (lv_at hl 2 rfl) ?_
  obtain ⟨v19, e19, hF⟩ := kc hF
  refine kcL_lS (S := Unit) (wf := (fun (_ : Unit) => [(wx8 h0 g0), (wdk t (g0 1) a_desk d_desk)])) hP hD hS hA nd_0_2 rfl (fun _ => rfl) (kL_SX (Qx := (fun A => kQlS D (TY t) (fun (_ : Unit) => kflat [(wx8 h0 g0), (wdk t (g0 1) a_desk d_desk)]) v19 A)) (cs := [(wx8 h0 g0), (wdk t (g0 1) a_desk d_desk)]) (is := [0, 2]) (As := [.ref h0]) (rest := []) ⟨hx, hb, hml, hown, hts⟩ hX hS hA hK hP hD nd_0_2 rfl (c_L_digest l D t h0 g0 a_desk d_desk _  v19 e19) (va_cwS 1 hts (gcL_digest w_116) rfl rfl rfl hdL_digestS ⟨Nat.le_of_ble_eq_true rfl, Nat.le_of_ble_eq_true rfl⟩) rfl hl.1 rfl (Nat.le_of_ble_eq_true rfl) (kd tdlL_law_0 13 rfl) ⟨kfi (m := 0) (R' := 2990) hc9, kfi (m := 0) (R' := 324415) hs9⟩) (fun _ H locs hP hD hS => ?_)
  have hP : va_P D vwCl (kflat [(wx8 h0 g0), (wtx t (g0 0) a_text d_text), (wdk t (g0 1) a_desk d_desk), (wdk t (g0 2) a_trial d_trial), (wpa t (g0 3) a_past u_past d_past), (wsv t (g0 4) u14 v14.2.2), (wsm t (g0 5) a_stream d_stream), (wpl t (g0 6) a_plan d_plan), (wso t (g0 7) a_store d_store), (wcr t (g0 8) a_carrier d_carrier)]) H := hP
  have hD : va_D A (kflat [(wx8 h0 g0), (wtx t (g0 0) a_text d_text), (wdk t (g0 1) a_desk d_desk), (wdk t (g0 2) a_trial d_trial), (wpa t (g0 3) a_past u_past d_past), (wsv t (g0 4) u14 v14.2.2), (wsm t (g0 5) a_stream d_stream), (wpl t (g0 6) a_plan d_plan), (wso t (g0 7) a_store d_store), (wcr t (g0 8) a_carrier d_carrier)]) := hD
  have hc9 := kstp (m := 0) (R' := 2990) hc9
  have hs9 := kstp (m := 0) (R' := 324415) hs9
  refine lv_lstore (lv' := [(4, .long v19), (3, .int 0), (2, .int 0), (1, .ref h0), (0, .ref b)]) hx hb (kd tdlL_law_0 14 rfl) hl (by decide) rfl (fun ls hl => ?_)
  refine lv_aload_n hx hb (kd tdlL_law_0 15 rfl) rfl (lv_at hl 3 rfl) ?_
  refine lv_iconst (v := 0) hx hb (kd tdlL_law_0 16 rfl) (by decide) ?_
  obtain ⟨v26, e26, hF⟩ := kc hF
  refine kcL_lS (S := Unit) (wf := (fun (_ : Unit) => [(wx8 h0 g0), (wdk t (g0 1) a_desk d_desk), (wso t (g0 7) a_store v26.2)])) hP hD hS hA nd_0_2_8 rfl (fun _ => rfl) (kL_SX (Qx := (fun A => kQlS D (TY t) (fun (_ : Unit) => kflat [(wx8 h0 g0), (wdk t (g0 1) a_desk d_desk), (wso t (g0 7) a_store v26.2)]) v26.1 A)) (cs := [(wx8 h0 g0), (wdk t (g0 1) a_desk d_desk), (wso t (g0 7) a_store d_store)]) (is := [0, 2, 8]) (As := [.ref h0, .int 0]) (rest := []) ⟨hx, hb, hml, hown, hts⟩ hX hS hA hK hP hD nd_0_2_8 rfl (c_L_references l D t h0 g0 a_desk d_desk a_store d_store _ 0 v26 e26) (va_cwS 2 hts (gcL_references w_269) rfl rfl rfl hdL_referencesS ⟨Nat.le_of_ble_eq_true rfl, Nat.le_of_ble_eq_true rfl⟩) rfl hl.1 rfl (Nat.le_of_ble_eq_true rfl) (kd tdlL_law_0 17 rfl) ⟨kfi (m := 0) (R' := 2990) hc9, kfi (m := 0) (R' := 324415) hs9⟩) (fun _ H locs hP hD hS => ?_)
  have hP : va_P D vwCl (kflat [(wx8 h0 g0), (wtx t (g0 0) a_text d_text), (wdk t (g0 1) a_desk d_desk), (wdk t (g0 2) a_trial d_trial), (wpa t (g0 3) a_past u_past d_past), (wsv t (g0 4) u14 v14.2.2), (wsm t (g0 5) a_stream d_stream), (wpl t (g0 6) a_plan d_plan), (wso t (g0 7) a_store v26.2), (wcr t (g0 8) a_carrier d_carrier)]) H := hP
  have hD : va_D A (kflat [(wx8 h0 g0), (wtx t (g0 0) a_text d_text), (wdk t (g0 1) a_desk d_desk), (wdk t (g0 2) a_trial d_trial), (wpa t (g0 3) a_past u_past d_past), (wsv t (g0 4) u14 v14.2.2), (wsm t (g0 5) a_stream d_stream), (wpl t (g0 6) a_plan d_plan), (wso t (g0 7) a_store v26.2), (wcr t (g0 8) a_carrier d_carrier)]) := hD
  have hc9 := kstp (m := 0) (R' := 2990) hc9
  have hs9 := kstp (m := 0) (R' := 324415) hs9
  refine lv_lstore (lv' := [(6, .long v26.1), (4, .long v19), (3, .int 0), (2, .int 0), (1, .ref h0), (0, .ref b)]) hx hb (kd tdlL_law_0 18 rfl) hl (by decide) rfl (fun ls hl => ?_)
  refine lv_iconst (v := 0) hx hb (kd tdlL_law_0 19 rfl) (by decide) ?_
  refine lv_istore (lv' := [(8, .int 0), (6, .long v26.1), (4, .long v19), (3, .int 0), (2, .int 0), (1, .ref h0), (0, .ref b)]) hx hb (kd tdlL_law_0 20 rfl) hl (by decide) rfl (fun ls hl => ?_)
  have hK358 : ∀ k358 : Int32 × Int64 × Int64 × TXT × DKT × DKT × PAT × SVT × SMT × PLT × SOT × CRT, K_L_law_358 k358 = some 1 → ∀ (H : Heap) (locs : List Loc) (ls : Array Slot) (uu uv : UAT) (c9 s9 : Nat), va_P D vwCl (kflat [(wx8 h0 g0), (wtx t (g0 0) a_text k358.2.2.2.1), (wdk t (g0 1) a_desk k358.2.2.2.2.1), (wdk t (g0 2) a_trial k358.2.2.2.2.2.1), (wpa t (g0 3) a_past uu k358.2.2.2.2.2.2.1), (wsv t (g0 4) uv k358.2.2.2.2.2.2.2.1), (wsm t (g0 5) a_stream k358.2.2.2.2.2.2.2.2.1), (wpl t (g0 6) a_plan k358.2.2.2.2.2.2.2.2.2.1), (wso t (g0 7) a_store k358.2.2.2.2.2.2.2.2.2.2.1), (wcr t (g0 8) a_carrier k358.2.2.2.2.2.2.2.2.2.2.2)]) H → va_D A (kflat [(wx8 h0 g0), (wtx t (g0 0) a_text k358.2.2.2.1), (wdk t (g0 1) a_desk k358.2.2.2.2.1), (wdk t (g0 2) a_trial k358.2.2.2.2.2.1), (wpa t (g0 3) a_past uu k358.2.2.2.2.2.2.1), (wsv t (g0 4) uv k358.2.2.2.2.2.2.2.1), (wsm t (g0 5) a_stream k358.2.2.2.2.2.2.2.2.1), (wpl t (g0 6) a_plan k358.2.2.2.2.2.2.2.2.2.1), (wso t (g0 7) a_store k358.2.2.2.2.2.2.2.2.2.2.1), (wcr t (g0 8) a_carrier k358.2.2.2.2.2.2.2.2.2.2.2)]) → va_S A s.heap H locs → lv_has ls 25 [(1, .ref h0), (3, .int k358.1), (4, .long k358.2.1), (6, .long k358.2.2.1)] → c9 + (0 + 1) ≤ 600130 → s9 + (0 + 6) ≤ 7301080 → W p l e room_1 s m #[Value.ref b] below meth c H locs c9 s9 (lw_Z below #[Value.ref b] s) (F0 m 358 ls []) := by
    clear hc9 hs9
    intro k358 hF H locs ls uu uv c9 s9 hP hD hS hl hc9 hs9
    refine lv_aload_n hx hb (kd tdlL_law_4 21 rfl) rfl (lv_at hl 0 rfl) ?_
    refine lv_iconst (v := 0) hx hb (kd tdlL_law_4 22 rfl) (by decide) ?_
    obtain ⟨v360, e360, hF⟩ := kc hF
    obtain ⟨z360, hF⟩ := kz0 hF
    refine kcL_i (S := Unit) (wf := (fun (_ : Unit) => [(wx8 h0 g0), (wdk t (g0 1) a_desk v360.2.2.1), (wpa t (g0 3) a_past uu v360.2.2.2), (wsv t (g0 4) uv k358.2.2.2.2.2.2.2.1)])) hP hD hS hA nd_0_2_4_5 rfl (fun _ => rfl) (kL_VX (Qx := (fun A => kQiS D (TY t) (fun (_ : Unit) => kflat [(wx8 h0 g0), (wdk t (g0 1) a_desk v360.2.2.1), (wpa t (g0 3) a_past uu v360.2.2.2), (wsv t (g0 4) uv k358.2.2.2.2.2.2.2.1)]) v360.2.1 A)) (cs := [(wx8 h0 g0), (wdk t (g0 1) a_desk k358.2.2.2.2.1), (wpa t (g0 3) a_past uu k358.2.2.2.2.2.2.1), (wsv t (g0 4) uv k358.2.2.2.2.2.2.2.1)]) (is := [0, 2, 4, 5]) (As := [.int 0]) (rest := []) ⟨hx, hb, hml, hown, hts⟩ hX hS hA hK hP hD nd_0_2_4_5 rfl (c_X8_restore l D t h0 g0 a_desk k358.2.2.2.2.1 a_past uu k358.2.2.2.2.2.2.1 uv k358.2.2.2.2.2.2.2.1 _ 0 v360 e360 z360) (cwV 1 hts (gcX8_restore w_644) rfl rfl rfl hdX8_restoreV ⟨Nat.le_of_ble_eq_true rfl, Nat.le_of_ble_eq_true rfl⟩) (ci := 7) (q0 := 0) rfl rfl rfl hl.1 rfl (Nat.le_of_ble_eq_true rfl) (kd tdlL_law_4 23 rfl) ⟨kfi (m := 1) (R' := 0) hc9, kfi (m := 6) (R' := 0) hs9⟩) (fun _ H locs hP hD hS => ?_)
    have hP : va_P D vwCl (kflat [(wx8 h0 g0), (wtx t (g0 0) a_text k358.2.2.2.1), (wdk t (g0 1) a_desk v360.2.2.1), (wdk t (g0 2) a_trial k358.2.2.2.2.2.1), (wpa t (g0 3) a_past uu v360.2.2.2), (wsv t (g0 4) uv k358.2.2.2.2.2.2.2.1), (wsm t (g0 5) a_stream k358.2.2.2.2.2.2.2.2.1), (wpl t (g0 6) a_plan k358.2.2.2.2.2.2.2.2.2.1), (wso t (g0 7) a_store k358.2.2.2.2.2.2.2.2.2.2.1), (wcr t (g0 8) a_carrier k358.2.2.2.2.2.2.2.2.2.2.2)]) H := hP
    have hD : va_D A (kflat [(wx8 h0 g0), (wtx t (g0 0) a_text k358.2.2.2.1), (wdk t (g0 1) a_desk v360.2.2.1), (wdk t (g0 2) a_trial k358.2.2.2.2.2.1), (wpa t (g0 3) a_past uu v360.2.2.2), (wsv t (g0 4) uv k358.2.2.2.2.2.2.2.1), (wsm t (g0 5) a_stream k358.2.2.2.2.2.2.2.2.1), (wpl t (g0 6) a_plan k358.2.2.2.2.2.2.2.2.2.1), (wso t (g0 7) a_store k358.2.2.2.2.2.2.2.2.2.2.1), (wcr t (g0 8) a_carrier k358.2.2.2.2.2.2.2.2.2.2.2)]) := hD
    have hc9 := kstp (m := 1) (R' := 0) hc9
    have hs9 := kstp (m := 6) (R' := 0) hs9
    refine lv_istore (lv' := [(8, .int v360.2.1), (1, .ref h0), (3, .int k358.1), (4, .long k358.2.1), (6, .long k358.2.2.1)]) hx hb (kd tdlL_law_4 24 rfl) hl (by decide) rfl (fun ls hl => ?_)
    refine lv_iconst (v := 0) hx hb (kd tdlL_law_4 25 rfl) (by decide) ?_
    refine lv_istore (lv' := [(9, .int 0), (8, .int v360.2.1), (1, .ref h0), (3, .int k358.1), (4, .long k358.2.1), (6, .long k358.2.2.1)]) hx hb (kd tdlL_law_4 26 rfl) hl (by decide) rfl (fun ls hl => ?_)
    refine lv_iconst (v := 0) hx hb (kd tdlL_law_4 27 rfl) (by decide) ?_
    refine lv_istore (lv' := [(10, .int 0), (9, .int 0), (8, .int v360.2.1), (1, .ref h0), (3, .int k358.1), (4, .long k358.2.1), (6, .long k358.2.2.1)]) hx hb (kd tdlL_law_4 28 rfl) hl (by decide) rfl (fun ls hl => ?_)
    have hK403 : ∀ k403 : Int32, K_L_law_403 v360 k358 k403 = some 1 → ∀ (H : Heap) (locs : List Loc) (ls : Array Slot) (uu uv : UAT) (c9 s9 : Nat), va_P D vwCl (kflat [(wx8 h0 g0), (wtx t (g0 0) a_text k358.2.2.2.1), (wdk t (g0 1) a_desk v360.2.2.1), (wdk t (g0 2) a_trial k358.2.2.2.2.2.1), (wpa t (g0 3) a_past uu v360.2.2.2), (wsv t (g0 4) uv k358.2.2.2.2.2.2.2.1), (wsm t (g0 5) a_stream k358.2.2.2.2.2.2.2.2.1), (wpl t (g0 6) a_plan k358.2.2.2.2.2.2.2.2.2.1), (wso t (g0 7) a_store k358.2.2.2.2.2.2.2.2.2.2.1), (wcr t (g0 8) a_carrier k358.2.2.2.2.2.2.2.2.2.2.2)]) H → va_D A (kflat [(wx8 h0 g0), (wtx t (g0 0) a_text k358.2.2.2.1), (wdk t (g0 1) a_desk v360.2.2.1), (wdk t (g0 2) a_trial k358.2.2.2.2.2.1), (wpa t (g0 3) a_past uu v360.2.2.2), (wsv t (g0 4) uv k358.2.2.2.2.2.2.2.1), (wsm t (g0 5) a_stream k358.2.2.2.2.2.2.2.2.1), (wpl t (g0 6) a_plan k358.2.2.2.2.2.2.2.2.2.1), (wso t (g0 7) a_store k358.2.2.2.2.2.2.2.2.2.2.1), (wcr t (g0 8) a_carrier k358.2.2.2.2.2.2.2.2.2.2.2)]) → va_S A s.heap H locs → lv_has ls 25 [(1, .ref h0), (3, .int k358.1), (4, .long k358.2.1), (6, .long k358.2.2.1), (8, .int v360.2.1), (9, .int k403)] → c9 + (0 + 0) ≤ 600130 → s9 + (0 + 0) ≤ 7301080 → W p l e room_1 s m #[Value.ref b] below meth c H locs c9 s9 (lw_Z below #[Value.ref b] s) (F0 m 403 ls []) := by
      clear hc9 hs9
      intro k403 hF H locs ls uu uv c9 s9 hP hD hS hl hc9 hs9
      refine lv_iload hx hb (kd tdlL_law_4 44 rfl) (lv_at hl 4 rfl) ?_
      refine lv_iload hx hb (kd tdlL_law_5 0 rfl) (lv_at hl 5 rfl) ?_
      refine lv_icmp_ne (tgt := 435) hx hb (kd tdlL_law_5 1 rfl) (by decide) (fun hc407 => ?_) (fun hc407 => ?_)
      · have hF := kf hc407 hF
        refine lv_iconst (v := 0) hx hb (kd tdlL_law_5 15 rfl) (by decide) ?_
        exact kl_ret hx hb hr hlocks hA2 hS (ko hF) (kfr hc9) (kfr hs9) (kd tdlL_law_5 16 rfl)
      · have hF := kt hc407 hF
        refine lv_aload_n hx hb (kd tdlL_law_5 2 rfl) rfl (lv_at hl 0 rfl) ?_
        obtain ⟨v411, e411, hF⟩ := kc hF
        refine kcL_lS (S := Unit) (wf := (fun (_ : Unit) => [(wx8 h0 g0), (wdk t (g0 1) a_desk v360.2.2.1)])) hP hD hS hA nd_0_2 rfl (fun _ => rfl) (kL_SX (Qx := (fun A => kQlS D (TY t) (fun (_ : Unit) => kflat [(wx8 h0 g0), (wdk t (g0 1) a_desk v360.2.2.1)]) v411 A)) (cs := [(wx8 h0 g0), (wdk t (g0 1) a_desk v360.2.2.1)]) (is := [0, 2]) (As := [.ref h0]) (rest := []) ⟨hx, hb, hml, hown, hts⟩ hX hS hA hK hP hD nd_0_2 rfl (c_L_digest l D t h0 g0 a_desk v360.2.2.1 _  v411 e411) (va_cwS 1 hts (gcL_digest w_116) rfl rfl rfl hdL_digestS ⟨Nat.le_of_ble_eq_true rfl, Nat.le_of_ble_eq_true rfl⟩) rfl hl.1 rfl (Nat.le_of_ble_eq_true rfl) (kd tdlL_law_5 3 rfl) ⟨kfi (m := 0) (R' := 0) hc9, kfi (m := 0) (R' := 0) hs9⟩) (fun _ H locs hP hD hS => ?_)
        have hP : va_P D vwCl (kflat [(wx8 h0 g0), (wtx t (g0 0) a_text k358.2.2.2.1), (wdk t (g0 1) a_desk v360.2.2.1), (wdk t (g0 2) a_trial k358.2.2.2.2.2.1), (wpa t (g0 3) a_past uu v360.2.2.2), (wsv t (g0 4) uv k358.2.2.2.2.2.2.2.1), (wsm t (g0 5) a_stream k358.2.2.2.2.2.2.2.2.1), (wpl t (g0 6) a_plan k358.2.2.2.2.2.2.2.2.2.1), (wso t (g0 7) a_store k358.2.2.2.2.2.2.2.2.2.2.1), (wcr t (g0 8) a_carrier k358.2.2.2.2.2.2.2.2.2.2.2)]) H := hP
        have hD : va_D A (kflat [(wx8 h0 g0), (wtx t (g0 0) a_text k358.2.2.2.1), (wdk t (g0 1) a_desk v360.2.2.1), (wdk t (g0 2) a_trial k358.2.2.2.2.2.1), (wpa t (g0 3) a_past uu v360.2.2.2), (wsv t (g0 4) uv k358.2.2.2.2.2.2.2.1), (wsm t (g0 5) a_stream k358.2.2.2.2.2.2.2.2.1), (wpl t (g0 6) a_plan k358.2.2.2.2.2.2.2.2.2.1), (wso t (g0 7) a_store k358.2.2.2.2.2.2.2.2.2.2.1), (wcr t (g0 8) a_carrier k358.2.2.2.2.2.2.2.2.2.2.2)]) := hD
        have hc9 := kstp (m := 0) (R' := 0) hc9
        have hs9 := kstp (m := 0) (R' := 0) hs9
        refine lv_lload hx hb (kd tdlL_law_5 4 rfl) (lv_at hl 2 rfl) ?_
        refine W.lcmp hx hb (kd tdlL_law_5 5 rfl) ?_
        refine lv_if_ne (tgt := 435) hx hb (kd tdlL_law_5 6 rfl) (by decide) (fun hc417 => ?_) (fun hc417 => ?_)
        · have hF := kf hc417 hF
          refine lv_iconst (v := 0) hx hb (kd tdlL_law_5 15 rfl) (by decide) ?_
          exact kl_ret hx hb hr hlocks hA2 hS (ko hF) (kfr hc9) (kfr hs9) (kd tdlL_law_5 16 rfl)
        · have hF := kt hc417 hF
          refine lv_aload_n hx hb (kd tdlL_law_5 7 rfl) rfl (lv_at hl 0 rfl) ?_
          refine lv_iload_n hx hb (kd tdlL_law_5 8 rfl) rfl (lv_at hl 1 rfl) ?_
          obtain ⟨v422, e422, hF⟩ := kc hF
          refine kcL_lS (S := Unit) (wf := (fun (_ : Unit) => [(wx8 h0 g0), (wdk t (g0 1) a_desk v360.2.2.1), (wso t (g0 7) a_store v422.2)])) hP hD hS hA nd_0_2_8 rfl (fun _ => rfl) (kL_SX (Qx := (fun A => kQlS D (TY t) (fun (_ : Unit) => kflat [(wx8 h0 g0), (wdk t (g0 1) a_desk v360.2.2.1), (wso t (g0 7) a_store v422.2)]) v422.1 A)) (cs := [(wx8 h0 g0), (wdk t (g0 1) a_desk v360.2.2.1), (wso t (g0 7) a_store k358.2.2.2.2.2.2.2.2.2.2.1)]) (is := [0, 2, 8]) (As := [.ref h0, .int k358.1]) (rest := []) ⟨hx, hb, hml, hown, hts⟩ hX hS hA hK hP hD nd_0_2_8 rfl (c_L_references l D t h0 g0 a_desk v360.2.2.1 a_store k358.2.2.2.2.2.2.2.2.2.2.1 _ k358.1 v422 e422) (va_cwS 2 hts (gcL_references w_269) rfl rfl rfl hdL_referencesS ⟨Nat.le_of_ble_eq_true rfl, Nat.le_of_ble_eq_true rfl⟩) rfl hl.1 rfl (Nat.le_of_ble_eq_true rfl) (kd tdlL_law_5 9 rfl) ⟨kfi (m := 0) (R' := 0) hc9, kfi (m := 0) (R' := 0) hs9⟩) (fun _ H locs hP hD hS => ?_)
          have hP : va_P D vwCl (kflat [(wx8 h0 g0), (wtx t (g0 0) a_text k358.2.2.2.1), (wdk t (g0 1) a_desk v360.2.2.1), (wdk t (g0 2) a_trial k358.2.2.2.2.2.1), (wpa t (g0 3) a_past uu v360.2.2.2), (wsv t (g0 4) uv k358.2.2.2.2.2.2.2.1), (wsm t (g0 5) a_stream k358.2.2.2.2.2.2.2.2.1), (wpl t (g0 6) a_plan k358.2.2.2.2.2.2.2.2.2.1), (wso t (g0 7) a_store v422.2), (wcr t (g0 8) a_carrier k358.2.2.2.2.2.2.2.2.2.2.2)]) H := hP
          have hD : va_D A (kflat [(wx8 h0 g0), (wtx t (g0 0) a_text k358.2.2.2.1), (wdk t (g0 1) a_desk v360.2.2.1), (wdk t (g0 2) a_trial k358.2.2.2.2.2.1), (wpa t (g0 3) a_past uu v360.2.2.2), (wsv t (g0 4) uv k358.2.2.2.2.2.2.2.1), (wsm t (g0 5) a_stream k358.2.2.2.2.2.2.2.2.1), (wpl t (g0 6) a_plan k358.2.2.2.2.2.2.2.2.2.1), (wso t (g0 7) a_store v422.2), (wcr t (g0 8) a_carrier k358.2.2.2.2.2.2.2.2.2.2.2)]) := hD
          have hc9 := kstp (m := 0) (R' := 0) hc9
          have hs9 := kstp (m := 0) (R' := 0) hs9
          refine lv_lload hx hb (kd tdlL_law_5 10 rfl) (lv_at hl 3 rfl) ?_
          refine W.lcmp hx hb (kd tdlL_law_5 11 rfl) ?_
          refine lv_if_ne (tgt := 435) hx hb (kd tdlL_law_5 12 rfl) (by decide) (fun hc428 => ?_) (fun hc428 => ?_)
          · have hF := kf hc428 hF
            refine lv_iconst (v := 0) hx hb (kd tdlL_law_5 15 rfl) (by decide) ?_
            exact kl_ret hx hb hr hlocks hA2 hS (ko hF) (kfr hc9) (kfr hs9) (kd tdlL_law_5 16 rfl)
          · have hF := kt hc428 hF
            refine lv_iconst (v := 1) hx hb (kd tdlL_law_5 13 rfl) (by decide) ?_
            refine lv_goto (tgt := 436) hx hb (kd tdlL_law_5 14 rfl) (by decide) ?_
            exact kl_ret hx hb hr hlocks hA2 hS (ko hF) (kfr hc9) (kfr hs9) (kd tdlL_law_5 16 rfl)
    refine lp_ind (f := B_L_law_371 k358 (K_L_law_403 v360 k358)) (r := 1) (P := fun s371_ => ∀ (H : Heap) (locs : List Loc) (ls : Array Slot) (uu uv : UAT) (c9 s9 : Nat), va_P D vwCl (kflat [(wx8 h0 g0), (wtx t (g0 0) a_text k358.2.2.2.1), (wdk t (g0 1) a_desk v360.2.2.1), (wdk t (g0 2) a_trial k358.2.2.2.2.2.1), (wpa t (g0 3) a_past uu v360.2.2.2), (wsv t (g0 4) uv k358.2.2.2.2.2.2.2.1), (wsm t (g0 5) a_stream k358.2.2.2.2.2.2.2.2.1), (wpl t (g0 6) a_plan k358.2.2.2.2.2.2.2.2.2.1), (wso t (g0 7) a_store k358.2.2.2.2.2.2.2.2.2.2.1), (wcr t (g0 8) a_carrier k358.2.2.2.2.2.2.2.2.2.2.2)]) H → va_D A (kflat [(wx8 h0 g0), (wtx t (g0 0) a_text k358.2.2.2.1), (wdk t (g0 1) a_desk v360.2.2.1), (wdk t (g0 2) a_trial k358.2.2.2.2.2.1), (wpa t (g0 3) a_past uu v360.2.2.2), (wsv t (g0 4) uv k358.2.2.2.2.2.2.2.1), (wsm t (g0 5) a_stream k358.2.2.2.2.2.2.2.2.1), (wpl t (g0 6) a_plan k358.2.2.2.2.2.2.2.2.2.1), (wso t (g0 7) a_store k358.2.2.2.2.2.2.2.2.2.2.1), (wcr t (g0 8) a_carrier k358.2.2.2.2.2.2.2.2.2.2.2)]) → va_S A s.heap H locs → lv_has ls 25 [(1, .ref h0), (3, .int k358.1), (4, .long k358.2.1), (6, .long k358.2.2.1), (8, .int v360.2.1), (9, .int s371_.1), (10, .int s371_.2)] → c9 + (0 + 0) ≤ 600130 → s9 + (0 + 0) ≤ 7301080 → W p l e room_1 s m #[Value.ref b] below meth c H locs c9 s9 (lw_Z below #[Value.ref b] s) (F0 m 371 ls [])) ?_ FU (0, 0) hF _ _ _ _ _ _ _ hP hD hS (lv_sub hl [3, 4, 5, 6, 2, 1, 0] rfl) (kjm (R := 0) (R' := 0) hc9 (Nat.le_of_ble_eq_true rfl)) (kjm (R := 0) (R' := 0) hs9 (Nat.le_of_ble_eq_true rfl))
    clear hc9 hs9
    intro self371 ih371 s371_ hF H locs ls uu uv c9 s9 hP hD hS hl hc9 hs9
    refine lv_iload hx hb (kd tdlL_law_4 29 rfl) (lv_at hl 6 rfl) ?_
    refine lv_bipush (v := 8) hx hb (kd tdlL_law_4 30 rfl) (by decide) ?_
    refine lv_icmp_ge (tgt := 403) hx hb (kd tdlL_law_4 31 rfl) (by decide) (fun hc375 => ?_) (fun hc375 => ?_)
    · have hF := kt hc375 hF
      exact hK403 (s371_.1) hF _ _ _ _ _ _ _ hP hD hS (lv_sub hl [0, 1, 2, 3, 4, 5] rfl) (kjm (R := 0) (R' := 0) hc9 (Nat.le_of_ble_eq_true rfl)) (kjm (R := 0) (R' := 0) hs9 (Nat.le_of_ble_eq_true rfl))
    · have hF := kf hc375 hF
      refine lv_iload hx hb (kd tdlL_law_4 32 rfl) (lv_at hl 5 rfl) ?_
      refine lv_iload_n hx hb (kd tdlL_law_4 33 rfl) rfl (lv_at hl 1 rfl) ?_
      refine lv_iload hx hb (kd tdlL_law_4 34 rfl) (lv_at hl 6 rfl) ?_
      obtain ⟨v383, e383, hF⟩ := kc hF
      refine kcL_i (S := Unit) (wf := (fun (_ : Unit) => [])) hP hD hS hA nd_ rfl (fun _ => rfl) (kL_S (Qx := (fun A => kQi D (TY t) (kflat []) v383 A)) (cs := []) (is := []) (As := [.int k358.1, .int s371_.2]) (rest := [.int s371_.1]) ⟨hx, hb, hml, hown, hts⟩ hK hP hD nd_ rfl (c_L_isThere l D t  _ k358.1 s371_.2 v383 e383) (va_cwS 2 hts (gcL_isThere w_273) rfl rfl rfl hdL_isThereS ⟨Nat.le_of_ble_eq_true rfl, Nat.le_of_ble_eq_true rfl⟩) rfl hl.1 rfl (Nat.le_of_ble_eq_true rfl) (kd tdlL_law_4 35 rfl) ⟨kfi (m := 0) (R' := 0) hc9, kfi (m := 0) (R' := 0) hs9⟩) (fun _ H locs hP hD hS => ?_)
      have hP : va_P D vwCl (kflat [(wx8 h0 g0), (wtx t (g0 0) a_text k358.2.2.2.1), (wdk t (g0 1) a_desk v360.2.2.1), (wdk t (g0 2) a_trial k358.2.2.2.2.2.1), (wpa t (g0 3) a_past uu v360.2.2.2), (wsv t (g0 4) uv k358.2.2.2.2.2.2.2.1), (wsm t (g0 5) a_stream k358.2.2.2.2.2.2.2.2.1), (wpl t (g0 6) a_plan k358.2.2.2.2.2.2.2.2.2.1), (wso t (g0 7) a_store k358.2.2.2.2.2.2.2.2.2.2.1), (wcr t (g0 8) a_carrier k358.2.2.2.2.2.2.2.2.2.2.2)]) H := hP
      have hD : va_D A (kflat [(wx8 h0 g0), (wtx t (g0 0) a_text k358.2.2.2.1), (wdk t (g0 1) a_desk v360.2.2.1), (wdk t (g0 2) a_trial k358.2.2.2.2.2.1), (wpa t (g0 3) a_past uu v360.2.2.2), (wsv t (g0 4) uv k358.2.2.2.2.2.2.2.1), (wsm t (g0 5) a_stream k358.2.2.2.2.2.2.2.2.1), (wpl t (g0 6) a_plan k358.2.2.2.2.2.2.2.2.2.1), (wso t (g0 7) a_store k358.2.2.2.2.2.2.2.2.2.2.1), (wcr t (g0 8) a_carrier k358.2.2.2.2.2.2.2.2.2.2.2)]) := hD
      have hc9 := kstp (m := 0) (R' := 0) hc9
      have hs9 := kstp (m := 0) (R' := 0) hs9
      refine lv_if_eq (tgt := 393) hx hb (kd tdlL_law_4 36 rfl) (by decide) (fun hc386 => ?_) (fun hc386 => ?_)
      · have hF := kt hc386 hF
        refine lv_iconst (v := 0) hx hb (kd tdlL_law_4 39 rfl) (by decide) ?_
        refine lv_iadd hx hb (kd tdlL_law_4 40 rfl) ?_
        refine lv_istore (lv' := [(9, .int (s371_.1 + 0)), (1, .ref h0), (3, .int k358.1), (4, .long k358.2.1), (6, .long k358.2.2.1), (8, .int v360.2.1), (10, .int s371_.2)]) hx hb (kd tdlL_law_4 41 rfl) hl (by decide) rfl (fun ls hl => ?_)
        refine lv_iinc (v := (s371_.2 + 1)) (lv' := [(10, .int (s371_.2 + 1)), (9, .int (s371_.1 + 0)), (1, .ref h0), (3, .int k358.1), (4, .long k358.2.1), (6, .long k358.2.2.1), (8, .int v360.2.1)]) hx hb (kd tdlL_law_4 42 rfl) hl (k := 6) rfl rfl (by decide) rfl (fun ls hl => ?_)
        refine lv_goto (tgt := 371) hx hb (kd tdlL_law_4 43 rfl) (by decide) ?_
        exact ih371 ((s371_.1 + 0), (s371_.2 + 1)) hF _ _ _ _ _ _ _ hP hD hS (lv_sub hl [2, 3, 4, 5, 6, 1, 0] rfl) (kjm (R := 0) (R' := 0) hc9 (Nat.le_of_ble_eq_true rfl)) (kjm (R := 0) (R' := 0) hs9 (Nat.le_of_ble_eq_true rfl))
      · have hF := kf hc386 hF
        refine lv_iconst (v := 1) hx hb (kd tdlL_law_4 37 rfl) (by decide) ?_
        refine lv_goto (tgt := 394) hx hb (kd tdlL_law_4 38 rfl) (by decide) ?_
        refine lv_iadd hx hb (kd tdlL_law_4 40 rfl) ?_
        refine lv_istore (lv' := [(9, .int (s371_.1 + 1)), (1, .ref h0), (3, .int k358.1), (4, .long k358.2.1), (6, .long k358.2.2.1), (8, .int v360.2.1), (10, .int s371_.2)]) hx hb (kd tdlL_law_4 41 rfl) hl (by decide) rfl (fun ls hl => ?_)
        refine lv_iinc (v := (s371_.2 + 1)) (lv' := [(10, .int (s371_.2 + 1)), (9, .int (s371_.1 + 1)), (1, .ref h0), (3, .int k358.1), (4, .long k358.2.1), (6, .long k358.2.2.1), (8, .int v360.2.1)]) hx hb (kd tdlL_law_4 42 rfl) hl (k := 6) rfl rfl (by decide) rfl (fun ls hl => ?_)
        refine lv_goto (tgt := 371) hx hb (kd tdlL_law_4 43 rfl) (by decide) ?_
        exact ih371 ((s371_.1 + 1), (s371_.2 + 1)) hF _ _ _ _ _ _ _ hP hD hS (lv_sub hl [2, 3, 4, 5, 6, 1, 0] rfl) (kjm (R := 0) (R' := 0) hc9 (Nat.le_of_ble_eq_true rfl)) (kjm (R := 0) (R' := 0) hs9 (Nat.le_of_ble_eq_true rfl))
  refine lp_indN (f := B_L_law_34 L xs (K_L_law_358)) (r := 1) (P := fun n9 s34_ => ∀ (H : Heap) (locs : List Loc) (ls : Array Slot) (uu uv : UAT) (c9 s9 : Nat), va_P D vwCl (kflat [(wx8 h0 g0), (wtx t (g0 0) a_text s34_.2.2.2.2.2.1), (wdk t (g0 1) a_desk s34_.2.2.2.2.2.2.1), (wdk t (g0 2) a_trial s34_.2.2.2.2.2.2.2.1), (wpa t (g0 3) a_past uu s34_.2.2.2.2.2.2.2.2.1), (wsv t (g0 4) uv s34_.2.2.2.2.2.2.2.2.2.1), (wsm t (g0 5) a_stream s34_.2.2.2.2.2.2.2.2.2.2.1), (wpl t (g0 6) a_plan s34_.2.2.2.2.2.2.2.2.2.2.2.1), (wso t (g0 7) a_store s34_.2.2.2.2.2.2.2.2.2.2.2.2.1), (wcr t (g0 8) a_carrier s34_.2.2.2.2.2.2.2.2.2.2.2.2.2)]) H → va_D A (kflat [(wx8 h0 g0), (wtx t (g0 0) a_text s34_.2.2.2.2.2.1), (wdk t (g0 1) a_desk s34_.2.2.2.2.2.2.1), (wdk t (g0 2) a_trial s34_.2.2.2.2.2.2.2.1), (wpa t (g0 3) a_past uu s34_.2.2.2.2.2.2.2.2.1), (wsv t (g0 4) uv s34_.2.2.2.2.2.2.2.2.2.1), (wsm t (g0 5) a_stream s34_.2.2.2.2.2.2.2.2.2.2.1), (wpl t (g0 6) a_plan s34_.2.2.2.2.2.2.2.2.2.2.2.1), (wso t (g0 7) a_store s34_.2.2.2.2.2.2.2.2.2.2.2.2.1), (wcr t (g0 8) a_carrier s34_.2.2.2.2.2.2.2.2.2.2.2.2.2)]) → va_S A s.heap H locs → lv_has ls 25 [(0, .ref b), (1, .ref h0), (2, .int s34_.1), (3, .int s34_.2.1), (4, .long s34_.2.2.1), (6, .long s34_.2.2.2.1), (8, .int s34_.2.2.2.2.1)] → c9 + (n9 * 230 + 0) ≤ 600130 → s9 + (n9 * 24955 + 0) ≤ 7301080 → W p l e room_1 s m #[Value.ref b] below meth c H locs c9 s9 (lw_Z below #[Value.ref b] s) (F0 m 34 ls [])) ?_ 13 (0, 0, v19, v26.1, 0, d_text, d_desk, d_trial, d_past, v14.2.2, d_stream, d_plan, v26.2, d_carrier) hF _ _ _ _ _ _ _ hP hD hS (lv_sub hl [6, 5, 4, 3, 2, 1, 0] rfl) (kjl (R := 2990) hc9 (Nat.le_of_ble_eq_true rfl)) (kjl (R := 324415) hs9 (Nat.le_of_ble_eq_true rfl))
  clear hc9 hs9
  intro n9 self34 ih34 s34_ hF H locs ls uu uv c9 s9 hP hD hS hl hc9 hs9
  have hc9 := kjs (P := 230) (C := 0) (R := 230) hc9 rfl
  have hs9 := kjs (P := 24955) (C := 0) (R := 24955) hs9 rfl
  refine lv_iload hx hb (kd tdlL_law_0 21 rfl) (lv_at hl 6 rfl) ?_
  refine lv_bipush (v := 12) hx hb (kd tdlL_law_0 22 rfl) (by decide) ?_
  refine lv_icmp_ge (tgt := 358) hx hb (kd tdlL_law_0 23 rfl) (by decide) (fun hc38 => ?_) (fun hc38 => ?_)
  · have hF := kt hc38 hF
    exact hK358 (s34_.2.1, s34_.2.2.1, s34_.2.2.2.1, s34_.2.2.2.2.2.1, s34_.2.2.2.2.2.2.1, s34_.2.2.2.2.2.2.2.1, s34_.2.2.2.2.2.2.2.2.1, s34_.2.2.2.2.2.2.2.2.2.1, s34_.2.2.2.2.2.2.2.2.2.2.1, s34_.2.2.2.2.2.2.2.2.2.2.2.1, s34_.2.2.2.2.2.2.2.2.2.2.2.2.1, s34_.2.2.2.2.2.2.2.2.2.2.2.2.2) hF _ _ _ _ _ _ _ hP hD hS (lv_sub hl [1, 3, 4, 5] rfl) (kjx (R := 230) (R' := 1) hc9 (Nat.le_of_ble_eq_true rfl)) (kjx (R := 24955) (R' := 6) hs9 (Nat.le_of_ble_eq_true rfl))
  · have hF := kf hc38 hF
    refine lv_aload_n hx hb (kd tdlL_law_0 24 rfl) rfl (lv_at hl 0 rfl) ?_
    refine lv_iconst (v := 2) hx hb (kd tdlL_law_0 25 rfl) (by decide) ?_
    refine lv_iload hx hb (kd tdlL_law_0 26 rfl) (lv_at hl 6 rfl) ?_
    refine lv_imul hx hb (kd tdlL_law_0 27 rfl) ?_
    obtain ⟨v46, e46, hF⟩ := kc hF
    refine kcell_i (rest := []) hx hb hml hown hts hsx hbl hbA hS hA w_332 e46 hl.1 (Nat.le_of_ble_eq_true rfl) ⟨(Nat.le_of_ble_eq_true rfl), (Nat.le_of_ble_eq_true rfl)⟩ (kd tdlL_law_0 28 rfl) ⟨kfi (m := 0) (R' := 230) hc9, kfi (m := 0) (R' := 24955) hs9⟩ (fun H locs hS hkeep => ?_)
    have hP := kPkeep hP hkeep
    have hc9 := kstp (m := 0) (R' := 230) hc9
    have hs9 := kstp (m := 0) (R' := 24955) hs9
    refine lv_istore (lv' := [(9, .int v46), (0, .ref b), (1, .ref h0), (2, .int s34_.1), (3, .int s34_.2.1), (4, .long s34_.2.2.1), (6, .long s34_.2.2.2.1), (8, .int s34_.2.2.2.2.1)]) hx hb (kd tdlL_law_0 29 rfl) hl (by decide) rfl (fun ls hl => ?_)
    refine lv_aload_n hx hb (kd tdlL_law_0 30 rfl) rfl (lv_at hl 1 rfl) ?_
    refine lv_iconst (v := 2) hx hb (kd tdlL_law_0 31 rfl) (by decide) ?_
    refine lv_iload hx hb (kd tdlL_law_0 32 rfl) (lv_at hl 7 rfl) ?_
    refine lv_imul hx hb (kd tdlL_law_0 33 rfl) ?_
    refine lv_iconst (v := 1) hx hb (kd tdlL_law_0 34 rfl) (by decide) ?_
    refine lv_iadd hx hb (kd tdlL_law_0 35 rfl) ?_
    obtain ⟨v58, e58, hF⟩ := kc hF
    refine kcell_i (rest := []) hx hb hml hown hts hsx hbl hbA hS hA w_332 e58 hl.1 (Nat.le_of_ble_eq_true rfl) ⟨(Nat.le_of_ble_eq_true rfl), (Nat.le_of_ble_eq_true rfl)⟩ (kd tdlL_law_0 36 rfl) ⟨kfi (m := 0) (R' := 230) hc9, kfi (m := 0) (R' := 24955) hs9⟩ (fun H locs hS hkeep => ?_)
    have hP := kPkeep hP hkeep
    have hc9 := kstp (m := 0) (R' := 230) hc9
    have hs9 := kstp (m := 0) (R' := 24955) hs9
    refine lv_istore (lv' := [(10, .int v58), (9, .int v46), (0, .ref b), (1, .ref h0), (2, .int s34_.1), (3, .int s34_.2.1), (4, .long s34_.2.2.1), (6, .long s34_.2.2.2.1), (8, .int s34_.2.2.2.2.1)]) hx hb (kd tdlL_law_0 37 rfl) hl (by decide) rfl (fun ls hl => ?_)
    refine lv_aload_n hx hb (kd tdlL_law_0 38 rfl) rfl (lv_at hl 3 rfl) ?_
    obtain ⟨v64, e64, hF⟩ := kc hF
    refine kcL_lS (S := Unit) (wf := (fun (_ : Unit) => [(wx8 h0 g0), (wdk t (g0 1) a_desk s34_.2.2.2.2.2.2.1)])) hP hD hS hA nd_0_2 rfl (fun _ => rfl) (kL_SX (Qx := (fun A => kQlS D (TY t) (fun (_ : Unit) => kflat [(wx8 h0 g0), (wdk t (g0 1) a_desk s34_.2.2.2.2.2.2.1)]) v64 A)) (cs := [(wx8 h0 g0), (wdk t (g0 1) a_desk s34_.2.2.2.2.2.2.1)]) (is := [0, 2]) (As := [.ref h0]) (rest := []) ⟨hx, hb, hml, hown, hts⟩ hX hS hA hK hP hD nd_0_2 rfl (c_L_digest l D t h0 g0 a_desk s34_.2.2.2.2.2.2.1 _  v64 e64) (va_cwS 1 hts (gcL_digest w_116) rfl rfl rfl hdL_digestS ⟨Nat.le_of_ble_eq_true rfl, Nat.le_of_ble_eq_true rfl⟩) rfl hl.1 rfl (Nat.le_of_ble_eq_true rfl) (kd tdlL_law_0 39 rfl) ⟨kfi (m := 0) (R' := 230) hc9, kfi (m := 0) (R' := 24955) hs9⟩) (fun _ H locs hP hD hS => ?_)
    have hP : va_P D vwCl (kflat [(wx8 h0 g0), (wtx t (g0 0) a_text s34_.2.2.2.2.2.1), (wdk t (g0 1) a_desk s34_.2.2.2.2.2.2.1), (wdk t (g0 2) a_trial s34_.2.2.2.2.2.2.2.1), (wpa t (g0 3) a_past uu s34_.2.2.2.2.2.2.2.2.1), (wsv t (g0 4) uv s34_.2.2.2.2.2.2.2.2.2.1), (wsm t (g0 5) a_stream s34_.2.2.2.2.2.2.2.2.2.2.1), (wpl t (g0 6) a_plan s34_.2.2.2.2.2.2.2.2.2.2.2.1), (wso t (g0 7) a_store s34_.2.2.2.2.2.2.2.2.2.2.2.2.1), (wcr t (g0 8) a_carrier s34_.2.2.2.2.2.2.2.2.2.2.2.2.2)]) H := hP
    have hD : va_D A (kflat [(wx8 h0 g0), (wtx t (g0 0) a_text s34_.2.2.2.2.2.1), (wdk t (g0 1) a_desk s34_.2.2.2.2.2.2.1), (wdk t (g0 2) a_trial s34_.2.2.2.2.2.2.2.1), (wpa t (g0 3) a_past uu s34_.2.2.2.2.2.2.2.2.1), (wsv t (g0 4) uv s34_.2.2.2.2.2.2.2.2.2.1), (wsm t (g0 5) a_stream s34_.2.2.2.2.2.2.2.2.2.2.1), (wpl t (g0 6) a_plan s34_.2.2.2.2.2.2.2.2.2.2.2.1), (wso t (g0 7) a_store s34_.2.2.2.2.2.2.2.2.2.2.2.2.1), (wcr t (g0 8) a_carrier s34_.2.2.2.2.2.2.2.2.2.2.2.2.2)]) := hD
    have hc9 := kstp (m := 0) (R' := 230) hc9
    have hs9 := kstp (m := 0) (R' := 24955) hs9
    refine lv_lstore (lv' := [(11, .long v64), (10, .int v58), (9, .int v46), (0, .ref b), (1, .ref h0), (2, .int s34_.1), (3, .int s34_.2.1), (4, .long s34_.2.2.1), (6, .long s34_.2.2.2.1), (8, .int s34_.2.2.2.2.1)]) hx hb (kd tdlL_law_0 40 rfl) hl (by decide) rfl (fun ls hl => ?_)
    refine lv_aload_n hx hb (kd tdlL_law_0 41 rfl) rfl (lv_at hl 4 rfl) ?_
    refine lv_iload_n hx hb (kd tdlL_law_0 42 rfl) rfl (lv_at hl 5 rfl) ?_
    obtain ⟨v71, e71, hF⟩ := kc hF
    refine kcL_lS (S := Unit) (wf := (fun (_ : Unit) => [(wx8 h0 g0), (wdk t (g0 1) a_desk s34_.2.2.2.2.2.2.1), (wso t (g0 7) a_store v71.2)])) hP hD hS hA nd_0_2_8 rfl (fun _ => rfl) (kL_SX (Qx := (fun A => kQlS D (TY t) (fun (_ : Unit) => kflat [(wx8 h0 g0), (wdk t (g0 1) a_desk s34_.2.2.2.2.2.2.1), (wso t (g0 7) a_store v71.2)]) v71.1 A)) (cs := [(wx8 h0 g0), (wdk t (g0 1) a_desk s34_.2.2.2.2.2.2.1), (wso t (g0 7) a_store s34_.2.2.2.2.2.2.2.2.2.2.2.2.1)]) (is := [0, 2, 8]) (As := [.ref h0, .int s34_.1]) (rest := []) ⟨hx, hb, hml, hown, hts⟩ hX hS hA hK hP hD nd_0_2_8 rfl (c_L_references l D t h0 g0 a_desk s34_.2.2.2.2.2.2.1 a_store s34_.2.2.2.2.2.2.2.2.2.2.2.2.1 _ s34_.1 v71 e71) (va_cwS 2 hts (gcL_references w_269) rfl rfl rfl hdL_referencesS ⟨Nat.le_of_ble_eq_true rfl, Nat.le_of_ble_eq_true rfl⟩) rfl hl.1 rfl (Nat.le_of_ble_eq_true rfl) (kd tdlL_law_0 43 rfl) ⟨kfi (m := 0) (R' := 230) hc9, kfi (m := 0) (R' := 24955) hs9⟩) (fun _ H locs hP hD hS => ?_)
    have hP : va_P D vwCl (kflat [(wx8 h0 g0), (wtx t (g0 0) a_text s34_.2.2.2.2.2.1), (wdk t (g0 1) a_desk s34_.2.2.2.2.2.2.1), (wdk t (g0 2) a_trial s34_.2.2.2.2.2.2.2.1), (wpa t (g0 3) a_past uu s34_.2.2.2.2.2.2.2.2.1), (wsv t (g0 4) uv s34_.2.2.2.2.2.2.2.2.2.1), (wsm t (g0 5) a_stream s34_.2.2.2.2.2.2.2.2.2.2.1), (wpl t (g0 6) a_plan s34_.2.2.2.2.2.2.2.2.2.2.2.1), (wso t (g0 7) a_store v71.2), (wcr t (g0 8) a_carrier s34_.2.2.2.2.2.2.2.2.2.2.2.2.2)]) H := hP
    have hD : va_D A (kflat [(wx8 h0 g0), (wtx t (g0 0) a_text s34_.2.2.2.2.2.1), (wdk t (g0 1) a_desk s34_.2.2.2.2.2.2.1), (wdk t (g0 2) a_trial s34_.2.2.2.2.2.2.2.1), (wpa t (g0 3) a_past uu s34_.2.2.2.2.2.2.2.2.1), (wsv t (g0 4) uv s34_.2.2.2.2.2.2.2.2.2.1), (wsm t (g0 5) a_stream s34_.2.2.2.2.2.2.2.2.2.2.1), (wpl t (g0 6) a_plan s34_.2.2.2.2.2.2.2.2.2.2.2.1), (wso t (g0 7) a_store v71.2), (wcr t (g0 8) a_carrier s34_.2.2.2.2.2.2.2.2.2.2.2.2.2)]) := hD
    have hc9 := kstp (m := 0) (R' := 230) hc9
    have hs9 := kstp (m := 0) (R' := 24955) hs9
    refine lv_lstore (lv' := [(13, .long v71.1), (11, .long v64), (10, .int v58), (9, .int v46), (0, .ref b), (1, .ref h0), (2, .int s34_.1), (3, .int s34_.2.1), (4, .long s34_.2.2.1), (6, .long s34_.2.2.2.1), (8, .int s34_.2.2.2.2.1)]) hx hb (kd tdlL_law_0 44 rfl) hl (by decide) rfl (fun ls hl => ?_)
    refine lv_aload_n hx hb (kd tdlL_law_1 0 rfl) rfl (lv_at hl 5 rfl) ?_
    refine lv_iload hx hb (kd tdlL_law_1 1 rfl) (lv_at hl 3 rfl) ?_
    refine lv_iload hx hb (kd tdlL_law_1 2 rfl) (lv_at hl 2 rfl) ?_
    refine lv_iload_n hx hb (kd tdlL_law_1 3 rfl) rfl (lv_at hl 6 rfl) ?_
    obtain ⟨v82, e82, hF⟩ := kc hF
    refine kcL_i (S := UAT) (wf := (fun (u82 : UAT) => [(wx8 h0 g0), (wtx t (g0 0) a_text v82.2.1), (wdk t (g0 1) a_desk v82.2.2.1), (wsm t (g0 5) a_stream v82.2.2.2.1), (wpl t (g0 6) a_plan v82.2.2.2.2.1), (wcr t (g0 8) a_carrier v82.2.2.2.2.2.1), (wpa t (g0 3) a_past u82 v82.2.2.2.2.2.2)])) hP hD hS hA nd_0_1_2_6_7_9_4 rfl (fun _ => rfl) (kL_SX (Qx := (fun A => kQiS D (TY t) (fun (u82 : UAT) => kflat [(wx8 h0 g0), (wtx t (g0 0) a_text v82.2.1), (wdk t (g0 1) a_desk v82.2.2.1), (wsm t (g0 5) a_stream v82.2.2.2.1), (wpl t (g0 6) a_plan v82.2.2.2.2.1), (wcr t (g0 8) a_carrier v82.2.2.2.2.2.1), (wpa t (g0 3) a_past u82 v82.2.2.2.2.2.2)]) v82.1 A)) (cs := [(wx8 h0 g0), (wtx t (g0 0) a_text s34_.2.2.2.2.2.1), (wdk t (g0 1) a_desk s34_.2.2.2.2.2.2.1), (wsm t (g0 5) a_stream s34_.2.2.2.2.2.2.2.2.2.2.1), (wpl t (g0 6) a_plan s34_.2.2.2.2.2.2.2.2.2.2.2.1), (wcr t (g0 8) a_carrier s34_.2.2.2.2.2.2.2.2.2.2.2.2.2), (wpa t (g0 3) a_past uu s34_.2.2.2.2.2.2.2.2.1)]) (is := [0, 1, 2, 6, 7, 9, 4]) (As := [.ref h0, .int v46, .int v58, .int s34_.1]) (rest := []) ⟨hx, hb, hml, hown, hts⟩ hX hS hA hK hP hD nd_0_1_2_6_7_9_4 rfl (c_L_act l D t h0 g0 a_text s34_.2.2.2.2.2.1 a_desk s34_.2.2.2.2.2.2.1 a_stream s34_.2.2.2.2.2.2.2.2.2.2.1 a_plan s34_.2.2.2.2.2.2.2.2.2.2.2.1 a_carrier s34_.2.2.2.2.2.2.2.2.2.2.2.2.2 a_past uu s34_.2.2.2.2.2.2.2.2.1 _ v46 v58 s34_.1 v82 e82) (va_cwS 4 hts (gcL_act w_335) rfl rfl rfl hdL_actS ⟨Nat.le_of_ble_eq_true rfl, Nat.le_of_ble_eq_true rfl⟩) rfl hl.1 rfl (Nat.le_of_ble_eq_true rfl) (kd tdlL_law_1 4 rfl) ⟨kfi (m := 10) (R' := 220) hc9, kfi (m := 1085) (R' := 23870) hs9⟩) (fun u82 H locs hP hD hS => ?_)
    have hP : va_P D vwCl (kflat [(wx8 h0 g0), (wtx t (g0 0) a_text v82.2.1), (wdk t (g0 1) a_desk v82.2.2.1), (wdk t (g0 2) a_trial s34_.2.2.2.2.2.2.2.1), (wpa t (g0 3) a_past u82 v82.2.2.2.2.2.2), (wsv t (g0 4) uv s34_.2.2.2.2.2.2.2.2.2.1), (wsm t (g0 5) a_stream v82.2.2.2.1), (wpl t (g0 6) a_plan v82.2.2.2.2.1), (wso t (g0 7) a_store v71.2), (wcr t (g0 8) a_carrier v82.2.2.2.2.2.1)]) H := hP
    have hD : va_D A (kflat [(wx8 h0 g0), (wtx t (g0 0) a_text v82.2.1), (wdk t (g0 1) a_desk v82.2.2.1), (wdk t (g0 2) a_trial s34_.2.2.2.2.2.2.2.1), (wpa t (g0 3) a_past u82 v82.2.2.2.2.2.2), (wsv t (g0 4) uv s34_.2.2.2.2.2.2.2.2.2.1), (wsm t (g0 5) a_stream v82.2.2.2.1), (wpl t (g0 6) a_plan v82.2.2.2.2.1), (wso t (g0 7) a_store v71.2), (wcr t (g0 8) a_carrier v82.2.2.2.2.2.1)]) := hD
    have hc9 := kstp (m := 10) (R' := 220) hc9
    have hs9 := kstp (m := 1085) (R' := 23870) hs9
    refine lv_istore (lv' := [(15, .int v82.1), (13, .long v71.1), (11, .long v64), (10, .int v58), (9, .int v46), (0, .ref b), (1, .ref h0), (2, .int s34_.1), (3, .int s34_.2.1), (4, .long s34_.2.2.1), (6, .long s34_.2.2.2.1), (8, .int s34_.2.2.2.2.1)]) hx hb (kd tdlL_law_1 5 rfl) hl (by decide) rfl (fun ls hl => ?_)
    refine lv_aload_n hx hb (kd tdlL_law_1 6 rfl) rfl (lv_at hl 6 rfl) ?_
    obtain ⟨v88, e88, hF⟩ := kc hF
    refine kcL_lS (S := Unit) (wf := (fun (_ : Unit) => [(wx8 h0 g0), (wdk t (g0 1) a_desk v82.2.2.1)])) hP hD hS hA nd_0_2 rfl (fun _ => rfl) (kL_SX (Qx := (fun A => kQlS D (TY t) (fun (_ : Unit) => kflat [(wx8 h0 g0), (wdk t (g0 1) a_desk v82.2.2.1)]) v88 A)) (cs := [(wx8 h0 g0), (wdk t (g0 1) a_desk v82.2.2.1)]) (is := [0, 2]) (As := [.ref h0]) (rest := []) ⟨hx, hb, hml, hown, hts⟩ hX hS hA hK hP hD nd_0_2 rfl (c_L_digest l D t h0 g0 a_desk v82.2.2.1 _  v88 e88) (va_cwS 1 hts (gcL_digest w_116) rfl rfl rfl hdL_digestS ⟨Nat.le_of_ble_eq_true rfl, Nat.le_of_ble_eq_true rfl⟩) rfl hl.1 rfl (Nat.le_of_ble_eq_true rfl) (kd tdlL_law_1 7 rfl) ⟨kfi (m := 0) (R' := 220) hc9, kfi (m := 0) (R' := 23870) hs9⟩) (fun _ H locs hP hD hS => ?_)
    have hP : va_P D vwCl (kflat [(wx8 h0 g0), (wtx t (g0 0) a_text v82.2.1), (wdk t (g0 1) a_desk v82.2.2.1), (wdk t (g0 2) a_trial s34_.2.2.2.2.2.2.2.1), (wpa t (g0 3) a_past u82 v82.2.2.2.2.2.2), (wsv t (g0 4) uv s34_.2.2.2.2.2.2.2.2.2.1), (wsm t (g0 5) a_stream v82.2.2.2.1), (wpl t (g0 6) a_plan v82.2.2.2.2.1), (wso t (g0 7) a_store v71.2), (wcr t (g0 8) a_carrier v82.2.2.2.2.2.1)]) H := hP
    have hD : va_D A (kflat [(wx8 h0 g0), (wtx t (g0 0) a_text v82.2.1), (wdk t (g0 1) a_desk v82.2.2.1), (wdk t (g0 2) a_trial s34_.2.2.2.2.2.2.2.1), (wpa t (g0 3) a_past u82 v82.2.2.2.2.2.2), (wsv t (g0 4) uv s34_.2.2.2.2.2.2.2.2.2.1), (wsm t (g0 5) a_stream v82.2.2.2.1), (wpl t (g0 6) a_plan v82.2.2.2.2.1), (wso t (g0 7) a_store v71.2), (wcr t (g0 8) a_carrier v82.2.2.2.2.2.1)]) := hD
    have hc9 := kstp (m := 0) (R' := 220) hc9
    have hs9 := kstp (m := 0) (R' := 23870) hs9
    refine lv_lstore (lv' := [(16, .long v88), (15, .int v82.1), (13, .long v71.1), (11, .long v64), (10, .int v58), (9, .int v46), (0, .ref b), (1, .ref h0), (2, .int s34_.1), (3, .int s34_.2.1), (4, .long s34_.2.2.1), (6, .long s34_.2.2.2.1), (8, .int s34_.2.2.2.2.1)]) hx hb (kd tdlL_law_1 8 rfl) hl (by decide) rfl (fun ls hl => ?_)
    refine lv_iload hx hb (kd tdlL_law_1 9 rfl) (lv_at hl 5 rfl) ?_
    refine lv_bipush (v := 9) hx hb (kd tdlL_law_1 10 rfl) (by decide) ?_
    refine lv_ishr hx hb (kd tdlL_law_1 11 rfl) ?_
    refine lv_iconst (v := 3) hx hb (kd tdlL_law_1 12 rfl) (by decide) ?_
    refine lv_iand hx hb (kd tdlL_law_1 13 rfl) ?_
    have hJ155 : ∀ j155 : TXT × DKT × PAT × SMT × PLT × SOT × CRT, J_L_law_155 v82 s34_ v58 v46 v88 self34 j155 = some 1 → ∀ (H : Heap) (locs : List Loc) (ls : Array Slot) (uu uv : UAT) (c9 s9 : Nat), va_P D vwCl (kflat [(wx8 h0 g0), (wtx t (g0 0) a_text j155.1), (wdk t (g0 1) a_desk j155.2.1), (wdk t (g0 2) a_trial s34_.2.2.2.2.2.2.2.1), (wpa t (g0 3) a_past uu j155.2.2.1), (wsv t (g0 4) uv s34_.2.2.2.2.2.2.2.2.2.1), (wsm t (g0 5) a_stream j155.2.2.2.1), (wpl t (g0 6) a_plan j155.2.2.2.2.1), (wso t (g0 7) a_store j155.2.2.2.2.2.1), (wcr t (g0 8) a_carrier j155.2.2.2.2.2.2)]) H → va_D A (kflat [(wx8 h0 g0), (wtx t (g0 0) a_text j155.1), (wdk t (g0 1) a_desk j155.2.1), (wdk t (g0 2) a_trial s34_.2.2.2.2.2.2.2.1), (wpa t (g0 3) a_past uu j155.2.2.1), (wsv t (g0 4) uv s34_.2.2.2.2.2.2.2.2.2.1), (wsm t (g0 5) a_stream j155.2.2.2.1), (wpl t (g0 6) a_plan j155.2.2.2.2.1), (wso t (g0 7) a_store j155.2.2.2.2.2.1), (wcr t (g0 8) a_carrier j155.2.2.2.2.2.2)]) → va_S A s.heap H locs → lv_has ls 25 [(0, .ref b), (1, .ref h0), (3, .int s34_.2.1), (4, .long s34_.2.2.1), (6, .long s34_.2.2.2.1), (8, .int s34_.2.2.2.2.1), (9, .int v46), (10, .int v58), (15, .int v82.1), (16, .long v88)] → c9 + (n9 * 230 + 210) ≤ 600130 → s9 + (n9 * 24955 + 22785) ≤ 7301080 → W p l e room_1 s m #[Value.ref b] below meth c H locs c9 s9 (lw_Z below #[Value.ref b] s) (F0 m 155 ls []) := by
      clear hc9 hs9
      intro j155 hF H locs ls uu uv c9 s9 hP hD hS hl hc9 hs9
      refine lv_iload hx hb (kd tdlL_law_1 43 rfl) (lv_at hl 8 rfl) ?_
      refine lv_istore_n (lv' := [(2, .int v82.1), (0, .ref b), (1, .ref h0), (3, .int s34_.2.1), (4, .long s34_.2.2.1), (6, .long s34_.2.2.2.1), (8, .int s34_.2.2.2.2.1), (9, .int v46), (10, .int v58), (15, .int v82.1), (16, .long v88)]) hx hb (kd tdlL_law_1 44 rfl) rfl hl (by decide) rfl (fun ls hl => ?_)
      refine lv_aload_n hx hb (kd tdlL_law_2 0 rfl) rfl (lv_at hl 2 rfl) ?_
      refine lv_iload_n hx hb (kd tdlL_law_2 1 rfl) rfl (lv_at hl 0 rfl) ?_
      obtain ⟨v160, e160, hF⟩ := kc hF
      refine kcL_lS (S := Unit) (wf := (fun (_ : Unit) => [(wx8 h0 g0), (wdk t (g0 1) a_desk j155.2.1), (wso t (g0 7) a_store v160.2)])) hP hD hS hA nd_0_2_8 rfl (fun _ => rfl) (kL_SX (Qx := (fun A => kQlS D (TY t) (fun (_ : Unit) => kflat [(wx8 h0 g0), (wdk t (g0 1) a_desk j155.2.1), (wso t (g0 7) a_store v160.2)]) v160.1 A)) (cs := [(wx8 h0 g0), (wdk t (g0 1) a_desk j155.2.1), (wso t (g0 7) a_store j155.2.2.2.2.2.1)]) (is := [0, 2, 8]) (As := [.ref h0, .int v82.1]) (rest := []) ⟨hx, hb, hml, hown, hts⟩ hX hS hA hK hP hD nd_0_2_8 rfl (c_L_references l D t h0 g0 a_desk j155.2.1 a_store j155.2.2.2.2.2.1 _ v82.1 v160 e160) (va_cwS 2 hts (gcL_references w_269) rfl rfl rfl hdL_referencesS ⟨Nat.le_of_ble_eq_true rfl, Nat.le_of_ble_eq_true rfl⟩) rfl hl.1 rfl (Nat.le_of_ble_eq_true rfl) (kd tdlL_law_2 2 rfl) ⟨kfi (m := 0) (R' := 210) hc9, kfi (m := 0) (R' := 22785) hs9⟩) (fun _ H locs hP hD hS => ?_)
      have hP : va_P D vwCl (kflat [(wx8 h0 g0), (wtx t (g0 0) a_text j155.1), (wdk t (g0 1) a_desk j155.2.1), (wdk t (g0 2) a_trial s34_.2.2.2.2.2.2.2.1), (wpa t (g0 3) a_past uu j155.2.2.1), (wsv t (g0 4) uv s34_.2.2.2.2.2.2.2.2.2.1), (wsm t (g0 5) a_stream j155.2.2.2.1), (wpl t (g0 6) a_plan j155.2.2.2.2.1), (wso t (g0 7) a_store v160.2), (wcr t (g0 8) a_carrier j155.2.2.2.2.2.2)]) H := hP
      have hD : va_D A (kflat [(wx8 h0 g0), (wtx t (g0 0) a_text j155.1), (wdk t (g0 1) a_desk j155.2.1), (wdk t (g0 2) a_trial s34_.2.2.2.2.2.2.2.1), (wpa t (g0 3) a_past uu j155.2.2.1), (wsv t (g0 4) uv s34_.2.2.2.2.2.2.2.2.2.1), (wsm t (g0 5) a_stream j155.2.2.2.1), (wpl t (g0 6) a_plan j155.2.2.2.2.1), (wso t (g0 7) a_store v160.2), (wcr t (g0 8) a_carrier j155.2.2.2.2.2.2)]) := hD
      have hc9 := kstp (m := 0) (R' := 210) hc9
      have hs9 := kstp (m := 0) (R' := 22785) hs9
      refine lv_lstore (lv' := [(18, .long v160.1), (2, .int v82.1), (0, .ref b), (1, .ref h0), (3, .int s34_.2.1), (4, .long s34_.2.2.1), (6, .long s34_.2.2.2.1), (8, .int s34_.2.2.2.2.1), (9, .int v46), (10, .int v58), (15, .int v82.1), (16, .long v88)]) hx hb (kd tdlL_law_2 3 rfl) hl (by decide) rfl (fun ls hl => ?_)
      refine lv_ldc2 (v := (19088743)) hx hb hown Lc110 (kd tdlL_law_2 4 rfl) ?_
      refine lv_iload hx hb (kd tdlL_law_2 5 rfl) (lv_at hl 9 rfl) ?_
      refine lv_i2l hx hb (kd tdlL_law_2 6 rfl) rfl ?_
      refine lv_lmul hx hb (kd tdlL_law_2 7 rfl) ?_
      refine lv_iload hx hb (kd tdlL_law_2 8 rfl) (lv_at hl 8 rfl) ?_
      refine lv_i2l hx hb (kd tdlL_law_2 9 rfl) rfl ?_
      refine lv_ladd hx hb (kd tdlL_law_2 10 rfl) ?_
      refine lv_lstore (lv' := [(20, .long (((19088743) * (Int32.toInt64 v58)) + (Int32.toInt64 v46))), (18, .long v160.1), (2, .int v82.1), (0, .ref b), (1, .ref h0), (3, .int s34_.2.1), (4, .long s34_.2.2.1), (6, .long s34_.2.2.2.1), (8, .int s34_.2.2.2.2.1), (9, .int v46), (10, .int v58), (15, .int v82.1), (16, .long v88)]) hx hb (kd tdlL_law_2 11 rfl) hl (by decide) rfl (fun ls hl => ?_)
      refine lv_aload_n hx hb (kd tdlL_law_2 12 rfl) rfl (lv_at hl 4 rfl) ?_
      refine lv_lload hx hb (kd tdlL_law_2 13 rfl) (lv_at hl 0 rfl) ?_
      refine lv_iconst (v := 1) hx hb (kd tdlL_law_2 14 rfl) (by decide) ?_
      refine lv_iload hx hb (kd tdlL_law_2 15 rfl) (lv_at hl 9 rfl) ?_
      refine lv_bipush (v := 11) hx hb (kd tdlL_law_2 16 rfl) (by decide) ?_
      refine lv_ishr hx hb (kd tdlL_law_2 17 rfl) ?_
      refine lv_bipush (v := 7) hx hb (kd tdlL_law_2 18 rfl) (by decide) ?_
      refine lv_iand hx hb (kd tdlL_law_2 19 rfl) ?_
      refine lv_iadd hx hb (kd tdlL_law_2 20 rfl) ?_
      obtain ⟨v191, e191, hF⟩ := kc hF
      obtain ⟨z191, hF⟩ := kz0 hF
      refine kcL_i (S := Unit) (wf := (fun (_ : Unit) => [(wx8 h0 g0), (wdk t (g0 1) a_desk j155.2.1), (wdk t (g0 2) a_trial v191.2.2.1), (wsm t (g0 5) a_stream v191.2.2.2.1), (wpl t (g0 6) a_plan v191.2.2.2.2.1), (wcr t (g0 8) a_carrier v191.2.2.2.2.2)])) hP hD hS hA nd_0_2_3_6_7_9 rfl (fun _ => rfl) (kL_VX (Qx := (fun A => kQiS D (TY t) (fun (_ : Unit) => kflat [(wx8 h0 g0), (wdk t (g0 1) a_desk j155.2.1), (wdk t (g0 2) a_trial v191.2.2.1), (wsm t (g0 5) a_stream v191.2.2.2.1), (wpl t (g0 6) a_plan v191.2.2.2.2.1), (wcr t (g0 8) a_carrier v191.2.2.2.2.2)]) v191.2.1 A)) (cs := [(wx8 h0 g0), (wdk t (g0 1) a_desk j155.2.1), (wdk t (g0 2) a_trial s34_.2.2.2.2.2.2.2.1), (wsm t (g0 5) a_stream j155.2.2.2.1), (wpl t (g0 6) a_plan j155.2.2.2.2.1), (wcr t (g0 8) a_carrier j155.2.2.2.2.2.2)]) (is := [0, 2, 3, 6, 7, 9]) (As := [.long (((19088743) * (Int32.toInt64 v58)) + (Int32.toInt64 v46)), .int ((1 : Int32) + ((v46 >>> (11 &&& 31)) &&& 7))]) (rest := []) ⟨hx, hb, hml, hown, hts⟩ hX hS hA hK hP hD nd_0_2_3_6_7_9 rfl (c_X8_simulate l D t h0 g0 a_desk j155.2.1 a_trial s34_.2.2.2.2.2.2.2.1 a_stream j155.2.2.2.1 a_plan j155.2.2.2.2.1 a_carrier j155.2.2.2.2.2.2 _ (((19088743) * (Int32.toInt64 v58)) + (Int32.toInt64 v46)) ((1 : Int32) + ((v46 >>> (11 &&& 31)) &&& 7)) v191 e191 z191) (cwV 2 hts (gcX8_simulate w_586) rfl rfl rfl hdX8_simulateV ⟨Nat.le_of_ble_eq_true rfl, Nat.le_of_ble_eq_true rfl⟩) (ci := 7) (q0 := 0) rfl rfl rfl hl.1 rfl (Nat.le_of_ble_eq_true rfl) (kd tdlL_law_2 21 rfl) ⟨kfi (m := 0) (R' := 210) hc9, kfi (m := 0) (R' := 22785) hs9⟩) (fun _ H locs hP hD hS => ?_)
      have hP : va_P D vwCl (kflat [(wx8 h0 g0), (wtx t (g0 0) a_text j155.1), (wdk t (g0 1) a_desk j155.2.1), (wdk t (g0 2) a_trial v191.2.2.1), (wpa t (g0 3) a_past uu j155.2.2.1), (wsv t (g0 4) uv s34_.2.2.2.2.2.2.2.2.2.1), (wsm t (g0 5) a_stream v191.2.2.2.1), (wpl t (g0 6) a_plan v191.2.2.2.2.1), (wso t (g0 7) a_store v160.2), (wcr t (g0 8) a_carrier v191.2.2.2.2.2)]) H := hP
      have hD : va_D A (kflat [(wx8 h0 g0), (wtx t (g0 0) a_text j155.1), (wdk t (g0 1) a_desk j155.2.1), (wdk t (g0 2) a_trial v191.2.2.1), (wpa t (g0 3) a_past uu j155.2.2.1), (wsv t (g0 4) uv s34_.2.2.2.2.2.2.2.2.2.1), (wsm t (g0 5) a_stream v191.2.2.2.1), (wpl t (g0 6) a_plan v191.2.2.2.2.1), (wso t (g0 7) a_store v160.2), (wcr t (g0 8) a_carrier v191.2.2.2.2.2)]) := hD
      have hc9 := kstp (m := 0) (R' := 210) hc9
      have hs9 := kstp (m := 0) (R' := 22785) hs9
      refine lv_istore (lv' := [(22, .int v191.2.1), (20, .long (((19088743) * (Int32.toInt64 v58)) + (Int32.toInt64 v46))), (18, .long v160.1), (2, .int v82.1), (0, .ref b), (1, .ref h0), (3, .int s34_.2.1), (4, .long s34_.2.2.1), (6, .long s34_.2.2.2.1), (8, .int s34_.2.2.2.2.1), (9, .int v46), (10, .int v58), (15, .int v82.1), (16, .long v88)]) hx hb (kd tdlL_law_2 22 rfl) hl (by decide) rfl (fun ls hl => ?_)
      refine lv_aload_n hx hb (kd tdlL_law_2 23 rfl) rfl (lv_at hl 5 rfl) ?_
      refine lv_iconst (v := 2) hx hb (kd tdlL_law_2 24 rfl) (by decide) ?_
      refine lv_ldc2 (v := (30005000)) hx hb hown Lc116 (kd tdlL_law_2 25 rfl) ?_
      refine lv_iload hx hb (kd tdlL_law_2 26 rfl) (lv_at hl 11 rfl) ?_
      refine lv_bipush (v := 30) hx hb (kd tdlL_law_2 27 rfl) (by decide) ?_
      obtain ⟨v205, e205, hF⟩ := kc hF
      refine kcL_i (S := Unit) (wf := (fun (_ : Unit) => [])) hP hD hS hA nd_ rfl (fun _ => rfl) (kL_S (Qx := (fun A => kQi D (TY t) (kflat []) v205 A)) (cs := []) (is := []) (As := [.int v58, .int 30]) (rest := [.long (30005000), .int 2, .ref h0]) ⟨hx, hb, hml, hown, hts⟩ hK hP hD nd_ rfl (c_L_low l D t  _ v58 30 v205 e205) (va_cwS 2 hts (gcL_low w_338) rfl rfl rfl hdL_lowS ⟨Nat.le_of_ble_eq_true rfl, Nat.le_of_ble_eq_true rfl⟩) rfl hl.1 rfl (Nat.le_of_ble_eq_true rfl) (kd tdlL_law_2 28 rfl) ⟨kfi (m := 0) (R' := 210) hc9, kfi (m := 0) (R' := 22785) hs9⟩) (fun _ H locs hP hD hS => ?_)
      have hP : va_P D vwCl (kflat [(wx8 h0 g0), (wtx t (g0 0) a_text j155.1), (wdk t (g0 1) a_desk j155.2.1), (wdk t (g0 2) a_trial v191.2.2.1), (wpa t (g0 3) a_past uu j155.2.2.1), (wsv t (g0 4) uv s34_.2.2.2.2.2.2.2.2.2.1), (wsm t (g0 5) a_stream v191.2.2.2.1), (wpl t (g0 6) a_plan v191.2.2.2.2.1), (wso t (g0 7) a_store v160.2), (wcr t (g0 8) a_carrier v191.2.2.2.2.2)]) H := hP
      have hD : va_D A (kflat [(wx8 h0 g0), (wtx t (g0 0) a_text j155.1), (wdk t (g0 1) a_desk j155.2.1), (wdk t (g0 2) a_trial v191.2.2.1), (wpa t (g0 3) a_past uu j155.2.2.1), (wsv t (g0 4) uv s34_.2.2.2.2.2.2.2.2.2.1), (wsm t (g0 5) a_stream v191.2.2.2.1), (wpl t (g0 6) a_plan v191.2.2.2.2.1), (wso t (g0 7) a_store v160.2), (wcr t (g0 8) a_carrier v191.2.2.2.2.2)]) := hD
      have hc9 := kstp (m := 0) (R' := 210) hc9
      have hs9 := kstp (m := 0) (R' := 22785) hs9
      refine lv_i2l hx hb (kd tdlL_law_2 29 rfl) rfl ?_
      refine lv_ladd hx hb (kd tdlL_law_2 30 rfl) ?_
      obtain ⟨v210, e210, hF⟩ := kc hF
      obtain ⟨z210, hF⟩ := kz0 hF
      refine kcL_i (S := Unit) (wf := (fun (_ : Unit) => [(wx8 h0 g0), (wtx t (g0 0) a_text j155.1), (wdk t (g0 1) a_desk j155.2.1), (wdk t (g0 2) a_trial v210.2.2.1), (wsm t (g0 5) a_stream v210.2.2.2.1), (wpl t (g0 6) a_plan v210.2.2.2.2.1), (wso t (g0 7) a_store v210.2.2.2.2.2.1), (wcr t (g0 8) a_carrier v210.2.2.2.2.2.2)])) hP hD hS hA nd_0_1_2_3_6_7_8_9 rfl (fun _ => rfl) (kL_VX (Qx := (fun A => kQiS D (TY t) (fun (_ : Unit) => kflat [(wx8 h0 g0), (wtx t (g0 0) a_text j155.1), (wdk t (g0 1) a_desk j155.2.1), (wdk t (g0 2) a_trial v210.2.2.1), (wsm t (g0 5) a_stream v210.2.2.2.1), (wpl t (g0 6) a_plan v210.2.2.2.2.1), (wso t (g0 7) a_store v210.2.2.2.2.2.1), (wcr t (g0 8) a_carrier v210.2.2.2.2.2.2)]) v210.2.1 A)) (cs := [(wx8 h0 g0), (wtx t (g0 0) a_text j155.1), (wdk t (g0 1) a_desk j155.2.1), (wdk t (g0 2) a_trial v191.2.2.1), (wsm t (g0 5) a_stream v191.2.2.2.1), (wpl t (g0 6) a_plan v191.2.2.2.2.1), (wso t (g0 7) a_store v160.2), (wcr t (g0 8) a_carrier v191.2.2.2.2.2)]) (is := [0, 1, 2, 3, 6, 7, 8, 9]) (As := [.int 2, .long ((30005000) + (Int32.toInt64 v205))]) (rest := []) ⟨hx, hb, hml, hown, hts⟩ hX hS hA hK hP hD nd_0_1_2_3_6_7_8_9 rfl (c_X8_runScript l D t h0 g0 a_text j155.1 a_desk j155.2.1 a_trial v191.2.2.1 a_stream v191.2.2.2.1 a_plan v191.2.2.2.2.1 a_store v160.2 a_carrier v191.2.2.2.2.2 _ 2 ((30005000) + (Int32.toInt64 v205)) v210 e210 z210) (cwV 2 hts (gcX8_runScript w_611) rfl rfl rfl hdX8_runScriptV ⟨Nat.le_of_ble_eq_true rfl, Nat.le_of_ble_eq_true rfl⟩) (ci := 7) (q0 := 0) rfl rfl rfl hl.1 rfl (Nat.le_of_ble_eq_true rfl) (kd tdlL_law_2 31 rfl) ⟨kfi (m := 0) (R' := 210) hc9, kfi (m := 0) (R' := 22785) hs9⟩) (fun _ H locs hP hD hS => ?_)
      have hP : va_P D vwCl (kflat [(wx8 h0 g0), (wtx t (g0 0) a_text j155.1), (wdk t (g0 1) a_desk j155.2.1), (wdk t (g0 2) a_trial v210.2.2.1), (wpa t (g0 3) a_past uu j155.2.2.1), (wsv t (g0 4) uv s34_.2.2.2.2.2.2.2.2.2.1), (wsm t (g0 5) a_stream v210.2.2.2.1), (wpl t (g0 6) a_plan v210.2.2.2.2.1), (wso t (g0 7) a_store v210.2.2.2.2.2.1), (wcr t (g0 8) a_carrier v210.2.2.2.2.2.2)]) H := hP
      have hD : va_D A (kflat [(wx8 h0 g0), (wtx t (g0 0) a_text j155.1), (wdk t (g0 1) a_desk j155.2.1), (wdk t (g0 2) a_trial v210.2.2.1), (wpa t (g0 3) a_past uu j155.2.2.1), (wsv t (g0 4) uv s34_.2.2.2.2.2.2.2.2.2.1), (wsm t (g0 5) a_stream v210.2.2.2.1), (wpl t (g0 6) a_plan v210.2.2.2.2.1), (wso t (g0 7) a_store v210.2.2.2.2.2.1), (wcr t (g0 8) a_carrier v210.2.2.2.2.2.2)]) := hD
      have hc9 := kstp (m := 0) (R' := 210) hc9
      have hs9 := kstp (m := 0) (R' := 22785) hs9
      refine lv_istore (lv' := [(23, .int v210.2.1), (22, .int v191.2.1), (20, .long (((19088743) * (Int32.toInt64 v58)) + (Int32.toInt64 v46))), (18, .long v160.1), (2, .int v82.1), (0, .ref b), (1, .ref h0), (3, .int s34_.2.1), (4, .long s34_.2.2.1), (6, .long s34_.2.2.2.1), (8, .int s34_.2.2.2.2.1), (9, .int v46), (10, .int v58), (15, .int v82.1), (16, .long v88)]) hx hb (kd tdlL_law_2 32 rfl) hl (by decide) rfl (fun ls hl => ?_)
      refine lv_aload_n hx hb (kd tdlL_law_2 33 rfl) rfl (lv_at hl 6 rfl) ?_
      refine lv_lload hx hb (kd tdlL_law_2 34 rfl) (lv_at hl 2 rfl) ?_
      refine lv_iconst (v := 1) hx hb (kd tdlL_law_2 35 rfl) (by decide) ?_
      refine lv_iload hx hb (kd tdlL_law_2 36 rfl) (lv_at hl 11 rfl) ?_
      refine lv_bipush (v := 11) hx hb (kd tdlL_law_2 37 rfl) (by decide) ?_
      refine lv_ishr hx hb (kd tdlL_law_2 38 rfl) ?_
      refine lv_bipush (v := 7) hx hb (kd tdlL_law_2 39 rfl) (by decide) ?_
      refine lv_iand hx hb (kd tdlL_law_2 40 rfl) ?_
      refine lv_iadd hx hb (kd tdlL_law_2 41 rfl) ?_
      obtain ⟨v228, e228, hF⟩ := kc hF
      obtain ⟨z228, hF⟩ := kz0 hF
      refine kcL_i (S := Unit) (wf := (fun (_ : Unit) => [(wx8 h0 g0), (wdk t (g0 1) a_desk j155.2.1), (wdk t (g0 2) a_trial v228.2.2.1), (wsm t (g0 5) a_stream v228.2.2.2.1), (wpl t (g0 6) a_plan v228.2.2.2.2.1), (wcr t (g0 8) a_carrier v228.2.2.2.2.2)])) hP hD hS hA nd_0_2_3_6_7_9 rfl (fun _ => rfl) (kL_VX (Qx := (fun A => kQiS D (TY t) (fun (_ : Unit) => kflat [(wx8 h0 g0), (wdk t (g0 1) a_desk j155.2.1), (wdk t (g0 2) a_trial v228.2.2.1), (wsm t (g0 5) a_stream v228.2.2.2.1), (wpl t (g0 6) a_plan v228.2.2.2.2.1), (wcr t (g0 8) a_carrier v228.2.2.2.2.2)]) v228.2.1 A)) (cs := [(wx8 h0 g0), (wdk t (g0 1) a_desk j155.2.1), (wdk t (g0 2) a_trial v210.2.2.1), (wsm t (g0 5) a_stream v210.2.2.2.1), (wpl t (g0 6) a_plan v210.2.2.2.2.1), (wcr t (g0 8) a_carrier v210.2.2.2.2.2.2)]) (is := [0, 2, 3, 6, 7, 9]) (As := [.long (((19088743) * (Int32.toInt64 v58)) + (Int32.toInt64 v46)), .int ((1 : Int32) + ((v46 >>> (11 &&& 31)) &&& 7))]) (rest := []) ⟨hx, hb, hml, hown, hts⟩ hX hS hA hK hP hD nd_0_2_3_6_7_9 rfl (c_X8_simulate l D t h0 g0 a_desk j155.2.1 a_trial v210.2.2.1 a_stream v210.2.2.2.1 a_plan v210.2.2.2.2.1 a_carrier v210.2.2.2.2.2.2 _ (((19088743) * (Int32.toInt64 v58)) + (Int32.toInt64 v46)) ((1 : Int32) + ((v46 >>> (11 &&& 31)) &&& 7)) v228 e228 z228) (cwV 2 hts (gcX8_simulate w_586) rfl rfl rfl hdX8_simulateV ⟨Nat.le_of_ble_eq_true rfl, Nat.le_of_ble_eq_true rfl⟩) (ci := 7) (q0 := 0) rfl rfl rfl hl.1 rfl (Nat.le_of_ble_eq_true rfl) (kd tdlL_law_2 42 rfl) ⟨kfi (m := 0) (R' := 210) hc9, kfi (m := 0) (R' := 22785) hs9⟩) (fun _ H locs hP hD hS => ?_)
      have hP : va_P D vwCl (kflat [(wx8 h0 g0), (wtx t (g0 0) a_text j155.1), (wdk t (g0 1) a_desk j155.2.1), (wdk t (g0 2) a_trial v228.2.2.1), (wpa t (g0 3) a_past uu j155.2.2.1), (wsv t (g0 4) uv s34_.2.2.2.2.2.2.2.2.2.1), (wsm t (g0 5) a_stream v228.2.2.2.1), (wpl t (g0 6) a_plan v228.2.2.2.2.1), (wso t (g0 7) a_store v210.2.2.2.2.2.1), (wcr t (g0 8) a_carrier v228.2.2.2.2.2)]) H := hP
      have hD : va_D A (kflat [(wx8 h0 g0), (wtx t (g0 0) a_text j155.1), (wdk t (g0 1) a_desk j155.2.1), (wdk t (g0 2) a_trial v228.2.2.1), (wpa t (g0 3) a_past uu j155.2.2.1), (wsv t (g0 4) uv s34_.2.2.2.2.2.2.2.2.2.1), (wsm t (g0 5) a_stream v228.2.2.2.1), (wpl t (g0 6) a_plan v228.2.2.2.2.1), (wso t (g0 7) a_store v210.2.2.2.2.2.1), (wcr t (g0 8) a_carrier v228.2.2.2.2.2)]) := hD
      have hc9 := kstp (m := 0) (R' := 210) hc9
      have hs9 := kstp (m := 0) (R' := 22785) hs9
      refine lv_iload hx hb (kd tdlL_law_2 43 rfl) (lv_at hl 1 rfl) ?_
      have hJ253 : ∀ j253 : Int32, J_L_law_253 j155 v88 v210 v82 v160 v46 v228 s34_ self34 j253 = some 1 → ∀ (H : Heap) (locs : List Loc) (ls : Array Slot) (uu uv : UAT) (c9 s9 : Nat), va_P D vwCl (kflat [(wx8 h0 g0), (wtx t (g0 0) a_text j155.1), (wdk t (g0 1) a_desk j155.2.1), (wdk t (g0 2) a_trial v228.2.2.1), (wpa t (g0 3) a_past uu j155.2.2.1), (wsv t (g0 4) uv s34_.2.2.2.2.2.2.2.2.2.1), (wsm t (g0 5) a_stream v228.2.2.2.1), (wpl t (g0 6) a_plan v228.2.2.2.2.1), (wso t (g0 7) a_store v210.2.2.2.2.2.1), (wcr t (g0 8) a_carrier v228.2.2.2.2.2)]) H → va_D A (kflat [(wx8 h0 g0), (wtx t (g0 0) a_text j155.1), (wdk t (g0 1) a_desk j155.2.1), (wdk t (g0 2) a_trial v228.2.2.1), (wpa t (g0 3) a_past uu j155.2.2.1), (wsv t (g0 4) uv s34_.2.2.2.2.2.2.2.2.2.1), (wsm t (g0 5) a_stream v228.2.2.2.1), (wpl t (g0 6) a_plan v228.2.2.2.2.1), (wso t (g0 7) a_store v210.2.2.2.2.2.1), (wcr t (g0 8) a_carrier v228.2.2.2.2.2)]) → va_S A s.heap H locs → lv_has ls 25 [(0, .ref b), (1, .ref h0), (2, .int v82.1), (3, .int s34_.2.1), (4, .long s34_.2.2.1), (6, .long s34_.2.2.2.1), (8, .int s34_.2.2.2.2.1), (9, .int v46), (16, .long v88), (18, .long v160.1)] → c9 + (n9 * 230 + 210) ≤ 600130 → s9 + (n9 * 24955 + 22785) ≤ 7301080 → W p l e room_1 s m #[Value.ref b] below meth c H locs c9 s9 (lw_Z below #[Value.ref b] s) (F0 m 253 ls [.int j253]) := by
        clear hc9 hs9
        intro j253 hF H locs ls uu uv c9 s9 hP hD hS hl hc9 hs9
        refine lv_istore (lv' := [(24, .int j253), (0, .ref b), (1, .ref h0), (2, .int v82.1), (3, .int s34_.2.1), (4, .long s34_.2.2.1), (6, .long s34_.2.2.2.1), (8, .int s34_.2.2.2.2.1), (9, .int v46), (16, .long v88), (18, .long v160.1)]) hx hb (kd tdlL_law_3 9 rfl) hl (by decide) rfl (fun ls hl => ?_)
        refine lv_iload hx hb (kd tdlL_law_3 10 rfl) (lv_at hl 0 rfl) ?_
        refine lv_if_eq (tgt := 281) hx hb (kd tdlL_law_3 11 rfl) (by decide) (fun hc257 => ?_) (fun hc257 => ?_)
        · have hF := kt hc257 hF
          refine lv_iconst (v := 0) hx hb (kd tdlL_law_3 23 rfl) (by decide) ?_
          exact kl_ret hx hb hr hlocks hA2 hS (ko hF) (kfr hc9) (kfr hs9) (kd tdlL_law_3 24 rfl)
        · have hF := kf hc257 hF
          refine lv_aload_n hx hb (kd tdlL_law_3 12 rfl) rfl (lv_at hl 2 rfl) ?_
          obtain ⟨v261, e261, hF⟩ := kc hF
          refine kcL_lS (S := Unit) (wf := (fun (_ : Unit) => [(wx8 h0 g0), (wdk t (g0 1) a_desk j155.2.1)])) hP hD hS hA nd_0_2 rfl (fun _ => rfl) (kL_SX (Qx := (fun A => kQlS D (TY t) (fun (_ : Unit) => kflat [(wx8 h0 g0), (wdk t (g0 1) a_desk j155.2.1)]) v261 A)) (cs := [(wx8 h0 g0), (wdk t (g0 1) a_desk j155.2.1)]) (is := [0, 2]) (As := [.ref h0]) (rest := []) ⟨hx, hb, hml, hown, hts⟩ hX hS hA hK hP hD nd_0_2 rfl (c_L_digest l D t h0 g0 a_desk j155.2.1 _  v261 e261) (va_cwS 1 hts (gcL_digest w_116) rfl rfl rfl hdL_digestS ⟨Nat.le_of_ble_eq_true rfl, Nat.le_of_ble_eq_true rfl⟩) rfl hl.1 rfl (Nat.le_of_ble_eq_true rfl) (kd tdlL_law_3 13 rfl) ⟨kfi (m := 0) (R' := 210) hc9, kfi (m := 0) (R' := 22785) hs9⟩) (fun _ H locs hP hD hS => ?_)
          have hP : va_P D vwCl (kflat [(wx8 h0 g0), (wtx t (g0 0) a_text j155.1), (wdk t (g0 1) a_desk j155.2.1), (wdk t (g0 2) a_trial v228.2.2.1), (wpa t (g0 3) a_past uu j155.2.2.1), (wsv t (g0 4) uv s34_.2.2.2.2.2.2.2.2.2.1), (wsm t (g0 5) a_stream v228.2.2.2.1), (wpl t (g0 6) a_plan v228.2.2.2.2.1), (wso t (g0 7) a_store v210.2.2.2.2.2.1), (wcr t (g0 8) a_carrier v228.2.2.2.2.2)]) H := hP
          have hD : va_D A (kflat [(wx8 h0 g0), (wtx t (g0 0) a_text j155.1), (wdk t (g0 1) a_desk j155.2.1), (wdk t (g0 2) a_trial v228.2.2.1), (wpa t (g0 3) a_past uu j155.2.2.1), (wsv t (g0 4) uv s34_.2.2.2.2.2.2.2.2.2.1), (wsm t (g0 5) a_stream v228.2.2.2.1), (wpl t (g0 6) a_plan v228.2.2.2.2.1), (wso t (g0 7) a_store v210.2.2.2.2.2.1), (wcr t (g0 8) a_carrier v228.2.2.2.2.2)]) := hD
          have hc9 := kstp (m := 0) (R' := 210) hc9
          have hs9 := kstp (m := 0) (R' := 22785) hs9
          refine lv_lload hx hb (kd tdlL_law_3 14 rfl) (lv_at hl 9 rfl) ?_
          refine W.lcmp hx hb (kd tdlL_law_3 15 rfl) ?_
          refine lv_if_ne (tgt := 281) hx hb (kd tdlL_law_3 16 rfl) (by decide) (fun hc267 => ?_) (fun hc267 => ?_)
          · have hF := kf hc267 hF
            refine lv_iconst (v := 0) hx hb (kd tdlL_law_3 23 rfl) (by decide) ?_
            exact kl_ret hx hb hr hlocks hA2 hS (ko hF) (kfr hc9) (kfr hs9) (kd tdlL_law_3 24 rfl)
          · have hF := kt hc267 hF
            refine lv_aload_n hx hb (kd tdlL_law_3 17 rfl) rfl (lv_at hl 2 rfl) ?_
            refine lv_iload_n hx hb (kd tdlL_law_3 18 rfl) rfl (lv_at hl 3 rfl) ?_
            obtain ⟨v272, e272, hF⟩ := kc hF
            refine kcL_lS (S := Unit) (wf := (fun (_ : Unit) => [(wx8 h0 g0), (wdk t (g0 1) a_desk j155.2.1), (wso t (g0 7) a_store v272.2)])) hP hD hS hA nd_0_2_8 rfl (fun _ => rfl) (kL_SX (Qx := (fun A => kQlS D (TY t) (fun (_ : Unit) => kflat [(wx8 h0 g0), (wdk t (g0 1) a_desk j155.2.1), (wso t (g0 7) a_store v272.2)]) v272.1 A)) (cs := [(wx8 h0 g0), (wdk t (g0 1) a_desk j155.2.1), (wso t (g0 7) a_store v210.2.2.2.2.2.1)]) (is := [0, 2, 8]) (As := [.ref h0, .int v82.1]) (rest := []) ⟨hx, hb, hml, hown, hts⟩ hX hS hA hK hP hD nd_0_2_8 rfl (c_L_references l D t h0 g0 a_desk j155.2.1 a_store v210.2.2.2.2.2.1 _ v82.1 v272 e272) (va_cwS 2 hts (gcL_references w_269) rfl rfl rfl hdL_referencesS ⟨Nat.le_of_ble_eq_true rfl, Nat.le_of_ble_eq_true rfl⟩) rfl hl.1 rfl (Nat.le_of_ble_eq_true rfl) (kd tdlL_law_3 19 rfl) ⟨kfi (m := 0) (R' := 210) hc9, kfi (m := 0) (R' := 22785) hs9⟩) (fun _ H locs hP hD hS => ?_)
            have hP : va_P D vwCl (kflat [(wx8 h0 g0), (wtx t (g0 0) a_text j155.1), (wdk t (g0 1) a_desk j155.2.1), (wdk t (g0 2) a_trial v228.2.2.1), (wpa t (g0 3) a_past uu j155.2.2.1), (wsv t (g0 4) uv s34_.2.2.2.2.2.2.2.2.2.1), (wsm t (g0 5) a_stream v228.2.2.2.1), (wpl t (g0 6) a_plan v228.2.2.2.2.1), (wso t (g0 7) a_store v272.2), (wcr t (g0 8) a_carrier v228.2.2.2.2.2)]) H := hP
            have hD : va_D A (kflat [(wx8 h0 g0), (wtx t (g0 0) a_text j155.1), (wdk t (g0 1) a_desk j155.2.1), (wdk t (g0 2) a_trial v228.2.2.1), (wpa t (g0 3) a_past uu j155.2.2.1), (wsv t (g0 4) uv s34_.2.2.2.2.2.2.2.2.2.1), (wsm t (g0 5) a_stream v228.2.2.2.1), (wpl t (g0 6) a_plan v228.2.2.2.2.1), (wso t (g0 7) a_store v272.2), (wcr t (g0 8) a_carrier v228.2.2.2.2.2)]) := hD
            have hc9 := kstp (m := 0) (R' := 210) hc9
            have hs9 := kstp (m := 0) (R' := 22785) hs9
            refine lv_lload hx hb (kd tdlL_law_3 20 rfl) (lv_at hl 10 rfl) ?_
            refine W.lcmp hx hb (kd tdlL_law_3 21 rfl) ?_
            refine lv_if_eq (tgt := 283) hx hb (kd tdlL_law_3 22 rfl) (by decide) (fun hc278 => ?_) (fun hc278 => ?_)
            · have hF := kt hc278 hF
              refine lv_iload hx hb (kd tdlL_law_3 25 rfl) (lv_at hl 8 rfl) ?_
              refine lv_bipush (v := 14) hx hb (kd tdlL_law_3 26 rfl) (by decide) ?_
              refine lv_ishr hx hb (kd tdlL_law_3 27 rfl) ?_
              refine lv_bipush (v := 7) hx hb (kd tdlL_law_3 28 rfl) (by decide) ?_
              refine lv_iand hx hb (kd tdlL_law_3 29 rfl) ?_
              have hJ323 : ∀ j323 : DKT × PAT × SMT × PLT × SOT, J_L_law_323 v46 s34_ self34 v82 v160 j155 v228 j323 = some 1 → ∀ (H : Heap) (locs : List Loc) (ls : Array Slot) (uu uv : UAT) (c9 s9 : Nat), va_P D vwCl (kflat [(wx8 h0 g0), (wtx t (g0 0) a_text j155.1), (wdk t (g0 1) a_desk j323.1), (wdk t (g0 2) a_trial v228.2.2.1), (wpa t (g0 3) a_past uu j323.2.1), (wsv t (g0 4) uv s34_.2.2.2.2.2.2.2.2.2.1), (wsm t (g0 5) a_stream j323.2.2.1), (wpl t (g0 6) a_plan j323.2.2.2.1), (wso t (g0 7) a_store j323.2.2.2.2), (wcr t (g0 8) a_carrier v228.2.2.2.2.2)]) H → va_D A (kflat [(wx8 h0 g0), (wtx t (g0 0) a_text j155.1), (wdk t (g0 1) a_desk j323.1), (wdk t (g0 2) a_trial v228.2.2.1), (wpa t (g0 3) a_past uu j323.2.1), (wsv t (g0 4) uv s34_.2.2.2.2.2.2.2.2.2.1), (wsm t (g0 5) a_stream j323.2.2.1), (wpl t (g0 6) a_plan j323.2.2.2.1), (wso t (g0 7) a_store j323.2.2.2.2), (wcr t (g0 8) a_carrier v228.2.2.2.2.2)]) → va_S A s.heap H locs → lv_has ls 25 [(0, .ref b), (1, .ref h0), (2, .int v82.1), (3, .int s34_.2.1), (4, .long s34_.2.2.1), (6, .long s34_.2.2.2.1), (8, .int s34_.2.2.2.2.1), (9, .int v46), (18, .long v160.1)] → c9 + (n9 * 230 + 10) ≤ 600130 → s9 + (n9 * 24955 + 1085) ≤ 7301080 → W p l e room_1 s m #[Value.ref b] below meth c H locs c9 s9 (lw_Z below #[Value.ref b] s) (F0 m 323 ls []) := by
                clear hc9 hs9
                intro j323 hF H locs ls uu uv c9 s9 hP hD hS hl hc9 hs9
                refine lv_iload hx hb (kd tdlL_law_4 2 rfl) (lv_at hl 7 rfl) ?_
                refine lv_bipush (v := 17) hx hb (kd tdlL_law_4 3 rfl) (by decide) ?_
                refine lv_ishr hx hb (kd tdlL_law_4 4 rfl) ?_
                refine lv_bipush (v := 7) hx hb (kd tdlL_law_4 5 rfl) (by decide) ?_
                refine lv_iand hx hb (kd tdlL_law_4 6 rfl) ?_
                refine lv_if_ne (tgt := 352) hx hb (kd tdlL_law_4 7 rfl) (by decide) (fun hc331 => ?_) (fun hc331 => ?_)
                · have hF := kf hc331 hF
                  refine lv_iinc (v := (s34_.2.2.2.2.1 + 1)) (lv' := [(8, .int (s34_.2.2.2.2.1 + 1)), (0, .ref b), (1, .ref h0), (2, .int v82.1), (3, .int s34_.2.1), (4, .long s34_.2.2.1), (6, .long s34_.2.2.2.1), (9, .int v46), (18, .long v160.1)]) hx hb (kd tdlL_law_4 19 rfl) hl (k := 6) rfl rfl (by decide) rfl (fun ls hl => ?_)
                  refine lv_goto (tgt := 34) hx hb (kd tdlL_law_4 20 rfl) (by decide) ?_
                  exact ih34 (v82.1, s34_.2.1, s34_.2.2.1, s34_.2.2.2.1, (s34_.2.2.2.2.1 + 1), j155.1, j323.1, v228.2.2.1, j323.2.1, s34_.2.2.2.2.2.2.2.2.2.1, j323.2.2.1, j323.2.2.2.1, j323.2.2.2.2, v228.2.2.2.2.2) hF _ _ _ _ _ _ _ hP hD hS (lv_sub hl [1, 2, 3, 4, 5, 6, 0] rfl) (kjm (R := 10) (R' := 0) hc9 (Nat.le_of_ble_eq_true rfl)) (kjm (R := 1085) (R' := 0) hs9 (Nat.le_of_ble_eq_true rfl))
                · have hF := kt hc331 hF
                  refine lv_aload_n hx hb (kd tdlL_law_4 8 rfl) rfl (lv_at hl 1 rfl) ?_
                  refine lv_iconst (v := 0) hx hb (kd tdlL_law_4 9 rfl) (by decide) ?_
                  obtain ⟨v336, e336, hF⟩ := kc hF
                  obtain ⟨z336, hF⟩ := kz0 hF
                  refine kcL_i (S := UAT) (wf := (fun (u336 : UAT) => [(wx8 h0 g0), (wdk t (g0 1) a_desk j323.1), (wsv t (g0 4) u336 v336.2.2)])) hP hD hS hA nd_0_2_5 rfl (fun _ => rfl) (kL_VX (Qx := (fun A => kQiS D (TY t) (fun (u336 : UAT) => kflat [(wx8 h0 g0), (wdk t (g0 1) a_desk j323.1), (wsv t (g0 4) u336 v336.2.2)]) v336.2.1 A)) (cs := [(wx8 h0 g0), (wdk t (g0 1) a_desk j323.1), (wsv t (g0 4) uv s34_.2.2.2.2.2.2.2.2.2.1)]) (is := [0, 2, 5]) (As := [.int 0]) (rest := []) ⟨hx, hb, hml, hown, hts⟩ hX hS hA hK hP hD nd_0_2_5 rfl (c_X8_save l D t h0 g0 a_desk j323.1 uv s34_.2.2.2.2.2.2.2.2.2.1 _ 0 v336 e336 z336) (cwV 1 hts (gcX8_save w_94) rfl rfl rfl hdX8_saveV ⟨Nat.le_of_ble_eq_true rfl, Nat.le_of_ble_eq_true rfl⟩) (ci := 7) (q0 := 0) rfl rfl rfl hl.1 rfl (Nat.le_of_ble_eq_true rfl) (kd tdlL_law_4 10 rfl) ⟨kfi (m := 10) (R' := 0) hc9, kfi (m := 1085) (R' := 0) hs9⟩) (fun u336 H locs hP hD hS => ?_)
                  have hP : va_P D vwCl (kflat [(wx8 h0 g0), (wtx t (g0 0) a_text j155.1), (wdk t (g0 1) a_desk j323.1), (wdk t (g0 2) a_trial v228.2.2.1), (wpa t (g0 3) a_past uu j323.2.1), (wsv t (g0 4) u336 v336.2.2), (wsm t (g0 5) a_stream j323.2.2.1), (wpl t (g0 6) a_plan j323.2.2.2.1), (wso t (g0 7) a_store j323.2.2.2.2), (wcr t (g0 8) a_carrier v228.2.2.2.2.2)]) H := hP
                  have hD : va_D A (kflat [(wx8 h0 g0), (wtx t (g0 0) a_text j155.1), (wdk t (g0 1) a_desk j323.1), (wdk t (g0 2) a_trial v228.2.2.1), (wpa t (g0 3) a_past uu j323.2.1), (wsv t (g0 4) u336 v336.2.2), (wsm t (g0 5) a_stream j323.2.2.1), (wpl t (g0 6) a_plan j323.2.2.2.1), (wso t (g0 7) a_store j323.2.2.2.2), (wcr t (g0 8) a_carrier v228.2.2.2.2.2)]) := hD
                  have hc9 := kstp (m := 10) (R' := 0) hc9
                  have hs9 := kstp (m := 1085) (R' := 0) hs9
                  refine lv_pop hx hb (kd tdlL_law_4 11 rfl) rfl ?_
                  refine lv_aload_n hx hb (kd tdlL_law_4 12 rfl) rfl (lv_at hl 1 rfl) ?_
                  obtain ⟨v341, e341, hF⟩ := kc hF
                  refine kcL_lS (S := Unit) (wf := (fun (_ : Unit) => [(wx8 h0 g0), (wdk t (g0 1) a_desk j323.1)])) hP hD hS hA nd_0_2 rfl (fun _ => rfl) (kL_SX (Qx := (fun A => kQlS D (TY t) (fun (_ : Unit) => kflat [(wx8 h0 g0), (wdk t (g0 1) a_desk j323.1)]) v341 A)) (cs := [(wx8 h0 g0), (wdk t (g0 1) a_desk j323.1)]) (is := [0, 2]) (As := [.ref h0]) (rest := []) ⟨hx, hb, hml, hown, hts⟩ hX hS hA hK hP hD nd_0_2 rfl (c_L_digest l D t h0 g0 a_desk j323.1 _  v341 e341) (va_cwS 1 hts (gcL_digest w_116) rfl rfl rfl hdL_digestS ⟨Nat.le_of_ble_eq_true rfl, Nat.le_of_ble_eq_true rfl⟩) rfl hl.1 rfl (Nat.le_of_ble_eq_true rfl) (kd tdlL_law_4 13 rfl) ⟨kfi (m := 0) (R' := 0) hc9, kfi (m := 0) (R' := 0) hs9⟩) (fun _ H locs hP hD hS => ?_)
                  have hP : va_P D vwCl (kflat [(wx8 h0 g0), (wtx t (g0 0) a_text j155.1), (wdk t (g0 1) a_desk j323.1), (wdk t (g0 2) a_trial v228.2.2.1), (wpa t (g0 3) a_past uu j323.2.1), (wsv t (g0 4) u336 v336.2.2), (wsm t (g0 5) a_stream j323.2.2.1), (wpl t (g0 6) a_plan j323.2.2.2.1), (wso t (g0 7) a_store j323.2.2.2.2), (wcr t (g0 8) a_carrier v228.2.2.2.2.2)]) H := hP
                  have hD : va_D A (kflat [(wx8 h0 g0), (wtx t (g0 0) a_text j155.1), (wdk t (g0 1) a_desk j323.1), (wdk t (g0 2) a_trial v228.2.2.1), (wpa t (g0 3) a_past uu j323.2.1), (wsv t (g0 4) u336 v336.2.2), (wsm t (g0 5) a_stream j323.2.2.1), (wpl t (g0 6) a_plan j323.2.2.2.1), (wso t (g0 7) a_store j323.2.2.2.2), (wcr t (g0 8) a_carrier v228.2.2.2.2.2)]) := hD
                  have hc9 := kstp (m := 0) (R' := 0) hc9
                  have hs9 := kstp (m := 0) (R' := 0) hs9
                  refine lv_lstore (lv' := [(4, .long v341), (0, .ref b), (1, .ref h0), (2, .int v82.1), (3, .int s34_.2.1), (6, .long s34_.2.2.2.1), (8, .int s34_.2.2.2.2.1), (9, .int v46), (18, .long v160.1)]) hx hb (kd tdlL_law_4 14 rfl) hl (by decide) rfl (fun ls hl => ?_)
                  refine lv_lload hx hb (kd tdlL_law_4 15 rfl) (lv_at hl 8 rfl) ?_
                  refine lv_lstore (lv' := [(6, .long v160.1), (4, .long v341), (0, .ref b), (1, .ref h0), (2, .int v82.1), (3, .int s34_.2.1), (8, .int s34_.2.2.2.2.1), (9, .int v46), (18, .long v160.1)]) hx hb (kd tdlL_law_4 16 rfl) hl (by decide) rfl (fun ls hl => ?_)
                  refine lv_iload_n hx hb (kd tdlL_law_4 17 rfl) rfl (lv_at hl 4 rfl) ?_
                  refine lv_istore_n (lv' := [(3, .int v82.1), (6, .long v160.1), (4, .long v341), (0, .ref b), (1, .ref h0), (2, .int v82.1), (8, .int s34_.2.2.2.2.1), (9, .int v46), (18, .long v160.1)]) hx hb (kd tdlL_law_4 18 rfl) rfl hl (by decide) rfl (fun ls hl => ?_)
                  refine lv_iinc (v := (s34_.2.2.2.2.1 + 1)) (lv' := [(8, .int (s34_.2.2.2.2.1 + 1)), (3, .int v82.1), (6, .long v160.1), (4, .long v341), (0, .ref b), (1, .ref h0), (2, .int v82.1), (9, .int v46), (18, .long v160.1)]) hx hb (kd tdlL_law_4 19 rfl) hl (k := 6) rfl rfl (by decide) rfl (fun ls hl => ?_)
                  refine lv_goto (tgt := 34) hx hb (kd tdlL_law_4 20 rfl) (by decide) ?_
                  exact ih34 (v82.1, v82.1, v341, v160.1, (s34_.2.2.2.2.1 + 1), j155.1, j323.1, v228.2.2.1, j323.2.1, v336.2.2, j323.2.2.1, j323.2.2.2.1, j323.2.2.2.2, v228.2.2.2.2.2) hF _ _ _ _ _ _ _ hP hD hS (lv_sub hl [4, 5, 6, 1, 3, 2, 0] rfl) (kjm (R := 0) (R' := 0) hc9 (Nat.le_of_ble_eq_true rfl)) (kjm (R := 0) (R' := 0) hs9 (Nat.le_of_ble_eq_true rfl))
              refine lv_if_ne (tgt := 323) hx hb (kd tdlL_law_3 30 rfl) (by decide) (fun hc291 => ?_) (fun hc291 => ?_)
              · have hF := kf hc291 hF
                exact hJ323 (j155.2.1, j155.2.2.1, v228.2.2.2.1, v228.2.2.2.2.1, v272.2) hF _ _ _ _ _ _ _ hP hD hS (lv_sub hl [1, 2, 3, 4, 5, 6, 7, 8, 10] rfl) (kjm (R := 210) (R' := 10) hc9 (Nat.le_of_ble_eq_true rfl)) (kjm (R := 22785) (R' := 1085) hs9 (Nat.le_of_ble_eq_true rfl))
              · have hF := kt hc291 hF
                refine lv_aload_n hx hb (kd tdlL_law_3 31 rfl) rfl (lv_at hl 2 rfl) ?_
                obtain ⟨v295, e295, hF⟩ := kc hF
                refine kcL_i (S := Unit) (wf := (fun (_ : Unit) => [(wx8 h0 g0), (wtx t (g0 0) a_text j155.1)])) hP hD hS hA nd_0_1 rfl (fun _ => rfl) (kL_VX (Qx := (fun A => kQiS D (TY t) (fun (_ : Unit) => kflat [(wx8 h0 g0), (wtx t (g0 0) a_text j155.1)]) v295 A)) (cs := [(wx8 h0 g0), (wtx t (g0 0) a_text j155.1)]) (is := [0, 1]) (As := []) (rest := []) ⟨hx, hb, hml, hown, hts⟩ hX hS hA hK hP hD nd_0_1 rfl (c_X8_errorPosition l D t h0 g0 a_text j155.1 _  v295 e295) (cwV 0 hts (gcX8_errorPosition w_627) rfl rfl rfl hdX8_errorPositionV ⟨Nat.le_of_ble_eq_true rfl, Nat.le_of_ble_eq_true rfl⟩) (ci := 7) (q0 := 0) rfl rfl rfl hl.1 rfl (Nat.le_of_ble_eq_true rfl) (kd tdlL_law_3 32 rfl) ⟨kfi (m := 0) (R' := 210) hc9, kfi (m := 0) (R' := 22785) hs9⟩) (fun _ H locs hP hD hS => ?_)
                have hP : va_P D vwCl (kflat [(wx8 h0 g0), (wtx t (g0 0) a_text j155.1), (wdk t (g0 1) a_desk j155.2.1), (wdk t (g0 2) a_trial v228.2.2.1), (wpa t (g0 3) a_past uu j155.2.2.1), (wsv t (g0 4) uv s34_.2.2.2.2.2.2.2.2.2.1), (wsm t (g0 5) a_stream v228.2.2.2.1), (wpl t (g0 6) a_plan v228.2.2.2.2.1), (wso t (g0 7) a_store v272.2), (wcr t (g0 8) a_carrier v228.2.2.2.2.2)]) H := hP
                have hD : va_D A (kflat [(wx8 h0 g0), (wtx t (g0 0) a_text j155.1), (wdk t (g0 1) a_desk j155.2.1), (wdk t (g0 2) a_trial v228.2.2.1), (wpa t (g0 3) a_past uu j155.2.2.1), (wsv t (g0 4) uv s34_.2.2.2.2.2.2.2.2.2.1), (wsm t (g0 5) a_stream v228.2.2.2.1), (wpl t (g0 6) a_plan v228.2.2.2.2.1), (wso t (g0 7) a_store v272.2), (wcr t (g0 8) a_carrier v228.2.2.2.2.2)]) := hD
                have hc9 := kstp (m := 0) (R' := 210) hc9
                have hs9 := kstp (m := 0) (R' := 22785) hs9
                refine lv_iconst (v := (-1)) hx hb (kd tdlL_law_3 33 rfl) (by decide) ?_
                refine lv_icmp_ne (tgt := 323) hx hb (kd tdlL_law_3 34 rfl) (by decide) (fun hc299 => ?_) (fun hc299 => ?_)
                · have hF := kf hc299 hF
                  exact hJ323 (j155.2.1, j155.2.2.1, v228.2.2.2.1, v228.2.2.2.2.1, v272.2) hF _ _ _ _ _ _ _ hP hD hS (lv_sub hl [1, 2, 3, 4, 5, 6, 7, 8, 10] rfl) (kjm (R := 210) (R' := 10) hc9 (Nat.le_of_ble_eq_true rfl)) (kjm (R := 22785) (R' := 1085) hs9 (Nat.le_of_ble_eq_true rfl))
                · have hF := kt hc299 hF
                  refine lv_aload_n hx hb (kd tdlL_law_3 35 rfl) rfl (lv_at hl 2 rfl) ?_
                  refine lv_iload_n hx hb (kd tdlL_law_3 36 rfl) rfl (lv_at hl 3 rfl) ?_
                  obtain ⟨v304, e304, hF⟩ := kc hF
                  refine kcL_i (S := UAT) (wf := (fun (u304 : UAT) => [(wx8 h0 g0), (wtx t (g0 0) a_text j155.1), (wdk t (g0 1) a_desk v304.2.1), (wsm t (g0 5) a_stream v304.2.2.1), (wpl t (g0 6) a_plan v304.2.2.2.1), (wso t (g0 7) a_store v304.2.2.2.2.1), (wpa t (g0 3) a_past u304 v304.2.2.2.2.2)])) hP hD hS hA nd_0_1_2_6_7_8_4 rfl (fun _ => rfl) (kL_SX (Qx := (fun A => kQiS D (TY t) (fun (u304 : UAT) => kflat [(wx8 h0 g0), (wtx t (g0 0) a_text j155.1), (wdk t (g0 1) a_desk v304.2.1), (wsm t (g0 5) a_stream v304.2.2.1), (wpl t (g0 6) a_plan v304.2.2.2.1), (wso t (g0 7) a_store v304.2.2.2.2.1), (wpa t (g0 3) a_past u304 v304.2.2.2.2.2)]) v304.1 A)) (cs := [(wx8 h0 g0), (wtx t (g0 0) a_text j155.1), (wdk t (g0 1) a_desk j155.2.1), (wsm t (g0 5) a_stream v228.2.2.2.1), (wpl t (g0 6) a_plan v228.2.2.2.2.1), (wso t (g0 7) a_store v272.2), (wpa t (g0 3) a_past uu j155.2.2.1)]) (is := [0, 1, 2, 6, 7, 8, 4]) (As := [.ref h0, .int v82.1]) (rest := []) ⟨hx, hb, hml, hown, hts⟩ hX hS hA hK hP hD nd_0_1_2_6_7_8_4 rfl (c_L_isBest l D t h0 g0 a_text j155.1 a_desk j155.2.1 a_stream v228.2.2.2.1 a_plan v228.2.2.2.2.1 a_store v272.2 a_past uu j155.2.2.1 _ v82.1 v304 e304) (va_cwS 2 hts (gcL_isBest w_632) rfl rfl rfl hdL_isBestS ⟨Nat.le_of_ble_eq_true rfl, Nat.le_of_ble_eq_true rfl⟩) rfl hl.1 rfl (Nat.le_of_ble_eq_true rfl) (kd tdlL_law_3 37 rfl) ⟨kfi (m := 200) (R' := 10) hc9, kfi (m := 21700) (R' := 1085) hs9⟩) (fun u304 H locs hP hD hS => ?_)
                  have hP : va_P D vwCl (kflat [(wx8 h0 g0), (wtx t (g0 0) a_text j155.1), (wdk t (g0 1) a_desk v304.2.1), (wdk t (g0 2) a_trial v228.2.2.1), (wpa t (g0 3) a_past u304 v304.2.2.2.2.2), (wsv t (g0 4) uv s34_.2.2.2.2.2.2.2.2.2.1), (wsm t (g0 5) a_stream v304.2.2.1), (wpl t (g0 6) a_plan v304.2.2.2.1), (wso t (g0 7) a_store v304.2.2.2.2.1), (wcr t (g0 8) a_carrier v228.2.2.2.2.2)]) H := hP
                  have hD : va_D A (kflat [(wx8 h0 g0), (wtx t (g0 0) a_text j155.1), (wdk t (g0 1) a_desk v304.2.1), (wdk t (g0 2) a_trial v228.2.2.1), (wpa t (g0 3) a_past u304 v304.2.2.2.2.2), (wsv t (g0 4) uv s34_.2.2.2.2.2.2.2.2.2.1), (wsm t (g0 5) a_stream v304.2.2.1), (wpl t (g0 6) a_plan v304.2.2.2.1), (wso t (g0 7) a_store v304.2.2.2.2.1), (wcr t (g0 8) a_carrier v228.2.2.2.2.2)]) := hD
                  have hc9 := kstp (m := 200) (R' := 10) hc9
                  have hs9 := kstp (m := 21700) (R' := 1085) hs9
                  refine lv_if_eq (tgt := 321) hx hb (kd tdlL_law_3 38 rfl) (by decide) (fun hc307 => ?_) (fun hc307 => ?_)
                  · have hF := kt hc307 hF
                    refine lv_iconst (v := 0) hx hb (kd tdlL_law_4 0 rfl) (by decide) ?_
                    exact kl_ret hx hb hr hlocks hA2 hS (ko hF) (kfr hc9) (kfr hs9) (kd tdlL_law_4 1 rfl)
                  · have hF := kf hc307 hF
                    refine lv_aload_n hx hb (kd tdlL_law_3 39 rfl) rfl (lv_at hl 2 rfl) ?_
                    refine lv_iload_n hx hb (kd tdlL_law_3 40 rfl) rfl (lv_at hl 3 rfl) ?_
                    obtain ⟨v312, e312, hF⟩ := kc hF
                    refine kcL_lS (S := Unit) (wf := (fun (_ : Unit) => [(wx8 h0 g0), (wdk t (g0 1) a_desk v304.2.1), (wso t (g0 7) a_store v312.2)])) hP hD hS hA nd_0_2_8 rfl (fun _ => rfl) (kL_SX (Qx := (fun A => kQlS D (TY t) (fun (_ : Unit) => kflat [(wx8 h0 g0), (wdk t (g0 1) a_desk v304.2.1), (wso t (g0 7) a_store v312.2)]) v312.1 A)) (cs := [(wx8 h0 g0), (wdk t (g0 1) a_desk v304.2.1), (wso t (g0 7) a_store v304.2.2.2.2.1)]) (is := [0, 2, 8]) (As := [.ref h0, .int v82.1]) (rest := []) ⟨hx, hb, hml, hown, hts⟩ hX hS hA hK hP hD nd_0_2_8 rfl (c_L_references l D t h0 g0 a_desk v304.2.1 a_store v304.2.2.2.2.1 _ v82.1 v312 e312) (va_cwS 2 hts (gcL_references w_269) rfl rfl rfl hdL_referencesS ⟨Nat.le_of_ble_eq_true rfl, Nat.le_of_ble_eq_true rfl⟩) rfl hl.1 rfl (Nat.le_of_ble_eq_true rfl) (kd tdlL_law_3 41 rfl) ⟨kfi (m := 0) (R' := 10) hc9, kfi (m := 0) (R' := 1085) hs9⟩) (fun _ H locs hP hD hS => ?_)
                    have hP : va_P D vwCl (kflat [(wx8 h0 g0), (wtx t (g0 0) a_text j155.1), (wdk t (g0 1) a_desk v304.2.1), (wdk t (g0 2) a_trial v228.2.2.1), (wpa t (g0 3) a_past u304 v304.2.2.2.2.2), (wsv t (g0 4) uv s34_.2.2.2.2.2.2.2.2.2.1), (wsm t (g0 5) a_stream v304.2.2.1), (wpl t (g0 6) a_plan v304.2.2.2.1), (wso t (g0 7) a_store v312.2), (wcr t (g0 8) a_carrier v228.2.2.2.2.2)]) H := hP
                    have hD : va_D A (kflat [(wx8 h0 g0), (wtx t (g0 0) a_text j155.1), (wdk t (g0 1) a_desk v304.2.1), (wdk t (g0 2) a_trial v228.2.2.1), (wpa t (g0 3) a_past u304 v304.2.2.2.2.2), (wsv t (g0 4) uv s34_.2.2.2.2.2.2.2.2.2.1), (wsm t (g0 5) a_stream v304.2.2.1), (wpl t (g0 6) a_plan v304.2.2.2.1), (wso t (g0 7) a_store v312.2), (wcr t (g0 8) a_carrier v228.2.2.2.2.2)]) := hD
                    have hc9 := kstp (m := 0) (R' := 10) hc9
                    have hs9 := kstp (m := 0) (R' := 1085) hs9
                    refine lv_lload hx hb (kd tdlL_law_3 42 rfl) (lv_at hl 10 rfl) ?_
                    refine W.lcmp hx hb (kd tdlL_law_3 43 rfl) ?_
                    refine lv_if_eq (tgt := 323) hx hb (kd tdlL_law_3 44 rfl) (by decide) (fun hc318 => ?_) (fun hc318 => ?_)
                    · have hF := kt hc318 hF
                      exact hJ323 (v304.2.1, v304.2.2.2.2.2, v304.2.2.1, v304.2.2.2.1, v312.2) hF _ _ _ _ _ _ _ hP hD hS (lv_sub hl [1, 2, 3, 4, 5, 6, 7, 8, 10] rfl) (kjm (R := 10) (R' := 10) hc9 (Nat.le_of_ble_eq_true rfl)) (kjm (R := 1085) (R' := 1085) hs9 (Nat.le_of_ble_eq_true rfl))
                    · have hF := kf hc318 hF
                      refine lv_iconst (v := 0) hx hb (kd tdlL_law_4 0 rfl) (by decide) ?_
                      exact kl_ret hx hb hr hlocks hA2 hS (ko hF) (kfr hc9) (kfr hs9) (kd tdlL_law_4 1 rfl)
            · have hF := kf hc278 hF
              refine lv_iconst (v := 0) hx hb (kd tdlL_law_3 23 rfl) (by decide) ?_
              exact kl_ret hx hb hr hlocks hA2 hS (ko hF) (kfr hc9) (kfr hs9) (kd tdlL_law_3 24 rfl)
      have hJ252 : ∀ j252 : Unit, J_L_law_252 j155 v88 v210 v82 v160 v46 v228 s34_ self34 j252 = some 1 → ∀ (H : Heap) (locs : List Loc) (ls : Array Slot) (uu uv : UAT) (c9 s9 : Nat), va_P D vwCl (kflat [(wx8 h0 g0), (wtx t (g0 0) a_text j155.1), (wdk t (g0 1) a_desk j155.2.1), (wdk t (g0 2) a_trial v228.2.2.1), (wpa t (g0 3) a_past uu j155.2.2.1), (wsv t (g0 4) uv s34_.2.2.2.2.2.2.2.2.2.1), (wsm t (g0 5) a_stream v228.2.2.2.1), (wpl t (g0 6) a_plan v228.2.2.2.2.1), (wso t (g0 7) a_store v210.2.2.2.2.2.1), (wcr t (g0 8) a_carrier v228.2.2.2.2.2)]) H → va_D A (kflat [(wx8 h0 g0), (wtx t (g0 0) a_text j155.1), (wdk t (g0 1) a_desk j155.2.1), (wdk t (g0 2) a_trial v228.2.2.1), (wpa t (g0 3) a_past uu j155.2.2.1), (wsv t (g0 4) uv s34_.2.2.2.2.2.2.2.2.2.1), (wsm t (g0 5) a_stream v228.2.2.2.1), (wpl t (g0 6) a_plan v228.2.2.2.2.1), (wso t (g0 7) a_store v210.2.2.2.2.2.1), (wcr t (g0 8) a_carrier v228.2.2.2.2.2)]) → va_S A s.heap H locs → lv_has ls 25 [(0, .ref b), (1, .ref h0), (2, .int v82.1), (3, .int s34_.2.1), (4, .long s34_.2.2.1), (6, .long s34_.2.2.2.1), (8, .int s34_.2.2.2.2.1), (9, .int v46), (16, .long v88), (18, .long v160.1)] → c9 + (n9 * 230 + 210) ≤ 600130 → s9 + (n9 * 24955 + 22785) ≤ 7301080 → W p l e room_1 s m #[Value.ref b] below meth c H locs c9 s9 (lw_Z below #[Value.ref b] s) (F0 m 252 ls []) := by
        clear hc9 hs9
        intro j252 hF H locs ls uu uv c9 s9 hP hD hS hl hc9 hs9
        refine lv_iconst (v := 0) hx hb (kd tdlL_law_3 8 rfl) (by decide) ?_
        exact hJ253 (0) hF _ _ _ _ _ _ _ hP hD hS (lv_sub hl [0, 1, 2, 3, 4, 5, 6, 7, 8, 9] rfl) (kjm (R := 210) (R' := 210) hc9 (Nat.le_of_ble_eq_true rfl)) (kjm (R := 22785) (R' := 22785) hs9 (Nat.le_of_ble_eq_true rfl))
      refine lv_icmp_ne (tgt := 252) hx hb (kd tdlL_law_2 44 rfl) (by decide) (fun hc233 => ?_) (fun hc233 => ?_)
      · have hF := kf hc233 hF
        exact hJ252 () hF _ _ _ _ _ _ _ hP hD hS (lv_sub hl [5, 6, 4, 7, 8, 9, 10, 11, 14, 3] rfl) (kjm (R := 210) (R' := 210) hc9 (Nat.le_of_ble_eq_true rfl)) (kjm (R := 22785) (R' := 22785) hs9 (Nat.le_of_ble_eq_true rfl))
      · have hF := kt hc233 hF
        refine lv_iload hx hb (kd tdlL_law_3 0 rfl) (lv_at hl 0 rfl) ?_
        refine lv_iconst (v := (-1)) hx hb (kd tdlL_law_3 1 rfl) (by decide) ?_
        have hJ248 : ∀ j248 : Unit, J_L_law_248 j155 v88 v210 v82 v160 v46 v228 s34_ self34 j248 = some 1 → ∀ (H : Heap) (locs : List Loc) (ls : Array Slot) (uu uv : UAT) (c9 s9 : Nat), va_P D vwCl (kflat [(wx8 h0 g0), (wtx t (g0 0) a_text j155.1), (wdk t (g0 1) a_desk j155.2.1), (wdk t (g0 2) a_trial v228.2.2.1), (wpa t (g0 3) a_past uu j155.2.2.1), (wsv t (g0 4) uv s34_.2.2.2.2.2.2.2.2.2.1), (wsm t (g0 5) a_stream v228.2.2.2.1), (wpl t (g0 6) a_plan v228.2.2.2.2.1), (wso t (g0 7) a_store v210.2.2.2.2.2.1), (wcr t (g0 8) a_carrier v228.2.2.2.2.2)]) H → va_D A (kflat [(wx8 h0 g0), (wtx t (g0 0) a_text j155.1), (wdk t (g0 1) a_desk j155.2.1), (wdk t (g0 2) a_trial v228.2.2.1), (wpa t (g0 3) a_past uu j155.2.2.1), (wsv t (g0 4) uv s34_.2.2.2.2.2.2.2.2.2.1), (wsm t (g0 5) a_stream v228.2.2.2.1), (wpl t (g0 6) a_plan v228.2.2.2.2.1), (wso t (g0 7) a_store v210.2.2.2.2.2.1), (wcr t (g0 8) a_carrier v228.2.2.2.2.2)]) → va_S A s.heap H locs → lv_has ls 25 [(0, .ref b), (1, .ref h0), (2, .int v82.1), (3, .int s34_.2.1), (4, .long s34_.2.2.1), (6, .long s34_.2.2.2.1), (8, .int s34_.2.2.2.2.1), (9, .int v46), (16, .long v88), (18, .long v160.1)] → c9 + (n9 * 230 + 210) ≤ 600130 → s9 + (n9 * 24955 + 22785) ≤ 7301080 → W p l e room_1 s m #[Value.ref b] below meth c H locs c9 s9 (lw_Z below #[Value.ref b] s) (F0 m 248 ls []) := by
          clear hc9 hs9
          intro j248 hF H locs ls uu uv c9 s9 hP hD hS hl hc9 hs9
          refine lv_iconst (v := 1) hx hb (kd tdlL_law_3 6 rfl) (by decide) ?_
          refine lv_goto (tgt := 253) hx hb (kd tdlL_law_3 7 rfl) (by decide) ?_
          exact hJ253 (1) hF _ _ _ _ _ _ _ hP hD hS (lv_sub hl [0, 1, 2, 3, 4, 5, 6, 7, 8, 9] rfl) (kjm (R := 210) (R' := 210) hc9 (Nat.le_of_ble_eq_true rfl)) (kjm (R := 22785) (R' := 22785) hs9 (Nat.le_of_ble_eq_true rfl))
        refine lv_icmp_eq (tgt := 248) hx hb (kd tdlL_law_3 2 rfl) (by decide) (fun hc239 => ?_) (fun hc239 => ?_)
        · have hF := kt hc239 hF
          exact hJ248 () hF _ _ _ _ _ _ _ hP hD hS (lv_sub hl [5, 6, 4, 7, 8, 9, 10, 11, 14, 3] rfl) (kjm (R := 210) (R' := 210) hc9 (Nat.le_of_ble_eq_true rfl)) (kjm (R := 22785) (R' := 22785) hs9 (Nat.le_of_ble_eq_true rfl))
        · have hF := kf hc239 hF
          refine lv_iload hx hb (kd tdlL_law_3 3 rfl) (lv_at hl 0 rfl) ?_
          refine lv_iconst (v := 1) hx hb (kd tdlL_law_3 4 rfl) (by decide) ?_
          refine lv_icmp_ne (tgt := 252) hx hb (kd tdlL_law_3 5 rfl) (by decide) (fun hc245 => ?_) (fun hc245 => ?_)
          · have hF := kf hc245 hF
            exact hJ252 () hF _ _ _ _ _ _ _ hP hD hS (lv_sub hl [5, 6, 4, 7, 8, 9, 10, 11, 14, 3] rfl) (kjm (R := 210) (R' := 210) hc9 (Nat.le_of_ble_eq_true rfl)) (kjm (R := 22785) (R' := 22785) hs9 (Nat.le_of_ble_eq_true rfl))
          · have hF := kt hc245 hF
            exact hJ248 () hF _ _ _ _ _ _ _ hP hD hS (lv_sub hl [5, 6, 4, 7, 8, 9, 10, 11, 14, 3] rfl) (kjm (R := 210) (R' := 210) hc9 (Nat.le_of_ble_eq_true rfl)) (kjm (R := 22785) (R' := 22785) hs9 (Nat.le_of_ble_eq_true rfl))
    refine lv_if_ne (tgt := 155) hx hb (kd tdlL_law_1 14 rfl) (by decide) (fun hc100 => ?_) (fun hc100 => ?_)
    · have hF := kf hc100 hF
      exact hJ155 (v82.2.1, v82.2.2.1, v82.2.2.2.2.2.2, v82.2.2.2.1, v82.2.2.2.2.1, v71.2, v82.2.2.2.2.2.1) hF _ _ _ _ _ _ _ hP hD hS (lv_sub hl [6, 7, 9, 10, 11, 12, 5, 4, 1, 0] rfl) (kjm (R := 220) (R' := 210) hc9 (Nat.le_of_ble_eq_true rfl)) (kjm (R := 23870) (R' := 22785) hs9 (Nat.le_of_ble_eq_true rfl))
    · have hF := kt hc100 hF
      refine lv_aload_n hx hb (kd tdlL_law_1 15 rfl) rfl (lv_at hl 7 rfl) ?_
      obtain ⟨v104, e104, hF⟩ := kc hF
      obtain ⟨z104, hF⟩ := kz0 hF
      refine kcL_i (S := UAT) (wf := (fun (u104 : UAT) => [(wx8 h0 g0), (wdk t (g0 1) a_desk v104.2.2.1), (wpa t (g0 3) a_past u104 v104.2.2.2)])) hP hD hS hA nd_0_2_4 rfl (fun _ => rfl) (kL_VX (Qx := (fun A => kQiS D (TY t) (fun (u104 : UAT) => kflat [(wx8 h0 g0), (wdk t (g0 1) a_desk v104.2.2.1), (wpa t (g0 3) a_past u104 v104.2.2.2)]) v104.2.1 A)) (cs := [(wx8 h0 g0), (wdk t (g0 1) a_desk v82.2.2.1), (wpa t (g0 3) a_past u82 v82.2.2.2.2.2.2)]) (is := [0, 2, 4]) (As := []) (rest := []) ⟨hx, hb, hml, hown, hts⟩ hX hS hA hK hP hD nd_0_2_4 rfl (c_X8_undo l D t h0 g0 a_desk v82.2.2.1 a_past u82 v82.2.2.2.2.2.2 _  v104 e104 z104) (cwV 0 hts (gcX8_undo w_577) rfl rfl rfl hdX8_undoV ⟨Nat.le_of_ble_eq_true rfl, Nat.le_of_ble_eq_true rfl⟩) (ci := 7) (q0 := 0) rfl rfl rfl hl.1 rfl (Nat.le_of_ble_eq_true rfl) (kd tdlL_law_1 16 rfl) ⟨kfi (m := 0) (R' := 220) hc9, kfi (m := 0) (R' := 23870) hs9⟩) (fun u104 H locs hP hD hS => ?_)
      have hP : va_P D vwCl (kflat [(wx8 h0 g0), (wtx t (g0 0) a_text v82.2.1), (wdk t (g0 1) a_desk v104.2.2.1), (wdk t (g0 2) a_trial s34_.2.2.2.2.2.2.2.1), (wpa t (g0 3) a_past u104 v104.2.2.2), (wsv t (g0 4) uv s34_.2.2.2.2.2.2.2.2.2.1), (wsm t (g0 5) a_stream v82.2.2.2.1), (wpl t (g0 6) a_plan v82.2.2.2.2.1), (wso t (g0 7) a_store v71.2), (wcr t (g0 8) a_carrier v82.2.2.2.2.2.1)]) H := hP
      have hD : va_D A (kflat [(wx8 h0 g0), (wtx t (g0 0) a_text v82.2.1), (wdk t (g0 1) a_desk v104.2.2.1), (wdk t (g0 2) a_trial s34_.2.2.2.2.2.2.2.1), (wpa t (g0 3) a_past u104 v104.2.2.2), (wsv t (g0 4) uv s34_.2.2.2.2.2.2.2.2.2.1), (wsm t (g0 5) a_stream v82.2.2.2.1), (wpl t (g0 6) a_plan v82.2.2.2.2.1), (wso t (g0 7) a_store v71.2), (wcr t (g0 8) a_carrier v82.2.2.2.2.2.1)]) := hD
      have hc9 := kstp (m := 0) (R' := 220) hc9
      have hs9 := kstp (m := 0) (R' := 23870) hs9
      refine lv_pop hx hb (kd tdlL_law_1 17 rfl) rfl ?_
      refine lv_aload_n hx hb (kd tdlL_law_1 18 rfl) rfl (lv_at hl 7 rfl) ?_
      obtain ⟨v109, e109, hF⟩ := kc hF
      refine kcL_lS (S := Unit) (wf := (fun (_ : Unit) => [(wx8 h0 g0), (wdk t (g0 1) a_desk v104.2.2.1)])) hP hD hS hA nd_0_2 rfl (fun _ => rfl) (kL_SX (Qx := (fun A => kQlS D (TY t) (fun (_ : Unit) => kflat [(wx8 h0 g0), (wdk t (g0 1) a_desk v104.2.2.1)]) v109 A)) (cs := [(wx8 h0 g0), (wdk t (g0 1) a_desk v104.2.2.1)]) (is := [0, 2]) (As := [.ref h0]) (rest := []) ⟨hx, hb, hml, hown, hts⟩ hX hS hA hK hP hD nd_0_2 rfl (c_L_digest l D t h0 g0 a_desk v104.2.2.1 _  v109 e109) (va_cwS 1 hts (gcL_digest w_116) rfl rfl rfl hdL_digestS ⟨Nat.le_of_ble_eq_true rfl, Nat.le_of_ble_eq_true rfl⟩) rfl hl.1 rfl (Nat.le_of_ble_eq_true rfl) (kd tdlL_law_1 19 rfl) ⟨kfi (m := 0) (R' := 220) hc9, kfi (m := 0) (R' := 23870) hs9⟩) (fun _ H locs hP hD hS => ?_)
      have hP : va_P D vwCl (kflat [(wx8 h0 g0), (wtx t (g0 0) a_text v82.2.1), (wdk t (g0 1) a_desk v104.2.2.1), (wdk t (g0 2) a_trial s34_.2.2.2.2.2.2.2.1), (wpa t (g0 3) a_past u104 v104.2.2.2), (wsv t (g0 4) uv s34_.2.2.2.2.2.2.2.2.2.1), (wsm t (g0 5) a_stream v82.2.2.2.1), (wpl t (g0 6) a_plan v82.2.2.2.2.1), (wso t (g0 7) a_store v71.2), (wcr t (g0 8) a_carrier v82.2.2.2.2.2.1)]) H := hP
      have hD : va_D A (kflat [(wx8 h0 g0), (wtx t (g0 0) a_text v82.2.1), (wdk t (g0 1) a_desk v104.2.2.1), (wdk t (g0 2) a_trial s34_.2.2.2.2.2.2.2.1), (wpa t (g0 3) a_past u104 v104.2.2.2), (wsv t (g0 4) uv s34_.2.2.2.2.2.2.2.2.2.1), (wsm t (g0 5) a_stream v82.2.2.2.1), (wpl t (g0 6) a_plan v82.2.2.2.2.1), (wso t (g0 7) a_store v71.2), (wcr t (g0 8) a_carrier v82.2.2.2.2.2.1)]) := hD
      have hc9 := kstp (m := 0) (R' := 220) hc9
      have hs9 := kstp (m := 0) (R' := 23870) hs9
      refine lv_lload hx hb (kd tdlL_law_1 20 rfl) (lv_at hl 3 rfl) ?_
      refine W.lcmp hx hb (kd tdlL_law_1 21 rfl) ?_
      refine lv_if_ne (tgt := 153) hx hb (kd tdlL_law_1 22 rfl) (by decide) (fun hc115 => ?_) (fun hc115 => ?_)
      · have hF := kf hc115 hF
        refine lv_iconst (v := 0) hx hb (kd tdlL_law_1 41 rfl) (by decide) ?_
        exact kl_ret hx hb hr hlocks hA2 hS (ko hF) (kfr hc9) (kfr hs9) (kd tdlL_law_1 42 rfl)
      · have hF := kt hc115 hF
        refine lv_aload_n hx hb (kd tdlL_law_1 23 rfl) rfl (lv_at hl 7 rfl) ?_
        refine lv_iload_n hx hb (kd tdlL_law_1 24 rfl) rfl (lv_at hl 8 rfl) ?_
        obtain ⟨v120, e120, hF⟩ := kc hF
        refine kcL_lS (S := Unit) (wf := (fun (_ : Unit) => [(wx8 h0 g0), (wdk t (g0 1) a_desk v104.2.2.1), (wso t (g0 7) a_store v120.2)])) hP hD hS hA nd_0_2_8 rfl (fun _ => rfl) (kL_SX (Qx := (fun A => kQlS D (TY t) (fun (_ : Unit) => kflat [(wx8 h0 g0), (wdk t (g0 1) a_desk v104.2.2.1), (wso t (g0 7) a_store v120.2)]) v120.1 A)) (cs := [(wx8 h0 g0), (wdk t (g0 1) a_desk v104.2.2.1), (wso t (g0 7) a_store v71.2)]) (is := [0, 2, 8]) (As := [.ref h0, .int s34_.1]) (rest := []) ⟨hx, hb, hml, hown, hts⟩ hX hS hA hK hP hD nd_0_2_8 rfl (c_L_references l D t h0 g0 a_desk v104.2.2.1 a_store v71.2 _ s34_.1 v120 e120) (va_cwS 2 hts (gcL_references w_269) rfl rfl rfl hdL_referencesS ⟨Nat.le_of_ble_eq_true rfl, Nat.le_of_ble_eq_true rfl⟩) rfl hl.1 rfl (Nat.le_of_ble_eq_true rfl) (kd tdlL_law_1 25 rfl) ⟨kfi (m := 0) (R' := 220) hc9, kfi (m := 0) (R' := 23870) hs9⟩) (fun _ H locs hP hD hS => ?_)
        have hP : va_P D vwCl (kflat [(wx8 h0 g0), (wtx t (g0 0) a_text v82.2.1), (wdk t (g0 1) a_desk v104.2.2.1), (wdk t (g0 2) a_trial s34_.2.2.2.2.2.2.2.1), (wpa t (g0 3) a_past u104 v104.2.2.2), (wsv t (g0 4) uv s34_.2.2.2.2.2.2.2.2.2.1), (wsm t (g0 5) a_stream v82.2.2.2.1), (wpl t (g0 6) a_plan v82.2.2.2.2.1), (wso t (g0 7) a_store v120.2), (wcr t (g0 8) a_carrier v82.2.2.2.2.2.1)]) H := hP
        have hD : va_D A (kflat [(wx8 h0 g0), (wtx t (g0 0) a_text v82.2.1), (wdk t (g0 1) a_desk v104.2.2.1), (wdk t (g0 2) a_trial s34_.2.2.2.2.2.2.2.1), (wpa t (g0 3) a_past u104 v104.2.2.2), (wsv t (g0 4) uv s34_.2.2.2.2.2.2.2.2.2.1), (wsm t (g0 5) a_stream v82.2.2.2.1), (wpl t (g0 6) a_plan v82.2.2.2.2.1), (wso t (g0 7) a_store v120.2), (wcr t (g0 8) a_carrier v82.2.2.2.2.2.1)]) := hD
        have hc9 := kstp (m := 0) (R' := 220) hc9
        have hs9 := kstp (m := 0) (R' := 23870) hs9
        refine lv_lload hx hb (kd tdlL_law_1 26 rfl) (lv_at hl 2 rfl) ?_
        refine W.lcmp hx hb (kd tdlL_law_1 27 rfl) ?_
        refine lv_if_ne (tgt := 153) hx hb (kd tdlL_law_1 28 rfl) (by decide) (fun hc126 => ?_) (fun hc126 => ?_)
        · have hF := kf hc126 hF
          refine lv_iconst (v := 0) hx hb (kd tdlL_law_1 41 rfl) (by decide) ?_
          exact kl_ret hx hb hr hlocks hA2 hS (ko hF) (kfr hc9) (kfr hs9) (kd tdlL_law_1 42 rfl)
        · have hF := kt hc126 hF
          refine lv_aload_n hx hb (kd tdlL_law_1 29 rfl) rfl (lv_at hl 7 rfl) ?_
          refine lv_iload hx hb (kd tdlL_law_1 30 rfl) (lv_at hl 5 rfl) ?_
          refine lv_iload hx hb (kd tdlL_law_1 31 rfl) (lv_at hl 4 rfl) ?_
          refine lv_iload_n hx hb (kd tdlL_law_1 32 rfl) rfl (lv_at hl 8 rfl) ?_
          obtain ⟨v135, e135, hF⟩ := kc hF
          refine kcL_i (S := UAT) (wf := (fun (u135 : UAT) => [(wx8 h0 g0), (wtx t (g0 0) a_text v135.2.1), (wdk t (g0 1) a_desk v135.2.2.1), (wsm t (g0 5) a_stream v135.2.2.2.1), (wpl t (g0 6) a_plan v135.2.2.2.2.1), (wcr t (g0 8) a_carrier v135.2.2.2.2.2.1), (wpa t (g0 3) a_past u135 v135.2.2.2.2.2.2)])) hP hD hS hA nd_0_1_2_6_7_9_4 rfl (fun _ => rfl) (kL_SX (Qx := (fun A => kQiS D (TY t) (fun (u135 : UAT) => kflat [(wx8 h0 g0), (wtx t (g0 0) a_text v135.2.1), (wdk t (g0 1) a_desk v135.2.2.1), (wsm t (g0 5) a_stream v135.2.2.2.1), (wpl t (g0 6) a_plan v135.2.2.2.2.1), (wcr t (g0 8) a_carrier v135.2.2.2.2.2.1), (wpa t (g0 3) a_past u135 v135.2.2.2.2.2.2)]) v135.1 A)) (cs := [(wx8 h0 g0), (wtx t (g0 0) a_text v82.2.1), (wdk t (g0 1) a_desk v104.2.2.1), (wsm t (g0 5) a_stream v82.2.2.2.1), (wpl t (g0 6) a_plan v82.2.2.2.2.1), (wcr t (g0 8) a_carrier v82.2.2.2.2.2.1), (wpa t (g0 3) a_past u104 v104.2.2.2)]) (is := [0, 1, 2, 6, 7, 9, 4]) (As := [.ref h0, .int v46, .int v58, .int s34_.1]) (rest := []) ⟨hx, hb, hml, hown, hts⟩ hX hS hA hK hP hD nd_0_1_2_6_7_9_4 rfl (c_L_act l D t h0 g0 a_text v82.2.1 a_desk v104.2.2.1 a_stream v82.2.2.2.1 a_plan v82.2.2.2.2.1 a_carrier v82.2.2.2.2.2.1 a_past u104 v104.2.2.2 _ v46 v58 s34_.1 v135 e135) (va_cwS 4 hts (gcL_act w_335) rfl rfl rfl hdL_actS ⟨Nat.le_of_ble_eq_true rfl, Nat.le_of_ble_eq_true rfl⟩) rfl hl.1 rfl (Nat.le_of_ble_eq_true rfl) (kd tdlL_law_1 33 rfl) ⟨kfi (m := 10) (R' := 210) hc9, kfi (m := 1085) (R' := 22785) hs9⟩) (fun u135 H locs hP hD hS => ?_)
          have hP : va_P D vwCl (kflat [(wx8 h0 g0), (wtx t (g0 0) a_text v135.2.1), (wdk t (g0 1) a_desk v135.2.2.1), (wdk t (g0 2) a_trial s34_.2.2.2.2.2.2.2.1), (wpa t (g0 3) a_past u135 v135.2.2.2.2.2.2), (wsv t (g0 4) uv s34_.2.2.2.2.2.2.2.2.2.1), (wsm t (g0 5) a_stream v135.2.2.2.1), (wpl t (g0 6) a_plan v135.2.2.2.2.1), (wso t (g0 7) a_store v120.2), (wcr t (g0 8) a_carrier v135.2.2.2.2.2.1)]) H := hP
          have hD : va_D A (kflat [(wx8 h0 g0), (wtx t (g0 0) a_text v135.2.1), (wdk t (g0 1) a_desk v135.2.2.1), (wdk t (g0 2) a_trial s34_.2.2.2.2.2.2.2.1), (wpa t (g0 3) a_past u135 v135.2.2.2.2.2.2), (wsv t (g0 4) uv s34_.2.2.2.2.2.2.2.2.2.1), (wsm t (g0 5) a_stream v135.2.2.2.1), (wpl t (g0 6) a_plan v135.2.2.2.2.1), (wso t (g0 7) a_store v120.2), (wcr t (g0 8) a_carrier v135.2.2.2.2.2.1)]) := hD
          have hc9 := kstp (m := 10) (R' := 210) hc9
          have hs9 := kstp (m := 1085) (R' := 22785) hs9
          refine lv_iload hx hb (kd tdlL_law_1 34 rfl) (lv_at hl 1 rfl) ?_
          refine lv_icmp_ne (tgt := 153) hx hb (kd tdlL_law_1 35 rfl) (by decide) (fun hc140 => ?_) (fun hc140 => ?_)
          · have hF := kf hc140 hF
            refine lv_iconst (v := 0) hx hb (kd tdlL_law_1 41 rfl) (by decide) ?_
            exact kl_ret hx hb hr hlocks hA2 hS (ko hF) (kfr hc9) (kfr hs9) (kd tdlL_law_1 42 rfl)
          · have hF := kt hc140 hF
            refine lv_aload_n hx hb (kd tdlL_law_1 36 rfl) rfl (lv_at hl 7 rfl) ?_
            obtain ⟨v144, e144, hF⟩ := kc hF
            refine kcL_lS (S := Unit) (wf := (fun (_ : Unit) => [(wx8 h0 g0), (wdk t (g0 1) a_desk v135.2.2.1)])) hP hD hS hA nd_0_2 rfl (fun _ => rfl) (kL_SX (Qx := (fun A => kQlS D (TY t) (fun (_ : Unit) => kflat [(wx8 h0 g0), (wdk t (g0 1) a_desk v135.2.2.1)]) v144 A)) (cs := [(wx8 h0 g0), (wdk t (g0 1) a_desk v135.2.2.1)]) (is := [0, 2]) (As := [.ref h0]) (rest := []) ⟨hx, hb, hml, hown, hts⟩ hX hS hA hK hP hD nd_0_2 rfl (c_L_digest l D t h0 g0 a_desk v135.2.2.1 _  v144 e144) (va_cwS 1 hts (gcL_digest w_116) rfl rfl rfl hdL_digestS ⟨Nat.le_of_ble_eq_true rfl, Nat.le_of_ble_eq_true rfl⟩) rfl hl.1 rfl (Nat.le_of_ble_eq_true rfl) (kd tdlL_law_1 37 rfl) ⟨kfi (m := 0) (R' := 210) hc9, kfi (m := 0) (R' := 22785) hs9⟩) (fun _ H locs hP hD hS => ?_)
            have hP : va_P D vwCl (kflat [(wx8 h0 g0), (wtx t (g0 0) a_text v135.2.1), (wdk t (g0 1) a_desk v135.2.2.1), (wdk t (g0 2) a_trial s34_.2.2.2.2.2.2.2.1), (wpa t (g0 3) a_past u135 v135.2.2.2.2.2.2), (wsv t (g0 4) uv s34_.2.2.2.2.2.2.2.2.2.1), (wsm t (g0 5) a_stream v135.2.2.2.1), (wpl t (g0 6) a_plan v135.2.2.2.2.1), (wso t (g0 7) a_store v120.2), (wcr t (g0 8) a_carrier v135.2.2.2.2.2.1)]) H := hP
            have hD : va_D A (kflat [(wx8 h0 g0), (wtx t (g0 0) a_text v135.2.1), (wdk t (g0 1) a_desk v135.2.2.1), (wdk t (g0 2) a_trial s34_.2.2.2.2.2.2.2.1), (wpa t (g0 3) a_past u135 v135.2.2.2.2.2.2), (wsv t (g0 4) uv s34_.2.2.2.2.2.2.2.2.2.1), (wsm t (g0 5) a_stream v135.2.2.2.1), (wpl t (g0 6) a_plan v135.2.2.2.2.1), (wso t (g0 7) a_store v120.2), (wcr t (g0 8) a_carrier v135.2.2.2.2.2.1)]) := hD
            have hc9 := kstp (m := 0) (R' := 210) hc9
            have hs9 := kstp (m := 0) (R' := 22785) hs9
            refine lv_lload hx hb (kd tdlL_law_1 38 rfl) (lv_at hl 0 rfl) ?_
            refine W.lcmp hx hb (kd tdlL_law_1 39 rfl) ?_
            refine lv_if_eq (tgt := 155) hx hb (kd tdlL_law_1 40 rfl) (by decide) (fun hc150 => ?_) (fun hc150 => ?_)
            · have hF := kt hc150 hF
              exact hJ155 (v135.2.1, v135.2.2.1, v135.2.2.2.2.2.2, v135.2.2.2.1, v135.2.2.2.2.1, v120.2, v135.2.2.2.2.2.1) hF _ _ _ _ _ _ _ hP hD hS (lv_sub hl [6, 7, 9, 10, 11, 12, 5, 4, 1, 0] rfl) (kjm (R := 210) (R' := 210) hc9 (Nat.le_of_ble_eq_true rfl)) (kjm (R := 22785) (R' := 22785) hs9 (Nat.le_of_ble_eq_true rfl))
            · have hF := kf hc150 hF
              refine lv_iconst (v := 0) hx hb (kd tdlL_law_1 41 rfl) (by decide) ?_
              exact kl_ret hx hb hr hlocks hA2 hS (ko hF) (kfr hc9) (kfr hs9) (kd tdlL_law_1 42 rfl)
