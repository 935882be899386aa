/-! THE LAW'S OWN WRAPPERS: each call of the class, what it throws caught -/
def wlo (t : Nat → ClassId) (h : Nat) (f : Nat → Int64) : va_W := [(h, .inl (t 4, 1, .inr (.inl f)))]
def kW (c1 : Nat) (code : Nat) : Int32 := if code = 0 then 0 else if code = c1 then 1 else 2
def kO (code : Nat) (x : Int32) (f : Nat → Int64) : Nat → Int64 := if code = 0 then fun j => if j = 0 then x.toInt64 else f j else f
section KLAW
variable {p : Program} {l : Launch} {e : Env} {R : Room} {s : State} {m : MethodId} {args : Array Value} {below : List Frame} {meth : Method} {c : Code} {H H0 : Heap} {locs : List Loc} {cells slots : Nat} {Q : State → Prop}
  {D : va_G} {tys : List (ClassId × FieldType)} {A : Nat → Prop} {L cs : List va_W} {W0 : va_W} {pc : Nat} {ls : Array Slot} {st0 rest : List Value} {a : Array Value} {is : List Nat} {mc ms : Nat}
variable {y : MethodName} {cc : ByteArray} {maxL : Nat} {ret : Option FieldType} {ws ws' : List Cond} {rm : Room} {Qx : (Nat → Prop) → Array Value → State → Outcome → State → Prop} {S : Type} {wf : S → List va_W} {hh : List (Nat × Nat × Nat × Nat)}
theorem kEh {av : List Value} {sz : Nat} {lv0 : List (Nat × Value)} (own : String) (ho : y.cls = own) (hy : plainName y.cls = true) (hw : ws = Cond.codeWith y cc maxL ret hh :: ws') (hav : (lg_sl av).length ≤ maxL) (hlv : lv_args 0 av = lv0)
    (body : ∀ (p : Program) (e : Env) (s : State) (m : MethodId) (args : Array Value) (below : List Frame) (meth : Method) (c : Code) (A : Nat → Prop) (ls : Array Slot), p.tables.exec = Jvm.exec → c.code = cc → c.maxLocals = maxL → c.exceptionTable.toList = tableOf hh → meth.sig.returnType = ret → meth.locks = false → s.vm.findClass own = some m.cls → (∀ w ∈ ws, w.before args s = true) → (∀ q : Nat, s.heap.size ≤ q → A q) → kX A s s.heap →
      va_K D vwCl tys s → va_P D vwCl W0 s.heap → va_D A W0 → va_S A s.heap s.heap [] → lv_has ls maxL lv0 → W p l e rm s m args below meth c s.heap [] 0 0 (MQ below (Qx A) args s mc ms A) (F0 m 0 ls [])) :
    Met l y ws rm (kPx D tys W0 av sz) (Qx (va_A W0 sz)) mc ms (va_A W0 sz) := by
  refine va_MetW (cc := cc) (maxL := maxL) (ret := ret) (hh := hh) hy hw ?_
  intro p e s m args below meth c s₁ B hml hv
  obtain ⟨rfl, ⟨hsz, hP, hK, hD0⟩, hX⟩ := hv
  have hts := atoms_spec (ws := ws) B.pre
  have hown : s.vm.findClass own = some m.cls := by rw [← ho]; exact findClass_of_methodNamed B.named
  have hte := vx_table (x := y) B (hts _ (by rw [hw]; exact List.mem_cons_self))
  subst hsz
  have hD : va_D (va_A W0 s.heap.size) W0 := hD0.self (sz := s.heap.size)
  have hA : ∀ q : Nat, s.heap.size ≤ q → va_A W0 s.heap.size q := fun q h => Or.inr h
  have hl := lv_entry av (n := maxL) hav
  rw [lg_entry_eq]
  rw [hlv] at hl
  exact body p e s m _ below meth c _ _ B.exec B.bytes hml hte B.returns B.notSynchronized hown hts hA hX hK hP hD va_S.rf hl
theorem kcT_i {code : Nat} {r : Int32} (hP : va_P D vwCl (kflat L) H) (hD : va_D A (kflat L)) (hS : va_S A H0 H locs) (hA : ∀ q, H0.size ≤ q → A q) (hn : is.Nodup) (hC : is.map (fun i => L[i]?) = cs.map some) (hl : ∀ u, is.length = (wf u).length)
    (hr : vx_Run p l e R s m args below meth c H locs cells slots mc ms (F0 m pc ls st0) rest (kQc D tys (fun u => kflat (wf u)) code r (va_A (kflat cs) H.size) a) (kXc D tys (fun u => kflat (wf u)) code (va_A (kflat cs) H.size)) (va_A (kflat cs) H.size))
    (kx : ∀ (E : String) (ce : Cell) (q9 : Addr) (u : S) (H1 : Heap) (locs1 : List Loc), kEc code E → va_P D vwCl (kflat (kputL L is (wf u))) H1 → va_D A (kflat (kputL L is (wf u))) → va_S A H0 H1 locs1 → H1[q9]? = some ce → ce.vm = .none → s.vm.findClass E = some ce.cls → vx_W p l e R s m args below meth c H1 locs1 (cells + mc) (slots + ms) Q (F0 m pc ls rest) q9)
    (kk : code = 0 → ∀ (u : S) (H1 : Heap) (locs1 : List Loc), va_P D vwCl (kflat (kputL L is (wf u))) H1 → va_D A (kflat (kputL L is (wf u))) → va_S A H0 H1 locs1 → W p l e R s m args below meth c H1 locs1 (cells + mc) (slots + ms) Q (F0 m (pc + 3) ls (.int r :: rest))) : W p l e R s m args below meth c H locs cells slots Q (F0 m pc ls st0) := by
  have hF := kpreF hD hS hA hn hC
  refine vx_calli hr hS (fun q _ h => hF q h) hF (fun q _ h => hF q h) (fun E ce q9 u t H1 locs1 ht hvm _ hB hz hk hS1 hce hcv hcl => ?_) (fun r2 u t H1 locs1 ht hvm hw hB hz hk hS1 => ?_)
  · obtain ⟨hE, hP1, -, hD1⟩ := hB
    rw [ht] at hP1
    obtain ⟨g1, g2⟩ := kjoinL hP hD hn hC (hl u) hk hF hP1 hD1
    exact kx E ce q9 u H1 locs1 hE g1 g2 hS1 hce hcv hcl
  · obtain ⟨hP1, -, hD1⟩ := hB
    rw [ht] at hP1
    obtain ⟨g1, g2⟩ := kjoinL hP hD hn hC (hl u) hk hF hP1 hD1
    obtain ⟨h0, hw'⟩ := hw
    subst hw'
    exact kk h0 u H1 locs1 g1 g2 hS1
end KLAW
theorem vin01 : vp_in 0 1 := by
  unfold vp_in
  decide
theorem ndr_1 : ([1] : List Nat).Nodup := by decide
theorem ndr_2 : ([1, 2] : List Nat).Nodup := by decide
theorem ndr_3 : ([1, 2, 3] : List Nat).Nodup := by decide
theorem ndr_4 : ([1, 2, 3, 4] : List Nat).Nodup := by decide
theorem ndr_5 : ([1, 2, 3, 4, 5] : List Nat).Nodup := by decide
theorem ndr_6 : ([1, 2, 3, 4, 5, 6] : List Nat).Nodup := by decide
theorem ndr_7 : ([1, 2, 3, 4, 5, 6, 7] : List Nat).Nodup := by decide
theorem ndr_8 : ([1, 2, 3, 4, 5, 6, 7, 8] : List Nat).Nodup := by decide
theorem ndr_9 : ([1, 2, 3, 4, 5, 6, 7, 8, 9] : List Nat).Nodup := by decide
theorem ndr_10 : ([1, 2, 3, 4, 5, 6, 7, 8, 9, 10] : List Nat).Nodup := by decide
theorem ndr_11 : ([1, 2, 3, 4, 5, 6, 7, 8, 9, 10, 11] : List Nat).Nodup := by decide
theorem ndr_12 : ([1, 2, 3, 4, 5, 6, 7, 8, 9, 10, 11, 12] : List Nat).Nodup := by decide
set_option maxHeartbeats 4000000 in
set_option maxRecDepth 100000 in
theorem c_L_append (l : Launch) (D : va_G) (t : Nat → ClassId) (h0 : Nat) (g0 : Nat → Nat) (a_text : Nat → Nat) (d_text : TXT) (ho : Nat) (fo : Nat → Int64) (sz : Nat) (p1 : Int32) (r : Nat × Int32 × TXT) (hF : F_X8_append d_text p1 = some r) (hst : l.stackTraces = false) (hcd : r.1 = 0 ∨ r.1 = 2 ∨ r.1 = 3) : Met l yL_append (Cond.codeWith yL_append cL_append 4 (some .int) [(0, 9, 12, 13), (0, 9, 15, 15)] :: BIG) ({ frames := 7, cells := 1, slots := 6, locals := 110 } : Room) (kPx D (TY t) (kflat [wlo t ho fo, (wx8 h0 g0), (wtx t (g0 0) a_text d_text)]) [.ref h0, .int p1, .ref ho] sz) (kQiS D (TY t) (fun (u : Unit) => kflat [wlo t ho (kO r.1 (r.2.1) fo), (wx8 h0 g0), (wtx t (g0 0) a_text r.2.2)]) (kW 2 r.1) (va_A (kflat [wlo t ho fo, (wx8 h0 g0), (wtx t (g0 0) a_text d_text)]) sz)) 1 6 (va_A (kflat [wlo t ho fo, (wx8 h0 g0), (wtx t (g0 0) a_text d_text)]) sz) := by
  refine kEh (cc := cL_append) (maxL := 4) (ret := (some .int)) (hh := [(0, 9, 12, 13), (0, 9, 15, 15)]) (Qx := fun A => kQiS D (TY t) (fun (u : Unit) => kflat [wlo t ho (kO r.1 (r.2.1) fo), (wx8 h0 g0), (wtx t (g0 0) a_text r.2.2)]) (kW 2 r.1) A) (lv0 := [(0, .ref h0), (1, .int p1), (2, .ref ho)]) RL rfl (by decide) rfl (Nat.le_of_ble_eq_true rfl) rfl ?_
  intro p e s m args below meth c A ls hx hb hml hte hr hlocks hown hts hA hX hK hP hD hS hl
  refine lv_aload_n hx hb (kd tdlL_append_0 0 rfl) rfl (lv_at hl 2 rfl) ?_
  refine lv_iconst (v := 0) hx hb (kd tdlL_append_0 1 rfl) (by decide) ?_
  refine lv_aload_n hx hb (kd tdlL_append_0 2 rfl) rfl (lv_at hl 0 rfl) ?_
  refine lv_iload_n hx hb (kd tdlL_append_0 3 rfl) rfl (lv_at hl 1 rfl) ?_
  refine kcT_i (S := Unit) (cs := [(wx8 h0 g0), (wtx t (g0 0) a_text d_text)]) (is := [1, 2]) (wf := (fun (u : Unit) => [(wx8 h0 g0), (wtx t (g0 0) a_text r.2.2)])) (rest := [.int 0, .ref ho]) hP hD hS hA ndr_2 rfl (fun _ => rfl) (kL_VT (Qx := (fun A => kQc D (TY t) (fun (u : Unit) => kflat [(wx8 h0 g0), (wtx t (g0 0) a_text r.2.2)]) r.1 (r.2.1) A)) (Xx := (fun A => kXc D (TY t) (fun (u : Unit) => kflat [(wx8 h0 g0), (wtx t (g0 0) a_text r.2.2)]) r.1 A)) (cs := [(wx8 h0 g0), (wtx t (g0 0) a_text d_text)]) (is := [1, 2]) (As := [.int p1]) (rest := [.int 0, .ref ho]) ⟨hx, hb, hml, hown, hts⟩ hX hS hA hK hP hD ndr_2 rfl (c_X8_append l D t h0 g0 a_text d_text _ p1 r hF hst) (cwV 1 hts (kgood w_126 w_127 w_128 w_2 w_129) rfl rfl rfl (by decide +kernel) ⟨(Nat.le_of_ble_eq_true rfl), (Nat.le_of_ble_eq_true rfl)⟩) (ci := 7) (q0 := 1) rfl rfl rfl hl.1 rfl (Nat.le_of_ble_eq_true rfl) (kd tdlL_append_0 4 rfl) ⟨(Nat.le_of_ble_eq_true rfl), (Nat.le_of_ble_eq_true rfl)⟩) (fun E ce q9 u H locs hE hP hD hS hce hcv hcl => ?_) (fun h0c u H locs hP hD hS => ?_)
  · rcases hE with ⟨hc, rfl⟩ | ⟨hc, rfl⟩ | ⟨hc, rfl⟩
    · exact absurd hc (by omega)
    · refine vx_catch (own := RL) (name := xA) hown [] ⟨0, 9, 12, 13⟩ [⟨0, 9, 15, 15⟩] (hte.trans rfl) (fun z hz => absurd hz List.not_mem_nil) (by decide) (by decide) (hts _ (List.mem_cons_of_mem _ w_124)) ((hX.2.2.2.2.2.2.2.2.1 xA (by simp)).use rfl) hce hcv hcl ?_
      refine lv_astore_n (lv' := [(3, .ref q9), (0, .ref h0), (1, .int p1), (2, .ref ho)]) hx hb (kd tdlL_append_0 8 rfl) rfl hl (by decide) rfl (fun ls hl => ?_)
      refine lv_iconst (v := 1) hx hb (kd tdlL_append_0 9 rfl) (by decide) ?_
      have e9 : kO r.1 (r.2.1) fo = fo := by rw [hc]; rfl
      have hP : va_P D vwCl (kflat [wlo t ho (fo), (wx8 h0 g0), (wtx t (g0 0) a_text r.2.2)]) H := hP
      have hD : va_D A (kflat [wlo t ho (fo), (wx8 h0 g0), (wtx t (g0 0) a_text r.2.2)]) := hD
      rw [← e9] at hP hD
      exact kes_i (wf := fun (u : Unit) => kflat [wlo t ho (kO r.1 (r.2.1) fo), (wx8 h0 g0), (wtx t (g0 0) a_text r.2.2)]) u hx hb hr hlocks hK hP hD hS (by rw [hc]; rfl) (Nat.le_of_ble_eq_true rfl) (Nat.le_of_ble_eq_true rfl) (kd tdlL_append_0 10 rfl)
    · refine vx_catch (own := RL) (name := xS) hown [⟨0, 9, 12, 13⟩] ⟨0, 9, 15, 15⟩ [] (hte.trans rfl) (fun z hz => by cases List.mem_singleton.mp hz; exact Or.inr ⟨by decide, xA, hts _ (List.mem_cons_of_mem _ w_124), hX.2.2.2.2.2.2.2.2.2.1 (xS, xA) (by simp)⟩) (by decide) (by decide) (hts _ (List.mem_cons_of_mem _ w_125)) ((hX.2.2.2.2.2.2.2.2.1 xS (by simp)).use rfl) hce hcv hcl ?_
      refine lv_astore_n (lv' := [(3, .ref q9), (0, .ref h0), (1, .int p1), (2, .ref ho)]) hx hb (kd tdlL_append_0 11 rfl) rfl hl (by decide) rfl (fun ls hl => ?_)
      refine lv_iconst (v := 2) hx hb (kd tdlL_append_0 12 rfl) (by decide) ?_
      have e9 : kO r.1 (r.2.1) fo = fo := by rw [hc]; rfl
      have hP : va_P D vwCl (kflat [wlo t ho (fo), (wx8 h0 g0), (wtx t (g0 0) a_text r.2.2)]) H := hP
      have hD : va_D A (kflat [wlo t ho (fo), (wx8 h0 g0), (wtx t (g0 0) a_text r.2.2)]) := hD
      rw [← e9] at hP hD
      exact kes_i (wf := fun (u : Unit) => kflat [wlo t ho (kO r.1 (r.2.1) fo), (wx8 h0 g0), (wtx t (g0 0) a_text r.2.2)]) u hx hb hr hlocks hK hP hD hS (by rw [hc]; rfl) (Nat.le_of_ble_eq_true rfl) (Nat.le_of_ble_eq_true rfl) (kd tdlL_append_0 13 rfl)
  · refine lv_i2l (v := (r.2.1).toInt64) hx hb (kd tdlL_append_0 5 rfl) rfl ?_
    refine va_last hx hb hK hP hD hS 0 4 rfl rfl vin01 (kd tdlL_append_0 6 rfl) (fun H locs hP hD hS => ?_)
    refine lv_goto (tgt := 18) hx hb (kd tdlL_append_0 7 rfl) (by decide) ?_
    refine lv_iconst (v := 0) hx hb (kd tdlL_append_0 14 rfl) (by decide) ?_
    have e9 : kO r.1 (r.2.1) fo = (fun j => if j = 0 then (r.2.1).toInt64 else fo j) := by rw [h0c]; rfl
    have hP : va_P D vwCl (kflat [wlo t ho (fun j => if j = 0 then (r.2.1).toInt64 else fo j), (wx8 h0 g0), (wtx t (g0 0) a_text r.2.2)]) H := hP
    have hD : va_D A (kflat [wlo t ho (fun j => if j = 0 then (r.2.1).toInt64 else fo j), (wx8 h0 g0), (wtx t (g0 0) a_text r.2.2)]) := hD
    rw [← e9] at hP hD
    exact kes_i (wf := fun (u : Unit) => kflat [wlo t ho (kO r.1 (r.2.1) fo), (wx8 h0 g0), (wtx t (g0 0) a_text r.2.2)]) u hx hb hr hlocks hK hP hD hS (by rw [h0c]; rfl) (Nat.le_of_ble_eq_true rfl) (Nat.le_of_ble_eq_true rfl) (kd tdlL_append_0 15 rfl)
set_option maxHeartbeats 4000000 in
set_option maxRecDepth 100000 in
theorem c_L_chunk (l : Launch) (D : va_G) (t : Nat → ClassId) (h0 : Nat) (g0 : Nat → Nat) (a_text : Nat → Nat) (d_text : TXT) (a_desk : Nat → Nat) (d_desk : DKT) (a_stream : Nat → Nat) (d_stream : SMT) (ho : Nat) (fo : Nat → Int64) (sz : Nat) (p1 : Int32) (p2 : Int32) (p3 : Int32) (r : Nat × Int32 × SMT) (hF : F_X8_chunk d_text d_desk d_stream p1 p2 p3 = some r) (hst : l.stackTraces = false) (hcd : r.1 = 0 ∨ r.1 = 1 ∨ r.1 = 2) : Met l yL_chunk (Cond.codeWith yL_chunk cL_chunk 6 (some .int) [(0, 12, 15, 21), (0, 12, 19, 13)] :: BIG) ({ frames := 7, cells := 1, slots := 6, locals := 113 } : Room) (kPx D (TY t) (kflat [wlo t ho fo, (wx8 h0 g0), (wtx t (g0 0) a_text d_text), (wdk t (g0 1) a_desk d_desk), (wsm t (g0 5) a_stream d_stream)]) [.ref h0, .int p1, .int p2, .int p3, .ref ho] sz) (kQiS D (TY t) (fun (u : Unit) => kflat [wlo t ho (kO r.1 (r.2.1) fo), (wx8 h0 g0), (wtx t (g0 0) a_text d_text), (wdk t (g0 1) a_desk d_desk), (wsm t (g0 5) a_stream r.2.2)]) (kW 1 r.1) (va_A (kflat [wlo t ho fo, (wx8 h0 g0), (wtx t (g0 0) a_text d_text), (wdk t (g0 1) a_desk d_desk), (wsm t (g0 5) a_stream d_stream)]) sz)) 1 6 (va_A (kflat [wlo t ho fo, (wx8 h0 g0), (wtx t (g0 0) a_text d_text), (wdk t (g0 1) a_desk d_desk), (wsm t (g0 5) a_stream d_stream)]) sz) := by
  refine kEh (cc := cL_chunk) (maxL := 6) (ret := (some .int)) (hh := [(0, 12, 15, 21), (0, 12, 19, 13)]) (Qx := fun A => kQiS D (TY t) (fun (u : Unit) => kflat [wlo t ho (kO r.1 (r.2.1) fo), (wx8 h0 g0), (wtx t (g0 0) a_text d_text), (wdk t (g0 1) a_desk d_desk), (wsm t (g0 5) a_stream r.2.2)]) (kW 1 r.1) A) (lv0 := [(0, .ref h0), (1, .int p1), (2, .int p2), (3, .int p3), (4, .ref ho)]) RL rfl (by decide) rfl (Nat.le_of_ble_eq_true rfl) rfl ?_
  intro p e s m args below meth c A ls hx hb hml hte hr hlocks hown hts hA hX hK hP hD hS hl
  refine lv_aload hx hb (kd tdlL_chunk_0 0 rfl) (lv_at hl 4 rfl) ?_
  refine lv_iconst (v := 0) hx hb (kd tdlL_chunk_0 1 rfl) (by decide) ?_
  refine lv_aload_n hx hb (kd tdlL_chunk_0 2 rfl) rfl (lv_at hl 0 rfl) ?_
  refine lv_iload_n hx hb (kd tdlL_chunk_0 3 rfl) rfl (lv_at hl 1 rfl) ?_
  refine lv_iload_n hx hb (kd tdlL_chunk_0 4 rfl) rfl (lv_at hl 2 rfl) ?_
  refine lv_iload_n hx hb (kd tdlL_chunk_0 5 rfl) rfl (lv_at hl 3 rfl) ?_
  refine kcT_i (S := Unit) (cs := [(wx8 h0 g0), (wtx t (g0 0) a_text d_text), (wdk t (g0 1) a_desk d_desk), (wsm t (g0 5) a_stream d_stream)]) (is := [1, 2, 3, 4]) (wf := (fun (u : Unit) => [(wx8 h0 g0), (wtx t (g0 0) a_text d_text), (wdk t (g0 1) a_desk d_desk), (wsm t (g0 5) a_stream r.2.2)])) (rest := [.int 0, .ref ho]) hP hD hS hA ndr_4 rfl (fun _ => rfl) (kL_VT (Qx := (fun A => kQc D (TY t) (fun (u : Unit) => kflat [(wx8 h0 g0), (wtx t (g0 0) a_text d_text), (wdk t (g0 1) a_desk d_desk), (wsm t (g0 5) a_stream r.2.2)]) r.1 (r.2.1) A)) (Xx := (fun A => kXc D (TY t) (fun (u : Unit) => kflat [(wx8 h0 g0), (wtx t (g0 0) a_text d_text), (wdk t (g0 1) a_desk d_desk), (wsm t (g0 5) a_stream r.2.2)]) r.1 A)) (cs := [(wx8 h0 g0), (wtx t (g0 0) a_text d_text), (wdk t (g0 1) a_desk d_desk), (wsm t (g0 5) a_stream d_stream)]) (is := [1, 2, 3, 4]) (As := [.int p1, .int p2, .int p3]) (rest := [.int 0, .ref ho]) ⟨hx, hb, hml, hown, hts⟩ hX hS hA hK hP hD ndr_4 rfl (c_X8_chunk l D t h0 g0 a_text d_text a_desk d_desk a_stream d_stream _ p1 p2 p3 r hF hst) (cwV 3 hts (kgood w_193 w_194 w_195 w_2 w_196) rfl rfl rfl (by decide +kernel) ⟨(Nat.le_of_ble_eq_true rfl), (Nat.le_of_ble_eq_true rfl)⟩) (ci := 7) (q0 := 1) rfl rfl rfl hl.1 rfl (Nat.le_of_ble_eq_true rfl) (kd tdlL_chunk_0 6 rfl) ⟨(Nat.le_of_ble_eq_true rfl), (Nat.le_of_ble_eq_true rfl)⟩) (fun E ce q9 u H locs hE hP hD hS hce hcv hcl => ?_) (fun h0c u H locs hP hD hS => ?_)
  · rcases hE with ⟨hc, rfl⟩ | ⟨hc, rfl⟩ | ⟨hc, rfl⟩
    · refine vx_catch (own := RL) (name := xI) hown [] ⟨0, 12, 15, 21⟩ [⟨0, 12, 19, 13⟩] (hte.trans rfl) (fun z hz => absurd hz List.not_mem_nil) (by decide) (by decide) (hts _ (List.mem_cons_of_mem _ w_192)) ((hX.2.2.2.2.2.2.2.2.1 xI (by simp)).use rfl) hce hcv hcl ?_
      refine lv_astore (lv' := [(5, .ref q9), (0, .ref h0), (1, .int p1), (2, .int p2), (3, .int p3), (4, .ref ho)]) hx hb (kd tdlL_chunk_0 10 rfl) hl (by decide) rfl (fun ls hl => ?_)
      refine lv_iconst (v := 1) hx hb (kd tdlL_chunk_0 11 rfl) (by decide) ?_
      have e9 : kO r.1 (r.2.1) fo = fo := by rw [hc]; rfl
      have hP : va_P D vwCl (kflat [wlo t ho (fo), (wx8 h0 g0), (wtx t (g0 0) a_text d_text), (wdk t (g0 1) a_desk d_desk), (wsm t (g0 5) a_stream r.2.2)]) H := hP
      have hD : va_D A (kflat [wlo t ho (fo), (wx8 h0 g0), (wtx t (g0 0) a_text d_text), (wdk t (g0 1) a_desk d_desk), (wsm t (g0 5) a_stream r.2.2)]) := hD
      rw [← e9] at hP hD
      exact kes_i (wf := fun (u : Unit) => kflat [wlo t ho (kO r.1 (r.2.1) fo), (wx8 h0 g0), (wtx t (g0 0) a_text d_text), (wdk t (g0 1) a_desk d_desk), (wsm t (g0 5) a_stream r.2.2)]) u hx hb hr hlocks hK hP hD hS (by rw [hc]; rfl) (Nat.le_of_ble_eq_true rfl) (Nat.le_of_ble_eq_true rfl) (kd tdlL_chunk_0 12 rfl)
    · refine vx_catch (own := RL) (name := xA) hown [⟨0, 12, 15, 21⟩] ⟨0, 12, 19, 13⟩ [] (hte.trans rfl) (fun z hz => by cases List.mem_singleton.mp hz; exact Or.inr ⟨by decide, xI, hts _ (List.mem_cons_of_mem _ w_192), hX.2.2.2.2.2.2.2.2.2.1 (xA, xI) (by simp)⟩) (by decide) (by decide) (hts _ (List.mem_cons_of_mem _ w_124)) ((hX.2.2.2.2.2.2.2.2.1 xA (by simp)).use rfl) hce hcv hcl ?_
      refine lv_astore (lv' := [(5, .ref q9), (0, .ref h0), (1, .int p1), (2, .int p2), (3, .int p3), (4, .ref ho)]) hx hb (kd tdlL_chunk_0 13 rfl) hl (by decide) rfl (fun ls hl => ?_)
      refine lv_iconst (v := 2) hx hb (kd tdlL_chunk_0 14 rfl) (by decide) ?_
      have e9 : kO r.1 (r.2.1) fo = fo := by rw [hc]; rfl
      have hP : va_P D vwCl (kflat [wlo t ho (fo), (wx8 h0 g0), (wtx t (g0 0) a_text d_text), (wdk t (g0 1) a_desk d_desk), (wsm t (g0 5) a_stream r.2.2)]) H := hP
      have hD : va_D A (kflat [wlo t ho (fo), (wx8 h0 g0), (wtx t (g0 0) a_text d_text), (wdk t (g0 1) a_desk d_desk), (wsm t (g0 5) a_stream r.2.2)]) := hD
      rw [← e9] at hP hD
      exact kes_i (wf := fun (u : Unit) => kflat [wlo t ho (kO r.1 (r.2.1) fo), (wx8 h0 g0), (wtx t (g0 0) a_text d_text), (wdk t (g0 1) a_desk d_desk), (wsm t (g0 5) a_stream r.2.2)]) u hx hb hr hlocks hK hP hD hS (by rw [hc]; rfl) (Nat.le_of_ble_eq_true rfl) (Nat.le_of_ble_eq_true rfl) (kd tdlL_chunk_0 15 rfl)
    · exact absurd hc (by omega)
  · refine lv_i2l (v := (r.2.1).toInt64) hx hb (kd tdlL_chunk_0 7 rfl) rfl ?_
    refine va_last hx hb hK hP hD hS 0 4 rfl rfl vin01 (kd tdlL_chunk_0 8 rfl) (fun H locs hP hD hS => ?_)
    refine lv_goto (tgt := 23) hx hb (kd tdlL_chunk_0 9 rfl) (by decide) ?_
    refine lv_iconst (v := 0) hx hb (kd tdlL_chunk_0 16 rfl) (by decide) ?_
    have e9 : kO r.1 (r.2.1) fo = (fun j => if j = 0 then (r.2.1).toInt64 else fo j) := by rw [h0c]; rfl
    have hP : va_P D vwCl (kflat [wlo t ho (fun j => if j = 0 then (r.2.1).toInt64 else fo j), (wx8 h0 g0), (wtx t (g0 0) a_text d_text), (wdk t (g0 1) a_desk d_desk), (wsm t (g0 5) a_stream r.2.2)]) H := hP
    have hD : va_D A (kflat [wlo t ho (fun j => if j = 0 then (r.2.1).toInt64 else fo j), (wx8 h0 g0), (wtx t (g0 0) a_text d_text), (wdk t (g0 1) a_desk d_desk), (wsm t (g0 5) a_stream r.2.2)]) := hD
    rw [← e9] at hP hD
    exact kes_i (wf := fun (u : Unit) => kflat [wlo t ho (kO r.1 (r.2.1) fo), (wx8 h0 g0), (wtx t (g0 0) a_text d_text), (wdk t (g0 1) a_desk d_desk), (wsm t (g0 5) a_stream r.2.2)]) u hx hb hr hlocks hK hP hD hS (by rw [h0c]; rfl) (Nat.le_of_ble_eq_true rfl) (Nat.le_of_ble_eq_true rfl) (kd tdlL_chunk_0 17 rfl)
set_option maxHeartbeats 4000000 in
set_option maxRecDepth 100000 in
theorem c_L_about (l : Launch) (D : va_G) (t : Nat → ClassId) (h0 : Nat) (g0 : Nat → Nat) (a_desk : Nat → Nat) (d_desk : DKT) (ho : Nat) (fo : Nat → Int64) (sz : Nat) (p1 : Int32) (r : Nat × Int32) (hF : F_X8_about d_desk p1 = some r) (hst : l.stackTraces = false) (hcd : r.1 = 0 ∨ r.1 = 2) : Met l yL_about (Cond.codeWith yL_about cL_about 4 (some .int) [(0, 9, 12, 13)] :: BIG) ({ frames := 7, cells := 1, slots := 6, locals := 130 } : Room) (kPx D (TY t) (kflat [wlo t ho fo, (wx8 h0 g0), (wdk t (g0 1) a_desk d_desk)]) [.ref h0, .int p1, .ref ho] sz) (kQiS D (TY t) (fun (u : Unit) => kflat [wlo t ho (kO r.1 (r.2) fo), (wx8 h0 g0), (wdk t (g0 1) a_desk d_desk)]) (kW 2 r.1) (va_A (kflat [wlo t ho fo, (wx8 h0 g0), (wdk t (g0 1) a_desk d_desk)]) sz)) 1 6 (va_A (kflat [wlo t ho fo, (wx8 h0 g0), (wdk t (g0 1) a_desk d_desk)]) sz) := by
  refine kEh (cc := cL_about) (maxL := 4) (ret := (some .int)) (hh := [(0, 9, 12, 13)]) (Qx := fun A => kQiS D (TY t) (fun (u : Unit) => kflat [wlo t ho (kO r.1 (r.2) fo), (wx8 h0 g0), (wdk t (g0 1) a_desk d_desk)]) (kW 2 r.1) A) (lv0 := [(0, .ref h0), (1, .int p1), (2, .ref ho)]) RL rfl (by decide) rfl (Nat.le_of_ble_eq_true rfl) rfl ?_
  intro p e s m args below meth c A ls hx hb hml hte hr hlocks hown hts hA hX hK hP hD hS hl
  refine lv_aload_n hx hb (kd tdlL_about_0 0 rfl) rfl (lv_at hl 2 rfl) ?_
  refine lv_iconst (v := 0) hx hb (kd tdlL_about_0 1 rfl) (by decide) ?_
  refine lv_aload_n hx hb (kd tdlL_about_0 2 rfl) rfl (lv_at hl 0 rfl) ?_
  refine lv_iload_n hx hb (kd tdlL_about_0 3 rfl) rfl (lv_at hl 1 rfl) ?_
  refine kcT_i (S := Unit) (cs := [(wx8 h0 g0), (wdk t (g0 1) a_desk d_desk)]) (is := [1, 2]) (wf := (fun (u : Unit) => [(wx8 h0 g0), (wdk t (g0 1) a_desk d_desk)])) (rest := [.int 0, .ref ho]) hP hD hS hA ndr_2 rfl (fun _ => rfl) (kL_VT (Qx := (fun A => kQc D (TY t) (fun (u : Unit) => kflat [(wx8 h0 g0), (wdk t (g0 1) a_desk d_desk)]) r.1 (r.2) A)) (Xx := (fun A => kXc D (TY t) (fun (u : Unit) => kflat [(wx8 h0 g0), (wdk t (g0 1) a_desk d_desk)]) r.1 A)) (cs := [(wx8 h0 g0), (wdk t (g0 1) a_desk d_desk)]) (is := [1, 2]) (As := [.int p1]) (rest := [.int 0, .ref ho]) ⟨hx, hb, hml, hown, hts⟩ hX hS hA hK hP hD ndr_2 rfl (c_X8_about l D t h0 g0 a_desk d_desk _ p1 r hF hst) (cwV 1 hts (kgood w_313 w_314 w_315 w_2 w_316) rfl rfl rfl (by decide +kernel) ⟨(Nat.le_of_ble_eq_true rfl), (Nat.le_of_ble_eq_true rfl)⟩) (ci := 7) (q0 := 1) rfl rfl rfl hl.1 rfl (Nat.le_of_ble_eq_true rfl) (kd tdlL_about_0 4 rfl) ⟨(Nat.le_of_ble_eq_true rfl), (Nat.le_of_ble_eq_true rfl)⟩) (fun E ce q9 u H locs hE hP hD hS hce hcv hcl => ?_) (fun h0c u H locs hP hD hS => ?_)
  · rcases hE with ⟨hc, rfl⟩ | ⟨hc, rfl⟩ | ⟨hc, rfl⟩
    · exact absurd hc (by omega)
    · refine vx_catch (own := RL) (name := xA) hown [] ⟨0, 9, 12, 13⟩ [] (hte.trans rfl) (fun z hz => absurd hz List.not_mem_nil) (by decide) (by decide) (hts _ (List.mem_cons_of_mem _ w_124)) ((hX.2.2.2.2.2.2.2.2.1 xA (by simp)).use rfl) hce hcv hcl ?_
      refine lv_astore_n (lv' := [(3, .ref q9), (0, .ref h0), (1, .int p1), (2, .ref ho)]) hx hb (kd tdlL_about_0 8 rfl) rfl hl (by decide) rfl (fun ls hl => ?_)
      refine lv_iconst (v := 1) hx hb (kd tdlL_about_0 9 rfl) (by decide) ?_
      have e9 : kO r.1 (r.2) fo = fo := by rw [hc]; rfl
      have hP : va_P D vwCl (kflat [wlo t ho (fo), (wx8 h0 g0), (wdk t (g0 1) a_desk d_desk)]) H := hP
      have hD : va_D A (kflat [wlo t ho (fo), (wx8 h0 g0), (wdk t (g0 1) a_desk d_desk)]) := hD
      rw [← e9] at hP hD
      exact kes_i (wf := fun (u : Unit) => kflat [wlo t ho (kO r.1 (r.2) fo), (wx8 h0 g0), (wdk t (g0 1) a_desk d_desk)]) u hx hb hr hlocks hK hP hD hS (by rw [hc]; rfl) (Nat.le_of_ble_eq_true rfl) (Nat.le_of_ble_eq_true rfl) (kd tdlL_about_0 10 rfl)
    · exact absurd hc (by omega)
  · refine lv_i2l (v := (r.2).toInt64) hx hb (kd tdlL_about_0 5 rfl) rfl ?_
    refine va_last hx hb hK hP hD hS 0 4 rfl rfl vin01 (kd tdlL_about_0 6 rfl) (fun H locs hP hD hS => ?_)
    refine lv_goto (tgt := 15) hx hb (kd tdlL_about_0 7 rfl) (by decide) ?_
    refine lv_iconst (v := 0) hx hb (kd tdlL_about_0 11 rfl) (by decide) ?_
    have e9 : kO r.1 (r.2) fo = (fun j => if j = 0 then (r.2).toInt64 else fo j) := by rw [h0c]; rfl
    have hP : va_P D vwCl (kflat [wlo t ho (fun j => if j = 0 then (r.2).toInt64 else fo j), (wx8 h0 g0), (wdk t (g0 1) a_desk d_desk)]) H := hP
    have hD : va_D A (kflat [wlo t ho (fun j => if j = 0 then (r.2).toInt64 else fo j), (wx8 h0 g0), (wdk t (g0 1) a_desk d_desk)]) := hD
    rw [← e9] at hP hD
    exact kes_i (wf := fun (u : Unit) => kflat [wlo t ho (kO r.1 (r.2) fo), (wx8 h0 g0), (wdk t (g0 1) a_desk d_desk)]) u hx hb hr hlocks hK hP hD hS (by rw [h0c]; rfl) (Nat.le_of_ble_eq_true rfl) (Nat.le_of_ble_eq_true rfl) (kd tdlL_about_0 12 rfl)
set_option maxHeartbeats 4000000 in
set_option maxRecDepth 100000 in
theorem c_L_container (l : Launch) (D : va_G) (t : Nat → ClassId) (h0 : Nat) (g0 : Nat → Nat) (a_desk : Nat → Nat) (d_desk : DKT) (ho : Nat) (fo : Nat → Int64) (sz : Nat) (p1 : Int32) (r : Nat × Int32) (hF : F_X8_container d_desk p1 = some r) (hst : l.stackTraces = false) (hcd : r.1 = 0 ∨ r.1 = 2) : Met l yL_container (Cond.codeWith yL_container cL_container 4 (some .int) [(0, 9, 12, 13)] :: BIG) ({ frames := 7, cells := 1, slots := 6, locals := 110 } : Room) (kPx D (TY t) (kflat [wlo t ho fo, (wx8 h0 g0), (wdk t (g0 1) a_desk d_desk)]) [.ref h0, .int p1, .ref ho] sz) (kQiS D (TY t) (fun (u : Unit) => kflat [wlo t ho (kO r.1 (r.2) fo), (wx8 h0 g0), (wdk t (g0 1) a_desk d_desk)]) (kW 2 r.1) (va_A (kflat [wlo t ho fo, (wx8 h0 g0), (wdk t (g0 1) a_desk d_desk)]) sz)) 1 6 (va_A (kflat [wlo t ho fo, (wx8 h0 g0), (wdk t (g0 1) a_desk d_desk)]) sz) := by
  refine kEh (cc := cL_container) (maxL := 4) (ret := (some .int)) (hh := [(0, 9, 12, 13)]) (Qx := fun A => kQiS D (TY t) (fun (u : Unit) => kflat [wlo t ho (kO r.1 (r.2) fo), (wx8 h0 g0), (wdk t (g0 1) a_desk d_desk)]) (kW 2 r.1) A) (lv0 := [(0, .ref h0), (1, .int p1), (2, .ref ho)]) RL rfl (by decide) rfl (Nat.le_of_ble_eq_true rfl) rfl ?_
  intro p e s m args below meth c A ls hx hb hml hte hr hlocks hown hts hA hX hK hP hD hS hl
  refine lv_aload_n hx hb (kd tdlL_container_0 0 rfl) rfl (lv_at hl 2 rfl) ?_
  refine lv_iconst (v := 0) hx hb (kd tdlL_container_0 1 rfl) (by decide) ?_
  refine lv_aload_n hx hb (kd tdlL_container_0 2 rfl) rfl (lv_at hl 0 rfl) ?_
  refine lv_iload_n hx hb (kd tdlL_container_0 3 rfl) rfl (lv_at hl 1 rfl) ?_
  refine kcT_i (S := Unit) (cs := [(wx8 h0 g0), (wdk t (g0 1) a_desk d_desk)]) (is := [1, 2]) (wf := (fun (u : Unit) => [(wx8 h0 g0), (wdk t (g0 1) a_desk d_desk)])) (rest := [.int 0, .ref ho]) hP hD hS hA ndr_2 rfl (fun _ => rfl) (kL_VT (Qx := (fun A => kQc D (TY t) (fun (u : Unit) => kflat [(wx8 h0 g0), (wdk t (g0 1) a_desk d_desk)]) r.1 (r.2) A)) (Xx := (fun A => kXc D (TY t) (fun (u : Unit) => kflat [(wx8 h0 g0), (wdk t (g0 1) a_desk d_desk)]) r.1 A)) (cs := [(wx8 h0 g0), (wdk t (g0 1) a_desk d_desk)]) (is := [1, 2]) (As := [.int p1]) (rest := [.int 0, .ref ho]) ⟨hx, hb, hml, hown, hts⟩ hX hS hA hK hP hD ndr_2 rfl (c_X8_container l D t h0 g0 a_desk d_desk _ p1 r hF hst) (cwV 1 hts (kgood w_425 w_426 w_427 w_2 w_428) rfl rfl rfl (by decide +kernel) ⟨(Nat.le_of_ble_eq_true rfl), (Nat.le_of_ble_eq_true rfl)⟩) (ci := 7) (q0 := 1) rfl rfl rfl hl.1 rfl (Nat.le_of_ble_eq_true rfl) (kd tdlL_container_0 4 rfl) ⟨(Nat.le_of_ble_eq_true rfl), (Nat.le_of_ble_eq_true rfl)⟩) (fun E ce q9 u H locs hE hP hD hS hce hcv hcl => ?_) (fun h0c u H locs hP hD hS => ?_)
  · rcases hE with ⟨hc, rfl⟩ | ⟨hc, rfl⟩ | ⟨hc, rfl⟩
    · exact absurd hc (by omega)
    · refine vx_catch (own := RL) (name := xA) hown [] ⟨0, 9, 12, 13⟩ [] (hte.trans rfl) (fun z hz => absurd hz List.not_mem_nil) (by decide) (by decide) (hts _ (List.mem_cons_of_mem _ w_124)) ((hX.2.2.2.2.2.2.2.2.1 xA (by simp)).use rfl) hce hcv hcl ?_
      refine lv_astore_n (lv' := [(3, .ref q9), (0, .ref h0), (1, .int p1), (2, .ref ho)]) hx hb (kd tdlL_container_0 8 rfl) rfl hl (by decide) rfl (fun ls hl => ?_)
      refine lv_iconst (v := 1) hx hb (kd tdlL_container_0 9 rfl) (by decide) ?_
      have e9 : kO r.1 (r.2) fo = fo := by rw [hc]; rfl
      have hP : va_P D vwCl (kflat [wlo t ho (fo), (wx8 h0 g0), (wdk t (g0 1) a_desk d_desk)]) H := hP
      have hD : va_D A (kflat [wlo t ho (fo), (wx8 h0 g0), (wdk t (g0 1) a_desk d_desk)]) := hD
      rw [← e9] at hP hD
      exact kes_i (wf := fun (u : Unit) => kflat [wlo t ho (kO r.1 (r.2) fo), (wx8 h0 g0), (wdk t (g0 1) a_desk d_desk)]) u hx hb hr hlocks hK hP hD hS (by rw [hc]; rfl) (Nat.le_of_ble_eq_true rfl) (Nat.le_of_ble_eq_true rfl) (kd tdlL_container_0 10 rfl)
    · exact absurd hc (by omega)
  · refine lv_i2l (v := (r.2).toInt64) hx hb (kd tdlL_container_0 5 rfl) rfl ?_
    refine va_last hx hb hK hP hD hS 0 4 rfl rfl vin01 (kd tdlL_container_0 6 rfl) (fun H locs hP hD hS => ?_)
    refine lv_goto (tgt := 15) hx hb (kd tdlL_container_0 7 rfl) (by decide) ?_
    refine lv_iconst (v := 0) hx hb (kd tdlL_container_0 11 rfl) (by decide) ?_
    have e9 : kO r.1 (r.2) fo = (fun j => if j = 0 then (r.2).toInt64 else fo j) := by rw [h0c]; rfl
    have hP : va_P D vwCl (kflat [wlo t ho (fun j => if j = 0 then (r.2).toInt64 else fo j), (wx8 h0 g0), (wdk t (g0 1) a_desk d_desk)]) H := hP
    have hD : va_D A (kflat [wlo t ho (fun j => if j = 0 then (r.2).toInt64 else fo j), (wx8 h0 g0), (wdk t (g0 1) a_desk d_desk)]) := hD
    rw [← e9] at hP hD
    exact kes_i (wf := fun (u : Unit) => kflat [wlo t ho (kO r.1 (r.2) fo), (wx8 h0 g0), (wdk t (g0 1) a_desk d_desk)]) u hx hb hr hlocks hK hP hD hS (by rw [h0c]; rfl) (Nat.le_of_ble_eq_true rfl) (Nat.le_of_ble_eq_true rfl) (kd tdlL_container_0 12 rfl)
set_option maxHeartbeats 4000000 in
set_option maxRecDepth 100000 in
theorem c_L_containerOf (l : Launch) (D : va_G) (t : Nat → ClassId) (h0 : Nat) (g0 : Nat → Nat) (a_desk : Nat → Nat) (d_desk : DKT) (ho : Nat) (fo : Nat → Int64) (sz : Nat) (p1 : Int32) (p2 : Int32) (r : Nat × Int32) (hF : F_X8_containerOf d_desk p1 p2 = some r) (hst : l.stackTraces = false) (hcd : r.1 = 0 ∨ r.1 = 1 ∨ r.1 = 2) : Met l yL_containerOf (Cond.codeWith yL_containerOf cL_containerOf 5 (some .int) [(0, 10, 13, 21), (0, 10, 17, 13)] :: BIG) ({ frames := 7, cells := 1, slots := 6, locals := 133 } : Room) (kPx D (TY t) (kflat [wlo t ho fo, (wx8 h0 g0), (wdk t (g0 1) a_desk d_desk)]) [.ref h0, .int p1, .int p2, .ref ho] sz) (kQiS D (TY t) (fun (u : Unit) => kflat [wlo t ho (kO r.1 (r.2) fo), (wx8 h0 g0), (wdk t (g0 1) a_desk d_desk)]) (kW 1 r.1) (va_A (kflat [wlo t ho fo, (wx8 h0 g0), (wdk t (g0 1) a_desk d_desk)]) sz)) 1 6 (va_A (kflat [wlo t ho fo, (wx8 h0 g0), (wdk t (g0 1) a_desk d_desk)]) sz) := by
  refine kEh (cc := cL_containerOf) (maxL := 5) (ret := (some .int)) (hh := [(0, 10, 13, 21), (0, 10, 17, 13)]) (Qx := fun A => kQiS D (TY t) (fun (u : Unit) => kflat [wlo t ho (kO r.1 (r.2) fo), (wx8 h0 g0), (wdk t (g0 1) a_desk d_desk)]) (kW 1 r.1) A) (lv0 := [(0, .ref h0), (1, .int p1), (2, .int p2), (3, .ref ho)]) RL rfl (by decide) rfl (Nat.le_of_ble_eq_true rfl) rfl ?_
  intro p e s m args below meth c A ls hx hb hml hte hr hlocks hown hts hA hX hK hP hD hS hl
  refine lv_aload_n hx hb (kd tdlL_containerOf_0 0 rfl) rfl (lv_at hl 3 rfl) ?_
  refine lv_iconst (v := 0) hx hb (kd tdlL_containerOf_0 1 rfl) (by decide) ?_
  refine lv_aload_n hx hb (kd tdlL_containerOf_0 2 rfl) rfl (lv_at hl 0 rfl) ?_
  refine lv_iload_n hx hb (kd tdlL_containerOf_0 3 rfl) rfl (lv_at hl 1 rfl) ?_
  refine lv_iload_n hx hb (kd tdlL_containerOf_0 4 rfl) rfl (lv_at hl 2 rfl) ?_
  refine kcT_i (S := Unit) (cs := [(wx8 h0 g0), (wdk t (g0 1) a_desk d_desk)]) (is := [1, 2]) (wf := (fun (u : Unit) => [(wx8 h0 g0), (wdk t (g0 1) a_desk d_desk)])) (rest := [.int 0, .ref ho]) hP hD hS hA ndr_2 rfl (fun _ => rfl) (kL_VT (Qx := (fun A => kQc D (TY t) (fun (u : Unit) => kflat [(wx8 h0 g0), (wdk t (g0 1) a_desk d_desk)]) r.1 (r.2) A)) (Xx := (fun A => kXc D (TY t) (fun (u : Unit) => kflat [(wx8 h0 g0), (wdk t (g0 1) a_desk d_desk)]) r.1 A)) (cs := [(wx8 h0 g0), (wdk t (g0 1) a_desk d_desk)]) (is := [1, 2]) (As := [.int p1, .int p2]) (rest := [.int 0, .ref ho]) ⟨hx, hb, hml, hown, hts⟩ hX hS hA hK hP hD ndr_2 rfl (c_X8_containerOf l D t h0 g0 a_desk d_desk _ p1 p2 r hF hst) (cwV 2 hts (kgood w_436 w_437 w_438 w_2 w_439) rfl rfl rfl (by decide +kernel) ⟨(Nat.le_of_ble_eq_true rfl), (Nat.le_of_ble_eq_true rfl)⟩) (ci := 7) (q0 := 1) rfl rfl rfl hl.1 rfl (Nat.le_of_ble_eq_true rfl) (kd tdlL_containerOf_0 5 rfl) ⟨(Nat.le_of_ble_eq_true rfl), (Nat.le_of_ble_eq_true rfl)⟩) (fun E ce q9 u H locs hE hP hD hS hce hcv hcl => ?_) (fun h0c u H locs hP hD hS => ?_)
  · rcases hE with ⟨hc, rfl⟩ | ⟨hc, rfl⟩ | ⟨hc, rfl⟩
    · refine vx_catch (own := RL) (name := xI) hown [] ⟨0, 10, 13, 21⟩ [⟨0, 10, 17, 13⟩] (hte.trans rfl) (fun z hz => absurd hz List.not_mem_nil) (by decide) (by decide) (hts _ (List.mem_cons_of_mem _ w_192)) ((hX.2.2.2.2.2.2.2.2.1 xI (by simp)).use rfl) hce hcv hcl ?_
      refine lv_astore (lv' := [(4, .ref q9), (0, .ref h0), (1, .int p1), (2, .int p2), (3, .ref ho)]) hx hb (kd tdlL_containerOf_0 9 rfl) hl (by decide) rfl (fun ls hl => ?_)
      refine lv_iconst (v := 1) hx hb (kd tdlL_containerOf_0 10 rfl) (by decide) ?_
      have e9 : kO r.1 (r.2) fo = fo := by rw [hc]; rfl
      have hP : va_P D vwCl (kflat [wlo t ho (fo), (wx8 h0 g0), (wdk t (g0 1) a_desk d_desk)]) H := hP
      have hD : va_D A (kflat [wlo t ho (fo), (wx8 h0 g0), (wdk t (g0 1) a_desk d_desk)]) := hD
      rw [← e9] at hP hD
      exact kes_i (wf := fun (u : Unit) => kflat [wlo t ho (kO r.1 (r.2) fo), (wx8 h0 g0), (wdk t (g0 1) a_desk d_desk)]) u hx hb hr hlocks hK hP hD hS (by rw [hc]; rfl) (Nat.le_of_ble_eq_true rfl) (Nat.le_of_ble_eq_true rfl) (kd tdlL_containerOf_0 11 rfl)
    · refine vx_catch (own := RL) (name := xA) hown [⟨0, 10, 13, 21⟩] ⟨0, 10, 17, 13⟩ [] (hte.trans rfl) (fun z hz => by cases List.mem_singleton.mp hz; exact Or.inr ⟨by decide, xI, hts _ (List.mem_cons_of_mem _ w_192), hX.2.2.2.2.2.2.2.2.2.1 (xA, xI) (by simp)⟩) (by decide) (by decide) (hts _ (List.mem_cons_of_mem _ w_124)) ((hX.2.2.2.2.2.2.2.2.1 xA (by simp)).use rfl) hce hcv hcl ?_
      refine lv_astore (lv' := [(4, .ref q9), (0, .ref h0), (1, .int p1), (2, .int p2), (3, .ref ho)]) hx hb (kd tdlL_containerOf_0 12 rfl) hl (by decide) rfl (fun ls hl => ?_)
      refine lv_iconst (v := 2) hx hb (kd tdlL_containerOf_0 13 rfl) (by decide) ?_
      have e9 : kO r.1 (r.2) fo = fo := by rw [hc]; rfl
      have hP : va_P D vwCl (kflat [wlo t ho (fo), (wx8 h0 g0), (wdk t (g0 1) a_desk d_desk)]) H := hP
      have hD : va_D A (kflat [wlo t ho (fo), (wx8 h0 g0), (wdk t (g0 1) a_desk d_desk)]) := hD
      rw [← e9] at hP hD
      exact kes_i (wf := fun (u : Unit) => kflat [wlo t ho (kO r.1 (r.2) fo), (wx8 h0 g0), (wdk t (g0 1) a_desk d_desk)]) u hx hb hr hlocks hK hP hD hS (by rw [hc]; rfl) (Nat.le_of_ble_eq_true rfl) (Nat.le_of_ble_eq_true rfl) (kd tdlL_containerOf_0 14 rfl)
    · exact absurd hc (by omega)
  · refine lv_i2l (v := (r.2).toInt64) hx hb (kd tdlL_containerOf_0 6 rfl) rfl ?_
    refine va_last hx hb hK hP hD hS 0 4 rfl rfl vin01 (kd tdlL_containerOf_0 7 rfl) (fun H locs hP hD hS => ?_)
    refine lv_goto (tgt := 21) hx hb (kd tdlL_containerOf_0 8 rfl) (by decide) ?_
    refine lv_iconst (v := 0) hx hb (kd tdlL_containerOf_0 15 rfl) (by decide) ?_
    have e9 : kO r.1 (r.2) fo = (fun j => if j = 0 then (r.2).toInt64 else fo j) := by rw [h0c]; rfl
    have hP : va_P D vwCl (kflat [wlo t ho (fun j => if j = 0 then (r.2).toInt64 else fo j), (wx8 h0 g0), (wdk t (g0 1) a_desk d_desk)]) H := hP
    have hD : va_D A (kflat [wlo t ho (fun j => if j = 0 then (r.2).toInt64 else fo j), (wx8 h0 g0), (wdk t (g0 1) a_desk d_desk)]) := hD
    rw [← e9] at hP hD
    exact kes_i (wf := fun (u : Unit) => kflat [wlo t ho (kO r.1 (r.2) fo), (wx8 h0 g0), (wdk t (g0 1) a_desk d_desk)]) u hx hb hr hlocks hK hP hD hS (by rw [h0c]; rfl) (Nat.le_of_ble_eq_true rfl) (Nat.le_of_ble_eq_true rfl) (kd tdlL_containerOf_0 16 rfl)
set_option maxHeartbeats 4000000 in
set_option maxRecDepth 100000 in
theorem c_L_entry (l : Launch) (D : va_G) (t : Nat → ClassId) (h0 : Nat) (g0 : Nat → Nat) (a_desk : Nat → Nat) (d_desk : DKT) (ho : Nat) (fo : Nat → Int64) (sz : Nat) (p1 : Int32) (p2 : Int32) (p3 : Int32) (r : Nat × Int32) (hF : F_X8_entry d_desk p1 p2 p3 = some r) (hst : l.stackTraces = false) (hcd : r.1 = 0 ∨ r.1 = 1 ∨ r.1 = 2) : Met l yL_entry (Cond.codeWith yL_entry cL_entry 6 (some .int) [(0, 12, 15, 21), (0, 12, 19, 13)] :: BIG) ({ frames := 7, cells := 1, slots := 6, locals := 114 } : Room) (kPx D (TY t) (kflat [wlo t ho fo, (wx8 h0 g0), (wdk t (g0 1) a_desk d_desk)]) [.ref h0, .int p1, .int p2, .int p3, .ref ho] sz) (kQiS D (TY t) (fun (u : Unit) => kflat [wlo t ho (kO r.1 (r.2) fo), (wx8 h0 g0), (wdk t (g0 1) a_desk d_desk)]) (kW 1 r.1) (va_A (kflat [wlo t ho fo, (wx8 h0 g0), (wdk t (g0 1) a_desk d_desk)]) sz)) 1 6 (va_A (kflat [wlo t ho fo, (wx8 h0 g0), (wdk t (g0 1) a_desk d_desk)]) sz) := by
  refine kEh (cc := cL_entry) (maxL := 6) (ret := (some .int)) (hh := [(0, 12, 15, 21), (0, 12, 19, 13)]) (Qx := fun A => kQiS D (TY t) (fun (u : Unit) => kflat [wlo t ho (kO r.1 (r.2) fo), (wx8 h0 g0), (wdk t (g0 1) a_desk d_desk)]) (kW 1 r.1) A) (lv0 := [(0, .ref h0), (1, .int p1), (2, .int p2), (3, .int p3), (4, .ref ho)]) RL rfl (by decide) rfl (Nat.le_of_ble_eq_true rfl) rfl ?_
  intro p e s m args below meth c A ls hx hb hml hte hr hlocks hown hts hA hX hK hP hD hS hl
  refine lv_aload hx hb (kd tdlL_entry_0 0 rfl) (lv_at hl 4 rfl) ?_
  refine lv_iconst (v := 0) hx hb (kd tdlL_entry_0 1 rfl) (by decide) ?_
  refine lv_aload_n hx hb (kd tdlL_entry_0 2 rfl) rfl (lv_at hl 0 rfl) ?_
  refine lv_iload_n hx hb (kd tdlL_entry_0 3 rfl) rfl (lv_at hl 1 rfl) ?_
  refine lv_iload_n hx hb (kd tdlL_entry_0 4 rfl) rfl (lv_at hl 2 rfl) ?_
  refine lv_iload_n hx hb (kd tdlL_entry_0 5 rfl) rfl (lv_at hl 3 rfl) ?_
  refine kcT_i (S := Unit) (cs := [(wx8 h0 g0), (wdk t (g0 1) a_desk d_desk)]) (is := [1, 2]) (wf := (fun (u : Unit) => [(wx8 h0 g0), (wdk t (g0 1) a_desk d_desk)])) (rest := [.int 0, .ref ho]) hP hD hS hA ndr_2 rfl (fun _ => rfl) (kL_VT (Qx := (fun A => kQc D (TY t) (fun (u : Unit) => kflat [(wx8 h0 g0), (wdk t (g0 1) a_desk d_desk)]) r.1 (r.2) A)) (Xx := (fun A => kXc D (TY t) (fun (u : Unit) => kflat [(wx8 h0 g0), (wdk t (g0 1) a_desk d_desk)]) r.1 A)) (cs := [(wx8 h0 g0), (wdk t (g0 1) a_desk d_desk)]) (is := [1, 2]) (As := [.int p1, .int p2, .int p3]) (rest := [.int 0, .ref ho]) ⟨hx, hb, hml, hown, hts⟩ hX hS hA hK hP hD ndr_2 rfl (c_X8_entry l D t h0 g0 a_desk d_desk _ p1 p2 p3 r hF hst) (cwV 3 hts (kgood w_490 w_491 w_492 w_2 w_493) rfl rfl rfl (by decide +kernel) ⟨(Nat.le_of_ble_eq_true rfl), (Nat.le_of_ble_eq_true rfl)⟩) (ci := 7) (q0 := 1) rfl rfl rfl hl.1 rfl (Nat.le_of_ble_eq_true rfl) (kd tdlL_entry_0 6 rfl) ⟨(Nat.le_of_ble_eq_true rfl), (Nat.le_of_ble_eq_true rfl)⟩) (fun E ce q9 u H locs hE hP hD hS hce hcv hcl => ?_) (fun h0c u H locs hP hD hS => ?_)
  · rcases hE with ⟨hc, rfl⟩ | ⟨hc, rfl⟩ | ⟨hc, rfl⟩
    · refine vx_catch (own := RL) (name := xI) hown [] ⟨0, 12, 15, 21⟩ [⟨0, 12, 19, 13⟩] (hte.trans rfl) (fun z hz => absurd hz List.not_mem_nil) (by decide) (by decide) (hts _ (List.mem_cons_of_mem _ w_192)) ((hX.2.2.2.2.2.2.2.2.1 xI (by simp)).use rfl) hce hcv hcl ?_
      refine lv_astore (lv' := [(5, .ref q9), (0, .ref h0), (1, .int p1), (2, .int p2), (3, .int p3), (4, .ref ho)]) hx hb (kd tdlL_entry_0 10 rfl) hl (by decide) rfl (fun ls hl => ?_)
      refine lv_iconst (v := 1) hx hb (kd tdlL_entry_0 11 rfl) (by decide) ?_
      have e9 : kO r.1 (r.2) fo = fo := by rw [hc]; rfl
      have hP : va_P D vwCl (kflat [wlo t ho (fo), (wx8 h0 g0), (wdk t (g0 1) a_desk d_desk)]) H := hP
      have hD : va_D A (kflat [wlo t ho (fo), (wx8 h0 g0), (wdk t (g0 1) a_desk d_desk)]) := hD
      rw [← e9] at hP hD
      exact kes_i (wf := fun (u : Unit) => kflat [wlo t ho (kO r.1 (r.2) fo), (wx8 h0 g0), (wdk t (g0 1) a_desk d_desk)]) u hx hb hr hlocks hK hP hD hS (by rw [hc]; rfl) (Nat.le_of_ble_eq_true rfl) (Nat.le_of_ble_eq_true rfl) (kd tdlL_entry_0 12 rfl)
    · refine vx_catch (own := RL) (name := xA) hown [⟨0, 12, 15, 21⟩] ⟨0, 12, 19, 13⟩ [] (hte.trans rfl) (fun z hz => by cases List.mem_singleton.mp hz; exact Or.inr ⟨by decide, xI, hts _ (List.mem_cons_of_mem _ w_192), hX.2.2.2.2.2.2.2.2.2.1 (xA, xI) (by simp)⟩) (by decide) (by decide) (hts _ (List.mem_cons_of_mem _ w_124)) ((hX.2.2.2.2.2.2.2.2.1 xA (by simp)).use rfl) hce hcv hcl ?_
      refine lv_astore (lv' := [(5, .ref q9), (0, .ref h0), (1, .int p1), (2, .int p2), (3, .int p3), (4, .ref ho)]) hx hb (kd tdlL_entry_0 13 rfl) hl (by decide) rfl (fun ls hl => ?_)
      refine lv_iconst (v := 2) hx hb (kd tdlL_entry_0 14 rfl) (by decide) ?_
      have e9 : kO r.1 (r.2) fo = fo := by rw [hc]; rfl
      have hP : va_P D vwCl (kflat [wlo t ho (fo), (wx8 h0 g0), (wdk t (g0 1) a_desk d_desk)]) H := hP
      have hD : va_D A (kflat [wlo t ho (fo), (wx8 h0 g0), (wdk t (g0 1) a_desk d_desk)]) := hD
      rw [← e9] at hP hD
      exact kes_i (wf := fun (u : Unit) => kflat [wlo t ho (kO r.1 (r.2) fo), (wx8 h0 g0), (wdk t (g0 1) a_desk d_desk)]) u hx hb hr hlocks hK hP hD hS (by rw [hc]; rfl) (Nat.le_of_ble_eq_true rfl) (Nat.le_of_ble_eq_true rfl) (kd tdlL_entry_0 15 rfl)
    · exact absurd hc (by omega)
  · refine lv_i2l (v := (r.2).toInt64) hx hb (kd tdlL_entry_0 7 rfl) rfl ?_
    refine va_last hx hb hK hP hD hS 0 4 rfl rfl vin01 (kd tdlL_entry_0 8 rfl) (fun H locs hP hD hS => ?_)
    refine lv_goto (tgt := 23) hx hb (kd tdlL_entry_0 9 rfl) (by decide) ?_
    refine lv_iconst (v := 0) hx hb (kd tdlL_entry_0 16 rfl) (by decide) ?_
    have e9 : kO r.1 (r.2) fo = (fun j => if j = 0 then (r.2).toInt64 else fo j) := by rw [h0c]; rfl
    have hP : va_P D vwCl (kflat [wlo t ho (fun j => if j = 0 then (r.2).toInt64 else fo j), (wx8 h0 g0), (wdk t (g0 1) a_desk d_desk)]) H := hP
    have hD : va_D A (kflat [wlo t ho (fun j => if j = 0 then (r.2).toInt64 else fo j), (wx8 h0 g0), (wdk t (g0 1) a_desk d_desk)]) := hD
    rw [← e9] at hP hD
    exact kes_i (wf := fun (u : Unit) => kflat [wlo t ho (kO r.1 (r.2) fo), (wx8 h0 g0), (wdk t (g0 1) a_desk d_desk)]) u hx hb hr hlocks hK hP hD hS (by rw [h0c]; rfl) (Nat.le_of_ble_eq_true rfl) (Nat.le_of_ble_eq_true rfl) (kd tdlL_entry_0 17 rfl)
set_option maxHeartbeats 4000000 in
set_option maxRecDepth 100000 in
theorem c_L_backupOf (l : Launch) (D : va_G) (t : Nat → ClassId) (h0 : Nat) (g0 : Nat → Nat) (a_desk : Nat → Nat) (d_desk : DKT) (a_store : Nat → Nat) (d_store : SOT) (ho : Nat) (fo : Nat → Int64) (sz : Nat) (p1 : Int32) (p2 : Int32) (r : Nat × Int32 × SOT) (hF : F_X8_backupOf d_desk d_store p1 p2 = some r) (hst : l.stackTraces = false) (hcd : r.1 = 0 ∨ r.1 = 1 ∨ r.1 = 2) : Met l yL_backupOf (Cond.codeWith yL_backupOf cL_backupOf 5 (some .int) [(0, 10, 13, 21), (0, 10, 17, 13)] :: BIG) ({ frames := 7, cells := 1, slots := 6, locals := 132 } : Room) (kPx D (TY t) (kflat [wlo t ho fo, (wx8 h0 g0), (wdk t (g0 1) a_desk d_desk), (wso t (g0 7) a_store d_store)]) [.ref h0, .int p1, .int p2, .ref ho] sz) (kQiS D (TY t) (fun (u : Unit) => kflat [wlo t ho (kO r.1 (r.2.1) fo), (wx8 h0 g0), (wdk t (g0 1) a_desk d_desk), (wso t (g0 7) a_store r.2.2)]) (kW 1 r.1) (va_A (kflat [wlo t ho fo, (wx8 h0 g0), (wdk t (g0 1) a_desk d_desk), (wso t (g0 7) a_store d_store)]) sz)) 1 6 (va_A (kflat [wlo t ho fo, (wx8 h0 g0), (wdk t (g0 1) a_desk d_desk), (wso t (g0 7) a_store d_store)]) sz) := by
  refine kEh (cc := cL_backupOf) (maxL := 5) (ret := (some .int)) (hh := [(0, 10, 13, 21), (0, 10, 17, 13)]) (Qx := fun A => kQiS D (TY t) (fun (u : Unit) => kflat [wlo t ho (kO r.1 (r.2.1) fo), (wx8 h0 g0), (wdk t (g0 1) a_desk d_desk), (wso t (g0 7) a_store r.2.2)]) (kW 1 r.1) A) (lv0 := [(0, .ref h0), (1, .int p1), (2, .int p2), (3, .ref ho)]) RL rfl (by decide) rfl (Nat.le_of_ble_eq_true rfl) rfl ?_
  intro p e s m args below meth c A ls hx hb hml hte hr hlocks hown hts hA hX hK hP hD hS hl
  refine lv_aload_n hx hb (kd tdlL_backupOf_0 0 rfl) rfl (lv_at hl 3 rfl) ?_
  refine lv_iconst (v := 0) hx hb (kd tdlL_backupOf_0 1 rfl) (by decide) ?_
  refine lv_aload_n hx hb (kd tdlL_backupOf_0 2 rfl) rfl (lv_at hl 0 rfl) ?_
  refine lv_iload_n hx hb (kd tdlL_backupOf_0 3 rfl) rfl (lv_at hl 1 rfl) ?_
  refine lv_iload_n hx hb (kd tdlL_backupOf_0 4 rfl) rfl (lv_at hl 2 rfl) ?_
  refine kcT_i (S := Unit) (cs := [(wx8 h0 g0), (wdk t (g0 1) a_desk d_desk), (wso t (g0 7) a_store d_store)]) (is := [1, 2, 3]) (wf := (fun (u : Unit) => [(wx8 h0 g0), (wdk t (g0 1) a_desk d_desk), (wso t (g0 7) a_store r.2.2)])) (rest := [.int 0, .ref ho]) hP hD hS hA ndr_3 rfl (fun _ => rfl) (kL_VT (Qx := (fun A => kQc D (TY t) (fun (u : Unit) => kflat [(wx8 h0 g0), (wdk t (g0 1) a_desk d_desk), (wso t (g0 7) a_store r.2.2)]) r.1 (r.2.1) A)) (Xx := (fun A => kXc D (TY t) (fun (u : Unit) => kflat [(wx8 h0 g0), (wdk t (g0 1) a_desk d_desk), (wso t (g0 7) a_store r.2.2)]) r.1 A)) (cs := [(wx8 h0 g0), (wdk t (g0 1) a_desk d_desk), (wso t (g0 7) a_store d_store)]) (is := [1, 2, 3]) (As := [.int p1, .int p2]) (rest := [.int 0, .ref ho]) ⟨hx, hb, hml, hown, hts⟩ hX hS hA hK hP hD ndr_3 rfl (c_X8_backupOf l D t h0 g0 a_desk d_desk a_store d_store _ p1 p2 r hF hst) (cwV 2 hts (kgood w_510 w_511 w_512 w_2 w_513) rfl rfl rfl (by decide +kernel) ⟨(Nat.le_of_ble_eq_true rfl), (Nat.le_of_ble_eq_true rfl)⟩) (ci := 7) (q0 := 1) rfl rfl rfl hl.1 rfl (Nat.le_of_ble_eq_true rfl) (kd tdlL_backupOf_0 5 rfl) ⟨(Nat.le_of_ble_eq_true rfl), (Nat.le_of_ble_eq_true rfl)⟩) (fun E ce q9 u H locs hE hP hD hS hce hcv hcl => ?_) (fun h0c u H locs hP hD hS => ?_)
  · rcases hE with ⟨hc, rfl⟩ | ⟨hc, rfl⟩ | ⟨hc, rfl⟩
    · refine vx_catch (own := RL) (name := xI) hown [] ⟨0, 10, 13, 21⟩ [⟨0, 10, 17, 13⟩] (hte.trans rfl) (fun z hz => absurd hz List.not_mem_nil) (by decide) (by decide) (hts _ (List.mem_cons_of_mem _ w_192)) ((hX.2.2.2.2.2.2.2.2.1 xI (by simp)).use rfl) hce hcv hcl ?_
      refine lv_astore (lv' := [(4, .ref q9), (0, .ref h0), (1, .int p1), (2, .int p2), (3, .ref ho)]) hx hb (kd tdlL_backupOf_0 9 rfl) hl (by decide) rfl (fun ls hl => ?_)
      refine lv_iconst (v := 1) hx hb (kd tdlL_backupOf_0 10 rfl) (by decide) ?_
      have e9 : kO r.1 (r.2.1) fo = fo := by rw [hc]; rfl
      have hP : va_P D vwCl (kflat [wlo t ho (fo), (wx8 h0 g0), (wdk t (g0 1) a_desk d_desk), (wso t (g0 7) a_store r.2.2)]) H := hP
      have hD : va_D A (kflat [wlo t ho (fo), (wx8 h0 g0), (wdk t (g0 1) a_desk d_desk), (wso t (g0 7) a_store r.2.2)]) := hD
      rw [← e9] at hP hD
      exact kes_i (wf := fun (u : Unit) => kflat [wlo t ho (kO r.1 (r.2.1) fo), (wx8 h0 g0), (wdk t (g0 1) a_desk d_desk), (wso t (g0 7) a_store r.2.2)]) u hx hb hr hlocks hK hP hD hS (by rw [hc]; rfl) (Nat.le_of_ble_eq_true rfl) (Nat.le_of_ble_eq_true rfl) (kd tdlL_backupOf_0 11 rfl)
    · refine vx_catch (own := RL) (name := xA) hown [⟨0, 10, 13, 21⟩] ⟨0, 10, 17, 13⟩ [] (hte.trans rfl) (fun z hz => by cases List.mem_singleton.mp hz; exact Or.inr ⟨by decide, xI, hts _ (List.mem_cons_of_mem _ w_192), hX.2.2.2.2.2.2.2.2.2.1 (xA, xI) (by simp)⟩) (by decide) (by decide) (hts _ (List.mem_cons_of_mem _ w_124)) ((hX.2.2.2.2.2.2.2.2.1 xA (by simp)).use rfl) hce hcv hcl ?_
      refine lv_astore (lv' := [(4, .ref q9), (0, .ref h0), (1, .int p1), (2, .int p2), (3, .ref ho)]) hx hb (kd tdlL_backupOf_0 12 rfl) hl (by decide) rfl (fun ls hl => ?_)
      refine lv_iconst (v := 2) hx hb (kd tdlL_backupOf_0 13 rfl) (by decide) ?_
      have e9 : kO r.1 (r.2.1) fo = fo := by rw [hc]; rfl
      have hP : va_P D vwCl (kflat [wlo t ho (fo), (wx8 h0 g0), (wdk t (g0 1) a_desk d_desk), (wso t (g0 7) a_store r.2.2)]) H := hP
      have hD : va_D A (kflat [wlo t ho (fo), (wx8 h0 g0), (wdk t (g0 1) a_desk d_desk), (wso t (g0 7) a_store r.2.2)]) := hD
      rw [← e9] at hP hD
      exact kes_i (wf := fun (u : Unit) => kflat [wlo t ho (kO r.1 (r.2.1) fo), (wx8 h0 g0), (wdk t (g0 1) a_desk d_desk), (wso t (g0 7) a_store r.2.2)]) u hx hb hr hlocks hK hP hD hS (by rw [hc]; rfl) (Nat.le_of_ble_eq_true rfl) (Nat.le_of_ble_eq_true rfl) (kd tdlL_backupOf_0 14 rfl)
    · exact absurd hc (by omega)
  · refine lv_i2l (v := (r.2.1).toInt64) hx hb (kd tdlL_backupOf_0 6 rfl) rfl ?_
    refine va_last hx hb hK hP hD hS 0 4 rfl rfl vin01 (kd tdlL_backupOf_0 7 rfl) (fun H locs hP hD hS => ?_)
    refine lv_goto (tgt := 21) hx hb (kd tdlL_backupOf_0 8 rfl) (by decide) ?_
    refine lv_iconst (v := 0) hx hb (kd tdlL_backupOf_0 15 rfl) (by decide) ?_
    have e9 : kO r.1 (r.2.1) fo = (fun j => if j = 0 then (r.2.1).toInt64 else fo j) := by rw [h0c]; rfl
    have hP : va_P D vwCl (kflat [wlo t ho (fun j => if j = 0 then (r.2.1).toInt64 else fo j), (wx8 h0 g0), (wdk t (g0 1) a_desk d_desk), (wso t (g0 7) a_store r.2.2)]) H := hP
    have hD : va_D A (kflat [wlo t ho (fun j => if j = 0 then (r.2.1).toInt64 else fo j), (wx8 h0 g0), (wdk t (g0 1) a_desk d_desk), (wso t (g0 7) a_store r.2.2)]) := hD
    rw [← e9] at hP hD
    exact kes_i (wf := fun (u : Unit) => kflat [wlo t ho (kO r.1 (r.2.1) fo), (wx8 h0 g0), (wdk t (g0 1) a_desk d_desk), (wso t (g0 7) a_store r.2.2)]) u hx hb hr hlocks hK hP hD hS (by rw [h0c]; rfl) (Nat.le_of_ble_eq_true rfl) (Nat.le_of_ble_eq_true rfl) (kd tdlL_backupOf_0 16 rfl)
set_option maxHeartbeats 4000000 in
set_option maxRecDepth 100000 in
theorem c_L_reference (l : Launch) (D : va_G) (t : Nat → ClassId) (h0 : Nat) (g0 : Nat → Nat) (a_desk : Nat → Nat) (d_desk : DKT) (ho : Nat) (fo : Nat → Int64) (sz : Nat) (p1 : Int32) (p2 : Int32) (p3 : Int32) (r : Nat × Int32) (hF : F_X8_reference d_desk p1 p2 p3 = some r) (hst : l.stackTraces = false) (hcd : r.1 = 0 ∨ r.1 = 1 ∨ r.1 = 2) : Met l yL_reference (Cond.codeWith yL_reference cL_reference 6 (some .int) [(0, 12, 15, 21), (0, 12, 19, 13)] :: BIG) ({ frames := 7, cells := 1, slots := 6, locals := 114 } : Room) (kPx D (TY t) (kflat [wlo t ho fo, (wx8 h0 g0), (wdk t (g0 1) a_desk d_desk)]) [.ref h0, .int p1, .int p2, .int p3, .ref ho] sz) (kQiS D (TY t) (fun (u : Unit) => kflat [wlo t ho (kO r.1 (r.2) fo), (wx8 h0 g0), (wdk t (g0 1) a_desk d_desk)]) (kW 1 r.1) (va_A (kflat [wlo t ho fo, (wx8 h0 g0), (wdk t (g0 1) a_desk d_desk)]) sz)) 1 6 (va_A (kflat [wlo t ho fo, (wx8 h0 g0), (wdk t (g0 1) a_desk d_desk)]) sz) := by
  refine kEh (cc := cL_reference) (maxL := 6) (ret := (some .int)) (hh := [(0, 12, 15, 21), (0, 12, 19, 13)]) (Qx := fun A => kQiS D (TY t) (fun (u : Unit) => kflat [wlo t ho (kO r.1 (r.2) fo), (wx8 h0 g0), (wdk t (g0 1) a_desk d_desk)]) (kW 1 r.1) A) (lv0 := [(0, .ref h0), (1, .int p1), (2, .int p2), (3, .int p3), (4, .ref ho)]) RL rfl (by decide) rfl (Nat.le_of_ble_eq_true rfl) rfl ?_
  intro p e s m args below meth c A ls hx hb hml hte hr hlocks hown hts hA hX hK hP hD hS hl
  refine lv_aload hx hb (kd tdlL_reference_0 0 rfl) (lv_at hl 4 rfl) ?_
  refine lv_iconst (v := 0) hx hb (kd tdlL_reference_0 1 rfl) (by decide) ?_
  refine lv_aload_n hx hb (kd tdlL_reference_0 2 rfl) rfl (lv_at hl 0 rfl) ?_
  refine lv_iload_n hx hb (kd tdlL_reference_0 3 rfl) rfl (lv_at hl 1 rfl) ?_
  refine lv_iload_n hx hb (kd tdlL_reference_0 4 rfl) rfl (lv_at hl 2 rfl) ?_
  refine lv_iload_n hx hb (kd tdlL_reference_0 5 rfl) rfl (lv_at hl 3 rfl) ?_
  refine kcT_i (S := Unit) (cs := [(wx8 h0 g0), (wdk t (g0 1) a_desk d_desk)]) (is := [1, 2]) (wf := (fun (u : Unit) => [(wx8 h0 g0), (wdk t (g0 1) a_desk d_desk)])) (rest := [.int 0, .ref ho]) hP hD hS hA ndr_2 rfl (fun _ => rfl) (kL_VT (Qx := (fun A => kQc D (TY t) (fun (u : Unit) => kflat [(wx8 h0 g0), (wdk t (g0 1) a_desk d_desk)]) r.1 (r.2) A)) (Xx := (fun A => kXc D (TY t) (fun (u : Unit) => kflat [(wx8 h0 g0), (wdk t (g0 1) a_desk d_desk)]) r.1 A)) (cs := [(wx8 h0 g0), (wdk t (g0 1) a_desk d_desk)]) (is := [1, 2]) (As := [.int p1, .int p2, .int p3]) (rest := [.int 0, .ref ho]) ⟨hx, hb, hml, hown, hts⟩ hX hS hA hK hP hD ndr_2 rfl (c_X8_reference l D t h0 g0 a_desk d_desk _ p1 p2 p3 r hF hst) (cwV 3 hts (kgood w_587 w_588 w_589 w_2 w_590) rfl rfl rfl (by decide +kernel) ⟨(Nat.le_of_ble_eq_true rfl), (Nat.le_of_ble_eq_true rfl)⟩) (ci := 7) (q0 := 1) rfl rfl rfl hl.1 rfl (Nat.le_of_ble_eq_true rfl) (kd tdlL_reference_0 6 rfl) ⟨(Nat.le_of_ble_eq_true rfl), (Nat.le_of_ble_eq_true rfl)⟩) (fun E ce q9 u H locs hE hP hD hS hce hcv hcl => ?_) (fun h0c u H locs hP hD hS => ?_)
  · rcases hE with ⟨hc, rfl⟩ | ⟨hc, rfl⟩ | ⟨hc, rfl⟩
    · refine vx_catch (own := RL) (name := xI) hown [] ⟨0, 12, 15, 21⟩ [⟨0, 12, 19, 13⟩] (hte.trans rfl) (fun z hz => absurd hz List.not_mem_nil) (by decide) (by decide) (hts _ (List.mem_cons_of_mem _ w_192)) ((hX.2.2.2.2.2.2.2.2.1 xI (by simp)).use rfl) hce hcv hcl ?_
      refine lv_astore (lv' := [(5, .ref q9), (0, .ref h0), (1, .int p1), (2, .int p2), (3, .int p3), (4, .ref ho)]) hx hb (kd tdlL_reference_0 10 rfl) hl (by decide) rfl (fun ls hl => ?_)
      refine lv_iconst (v := 1) hx hb (kd tdlL_reference_0 11 rfl) (by decide) ?_
      have e9 : kO r.1 (r.2) fo = fo := by rw [hc]; rfl
      have hP : va_P D vwCl (kflat [wlo t ho (fo), (wx8 h0 g0), (wdk t (g0 1) a_desk d_desk)]) H := hP
      have hD : va_D A (kflat [wlo t ho (fo), (wx8 h0 g0), (wdk t (g0 1) a_desk d_desk)]) := hD
      rw [← e9] at hP hD
      exact kes_i (wf := fun (u : Unit) => kflat [wlo t ho (kO r.1 (r.2) fo), (wx8 h0 g0), (wdk t (g0 1) a_desk d_desk)]) u hx hb hr hlocks hK hP hD hS (by rw [hc]; rfl) (Nat.le_of_ble_eq_true rfl) (Nat.le_of_ble_eq_true rfl) (kd tdlL_reference_0 12 rfl)
    · refine vx_catch (own := RL) (name := xA) hown [⟨0, 12, 15, 21⟩] ⟨0, 12, 19, 13⟩ [] (hte.trans rfl) (fun z hz => by cases List.mem_singleton.mp hz; exact Or.inr ⟨by decide, xI, hts _ (List.mem_cons_of_mem _ w_192), hX.2.2.2.2.2.2.2.2.2.1 (xA, xI) (by simp)⟩) (by decide) (by decide) (hts _ (List.mem_cons_of_mem _ w_124)) ((hX.2.2.2.2.2.2.2.2.1 xA (by simp)).use rfl) hce hcv hcl ?_
      refine lv_astore (lv' := [(5, .ref q9), (0, .ref h0), (1, .int p1), (2, .int p2), (3, .int p3), (4, .ref ho)]) hx hb (kd tdlL_reference_0 13 rfl) hl (by decide) rfl (fun ls hl => ?_)
      refine lv_iconst (v := 2) hx hb (kd tdlL_reference_0 14 rfl) (by decide) ?_
      have e9 : kO r.1 (r.2) fo = fo := by rw [hc]; rfl
      have hP : va_P D vwCl (kflat [wlo t ho (fo), (wx8 h0 g0), (wdk t (g0 1) a_desk d_desk)]) H := hP
      have hD : va_D A (kflat [wlo t ho (fo), (wx8 h0 g0), (wdk t (g0 1) a_desk d_desk)]) := hD
      rw [← e9] at hP hD
      exact kes_i (wf := fun (u : Unit) => kflat [wlo t ho (kO r.1 (r.2) fo), (wx8 h0 g0), (wdk t (g0 1) a_desk d_desk)]) u hx hb hr hlocks hK hP hD hS (by rw [hc]; rfl) (Nat.le_of_ble_eq_true rfl) (Nat.le_of_ble_eq_true rfl) (kd tdlL_reference_0 15 rfl)
    · exact absurd hc (by omega)
  · refine lv_i2l (v := (r.2).toInt64) hx hb (kd tdlL_reference_0 7 rfl) rfl ?_
    refine va_last hx hb hK hP hD hS 0 4 rfl rfl vin01 (kd tdlL_reference_0 8 rfl) (fun H locs hP hD hS => ?_)
    refine lv_goto (tgt := 23) hx hb (kd tdlL_reference_0 9 rfl) (by decide) ?_
    refine lv_iconst (v := 0) hx hb (kd tdlL_reference_0 16 rfl) (by decide) ?_
    have e9 : kO r.1 (r.2) fo = (fun j => if j = 0 then (r.2).toInt64 else fo j) := by rw [h0c]; rfl
    have hP : va_P D vwCl (kflat [wlo t ho (fun j => if j = 0 then (r.2).toInt64 else fo j), (wx8 h0 g0), (wdk t (g0 1) a_desk d_desk)]) H := hP
    have hD : va_D A (kflat [wlo t ho (fun j => if j = 0 then (r.2).toInt64 else fo j), (wx8 h0 g0), (wdk t (g0 1) a_desk d_desk)]) := hD
    rw [← e9] at hP hD
    exact kes_i (wf := fun (u : Unit) => kflat [wlo t ho (kO r.1 (r.2) fo), (wx8 h0 g0), (wdk t (g0 1) a_desk d_desk)]) u hx hb hr hlocks hK hP hD hS (by rw [h0c]; rfl) (Nat.le_of_ble_eq_true rfl) (Nat.le_of_ble_eq_true rfl) (kd tdlL_reference_0 17 rfl)
set_option maxHeartbeats 4000000 in
set_option maxRecDepth 100000 in
theorem c_L_letter (l : Launch) (D : va_G) (t : Nat → ClassId) (h0 : Nat) (g0 : Nat → Nat) (a_desk : Nat → Nat) (d_desk : DKT) (ho : Nat) (fo : Nat → Int64) (sz : Nat) (p1 : Int32) (p2 : Int32) (r : Nat × Int32) (hF : F_X8_letter d_desk p1 p2 = some r) (hst : l.stackTraces = false) (hcd : r.1 = 0 ∨ r.1 = 1 ∨ r.1 = 2) : Met l yL_letter (Cond.codeWith yL_letter cL_letter 5 (some .int) [(0, 10, 13, 21), (0, 10, 17, 13)] :: BIG) ({ frames := 7, cells := 1, slots := 6, locals := 112 } : Room) (kPx D (TY t) (kflat [wlo t ho fo, (wx8 h0 g0), (wdk t (g0 1) a_desk d_desk)]) [.ref h0, .int p1, .int p2, .ref ho] sz) (kQiS D (TY t) (fun (u : Unit) => kflat [wlo t ho (kO r.1 (r.2) fo), (wx8 h0 g0), (wdk t (g0 1) a_desk d_desk)]) (kW 1 r.1) (va_A (kflat [wlo t ho fo, (wx8 h0 g0), (wdk t (g0 1) a_desk d_desk)]) sz)) 1 6 (va_A (kflat [wlo t ho fo, (wx8 h0 g0), (wdk t (g0 1) a_desk d_desk)]) sz) := by
  refine kEh (cc := cL_letter) (maxL := 5) (ret := (some .int)) (hh := [(0, 10, 13, 21), (0, 10, 17, 13)]) (Qx := fun A => kQiS D (TY t) (fun (u : Unit) => kflat [wlo t ho (kO r.1 (r.2) fo), (wx8 h0 g0), (wdk t (g0 1) a_desk d_desk)]) (kW 1 r.1) A) (lv0 := [(0, .ref h0), (1, .int p1), (2, .int p2), (3, .ref ho)]) RL rfl (by decide) rfl (Nat.le_of_ble_eq_true rfl) rfl ?_
  intro p e s m args below meth c A ls hx hb hml hte hr hlocks hown hts hA hX hK hP hD hS hl
  refine lv_aload_n hx hb (kd tdlL_letter_0 0 rfl) rfl (lv_at hl 3 rfl) ?_
  refine lv_iconst (v := 0) hx hb (kd tdlL_letter_0 1 rfl) (by decide) ?_
  refine lv_aload_n hx hb (kd tdlL_letter_0 2 rfl) rfl (lv_at hl 0 rfl) ?_
  refine lv_iload_n hx hb (kd tdlL_letter_0 3 rfl) rfl (lv_at hl 1 rfl) ?_
  refine lv_iload_n hx hb (kd tdlL_letter_0 4 rfl) rfl (lv_at hl 2 rfl) ?_
  refine kcT_i (S := Unit) (cs := [(wx8 h0 g0), (wdk t (g0 1) a_desk d_desk)]) (is := [1, 2]) (wf := (fun (u : Unit) => [(wx8 h0 g0), (wdk t (g0 1) a_desk d_desk)])) (rest := [.int 0, .ref ho]) hP hD hS hA ndr_2 rfl (fun _ => rfl) (kL_VT (Qx := (fun A => kQc D (TY t) (fun (u : Unit) => kflat [(wx8 h0 g0), (wdk t (g0 1) a_desk d_desk)]) r.1 (r.2) A)) (Xx := (fun A => kXc D (TY t) (fun (u : Unit) => kflat [(wx8 h0 g0), (wdk t (g0 1) a_desk d_desk)]) r.1 A)) (cs := [(wx8 h0 g0), (wdk t (g0 1) a_desk d_desk)]) (is := [1, 2]) (As := [.int p1, .int p2]) (rest := [.int 0, .ref ho]) ⟨hx, hb, hml, hown, hts⟩ hX hS hA hK hP hD ndr_2 rfl (c_X8_letter l D t h0 g0 a_desk d_desk _ p1 p2 r hF hst) (cwV 2 hts (kgood w_600 w_601 w_602 w_2 w_603) rfl rfl rfl (by decide +kernel) ⟨(Nat.le_of_ble_eq_true rfl), (Nat.le_of_ble_eq_true rfl)⟩) (ci := 7) (q0 := 1) rfl rfl rfl hl.1 rfl (Nat.le_of_ble_eq_true rfl) (kd tdlL_letter_0 5 rfl) ⟨(Nat.le_of_ble_eq_true rfl), (Nat.le_of_ble_eq_true rfl)⟩) (fun E ce q9 u H locs hE hP hD hS hce hcv hcl => ?_) (fun h0c u H locs hP hD hS => ?_)
  · rcases hE with ⟨hc, rfl⟩ | ⟨hc, rfl⟩ | ⟨hc, rfl⟩
    · refine vx_catch (own := RL) (name := xI) hown [] ⟨0, 10, 13, 21⟩ [⟨0, 10, 17, 13⟩] (hte.trans rfl) (fun z hz => absurd hz List.not_mem_nil) (by decide) (by decide) (hts _ (List.mem_cons_of_mem _ w_192)) ((hX.2.2.2.2.2.2.2.2.1 xI (by simp)).use rfl) hce hcv hcl ?_
      refine lv_astore (lv' := [(4, .ref q9), (0, .ref h0), (1, .int p1), (2, .int p2), (3, .ref ho)]) hx hb (kd tdlL_letter_0 9 rfl) hl (by decide) rfl (fun ls hl => ?_)
      refine lv_iconst (v := 1) hx hb (kd tdlL_letter_0 10 rfl) (by decide) ?_
      have e9 : kO r.1 (r.2) fo = fo := by rw [hc]; rfl
      have hP : va_P D vwCl (kflat [wlo t ho (fo), (wx8 h0 g0), (wdk t (g0 1) a_desk d_desk)]) H := hP
      have hD : va_D A (kflat [wlo t ho (fo), (wx8 h0 g0), (wdk t (g0 1) a_desk d_desk)]) := hD
      rw [← e9] at hP hD
      exact kes_i (wf := fun (u : Unit) => kflat [wlo t ho (kO r.1 (r.2) fo), (wx8 h0 g0), (wdk t (g0 1) a_desk d_desk)]) u hx hb hr hlocks hK hP hD hS (by rw [hc]; rfl) (Nat.le_of_ble_eq_true rfl) (Nat.le_of_ble_eq_true rfl) (kd tdlL_letter_0 11 rfl)
    · refine vx_catch (own := RL) (name := xA) hown [⟨0, 10, 13, 21⟩] ⟨0, 10, 17, 13⟩ [] (hte.trans rfl) (fun z hz => by cases List.mem_singleton.mp hz; exact Or.inr ⟨by decide, xI, hts _ (List.mem_cons_of_mem _ w_192), hX.2.2.2.2.2.2.2.2.2.1 (xA, xI) (by simp)⟩) (by decide) (by decide) (hts _ (List.mem_cons_of_mem _ w_124)) ((hX.2.2.2.2.2.2.2.2.1 xA (by simp)).use rfl) hce hcv hcl ?_
      refine lv_astore (lv' := [(4, .ref q9), (0, .ref h0), (1, .int p1), (2, .int p2), (3, .ref ho)]) hx hb (kd tdlL_letter_0 12 rfl) hl (by decide) rfl (fun ls hl => ?_)
      refine lv_iconst (v := 2) hx hb (kd tdlL_letter_0 13 rfl) (by decide) ?_
      have e9 : kO r.1 (r.2) fo = fo := by rw [hc]; rfl
      have hP : va_P D vwCl (kflat [wlo t ho (fo), (wx8 h0 g0), (wdk t (g0 1) a_desk d_desk)]) H := hP
      have hD : va_D A (kflat [wlo t ho (fo), (wx8 h0 g0), (wdk t (g0 1) a_desk d_desk)]) := hD
      rw [← e9] at hP hD
      exact kes_i (wf := fun (u : Unit) => kflat [wlo t ho (kO r.1 (r.2) fo), (wx8 h0 g0), (wdk t (g0 1) a_desk d_desk)]) u hx hb hr hlocks hK hP hD hS (by rw [hc]; rfl) (Nat.le_of_ble_eq_true rfl) (Nat.le_of_ble_eq_true rfl) (kd tdlL_letter_0 14 rfl)
    · exact absurd hc (by omega)
  · refine lv_i2l (v := (r.2).toInt64) hx hb (kd tdlL_letter_0 6 rfl) rfl ?_
    refine va_last hx hb hK hP hD hS 0 4 rfl rfl vin01 (kd tdlL_letter_0 7 rfl) (fun H locs hP hD hS => ?_)
    refine lv_goto (tgt := 21) hx hb (kd tdlL_letter_0 8 rfl) (by decide) ?_
    refine lv_iconst (v := 0) hx hb (kd tdlL_letter_0 15 rfl) (by decide) ?_
    have e9 : kO r.1 (r.2) fo = (fun j => if j = 0 then (r.2).toInt64 else fo j) := by rw [h0c]; rfl
    have hP : va_P D vwCl (kflat [wlo t ho (fun j => if j = 0 then (r.2).toInt64 else fo j), (wx8 h0 g0), (wdk t (g0 1) a_desk d_desk)]) H := hP
    have hD : va_D A (kflat [wlo t ho (fun j => if j = 0 then (r.2).toInt64 else fo j), (wx8 h0 g0), (wdk t (g0 1) a_desk d_desk)]) := hD
    rw [← e9] at hP hD
    exact kes_i (wf := fun (u : Unit) => kflat [wlo t ho (kO r.1 (r.2) fo), (wx8 h0 g0), (wdk t (g0 1) a_desk d_desk)]) u hx hb hr hlocks hK hP hD hS (by rw [h0c]; rfl) (Nat.le_of_ble_eq_true rfl) (Nat.le_of_ble_eq_true rfl) (kd tdlL_letter_0 16 rfl)
set_option maxHeartbeats 4000000 in
set_option maxRecDepth 100000 in
theorem c_L_setting (l : Launch) (D : va_G) (t : Nat → ClassId) (h0 : Nat) (g0 : Nat → Nat) (a_desk : Nat → Nat) (d_desk : DKT) (ho : Nat) (fo : Nat → Int64) (sz : Nat) (p1 : Int32) (r : Nat × Int32) (hF : F_X8_setting d_desk p1 = some r) (hst : l.stackTraces = false) (hcd : r.1 = 0 ∨ r.1 = 2) : Met l yL_setting (Cond.codeWith yL_setting cL_setting 4 (some .int) [(0, 9, 12, 13)] :: BIG) ({ frames := 7, cells := 1, slots := 6, locals := 110 } : Room) (kPx D (TY t) (kflat [wlo t ho fo, (wx8 h0 g0), (wdk t (g0 1) a_desk d_desk)]) [.ref h0, .int p1, .ref ho] sz) (kQiS D (TY t) (fun (u : Unit) => kflat [wlo t ho (kO r.1 (r.2) fo), (wx8 h0 g0), (wdk t (g0 1) a_desk d_desk)]) (kW 2 r.1) (va_A (kflat [wlo t ho fo, (wx8 h0 g0), (wdk t (g0 1) a_desk d_desk)]) sz)) 1 6 (va_A (kflat [wlo t ho fo, (wx8 h0 g0), (wdk t (g0 1) a_desk d_desk)]) sz) := by
  refine kEh (cc := cL_setting) (maxL := 4) (ret := (some .int)) (hh := [(0, 9, 12, 13)]) (Qx := fun A => kQiS D (TY t) (fun (u : Unit) => kflat [wlo t ho (kO r.1 (r.2) fo), (wx8 h0 g0), (wdk t (g0 1) a_desk d_desk)]) (kW 2 r.1) A) (lv0 := [(0, .ref h0), (1, .int p1), (2, .ref ho)]) RL rfl (by decide) rfl (Nat.le_of_ble_eq_true rfl) rfl ?_
  intro p e s m args below meth c A ls hx hb hml hte hr hlocks hown hts hA hX hK hP hD hS hl
  refine lv_aload_n hx hb (kd tdlL_setting_0 0 rfl) rfl (lv_at hl 2 rfl) ?_
  refine lv_iconst (v := 0) hx hb (kd tdlL_setting_0 1 rfl) (by decide) ?_
  refine lv_aload_n hx hb (kd tdlL_setting_0 2 rfl) rfl (lv_at hl 0 rfl) ?_
  refine lv_iload_n hx hb (kd tdlL_setting_0 3 rfl) rfl (lv_at hl 1 rfl) ?_
  refine kcT_i (S := Unit) (cs := [(wx8 h0 g0), (wdk t (g0 1) a_desk d_desk)]) (is := [1, 2]) (wf := (fun (u : Unit) => [(wx8 h0 g0), (wdk t (g0 1) a_desk d_desk)])) (rest := [.int 0, .ref ho]) hP hD hS hA ndr_2 rfl (fun _ => rfl) (kL_VT (Qx := (fun A => kQc D (TY t) (fun (u : Unit) => kflat [(wx8 h0 g0), (wdk t (g0 1) a_desk d_desk)]) r.1 (r.2) A)) (Xx := (fun A => kXc D (TY t) (fun (u : Unit) => kflat [(wx8 h0 g0), (wdk t (g0 1) a_desk d_desk)]) r.1 A)) (cs := [(wx8 h0 g0), (wdk t (g0 1) a_desk d_desk)]) (is := [1, 2]) (As := [.int p1]) (rest := [.int 0, .ref ho]) ⟨hx, hb, hml, hown, hts⟩ hX hS hA hK hP hD ndr_2 rfl (c_X8_setting l D t h0 g0 a_desk d_desk _ p1 r hF hst) (cwV 1 hts (kgood w_616 w_617 w_618 w_2 w_619) rfl rfl rfl (by decide +kernel) ⟨(Nat.le_of_ble_eq_true rfl), (Nat.le_of_ble_eq_true rfl)⟩) (ci := 7) (q0 := 1) rfl rfl rfl hl.1 rfl (Nat.le_of_ble_eq_true rfl) (kd tdlL_setting_0 4 rfl) ⟨(Nat.le_of_ble_eq_true rfl), (Nat.le_of_ble_eq_true rfl)⟩) (fun E ce q9 u H locs hE hP hD hS hce hcv hcl => ?_) (fun h0c u H locs hP hD hS => ?_)
  · rcases hE with ⟨hc, rfl⟩ | ⟨hc, rfl⟩ | ⟨hc, rfl⟩
    · exact absurd hc (by omega)
    · refine vx_catch (own := RL) (name := xA) hown [] ⟨0, 9, 12, 13⟩ [] (hte.trans rfl) (fun z hz => absurd hz List.not_mem_nil) (by decide) (by decide) (hts _ (List.mem_cons_of_mem _ w_124)) ((hX.2.2.2.2.2.2.2.2.1 xA (by simp)).use rfl) hce hcv hcl ?_
      refine lv_astore_n (lv' := [(3, .ref q9), (0, .ref h0), (1, .int p1), (2, .ref ho)]) hx hb (kd tdlL_setting_0 8 rfl) rfl hl (by decide) rfl (fun ls hl => ?_)
      refine lv_iconst (v := 1) hx hb (kd tdlL_setting_0 9 rfl) (by decide) ?_
      have e9 : kO r.1 (r.2) fo = fo := by rw [hc]; rfl
      have hP : va_P D vwCl (kflat [wlo t ho (fo), (wx8 h0 g0), (wdk t (g0 1) a_desk d_desk)]) H := hP
      have hD : va_D A (kflat [wlo t ho (fo), (wx8 h0 g0), (wdk t (g0 1) a_desk d_desk)]) := hD
      rw [← e9] at hP hD
      exact kes_i (wf := fun (u : Unit) => kflat [wlo t ho (kO r.1 (r.2) fo), (wx8 h0 g0), (wdk t (g0 1) a_desk d_desk)]) u hx hb hr hlocks hK hP hD hS (by rw [hc]; rfl) (Nat.le_of_ble_eq_true rfl) (Nat.le_of_ble_eq_true rfl) (kd tdlL_setting_0 10 rfl)
    · exact absurd hc (by omega)
  · refine lv_i2l (v := (r.2).toInt64) hx hb (kd tdlL_setting_0 5 rfl) rfl ?_
    refine va_last hx hb hK hP hD hS 0 4 rfl rfl vin01 (kd tdlL_setting_0 6 rfl) (fun H locs hP hD hS => ?_)
    refine lv_goto (tgt := 15) hx hb (kd tdlL_setting_0 7 rfl) (by decide) ?_
    refine lv_iconst (v := 0) hx hb (kd tdlL_setting_0 11 rfl) (by decide) ?_
    have e9 : kO r.1 (r.2) fo = (fun j => if j = 0 then (r.2).toInt64 else fo j) := by rw [h0c]; rfl
    have hP : va_P D vwCl (kflat [wlo t ho (fun j => if j = 0 then (r.2).toInt64 else fo j), (wx8 h0 g0), (wdk t (g0 1) a_desk d_desk)]) H := hP
    have hD : va_D A (kflat [wlo t ho (fun j => if j = 0 then (r.2).toInt64 else fo j), (wx8 h0 g0), (wdk t (g0 1) a_desk d_desk)]) := hD
    rw [← e9] at hP hD
    exact kes_i (wf := fun (u : Unit) => kflat [wlo t ho (kO r.1 (r.2) fo), (wx8 h0 g0), (wdk t (g0 1) a_desk d_desk)]) u hx hb hr hlocks hK hP hD hS (by rw [h0c]; rfl) (Nat.le_of_ble_eq_true rfl) (Nat.le_of_ble_eq_true rfl) (kd tdlL_setting_0 12 rfl)
set_option maxHeartbeats 4000000 in
set_option maxRecDepth 100000 in
theorem c_L_backup (l : Launch) (D : va_G) (t : Nat → ClassId) (h0 : Nat) (g0 : Nat → Nat) (a_text : Nat → Nat) (d_text : TXT) (a_desk : Nat → Nat) (d_desk : DKT) (a_stream : Nat → Nat) (d_stream : SMT) (a_plan : Nat → Nat) (d_plan : PLT) (a_past : Nat → Nat) (u_past : UAT) (d_past : PAT) (ho : Nat) (fo : Nat → Int64) (sz : Nat) (p1 : Int32) (r : Nat × Int32 × DKT × SMT × PLT × PAT) (hF : F_X8_backup d_text d_desk d_stream d_plan d_past p1 = some r) (hst : l.stackTraces = false) (hcd : r.1 = 0 ∨ r.1 = 1 ∨ r.1 = 3) : Met l yL_backup (Cond.codeWith yL_backup cL_backup 4 (some .int) [(0, 9, 12, 21), (0, 9, 15, 15)] :: BIG) ({ frames := 7, cells := 11, slots := 1091, locals := 143 } : Room) (kPx D (TY t) (kflat [wlo t ho fo, (wx8 h0 g0), (wtx t (g0 0) a_text d_text), (wdk t (g0 1) a_desk d_desk), (wsm t (g0 5) a_stream d_stream), (wpl t (g0 6) a_plan d_plan), (wpa t (g0 3) a_past u_past d_past)]) [.ref h0, .int p1, .ref ho] sz) (kQiS D (TY t) (fun (u : UAT) => kflat [wlo t ho (kO r.1 (r.2.1) fo), (wx8 h0 g0), (wtx t (g0 0) a_text d_text), (wdk t (g0 1) a_desk r.2.2.1), (wsm t (g0 5) a_stream r.2.2.2.1), (wpl t (g0 6) a_plan r.2.2.2.2.1), (wpa t (g0 3) a_past u r.2.2.2.2.2)]) (kW 1 r.1) (va_A (kflat [wlo t ho fo, (wx8 h0 g0), (wtx t (g0 0) a_text d_text), (wdk t (g0 1) a_desk d_desk), (wsm t (g0 5) a_stream d_stream), (wpl t (g0 6) a_plan d_plan), (wpa t (g0 3) a_past u_past d_past)]) sz)) 11 1091 (va_A (kflat [wlo t ho fo, (wx8 h0 g0), (wtx t (g0 0) a_text d_text), (wdk t (g0 1) a_desk d_desk), (wsm t (g0 5) a_stream d_stream), (wpl t (g0 6) a_plan d_plan), (wpa t (g0 3) a_past u_past d_past)]) sz) := by
  refine kEh (cc := cL_backup) (maxL := 4) (ret := (some .int)) (hh := [(0, 9, 12, 21), (0, 9, 15, 15)]) (Qx := fun A => kQiS D (TY t) (fun (u : UAT) => kflat [wlo t ho (kO r.1 (r.2.1) fo), (wx8 h0 g0), (wtx t (g0 0) a_text d_text), (wdk t (g0 1) a_desk r.2.2.1), (wsm t (g0 5) a_stream r.2.2.2.1), (wpl t (g0 6) a_plan r.2.2.2.2.1), (wpa t (g0 3) a_past u r.2.2.2.2.2)]) (kW 1 r.1) A) (lv0 := [(0, .ref h0), (1, .int p1), (2, .ref ho)]) RL rfl (by decide) rfl (Nat.le_of_ble_eq_true rfl) rfl ?_
  intro p e s m args below meth c A ls hx hb hml hte hr hlocks hown hts hA hX hK hP hD hS hl
  refine lv_aload_n hx hb (kd tdlL_backup_0 0 rfl) rfl (lv_at hl 2 rfl) ?_
  refine lv_iconst (v := 0) hx hb (kd tdlL_backup_0 1 rfl) (by decide) ?_
  refine lv_aload_n hx hb (kd tdlL_backup_0 2 rfl) rfl (lv_at hl 0 rfl) ?_
  refine lv_iload_n hx hb (kd tdlL_backup_0 3 rfl) rfl (lv_at hl 1 rfl) ?_
  refine kcT_i (S := UAT) (cs := [(wx8 h0 g0), (wtx t (g0 0) a_text d_text), (wdk t (g0 1) a_desk d_desk), (wsm t (g0 5) a_stream d_stream), (wpl t (g0 6) a_plan d_plan), (wpa t (g0 3) a_past u_past d_past)]) (is := [1, 2, 3, 4, 5, 6]) (wf := (fun (u : UAT) => [(wx8 h0 g0), (wtx t (g0 0) a_text d_text), (wdk t (g0 1) a_desk r.2.2.1), (wsm t (g0 5) a_stream r.2.2.2.1), (wpl t (g0 6) a_plan r.2.2.2.2.1), (wpa t (g0 3) a_past u r.2.2.2.2.2)])) (rest := [.int 0, .ref ho]) hP hD hS hA ndr_6 rfl (fun _ => rfl) (kL_VT (Qx := (fun A => kQc D (TY t) (fun (u : UAT) => kflat [(wx8 h0 g0), (wtx t (g0 0) a_text d_text), (wdk t (g0 1) a_desk r.2.2.1), (wsm t (g0 5) a_stream r.2.2.2.1), (wpl t (g0 6) a_plan r.2.2.2.2.1), (wpa t (g0 3) a_past u r.2.2.2.2.2)]) r.1 (r.2.1) A)) (Xx := (fun A => kXc D (TY t) (fun (u : UAT) => kflat [(wx8 h0 g0), (wtx t (g0 0) a_text d_text), (wdk t (g0 1) a_desk r.2.2.1), (wsm t (g0 5) a_stream r.2.2.2.1), (wpl t (g0 6) a_plan r.2.2.2.2.1), (wpa t (g0 3) a_past u r.2.2.2.2.2)]) r.1 A)) (cs := [(wx8 h0 g0), (wtx t (g0 0) a_text d_text), (wdk t (g0 1) a_desk d_desk), (wsm t (g0 5) a_stream d_stream), (wpl t (g0 6) a_plan d_plan), (wpa t (g0 3) a_past u_past d_past)]) (is := [1, 2, 3, 4, 5, 6]) (As := [.int p1]) (rest := [.int 0, .ref ho]) ⟨hx, hb, hml, hown, hts⟩ hX hS hA hK hP hD ndr_6 rfl (c_X8_backup l D t h0 g0 a_text d_text a_desk d_desk a_stream d_stream a_plan d_plan a_past u_past d_past _ p1 r hF hst) (cwV 1 hts (kgood w_627 w_628 w_629 w_2 w_630) rfl rfl rfl (by decide +kernel) ⟨(Nat.le_of_ble_eq_true rfl), (Nat.le_of_ble_eq_true rfl)⟩) (ci := 7) (q0 := 1) rfl rfl rfl hl.1 rfl (Nat.le_of_ble_eq_true rfl) (kd tdlL_backup_0 4 rfl) ⟨(Nat.le_of_ble_eq_true rfl), (Nat.le_of_ble_eq_true rfl)⟩) (fun E ce q9 u H locs hE hP hD hS hce hcv hcl => ?_) (fun h0c u H locs hP hD hS => ?_)
  · rcases hE with ⟨hc, rfl⟩ | ⟨hc, rfl⟩ | ⟨hc, rfl⟩
    · refine vx_catch (own := RL) (name := xI) hown [] ⟨0, 9, 12, 21⟩ [⟨0, 9, 15, 15⟩] (hte.trans rfl) (fun z hz => absurd hz List.not_mem_nil) (by decide) (by decide) (hts _ (List.mem_cons_of_mem _ w_192)) ((hX.2.2.2.2.2.2.2.2.1 xI (by simp)).use rfl) hce hcv hcl ?_
      refine lv_astore_n (lv' := [(3, .ref q9), (0, .ref h0), (1, .int p1), (2, .ref ho)]) hx hb (kd tdlL_backup_0 8 rfl) rfl hl (by decide) rfl (fun ls hl => ?_)
      refine lv_iconst (v := 1) hx hb (kd tdlL_backup_0 9 rfl) (by decide) ?_
      have e9 : kO r.1 (r.2.1) fo = fo := by rw [hc]; rfl
      have hP : va_P D vwCl (kflat [wlo t ho (fo), (wx8 h0 g0), (wtx t (g0 0) a_text d_text), (wdk t (g0 1) a_desk r.2.2.1), (wsm t (g0 5) a_stream r.2.2.2.1), (wpl t (g0 6) a_plan r.2.2.2.2.1), (wpa t (g0 3) a_past u r.2.2.2.2.2)]) H := hP
      have hD : va_D A (kflat [wlo t ho (fo), (wx8 h0 g0), (wtx t (g0 0) a_text d_text), (wdk t (g0 1) a_desk r.2.2.1), (wsm t (g0 5) a_stream r.2.2.2.1), (wpl t (g0 6) a_plan r.2.2.2.2.1), (wpa t (g0 3) a_past u r.2.2.2.2.2)]) := hD
      rw [← e9] at hP hD
      exact kes_i (wf := fun (u : UAT) => kflat [wlo t ho (kO r.1 (r.2.1) fo), (wx8 h0 g0), (wtx t (g0 0) a_text d_text), (wdk t (g0 1) a_desk r.2.2.1), (wsm t (g0 5) a_stream r.2.2.2.1), (wpl t (g0 6) a_plan r.2.2.2.2.1), (wpa t (g0 3) a_past u r.2.2.2.2.2)]) u hx hb hr hlocks hK hP hD hS (by rw [hc]; rfl) (Nat.le_of_ble_eq_true rfl) (Nat.le_of_ble_eq_true rfl) (kd tdlL_backup_0 10 rfl)
    · exact absurd hc (by omega)
    · refine vx_catch (own := RL) (name := xS) hown [⟨0, 9, 12, 21⟩] ⟨0, 9, 15, 15⟩ [] (hte.trans rfl) (fun z hz => by cases List.mem_singleton.mp hz; exact Or.inr ⟨by decide, xI, hts _ (List.mem_cons_of_mem _ w_192), hX.2.2.2.2.2.2.2.2.2.1 (xS, xI) (by simp)⟩) (by decide) (by decide) (hts _ (List.mem_cons_of_mem _ w_125)) ((hX.2.2.2.2.2.2.2.2.1 xS (by simp)).use rfl) hce hcv hcl ?_
      refine lv_astore_n (lv' := [(3, .ref q9), (0, .ref h0), (1, .int p1), (2, .ref ho)]) hx hb (kd tdlL_backup_0 11 rfl) rfl hl (by decide) rfl (fun ls hl => ?_)
      refine lv_iconst (v := 2) hx hb (kd tdlL_backup_0 12 rfl) (by decide) ?_
      have e9 : kO r.1 (r.2.1) fo = fo := by rw [hc]; rfl
      have hP : va_P D vwCl (kflat [wlo t ho (fo), (wx8 h0 g0), (wtx t (g0 0) a_text d_text), (wdk t (g0 1) a_desk r.2.2.1), (wsm t (g0 5) a_stream r.2.2.2.1), (wpl t (g0 6) a_plan r.2.2.2.2.1), (wpa t (g0 3) a_past u r.2.2.2.2.2)]) H := hP
      have hD : va_D A (kflat [wlo t ho (fo), (wx8 h0 g0), (wtx t (g0 0) a_text d_text), (wdk t (g0 1) a_desk r.2.2.1), (wsm t (g0 5) a_stream r.2.2.2.1), (wpl t (g0 6) a_plan r.2.2.2.2.1), (wpa t (g0 3) a_past u r.2.2.2.2.2)]) := hD
      rw [← e9] at hP hD
      exact kes_i (wf := fun (u : UAT) => kflat [wlo t ho (kO r.1 (r.2.1) fo), (wx8 h0 g0), (wtx t (g0 0) a_text d_text), (wdk t (g0 1) a_desk r.2.2.1), (wsm t (g0 5) a_stream r.2.2.2.1), (wpl t (g0 6) a_plan r.2.2.2.2.1), (wpa t (g0 3) a_past u r.2.2.2.2.2)]) u hx hb hr hlocks hK hP hD hS (by rw [hc]; rfl) (Nat.le_of_ble_eq_true rfl) (Nat.le_of_ble_eq_true rfl) (kd tdlL_backup_0 13 rfl)
  · refine lv_i2l (v := (r.2.1).toInt64) hx hb (kd tdlL_backup_0 5 rfl) rfl ?_
    refine va_last hx hb hK hP hD hS 0 4 rfl rfl vin01 (kd tdlL_backup_0 6 rfl) (fun H locs hP hD hS => ?_)
    refine lv_goto (tgt := 18) hx hb (kd tdlL_backup_0 7 rfl) (by decide) ?_
    refine lv_iconst (v := 0) hx hb (kd tdlL_backup_0 14 rfl) (by decide) ?_
    have e9 : kO r.1 (r.2.1) fo = (fun j => if j = 0 then (r.2.1).toInt64 else fo j) := by rw [h0c]; rfl
    have hP : va_P D vwCl (kflat [wlo t ho (fun j => if j = 0 then (r.2.1).toInt64 else fo j), (wx8 h0 g0), (wtx t (g0 0) a_text d_text), (wdk t (g0 1) a_desk r.2.2.1), (wsm t (g0 5) a_stream r.2.2.2.1), (wpl t (g0 6) a_plan r.2.2.2.2.1), (wpa t (g0 3) a_past u r.2.2.2.2.2)]) H := hP
    have hD : va_D A (kflat [wlo t ho (fun j => if j = 0 then (r.2.1).toInt64 else fo j), (wx8 h0 g0), (wtx t (g0 0) a_text d_text), (wdk t (g0 1) a_desk r.2.2.1), (wsm t (g0 5) a_stream r.2.2.2.1), (wpl t (g0 6) a_plan r.2.2.2.2.1), (wpa t (g0 3) a_past u r.2.2.2.2.2)]) := hD
    rw [← e9] at hP hD
    exact kes_i (wf := fun (u : UAT) => kflat [wlo t ho (kO r.1 (r.2.1) fo), (wx8 h0 g0), (wtx t (g0 0) a_text d_text), (wdk t (g0 1) a_desk r.2.2.1), (wsm t (g0 5) a_stream r.2.2.2.1), (wpl t (g0 6) a_plan r.2.2.2.2.1), (wpa t (g0 3) a_past u r.2.2.2.2.2)]) u hx hb hr hlocks hK hP hD hS (by rw [h0c]; rfl) (Nat.le_of_ble_eq_true rfl) (Nat.le_of_ble_eq_true rfl) (kd tdlL_backup_0 15 rfl)
set_option maxHeartbeats 4000000 in
set_option maxRecDepth 100000 in
theorem c_L_delete (l : Launch) (D : va_G) (t : Nat → ClassId) (h0 : Nat) (g0 : Nat → Nat) (a_desk : Nat → Nat) (d_desk : DKT) (a_past : Nat → Nat) (u_past : UAT) (d_past : PAT) (ho : Nat) (fo : Nat → Int64) (sz : Nat) (p1 : Int32) (r : Nat × Int32 × DKT × PAT) (hF : F_X8_delete d_desk d_past p1 = some r) (hst : l.stackTraces = false) (hcd : r.1 = 0 ∨ r.1 = 1) : Met l yL_delete (Cond.codeWith yL_delete cL_delete 4 (some .int) [(0, 9, 12, 21)] :: BIG) ({ frames := 7, cells := 11, slots := 1091, locals := 143 } : Room) (kPx D (TY t) (kflat [wlo t ho fo, (wx8 h0 g0), (wdk t (g0 1) a_desk d_desk), (wpa t (g0 3) a_past u_past d_past)]) [.ref h0, .int p1, .ref ho] sz) (kQiS D (TY t) (fun (u : UAT) => kflat [wlo t ho (kO r.1 (r.2.1) fo), (wx8 h0 g0), (wdk t (g0 1) a_desk r.2.2.1), (wpa t (g0 3) a_past u r.2.2.2)]) (kW 1 r.1) (va_A (kflat [wlo t ho fo, (wx8 h0 g0), (wdk t (g0 1) a_desk d_desk), (wpa t (g0 3) a_past u_past d_past)]) sz)) 11 1091 (va_A (kflat [wlo t ho fo, (wx8 h0 g0), (wdk t (g0 1) a_desk d_desk), (wpa t (g0 3) a_past u_past d_past)]) sz) := by
  refine kEh (cc := cL_delete) (maxL := 4) (ret := (some .int)) (hh := [(0, 9, 12, 21)]) (Qx := fun A => kQiS D (TY t) (fun (u : UAT) => kflat [wlo t ho (kO r.1 (r.2.1) fo), (wx8 h0 g0), (wdk t (g0 1) a_desk r.2.2.1), (wpa t (g0 3) a_past u r.2.2.2)]) (kW 1 r.1) A) (lv0 := [(0, .ref h0), (1, .int p1), (2, .ref ho)]) RL rfl (by decide) rfl (Nat.le_of_ble_eq_true rfl) rfl ?_
  intro p e s m args below meth c A ls hx hb hml hte hr hlocks hown hts hA hX hK hP hD hS hl
  refine lv_aload_n hx hb (kd tdlL_delete_0 0 rfl) rfl (lv_at hl 2 rfl) ?_
  refine lv_iconst (v := 0) hx hb (kd tdlL_delete_0 1 rfl) (by decide) ?_
  refine lv_aload_n hx hb (kd tdlL_delete_0 2 rfl) rfl (lv_at hl 0 rfl) ?_
  refine lv_iload_n hx hb (kd tdlL_delete_0 3 rfl) rfl (lv_at hl 1 rfl) ?_
  refine kcT_i (S := UAT) (cs := [(wx8 h0 g0), (wdk t (g0 1) a_desk d_desk), (wpa t (g0 3) a_past u_past d_past)]) (is := [1, 2, 3]) (wf := (fun (u : UAT) => [(wx8 h0 g0), (wdk t (g0 1) a_desk r.2.2.1), (wpa t (g0 3) a_past u r.2.2.2)])) (rest := [.int 0, .ref ho]) hP hD hS hA ndr_3 rfl (fun _ => rfl) (kL_VT (Qx := (fun A => kQc D (TY t) (fun (u : UAT) => kflat [(wx8 h0 g0), (wdk t (g0 1) a_desk r.2.2.1), (wpa t (g0 3) a_past u r.2.2.2)]) r.1 (r.2.1) A)) (Xx := (fun A => kXc D (TY t) (fun (u : UAT) => kflat [(wx8 h0 g0), (wdk t (g0 1) a_desk r.2.2.1), (wpa t (g0 3) a_past u r.2.2.2)]) r.1 A)) (cs := [(wx8 h0 g0), (wdk t (g0 1) a_desk d_desk), (wpa t (g0 3) a_past u_past d_past)]) (is := [1, 2, 3]) (As := [.int p1]) (rest := [.int 0, .ref ho]) ⟨hx, hb, hml, hown, hts⟩ hX hS hA hK hP hD ndr_3 rfl (c_X8_delete l D t h0 g0 a_desk d_desk a_past u_past d_past _ p1 r hF hst) (cwV 1 hts (kgood w_771 w_772 w_773 w_2 w_774) rfl rfl rfl (by decide +kernel) ⟨(Nat.le_of_ble_eq_true rfl), (Nat.le_of_ble_eq_true rfl)⟩) (ci := 7) (q0 := 1) rfl rfl rfl hl.1 rfl (Nat.le_of_ble_eq_true rfl) (kd tdlL_delete_0 4 rfl) ⟨(Nat.le_of_ble_eq_true rfl), (Nat.le_of_ble_eq_true rfl)⟩) (fun E ce q9 u H locs hE hP hD hS hce hcv hcl => ?_) (fun h0c u H locs hP hD hS => ?_)
  · rcases hE with ⟨hc, rfl⟩ | ⟨hc, rfl⟩ | ⟨hc, rfl⟩
    · refine vx_catch (own := RL) (name := xI) hown [] ⟨0, 9, 12, 21⟩ [] (hte.trans rfl) (fun z hz => absurd hz List.not_mem_nil) (by decide) (by decide) (hts _ (List.mem_cons_of_mem _ w_192)) ((hX.2.2.2.2.2.2.2.2.1 xI (by simp)).use rfl) hce hcv hcl ?_
      refine lv_astore_n (lv' := [(3, .ref q9), (0, .ref h0), (1, .int p1), (2, .ref ho)]) hx hb (kd tdlL_delete_0 8 rfl) rfl hl (by decide) rfl (fun ls hl => ?_)
      refine lv_iconst (v := 1) hx hb (kd tdlL_delete_0 9 rfl) (by decide) ?_
      have e9 : kO r.1 (r.2.1) fo = fo := by rw [hc]; rfl
      have hP : va_P D vwCl (kflat [wlo t ho (fo), (wx8 h0 g0), (wdk t (g0 1) a_desk r.2.2.1), (wpa t (g0 3) a_past u r.2.2.2)]) H := hP
      have hD : va_D A (kflat [wlo t ho (fo), (wx8 h0 g0), (wdk t (g0 1) a_desk r.2.2.1), (wpa t (g0 3) a_past u r.2.2.2)]) := hD
      rw [← e9] at hP hD
      exact kes_i (wf := fun (u : UAT) => kflat [wlo t ho (kO r.1 (r.2.1) fo), (wx8 h0 g0), (wdk t (g0 1) a_desk r.2.2.1), (wpa t (g0 3) a_past u r.2.2.2)]) u hx hb hr hlocks hK hP hD hS (by rw [hc]; rfl) (Nat.le_of_ble_eq_true rfl) (Nat.le_of_ble_eq_true rfl) (kd tdlL_delete_0 10 rfl)
    · exact absurd hc (by omega)
    · exact absurd hc (by omega)
  · refine lv_i2l (v := (r.2.1).toInt64) hx hb (kd tdlL_delete_0 5 rfl) rfl ?_
    refine va_last hx hb hK hP hD hS 0 4 rfl rfl vin01 (kd tdlL_delete_0 6 rfl) (fun H locs hP hD hS => ?_)
    refine lv_goto (tgt := 15) hx hb (kd tdlL_delete_0 7 rfl) (by decide) ?_
    refine lv_iconst (v := 0) hx hb (kd tdlL_delete_0 11 rfl) (by decide) ?_
    have e9 : kO r.1 (r.2.1) fo = (fun j => if j = 0 then (r.2.1).toInt64 else fo j) := by rw [h0c]; rfl
    have hP : va_P D vwCl (kflat [wlo t ho (fun j => if j = 0 then (r.2.1).toInt64 else fo j), (wx8 h0 g0), (wdk t (g0 1) a_desk r.2.2.1), (wpa t (g0 3) a_past u r.2.2.2)]) H := hP
    have hD : va_D A (kflat [wlo t ho (fun j => if j = 0 then (r.2.1).toInt64 else fo j), (wx8 h0 g0), (wdk t (g0 1) a_desk r.2.2.1), (wpa t (g0 3) a_past u r.2.2.2)]) := hD
    rw [← e9] at hP hD
    exact kes_i (wf := fun (u : UAT) => kflat [wlo t ho (kO r.1 (r.2.1) fo), (wx8 h0 g0), (wdk t (g0 1) a_desk r.2.2.1), (wpa t (g0 3) a_past u r.2.2.2)]) u hx hb hr hlocks hK hP hD hS (by rw [h0c]; rfl) (Nat.le_of_ble_eq_true rfl) (Nat.le_of_ble_eq_true rfl) (kd tdlL_delete_0 12 rfl)
set_option maxHeartbeats 4000000 in
set_option maxRecDepth 100000 in
theorem c_L_set (l : Launch) (D : va_G) (t : Nat → ClassId) (h0 : Nat) (g0 : Nat → Nat) (a_desk : Nat → Nat) (d_desk : DKT) (a_past : Nat → Nat) (u_past : UAT) (d_past : PAT) (ho : Nat) (fo : Nat → Int64) (sz : Nat) (p1 : Int32) (p2 : Int32) (r : Nat × Int32 × DKT × PAT) (hF : F_X8_set d_desk d_past p1 p2 = some r) (hst : l.stackTraces = false) (hcd : r.1 = 0 ∨ r.1 = 2) : Met l yL_set (Cond.codeWith yL_set cL_set 5 (some .int) [(0, 10, 13, 13)] :: BIG) ({ frames := 7, cells := 11, slots := 1091, locals := 144 } : Room) (kPx D (TY t) (kflat [wlo t ho fo, (wx8 h0 g0), (wdk t (g0 1) a_desk d_desk), (wpa t (g0 3) a_past u_past d_past)]) [.ref h0, .int p1, .int p2, .ref ho] sz) (kQiS D (TY t) (fun (u : UAT) => kflat [wlo t ho (kO r.1 (r.2.1) fo), (wx8 h0 g0), (wdk t (g0 1) a_desk r.2.2.1), (wpa t (g0 3) a_past u r.2.2.2)]) (kW 2 r.1) (va_A (kflat [wlo t ho fo, (wx8 h0 g0), (wdk t (g0 1) a_desk d_desk), (wpa t (g0 3) a_past u_past d_past)]) sz)) 11 1091 (va_A (kflat [wlo t ho fo, (wx8 h0 g0), (wdk t (g0 1) a_desk d_desk), (wpa t (g0 3) a_past u_past d_past)]) sz) := by
  refine kEh (cc := cL_set) (maxL := 5) (ret := (some .int)) (hh := [(0, 10, 13, 13)]) (Qx := fun A => kQiS D (TY t) (fun (u : UAT) => kflat [wlo t ho (kO r.1 (r.2.1) fo), (wx8 h0 g0), (wdk t (g0 1) a_desk r.2.2.1), (wpa t (g0 3) a_past u r.2.2.2)]) (kW 2 r.1) A) (lv0 := [(0, .ref h0), (1, .int p1), (2, .int p2), (3, .ref ho)]) RL rfl (by decide) rfl (Nat.le_of_ble_eq_true rfl) rfl ?_
  intro p e s m args below meth c A ls hx hb hml hte hr hlocks hown hts hA hX hK hP hD hS hl
  refine lv_aload_n hx hb (kd tdlL_set_0 0 rfl) rfl (lv_at hl 3 rfl) ?_
  refine lv_iconst (v := 0) hx hb (kd tdlL_set_0 1 rfl) (by decide) ?_
  refine lv_aload_n hx hb (kd tdlL_set_0 2 rfl) rfl (lv_at hl 0 rfl) ?_
  refine lv_iload_n hx hb (kd tdlL_set_0 3 rfl) rfl (lv_at hl 1 rfl) ?_
  refine lv_iload_n hx hb (kd tdlL_set_0 4 rfl) rfl (lv_at hl 2 rfl) ?_
  refine kcT_i (S := UAT) (cs := [(wx8 h0 g0), (wdk t (g0 1) a_desk d_desk), (wpa t (g0 3) a_past u_past d_past)]) (is := [1, 2, 3]) (wf := (fun (u : UAT) => [(wx8 h0 g0), (wdk t (g0 1) a_desk r.2.2.1), (wpa t (g0 3) a_past u r.2.2.2)])) (rest := [.int 0, .ref ho]) hP hD hS hA ndr_3 rfl (fun _ => rfl) (kL_VT (Qx := (fun A => kQc D (TY t) (fun (u : UAT) => kflat [(wx8 h0 g0), (wdk t (g0 1) a_desk r.2.2.1), (wpa t (g0 3) a_past u r.2.2.2)]) r.1 (r.2.1) A)) (Xx := (fun A => kXc D (TY t) (fun (u : UAT) => kflat [(wx8 h0 g0), (wdk t (g0 1) a_desk r.2.2.1), (wpa t (g0 3) a_past u r.2.2.2)]) r.1 A)) (cs := [(wx8 h0 g0), (wdk t (g0 1) a_desk d_desk), (wpa t (g0 3) a_past u_past d_past)]) (is := [1, 2, 3]) (As := [.int p1, .int p2]) (rest := [.int 0, .ref ho]) ⟨hx, hb, hml, hown, hts⟩ hX hS hA hK hP hD ndr_3 rfl (c_X8_set l D t h0 g0 a_desk d_desk a_past u_past d_past _ p1 p2 r hF hst) (cwV 2 hts (kgood w_852 w_853 w_854 w_2 w_855) rfl rfl rfl (by decide +kernel) ⟨(Nat.le_of_ble_eq_true rfl), (Nat.le_of_ble_eq_true rfl)⟩) (ci := 7) (q0 := 1) rfl rfl rfl hl.1 rfl (Nat.le_of_ble_eq_true rfl) (kd tdlL_set_0 5 rfl) ⟨(Nat.le_of_ble_eq_true rfl), (Nat.le_of_ble_eq_true rfl)⟩) (fun E ce q9 u H locs hE hP hD hS hce hcv hcl => ?_) (fun h0c u H locs hP hD hS => ?_)
  · rcases hE with ⟨hc, rfl⟩ | ⟨hc, rfl⟩ | ⟨hc, rfl⟩
    · exact absurd hc (by omega)
    · refine vx_catch (own := RL) (name := xA) hown [] ⟨0, 10, 13, 13⟩ [] (hte.trans rfl) (fun z hz => absurd hz List.not_mem_nil) (by decide) (by decide) (hts _ (List.mem_cons_of_mem _ w_124)) ((hX.2.2.2.2.2.2.2.2.1 xA (by simp)).use rfl) hce hcv hcl ?_
      refine lv_astore (lv' := [(4, .ref q9), (0, .ref h0), (1, .int p1), (2, .int p2), (3, .ref ho)]) hx hb (kd tdlL_set_0 9 rfl) hl (by decide) rfl (fun ls hl => ?_)
      refine lv_iconst (v := 1) hx hb (kd tdlL_set_0 10 rfl) (by decide) ?_
      have e9 : kO r.1 (r.2.1) fo = fo := by rw [hc]; rfl
      have hP : va_P D vwCl (kflat [wlo t ho (fo), (wx8 h0 g0), (wdk t (g0 1) a_desk r.2.2.1), (wpa t (g0 3) a_past u r.2.2.2)]) H := hP
      have hD : va_D A (kflat [wlo t ho (fo), (wx8 h0 g0), (wdk t (g0 1) a_desk r.2.2.1), (wpa t (g0 3) a_past u r.2.2.2)]) := hD
      rw [← e9] at hP hD
      exact kes_i (wf := fun (u : UAT) => kflat [wlo t ho (kO r.1 (r.2.1) fo), (wx8 h0 g0), (wdk t (g0 1) a_desk r.2.2.1), (wpa t (g0 3) a_past u r.2.2.2)]) u hx hb hr hlocks hK hP hD hS (by rw [hc]; rfl) (Nat.le_of_ble_eq_true rfl) (Nat.le_of_ble_eq_true rfl) (kd tdlL_set_0 11 rfl)
    · exact absurd hc (by omega)
  · refine lv_i2l (v := (r.2.1).toInt64) hx hb (kd tdlL_set_0 6 rfl) rfl ?_
    refine va_last hx hb hK hP hD hS 0 4 rfl rfl vin01 (kd tdlL_set_0 7 rfl) (fun H locs hP hD hS => ?_)
    refine lv_goto (tgt := 17) hx hb (kd tdlL_set_0 8 rfl) (by decide) ?_
    refine lv_iconst (v := 0) hx hb (kd tdlL_set_0 12 rfl) (by decide) ?_
    have e9 : kO r.1 (r.2.1) fo = (fun j => if j = 0 then (r.2.1).toInt64 else fo j) := by rw [h0c]; rfl
    have hP : va_P D vwCl (kflat [wlo t ho (fun j => if j = 0 then (r.2.1).toInt64 else fo j), (wx8 h0 g0), (wdk t (g0 1) a_desk r.2.2.1), (wpa t (g0 3) a_past u r.2.2.2)]) H := hP
    have hD : va_D A (kflat [wlo t ho (fun j => if j = 0 then (r.2.1).toInt64 else fo j), (wx8 h0 g0), (wdk t (g0 1) a_desk r.2.2.1), (wpa t (g0 3) a_past u r.2.2.2)]) := hD
    rw [← e9] at hP hD
    exact kes_i (wf := fun (u : UAT) => kflat [wlo t ho (kO r.1 (r.2.1) fo), (wx8 h0 g0), (wdk t (g0 1) a_desk r.2.2.1), (wpa t (g0 3) a_past u r.2.2.2)]) u hx hb hr hlocks hK hP hD hS (by rw [h0c]; rfl) (Nat.le_of_ble_eq_true rfl) (Nat.le_of_ble_eq_true rfl) (kd tdlL_set_0 13 rfl)
set_option maxHeartbeats 4000000 in
set_option maxRecDepth 100000 in
theorem c_L_undo (l : Launch) (D : va_G) (t : Nat → ClassId) (h0 : Nat) (g0 : Nat → Nat) (a_desk : Nat → Nat) (d_desk : DKT) (a_past : Nat → Nat) (u_past : UAT) (d_past : PAT) (ho : Nat) (fo : Nat → Int64) (sz : Nat) (r : Nat × Int32 × DKT × PAT) (hF : F_X8_undo d_desk d_past = some r) (hst : l.stackTraces = false) (hcd : r.1 = 0 ∨ r.1 = 3) : Met l yL_undo (Cond.codeWith yL_undo cL_undo 3 (some .int) [(0, 8, 11, 15)] :: BIG) ({ frames := 7, cells := 1, slots := 6, locals := 109 } : Room) (kPx D (TY t) (kflat [wlo t ho fo, (wx8 h0 g0), (wdk t (g0 1) a_desk d_desk), (wpa t (g0 3) a_past u_past d_past)]) [.ref h0, .ref ho] sz) (kQiS D (TY t) (fun (u : UAT) => kflat [wlo t ho (kO r.1 (r.2.1) fo), (wx8 h0 g0), (wdk t (g0 1) a_desk r.2.2.1), (wpa t (g0 3) a_past u r.2.2.2)]) (kW 3 r.1) (va_A (kflat [wlo t ho fo, (wx8 h0 g0), (wdk t (g0 1) a_desk d_desk), (wpa t (g0 3) a_past u_past d_past)]) sz)) 1 6 (va_A (kflat [wlo t ho fo, (wx8 h0 g0), (wdk t (g0 1) a_desk d_desk), (wpa t (g0 3) a_past u_past d_past)]) sz) := by
  refine kEh (cc := cL_undo) (maxL := 3) (ret := (some .int)) (hh := [(0, 8, 11, 15)]) (Qx := fun A => kQiS D (TY t) (fun (u : UAT) => kflat [wlo t ho (kO r.1 (r.2.1) fo), (wx8 h0 g0), (wdk t (g0 1) a_desk r.2.2.1), (wpa t (g0 3) a_past u r.2.2.2)]) (kW 3 r.1) A) (lv0 := [(0, .ref h0), (1, .ref ho)]) RL rfl (by decide) rfl (Nat.le_of_ble_eq_true rfl) rfl ?_
  intro p e s m args below meth c A ls hx hb hml hte hr hlocks hown hts hA hX hK hP hD hS hl
  refine lv_aload_n hx hb (kd tdlL_undo_0 0 rfl) rfl (lv_at hl 1 rfl) ?_
  refine lv_iconst (v := 0) hx hb (kd tdlL_undo_0 1 rfl) (by decide) ?_
  refine lv_aload_n hx hb (kd tdlL_undo_0 2 rfl) rfl (lv_at hl 0 rfl) ?_
  refine kcT_i (S := UAT) (cs := [(wx8 h0 g0), (wdk t (g0 1) a_desk d_desk), (wpa t (g0 3) a_past u_past d_past)]) (is := [1, 2, 3]) (wf := (fun (u : UAT) => [(wx8 h0 g0), (wdk t (g0 1) a_desk r.2.2.1), (wpa t (g0 3) a_past u r.2.2.2)])) (rest := [.int 0, .ref ho]) hP hD hS hA ndr_3 rfl (fun _ => rfl) (kL_VT (Qx := (fun A => kQc D (TY t) (fun (u : UAT) => kflat [(wx8 h0 g0), (wdk t (g0 1) a_desk r.2.2.1), (wpa t (g0 3) a_past u r.2.2.2)]) r.1 (r.2.1) A)) (Xx := (fun A => kXc D (TY t) (fun (u : UAT) => kflat [(wx8 h0 g0), (wdk t (g0 1) a_desk r.2.2.1), (wpa t (g0 3) a_past u r.2.2.2)]) r.1 A)) (cs := [(wx8 h0 g0), (wdk t (g0 1) a_desk d_desk), (wpa t (g0 3) a_past u_past d_past)]) (is := [1, 2, 3]) (As := []) (rest := [.int 0, .ref ho]) ⟨hx, hb, hml, hown, hts⟩ hX hS hA hK hP hD ndr_3 rfl (c_X8_undo l D t h0 g0 a_desk d_desk a_past u_past d_past _ r hF hst) (cwV 0 hts (kgood w_876 w_877 w_878 w_2 w_879) rfl rfl rfl (by decide +kernel) ⟨(Nat.le_of_ble_eq_true rfl), (Nat.le_of_ble_eq_true rfl)⟩) (ci := 7) (q0 := 1) rfl rfl rfl hl.1 rfl (Nat.le_of_ble_eq_true rfl) (kd tdlL_undo_0 3 rfl) ⟨(Nat.le_of_ble_eq_true rfl), (Nat.le_of_ble_eq_true rfl)⟩) (fun E ce q9 u H locs hE hP hD hS hce hcv hcl => ?_) (fun h0c u H locs hP hD hS => ?_)
  · rcases hE with ⟨hc, rfl⟩ | ⟨hc, rfl⟩ | ⟨hc, rfl⟩
    · exact absurd hc (by omega)
    · exact absurd hc (by omega)
    · refine vx_catch (own := RL) (name := xS) hown [] ⟨0, 8, 11, 15⟩ [] (hte.trans rfl) (fun z hz => absurd hz List.not_mem_nil) (by decide) (by decide) (hts _ (List.mem_cons_of_mem _ w_125)) ((hX.2.2.2.2.2.2.2.2.1 xS (by simp)).use rfl) hce hcv hcl ?_
      refine lv_astore_n (lv' := [(2, .ref q9), (0, .ref h0), (1, .ref ho)]) hx hb (kd tdlL_undo_0 7 rfl) rfl hl (by decide) rfl (fun ls hl => ?_)
      refine lv_iconst (v := 1) hx hb (kd tdlL_undo_0 8 rfl) (by decide) ?_
      have e9 : kO r.1 (r.2.1) fo = fo := by rw [hc]; rfl
      have hP : va_P D vwCl (kflat [wlo t ho (fo), (wx8 h0 g0), (wdk t (g0 1) a_desk r.2.2.1), (wpa t (g0 3) a_past u r.2.2.2)]) H := hP
      have hD : va_D A (kflat [wlo t ho (fo), (wx8 h0 g0), (wdk t (g0 1) a_desk r.2.2.1), (wpa t (g0 3) a_past u r.2.2.2)]) := hD
      rw [← e9] at hP hD
      exact kes_i (wf := fun (u : UAT) => kflat [wlo t ho (kO r.1 (r.2.1) fo), (wx8 h0 g0), (wdk t (g0 1) a_desk r.2.2.1), (wpa t (g0 3) a_past u r.2.2.2)]) u hx hb hr hlocks hK hP hD hS (by rw [hc]; rfl) (Nat.le_of_ble_eq_true rfl) (Nat.le_of_ble_eq_true rfl) (kd tdlL_undo_0 9 rfl)
  · refine lv_i2l (v := (r.2.1).toInt64) hx hb (kd tdlL_undo_0 4 rfl) rfl ?_
    refine va_last hx hb hK hP hD hS 0 4 rfl rfl vin01 (kd tdlL_undo_0 5 rfl) (fun H locs hP hD hS => ?_)
    refine lv_goto (tgt := 14) hx hb (kd tdlL_undo_0 6 rfl) (by decide) ?_
    refine lv_iconst (v := 0) hx hb (kd tdlL_undo_0 10 rfl) (by decide) ?_
    have e9 : kO r.1 (r.2.1) fo = (fun j => if j = 0 then (r.2.1).toInt64 else fo j) := by rw [h0c]; rfl
    have hP : va_P D vwCl (kflat [wlo t ho (fun j => if j = 0 then (r.2.1).toInt64 else fo j), (wx8 h0 g0), (wdk t (g0 1) a_desk r.2.2.1), (wpa t (g0 3) a_past u r.2.2.2)]) H := hP
    have hD : va_D A (kflat [wlo t ho (fun j => if j = 0 then (r.2.1).toInt64 else fo j), (wx8 h0 g0), (wdk t (g0 1) a_desk r.2.2.1), (wpa t (g0 3) a_past u r.2.2.2)]) := hD
    rw [← e9] at hP hD
    exact kes_i (wf := fun (u : UAT) => kflat [wlo t ho (kO r.1 (r.2.1) fo), (wx8 h0 g0), (wdk t (g0 1) a_desk r.2.2.1), (wpa t (g0 3) a_past u r.2.2.2)]) u hx hb hr hlocks hK hP hD hS (by rw [h0c]; rfl) (Nat.le_of_ble_eq_true rfl) (Nat.le_of_ble_eq_true rfl) (kd tdlL_undo_0 11 rfl)
set_option maxHeartbeats 4000000 in
set_option maxRecDepth 100000 in
theorem c_L_ifDeleted (l : Launch) (D : va_G) (t : Nat → ClassId) (h0 : Nat) (g0 : Nat → Nat) (a_desk : Nat → Nat) (d_desk : DKT) (ho : Nat) (fo : Nat → Int64) (sz : Nat) (p1 : Int32) (r : Nat × Int32) (hF : F_X8_ifDeleted d_desk p1 = some r) (hst : l.stackTraces = false) (hcd : r.1 = 0 ∨ r.1 = 1) : Met l yL_ifDeleted (Cond.codeWith yL_ifDeleted cL_ifDeleted 4 (some .int) [(0, 9, 12, 21)] :: BIG) ({ frames := 7, cells := 1, slots := 6, locals := 133 } : Room) (kPx D (TY t) (kflat [wlo t ho fo, (wx8 h0 g0), (wdk t (g0 1) a_desk d_desk)]) [.ref h0, .int p1, .ref ho] sz) (kQiS D (TY t) (fun (u : Unit) => kflat [wlo t ho (kO r.1 (r.2) fo), (wx8 h0 g0), (wdk t (g0 1) a_desk d_desk)]) (kW 1 r.1) (va_A (kflat [wlo t ho fo, (wx8 h0 g0), (wdk t (g0 1) a_desk d_desk)]) sz)) 1 6 (va_A (kflat [wlo t ho fo, (wx8 h0 g0), (wdk t (g0 1) a_desk d_desk)]) sz) := by
  refine kEh (cc := cL_ifDeleted) (maxL := 4) (ret := (some .int)) (hh := [(0, 9, 12, 21)]) (Qx := fun A => kQiS D (TY t) (fun (u : Unit) => kflat [wlo t ho (kO r.1 (r.2) fo), (wx8 h0 g0), (wdk t (g0 1) a_desk d_desk)]) (kW 1 r.1) A) (lv0 := [(0, .ref h0), (1, .int p1), (2, .ref ho)]) RL rfl (by decide) rfl (Nat.le_of_ble_eq_true rfl) rfl ?_
  intro p e s m args below meth c A ls hx hb hml hte hr hlocks hown hts hA hX hK hP hD hS hl
  refine lv_aload_n hx hb (kd tdlL_ifDeleted_0 0 rfl) rfl (lv_at hl 2 rfl) ?_
  refine lv_iconst (v := 0) hx hb (kd tdlL_ifDeleted_0 1 rfl) (by decide) ?_
  refine lv_aload_n hx hb (kd tdlL_ifDeleted_0 2 rfl) rfl (lv_at hl 0 rfl) ?_
  refine lv_iload_n hx hb (kd tdlL_ifDeleted_0 3 rfl) rfl (lv_at hl 1 rfl) ?_
  refine kcT_i (S := Unit) (cs := [(wx8 h0 g0), (wdk t (g0 1) a_desk d_desk)]) (is := [1, 2]) (wf := (fun (u : Unit) => [(wx8 h0 g0), (wdk t (g0 1) a_desk d_desk)])) (rest := [.int 0, .ref ho]) hP hD hS hA ndr_2 rfl (fun _ => rfl) (kL_VT (Qx := (fun A => kQc D (TY t) (fun (u : Unit) => kflat [(wx8 h0 g0), (wdk t (g0 1) a_desk d_desk)]) r.1 (r.2) A)) (Xx := (fun A => kXc D (TY t) (fun (u : Unit) => kflat [(wx8 h0 g0), (wdk t (g0 1) a_desk d_desk)]) r.1 A)) (cs := [(wx8 h0 g0), (wdk t (g0 1) a_desk d_desk)]) (is := [1, 2]) (As := [.int p1]) (rest := [.int 0, .ref ho]) ⟨hx, hb, hml, hown, hts⟩ hX hS hA hK hP hD ndr_2 rfl (c_X8_ifDeleted l D t h0 g0 a_desk d_desk _ p1 r hF hst) (cwV 1 hts (kgood w_892 w_893 w_894 w_2 w_895) rfl rfl rfl (by decide +kernel) ⟨(Nat.le_of_ble_eq_true rfl), (Nat.le_of_ble_eq_true rfl)⟩) (ci := 7) (q0 := 1) rfl rfl rfl hl.1 rfl (Nat.le_of_ble_eq_true rfl) (kd tdlL_ifDeleted_0 4 rfl) ⟨(Nat.le_of_ble_eq_true rfl), (Nat.le_of_ble_eq_true rfl)⟩) (fun E ce q9 u H locs hE hP hD hS hce hcv hcl => ?_) (fun h0c u H locs hP hD hS => ?_)
  · rcases hE with ⟨hc, rfl⟩ | ⟨hc, rfl⟩ | ⟨hc, rfl⟩
    · refine vx_catch (own := RL) (name := xI) hown [] ⟨0, 9, 12, 21⟩ [] (hte.trans rfl) (fun z hz => absurd hz List.not_mem_nil) (by decide) (by decide) (hts _ (List.mem_cons_of_mem _ w_192)) ((hX.2.2.2.2.2.2.2.2.1 xI (by simp)).use rfl) hce hcv hcl ?_
      refine lv_astore_n (lv' := [(3, .ref q9), (0, .ref h0), (1, .int p1), (2, .ref ho)]) hx hb (kd tdlL_ifDeleted_0 8 rfl) rfl hl (by decide) rfl (fun ls hl => ?_)
      refine lv_iconst (v := 1) hx hb (kd tdlL_ifDeleted_0 9 rfl) (by decide) ?_
      have e9 : kO r.1 (r.2) fo = fo := by rw [hc]; rfl
      have hP : va_P D vwCl (kflat [wlo t ho (fo), (wx8 h0 g0), (wdk t (g0 1) a_desk d_desk)]) H := hP
      have hD : va_D A (kflat [wlo t ho (fo), (wx8 h0 g0), (wdk t (g0 1) a_desk d_desk)]) := hD
      rw [← e9] at hP hD
      exact kes_i (wf := fun (u : Unit) => kflat [wlo t ho (kO r.1 (r.2) fo), (wx8 h0 g0), (wdk t (g0 1) a_desk d_desk)]) u hx hb hr hlocks hK hP hD hS (by rw [hc]; rfl) (Nat.le_of_ble_eq_true rfl) (Nat.le_of_ble_eq_true rfl) (kd tdlL_ifDeleted_0 10 rfl)
    · exact absurd hc (by omega)
    · exact absurd hc (by omega)
  · refine lv_i2l (v := (r.2).toInt64) hx hb (kd tdlL_ifDeleted_0 5 rfl) rfl ?_
    refine va_last hx hb hK hP hD hS 0 4 rfl rfl vin01 (kd tdlL_ifDeleted_0 6 rfl) (fun H locs hP hD hS => ?_)
    refine lv_goto (tgt := 15) hx hb (kd tdlL_ifDeleted_0 7 rfl) (by decide) ?_
    refine lv_iconst (v := 0) hx hb (kd tdlL_ifDeleted_0 11 rfl) (by decide) ?_
    have e9 : kO r.1 (r.2) fo = (fun j => if j = 0 then (r.2).toInt64 else fo j) := by rw [h0c]; rfl
    have hP : va_P D vwCl (kflat [wlo t ho (fun j => if j = 0 then (r.2).toInt64 else fo j), (wx8 h0 g0), (wdk t (g0 1) a_desk d_desk)]) H := hP
    have hD : va_D A (kflat [wlo t ho (fun j => if j = 0 then (r.2).toInt64 else fo j), (wx8 h0 g0), (wdk t (g0 1) a_desk d_desk)]) := hD
    rw [← e9] at hP hD
    exact kes_i (wf := fun (u : Unit) => kflat [wlo t ho (kO r.1 (r.2) fo), (wx8 h0 g0), (wdk t (g0 1) a_desk d_desk)]) u hx hb hr hlocks hK hP hD hS (by rw [h0c]; rfl) (Nat.le_of_ble_eq_true rfl) (Nat.le_of_ble_eq_true rfl) (kd tdlL_ifDeleted_0 12 rfl)
set_option maxHeartbeats 4000000 in
set_option maxRecDepth 100000 in
theorem c_L_ifCarried (l : Launch) (D : va_G) (t : Nat → ClassId) (h0 : Nat) (g0 : Nat → Nat) (a_desk : Nat → Nat) (d_desk : DKT) (a_trial : Nat → Nat) (d_trial : DKT) (a_store : Nat → Nat) (d_store : SOT) (a_carrier : Nat → Nat) (d_carrier : CRT) (ho : Nat) (fo : Nat → Int64) (sz : Nat) (p1 : Int32) (r : Nat × Int32 × DKT × SOT × CRT) (hF : F_X8_ifCarried d_desk d_trial d_store d_carrier p1 = some r) (hst : l.stackTraces = false) (hcd : r.1 = 0 ∨ r.1 = 2) : Met l yL_ifCarried (Cond.codeWith yL_ifCarried cL_ifCarried 4 (some .int) [(0, 9, 12, 13)] :: BIG) ({ frames := 7, cells := 1, slots := 6, locals := 153 } : Room) (kPx D (TY t) (kflat [wlo t ho fo, (wx8 h0 g0), (wdk t (g0 1) a_desk d_desk), (wdk t (g0 2) a_trial d_trial), (wso t (g0 7) a_store d_store), (wcr t (g0 8) a_carrier d_carrier)]) [.ref h0, .int p1, .ref ho] sz) (kQiS D (TY t) (fun (u : Unit) => kflat [wlo t ho (kO r.1 (r.2.1) fo), (wx8 h0 g0), (wdk t (g0 1) a_desk d_desk), (wdk t (g0 2) a_trial r.2.2.1), (wso t (g0 7) a_store r.2.2.2.1), (wcr t (g0 8) a_carrier r.2.2.2.2)]) (kW 2 r.1) (va_A (kflat [wlo t ho fo, (wx8 h0 g0), (wdk t (g0 1) a_desk d_desk), (wdk t (g0 2) a_trial d_trial), (wso t (g0 7) a_store d_store), (wcr t (g0 8) a_carrier d_carrier)]) sz)) 1 6 (va_A (kflat [wlo t ho fo, (wx8 h0 g0), (wdk t (g0 1) a_desk d_desk), (wdk t (g0 2) a_trial d_trial), (wso t (g0 7) a_store d_store), (wcr t (g0 8) a_carrier d_carrier)]) sz) := by
  refine kEh (cc := cL_ifCarried) (maxL := 4) (ret := (some .int)) (hh := [(0, 9, 12, 13)]) (Qx := fun A => kQiS D (TY t) (fun (u : Unit) => kflat [wlo t ho (kO r.1 (r.2.1) fo), (wx8 h0 g0), (wdk t (g0 1) a_desk d_desk), (wdk t (g0 2) a_trial r.2.2.1), (wso t (g0 7) a_store r.2.2.2.1), (wcr t (g0 8) a_carrier r.2.2.2.2)]) (kW 2 r.1) A) (lv0 := [(0, .ref h0), (1, .int p1), (2, .ref ho)]) RL rfl (by decide) rfl (Nat.le_of_ble_eq_true rfl) rfl ?_
  intro p e s m args below meth c A ls hx hb hml hte hr hlocks hown hts hA hX hK hP hD hS hl
  refine lv_aload_n hx hb (kd tdlL_ifCarried_0 0 rfl) rfl (lv_at hl 2 rfl) ?_
  refine lv_iconst (v := 0) hx hb (kd tdlL_ifCarried_0 1 rfl) (by decide) ?_
  refine lv_aload_n hx hb (kd tdlL_ifCarried_0 2 rfl) rfl (lv_at hl 0 rfl) ?_
  refine lv_iload_n hx hb (kd tdlL_ifCarried_0 3 rfl) rfl (lv_at hl 1 rfl) ?_
  refine kcT_i (S := Unit) (cs := [(wx8 h0 g0), (wdk t (g0 1) a_desk d_desk), (wdk t (g0 2) a_trial d_trial), (wso t (g0 7) a_store d_store), (wcr t (g0 8) a_carrier d_carrier)]) (is := [1, 2, 3, 4, 5]) (wf := (fun (u : Unit) => [(wx8 h0 g0), (wdk t (g0 1) a_desk d_desk), (wdk t (g0 2) a_trial r.2.2.1), (wso t (g0 7) a_store r.2.2.2.1), (wcr t (g0 8) a_carrier r.2.2.2.2)])) (rest := [.int 0, .ref ho]) hP hD hS hA ndr_5 rfl (fun _ => rfl) (kL_VT (Qx := (fun A => kQc D (TY t) (fun (u : Unit) => kflat [(wx8 h0 g0), (wdk t (g0 1) a_desk d_desk), (wdk t (g0 2) a_trial r.2.2.1), (wso t (g0 7) a_store r.2.2.2.1), (wcr t (g0 8) a_carrier r.2.2.2.2)]) r.1 (r.2.1) A)) (Xx := (fun A => kXc D (TY t) (fun (u : Unit) => kflat [(wx8 h0 g0), (wdk t (g0 1) a_desk d_desk), (wdk t (g0 2) a_trial r.2.2.1), (wso t (g0 7) a_store r.2.2.2.1), (wcr t (g0 8) a_carrier r.2.2.2.2)]) r.1 A)) (cs := [(wx8 h0 g0), (wdk t (g0 1) a_desk d_desk), (wdk t (g0 2) a_trial d_trial), (wso t (g0 7) a_store d_store), (wcr t (g0 8) a_carrier d_carrier)]) (is := [1, 2, 3, 4, 5]) (As := [.int p1]) (rest := [.int 0, .ref ho]) ⟨hx, hb, hml, hown, hts⟩ hX hS hA hK hP hD ndr_5 rfl (c_X8_ifCarried l D t h0 g0 a_desk d_desk a_trial d_trial a_store d_store a_carrier d_carrier _ p1 r hF hst) (cwV 1 hts (kgood w_911 w_912 w_913 w_2 w_914) rfl rfl rfl (by decide +kernel) ⟨(Nat.le_of_ble_eq_true rfl), (Nat.le_of_ble_eq_true rfl)⟩) (ci := 7) (q0 := 1) rfl rfl rfl hl.1 rfl (Nat.le_of_ble_eq_true rfl) (kd tdlL_ifCarried_0 4 rfl) ⟨(Nat.le_of_ble_eq_true rfl), (Nat.le_of_ble_eq_true rfl)⟩) (fun E ce q9 u H locs hE hP hD hS hce hcv hcl => ?_) (fun h0c u H locs hP hD hS => ?_)
  · rcases hE with ⟨hc, rfl⟩ | ⟨hc, rfl⟩ | ⟨hc, rfl⟩
    · exact absurd hc (by omega)
    · refine vx_catch (own := RL) (name := xA) hown [] ⟨0, 9, 12, 13⟩ [] (hte.trans rfl) (fun z hz => absurd hz List.not_mem_nil) (by decide) (by decide) (hts _ (List.mem_cons_of_mem _ w_124)) ((hX.2.2.2.2.2.2.2.2.1 xA (by simp)).use rfl) hce hcv hcl ?_
      refine lv_astore_n (lv' := [(3, .ref q9), (0, .ref h0), (1, .int p1), (2, .ref ho)]) hx hb (kd tdlL_ifCarried_0 8 rfl) rfl hl (by decide) rfl (fun ls hl => ?_)
      refine lv_iconst (v := 1) hx hb (kd tdlL_ifCarried_0 9 rfl) (by decide) ?_
      have e9 : kO r.1 (r.2.1) fo = fo := by rw [hc]; rfl
      have hP : va_P D vwCl (kflat [wlo t ho (fo), (wx8 h0 g0), (wdk t (g0 1) a_desk d_desk), (wdk t (g0 2) a_trial r.2.2.1), (wso t (g0 7) a_store r.2.2.2.1), (wcr t (g0 8) a_carrier r.2.2.2.2)]) H := hP
      have hD : va_D A (kflat [wlo t ho (fo), (wx8 h0 g0), (wdk t (g0 1) a_desk d_desk), (wdk t (g0 2) a_trial r.2.2.1), (wso t (g0 7) a_store r.2.2.2.1), (wcr t (g0 8) a_carrier r.2.2.2.2)]) := hD
      rw [← e9] at hP hD
      exact kes_i (wf := fun (u : Unit) => kflat [wlo t ho (kO r.1 (r.2.1) fo), (wx8 h0 g0), (wdk t (g0 1) a_desk d_desk), (wdk t (g0 2) a_trial r.2.2.1), (wso t (g0 7) a_store r.2.2.2.1), (wcr t (g0 8) a_carrier r.2.2.2.2)]) u hx hb hr hlocks hK hP hD hS (by rw [hc]; rfl) (Nat.le_of_ble_eq_true rfl) (Nat.le_of_ble_eq_true rfl) (kd tdlL_ifCarried_0 10 rfl)
    · exact absurd hc (by omega)
  · refine lv_i2l (v := (r.2.1).toInt64) hx hb (kd tdlL_ifCarried_0 5 rfl) rfl ?_
    refine va_last hx hb hK hP hD hS 0 4 rfl rfl vin01 (kd tdlL_ifCarried_0 6 rfl) (fun H locs hP hD hS => ?_)
    refine lv_goto (tgt := 15) hx hb (kd tdlL_ifCarried_0 7 rfl) (by decide) ?_
    refine lv_iconst (v := 0) hx hb (kd tdlL_ifCarried_0 11 rfl) (by decide) ?_
    have e9 : kO r.1 (r.2.1) fo = (fun j => if j = 0 then (r.2.1).toInt64 else fo j) := by rw [h0c]; rfl
    have hP : va_P D vwCl (kflat [wlo t ho (fun j => if j = 0 then (r.2.1).toInt64 else fo j), (wx8 h0 g0), (wdk t (g0 1) a_desk d_desk), (wdk t (g0 2) a_trial r.2.2.1), (wso t (g0 7) a_store r.2.2.2.1), (wcr t (g0 8) a_carrier r.2.2.2.2)]) H := hP
    have hD : va_D A (kflat [wlo t ho (fun j => if j = 0 then (r.2.1).toInt64 else fo j), (wx8 h0 g0), (wdk t (g0 1) a_desk d_desk), (wdk t (g0 2) a_trial r.2.2.1), (wso t (g0 7) a_store r.2.2.2.1), (wcr t (g0 8) a_carrier r.2.2.2.2)]) := hD
    rw [← e9] at hP hD
    exact kes_i (wf := fun (u : Unit) => kflat [wlo t ho (kO r.1 (r.2.1) fo), (wx8 h0 g0), (wdk t (g0 1) a_desk d_desk), (wdk t (g0 2) a_trial r.2.2.1), (wso t (g0 7) a_store r.2.2.2.1), (wcr t (g0 8) a_carrier r.2.2.2.2)]) u hx hb hr hlocks hK hP hD hS (by rw [h0c]; rfl) (Nat.le_of_ble_eq_true rfl) (Nat.le_of_ble_eq_true rfl) (kd tdlL_ifCarried_0 12 rfl)
set_option maxHeartbeats 4000000 in
set_option maxRecDepth 100000 in
theorem c_L_wouldPut (l : Launch) (D : va_G) (t : Nat → ClassId) (h0 : Nat) (g0 : Nat → Nat) (a_text : Nat → Nat) (d_text : TXT) (a_desk : Nat → Nat) (d_desk : DKT) (a_stream : Nat → Nat) (d_stream : SMT) (a_plan : Nat → Nat) (d_plan : PLT) (ho : Nat) (fo : Nat → Int64) (sz : Nat) (p1 : Int32) (r : Nat × Int32 × SMT × PLT) (hF : F_X8_wouldPut d_text d_desk d_stream d_plan p1 = some r) (hst : l.stackTraces = false) (hcd : r.1 = 0 ∨ r.1 = 1) : Met l yL_wouldPut (Cond.codeWith yL_wouldPut cL_wouldPut 4 (some .int) [(0, 9, 12, 21)] :: BIG) ({ frames := 7, cells := 1, slots := 6, locals := 134 } : Room) (kPx D (TY t) (kflat [wlo t ho fo, (wx8 h0 g0), (wtx t (g0 0) a_text d_text), (wdk t (g0 1) a_desk d_desk), (wsm t (g0 5) a_stream d_stream), (wpl t (g0 6) a_plan d_plan)]) [.ref h0, .int p1, .ref ho] sz) (kQiS D (TY t) (fun (u : Unit) => kflat [wlo t ho (kO r.1 (r.2.1) fo), (wx8 h0 g0), (wtx t (g0 0) a_text d_text), (wdk t (g0 1) a_desk d_desk), (wsm t (g0 5) a_stream r.2.2.1), (wpl t (g0 6) a_plan r.2.2.2)]) (kW 1 r.1) (va_A (kflat [wlo t ho fo, (wx8 h0 g0), (wtx t (g0 0) a_text d_text), (wdk t (g0 1) a_desk d_desk), (wsm t (g0 5) a_stream d_stream), (wpl t (g0 6) a_plan d_plan)]) sz)) 1 6 (va_A (kflat [wlo t ho fo, (wx8 h0 g0), (wtx t (g0 0) a_text d_text), (wdk t (g0 1) a_desk d_desk), (wsm t (g0 5) a_stream d_stream), (wpl t (g0 6) a_plan d_plan)]) sz) := by
  refine kEh (cc := cL_wouldPut) (maxL := 4) (ret := (some .int)) (hh := [(0, 9, 12, 21)]) (Qx := fun A => kQiS D (TY t) (fun (u : Unit) => kflat [wlo t ho (kO r.1 (r.2.1) fo), (wx8 h0 g0), (wtx t (g0 0) a_text d_text), (wdk t (g0 1) a_desk d_desk), (wsm t (g0 5) a_stream r.2.2.1), (wpl t (g0 6) a_plan r.2.2.2)]) (kW 1 r.1) A) (lv0 := [(0, .ref h0), (1, .int p1), (2, .ref ho)]) RL rfl (by decide) rfl (Nat.le_of_ble_eq_true rfl) rfl ?_
  intro p e s m args below meth c A ls hx hb hml hte hr hlocks hown hts hA hX hK hP hD hS hl
  refine lv_aload_n hx hb (kd tdlL_wouldPut_0 0 rfl) rfl (lv_at hl 2 rfl) ?_
  refine lv_iconst (v := 0) hx hb (kd tdlL_wouldPut_0 1 rfl) (by decide) ?_
  refine lv_aload_n hx hb (kd tdlL_wouldPut_0 2 rfl) rfl (lv_at hl 0 rfl) ?_
  refine lv_iload_n hx hb (kd tdlL_wouldPut_0 3 rfl) rfl (lv_at hl 1 rfl) ?_
  refine kcT_i (S := Unit) (cs := [(wx8 h0 g0), (wtx t (g0 0) a_text d_text), (wdk t (g0 1) a_desk d_desk), (wsm t (g0 5) a_stream d_stream), (wpl t (g0 6) a_plan d_plan)]) (is := [1, 2, 3, 4, 5]) (wf := (fun (u : Unit) => [(wx8 h0 g0), (wtx t (g0 0) a_text d_text), (wdk t (g0 1) a_desk d_desk), (wsm t (g0 5) a_stream r.2.2.1), (wpl t (g0 6) a_plan r.2.2.2)])) (rest := [.int 0, .ref ho]) hP hD hS hA ndr_5 rfl (fun _ => rfl) (kL_VT (Qx := (fun A => kQc D (TY t) (fun (u : Unit) => kflat [(wx8 h0 g0), (wtx t (g0 0) a_text d_text), (wdk t (g0 1) a_desk d_desk), (wsm t (g0 5) a_stream r.2.2.1), (wpl t (g0 6) a_plan r.2.2.2)]) r.1 (r.2.1) A)) (Xx := (fun A => kXc D (TY t) (fun (u : Unit) => kflat [(wx8 h0 g0), (wtx t (g0 0) a_text d_text), (wdk t (g0 1) a_desk d_desk), (wsm t (g0 5) a_stream r.2.2.1), (wpl t (g0 6) a_plan r.2.2.2)]) r.1 A)) (cs := [(wx8 h0 g0), (wtx t (g0 0) a_text d_text), (wdk t (g0 1) a_desk d_desk), (wsm t (g0 5) a_stream d_stream), (wpl t (g0 6) a_plan d_plan)]) (is := [1, 2, 3, 4, 5]) (As := [.int p1]) (rest := [.int 0, .ref ho]) ⟨hx, hb, hml, hown, hts⟩ hX hS hA hK hP hD ndr_5 rfl (c_X8_wouldPut l D t h0 g0 a_text d_text a_desk d_desk a_stream d_stream a_plan d_plan _ p1 r hF hst) (cwV 1 hts (kgood w_931 w_932 w_933 w_2 w_934) rfl rfl rfl (by decide +kernel) ⟨(Nat.le_of_ble_eq_true rfl), (Nat.le_of_ble_eq_true rfl)⟩) (ci := 7) (q0 := 1) rfl rfl rfl hl.1 rfl (Nat.le_of_ble_eq_true rfl) (kd tdlL_wouldPut_0 4 rfl) ⟨(Nat.le_of_ble_eq_true rfl), (Nat.le_of_ble_eq_true rfl)⟩) (fun E ce q9 u H locs hE hP hD hS hce hcv hcl => ?_) (fun h0c u H locs hP hD hS => ?_)
  · rcases hE with ⟨hc, rfl⟩ | ⟨hc, rfl⟩ | ⟨hc, rfl⟩
    · refine vx_catch (own := RL) (name := xI) hown [] ⟨0, 9, 12, 21⟩ [] (hte.trans rfl) (fun z hz => absurd hz List.not_mem_nil) (by decide) (by decide) (hts _ (List.mem_cons_of_mem _ w_192)) ((hX.2.2.2.2.2.2.2.2.1 xI (by simp)).use rfl) hce hcv hcl ?_
      refine lv_astore_n (lv' := [(3, .ref q9), (0, .ref h0), (1, .int p1), (2, .ref ho)]) hx hb (kd tdlL_wouldPut_0 8 rfl) rfl hl (by decide) rfl (fun ls hl => ?_)
      refine lv_iconst (v := 1) hx hb (kd tdlL_wouldPut_0 9 rfl) (by decide) ?_
      have e9 : kO r.1 (r.2.1) fo = fo := by rw [hc]; rfl
      have hP : va_P D vwCl (kflat [wlo t ho (fo), (wx8 h0 g0), (wtx t (g0 0) a_text d_text), (wdk t (g0 1) a_desk d_desk), (wsm t (g0 5) a_stream r.2.2.1), (wpl t (g0 6) a_plan r.2.2.2)]) H := hP
      have hD : va_D A (kflat [wlo t ho (fo), (wx8 h0 g0), (wtx t (g0 0) a_text d_text), (wdk t (g0 1) a_desk d_desk), (wsm t (g0 5) a_stream r.2.2.1), (wpl t (g0 6) a_plan r.2.2.2)]) := hD
      rw [← e9] at hP hD
      exact kes_i (wf := fun (u : Unit) => kflat [wlo t ho (kO r.1 (r.2.1) fo), (wx8 h0 g0), (wtx t (g0 0) a_text d_text), (wdk t (g0 1) a_desk d_desk), (wsm t (g0 5) a_stream r.2.2.1), (wpl t (g0 6) a_plan r.2.2.2)]) u hx hb hr hlocks hK hP hD hS (by rw [hc]; rfl) (Nat.le_of_ble_eq_true rfl) (Nat.le_of_ble_eq_true rfl) (kd tdlL_wouldPut_0 10 rfl)
    · exact absurd hc (by omega)
    · exact absurd hc (by omega)
  · refine lv_i2l (v := (r.2.1).toInt64) hx hb (kd tdlL_wouldPut_0 5 rfl) rfl ?_
    refine va_last hx hb hK hP hD hS 0 4 rfl rfl vin01 (kd tdlL_wouldPut_0 6 rfl) (fun H locs hP hD hS => ?_)
    refine lv_goto (tgt := 15) hx hb (kd tdlL_wouldPut_0 7 rfl) (by decide) ?_
    refine lv_iconst (v := 0) hx hb (kd tdlL_wouldPut_0 11 rfl) (by decide) ?_
    have e9 : kO r.1 (r.2.1) fo = (fun j => if j = 0 then (r.2.1).toInt64 else fo j) := by rw [h0c]; rfl
    have hP : va_P D vwCl (kflat [wlo t ho (fun j => if j = 0 then (r.2.1).toInt64 else fo j), (wx8 h0 g0), (wtx t (g0 0) a_text d_text), (wdk t (g0 1) a_desk d_desk), (wsm t (g0 5) a_stream r.2.2.1), (wpl t (g0 6) a_plan r.2.2.2)]) H := hP
    have hD : va_D A (kflat [wlo t ho (fun j => if j = 0 then (r.2.1).toInt64 else fo j), (wx8 h0 g0), (wtx t (g0 0) a_text d_text), (wdk t (g0 1) a_desk d_desk), (wsm t (g0 5) a_stream r.2.2.1), (wpl t (g0 6) a_plan r.2.2.2)]) := hD
    rw [← e9] at hP hD
    exact kes_i (wf := fun (u : Unit) => kflat [wlo t ho (kO r.1 (r.2.1) fo), (wx8 h0 g0), (wtx t (g0 0) a_text d_text), (wdk t (g0 1) a_desk d_desk), (wsm t (g0 5) a_stream r.2.2.1), (wpl t (g0 6) a_plan r.2.2.2)]) u hx hb hr hlocks hK hP hD hS (by rw [h0c]; rfl) (Nat.le_of_ble_eq_true rfl) (Nat.le_of_ble_eq_true rfl) (kd tdlL_wouldPut_0 12 rfl)
set_option maxHeartbeats 4000000 in
set_option maxRecDepth 100000 in
theorem c_L_bestLimit (l : Launch) (D : va_G) (t : Nat → ClassId) (h0 : Nat) (g0 : Nat → Nat) (a_text : Nat → Nat) (d_text : TXT) (a_desk : Nat → Nat) (d_desk : DKT) (a_stream : Nat → Nat) (d_stream : SMT) (a_plan : Nat → Nat) (d_plan : PLT) (a_store : Nat → Nat) (d_store : SOT) (ho : Nat) (fo : Nat → Int64) (sz : Nat) (p1 : Int32) (r : Nat × Int32 × SMT × PLT × SOT) (hF : F_X8_bestLimit d_text d_desk d_stream d_plan d_store p1 = some r) (hst : l.stackTraces = false) (hcd : r.1 = 0 ∨ r.1 = 1) : Met l yL_bestLimit (Cond.codeWith yL_bestLimit cL_bestLimit 4 (some .int) [(0, 9, 12, 21)] :: BIG) ({ frames := 7, cells := 1, slots := 6, locals := 117 } : Room) (kPx D (TY t) (kflat [wlo t ho fo, (wx8 h0 g0), (wtx t (g0 0) a_text d_text), (wdk t (g0 1) a_desk d_desk), (wsm t (g0 5) a_stream d_stream), (wpl t (g0 6) a_plan d_plan), (wso t (g0 7) a_store d_store)]) [.ref h0, .int p1, .ref ho] sz) (kQiS D (TY t) (fun (u : Unit) => kflat [wlo t ho (kO r.1 (r.2.1) fo), (wx8 h0 g0), (wtx t (g0 0) a_text d_text), (wdk t (g0 1) a_desk d_desk), (wsm t (g0 5) a_stream r.2.2.1), (wpl t (g0 6) a_plan r.2.2.2.1), (wso t (g0 7) a_store r.2.2.2.2)]) (kW 1 r.1) (va_A (kflat [wlo t ho fo, (wx8 h0 g0), (wtx t (g0 0) a_text d_text), (wdk t (g0 1) a_desk d_desk), (wsm t (g0 5) a_stream d_stream), (wpl t (g0 6) a_plan d_plan), (wso t (g0 7) a_store d_store)]) sz)) 1 6 (va_A (kflat [wlo t ho fo, (wx8 h0 g0), (wtx t (g0 0) a_text d_text), (wdk t (g0 1) a_desk d_desk), (wsm t (g0 5) a_stream d_stream), (wpl t (g0 6) a_plan d_plan), (wso t (g0 7) a_store d_store)]) sz) := by
  refine kEh (cc := cL_bestLimit) (maxL := 4) (ret := (some .int)) (hh := [(0, 9, 12, 21)]) (Qx := fun A => kQiS D (TY t) (fun (u : Unit) => kflat [wlo t ho (kO r.1 (r.2.1) fo), (wx8 h0 g0), (wtx t (g0 0) a_text d_text), (wdk t (g0 1) a_desk d_desk), (wsm t (g0 5) a_stream r.2.2.1), (wpl t (g0 6) a_plan r.2.2.2.1), (wso t (g0 7) a_store r.2.2.2.2)]) (kW 1 r.1) A) (lv0 := [(0, .ref h0), (1, .int p1), (2, .ref ho)]) RL rfl (by decide) rfl (Nat.le_of_ble_eq_true rfl) rfl ?_
  intro p e s m args below meth c A ls hx hb hml hte hr hlocks hown hts hA hX hK hP hD hS hl
  refine lv_aload_n hx hb (kd tdlL_bestLimit_0 0 rfl) rfl (lv_at hl 2 rfl) ?_
  refine lv_iconst (v := 0) hx hb (kd tdlL_bestLimit_0 1 rfl) (by decide) ?_
  refine lv_aload_n hx hb (kd tdlL_bestLimit_0 2 rfl) rfl (lv_at hl 0 rfl) ?_
  refine lv_iload_n hx hb (kd tdlL_bestLimit_0 3 rfl) rfl (lv_at hl 1 rfl) ?_
  refine kcT_i (S := Unit) (cs := [(wx8 h0 g0), (wtx t (g0 0) a_text d_text), (wdk t (g0 1) a_desk d_desk), (wsm t (g0 5) a_stream d_stream), (wpl t (g0 6) a_plan d_plan), (wso t (g0 7) a_store d_store)]) (is := [1, 2, 3, 4, 5, 6]) (wf := (fun (u : Unit) => [(wx8 h0 g0), (wtx t (g0 0) a_text d_text), (wdk t (g0 1) a_desk d_desk), (wsm t (g0 5) a_stream r.2.2.1), (wpl t (g0 6) a_plan r.2.2.2.1), (wso t (g0 7) a_store r.2.2.2.2)])) (rest := [.int 0, .ref ho]) hP hD hS hA ndr_6 rfl (fun _ => rfl) (kL_VT (Qx := (fun A => kQc D (TY t) (fun (u : Unit) => kflat [(wx8 h0 g0), (wtx t (g0 0) a_text d_text), (wdk t (g0 1) a_desk d_desk), (wsm t (g0 5) a_stream r.2.2.1), (wpl t (g0 6) a_plan r.2.2.2.1), (wso t (g0 7) a_store r.2.2.2.2)]) r.1 (r.2.1) A)) (Xx := (fun A => kXc D (TY t) (fun (u : Unit) => kflat [(wx8 h0 g0), (wtx t (g0 0) a_text d_text), (wdk t (g0 1) a_desk d_desk), (wsm t (g0 5) a_stream r.2.2.1), (wpl t (g0 6) a_plan r.2.2.2.1), (wso t (g0 7) a_store r.2.2.2.2)]) r.1 A)) (cs := [(wx8 h0 g0), (wtx t (g0 0) a_text d_text), (wdk t (g0 1) a_desk d_desk), (wsm t (g0 5) a_stream d_stream), (wpl t (g0 6) a_plan d_plan), (wso t (g0 7) a_store d_store)]) (is := [1, 2, 3, 4, 5, 6]) (As := [.int p1]) (rest := [.int 0, .ref ho]) ⟨hx, hb, hml, hown, hts⟩ hX hS hA hK hP hD ndr_6 rfl (c_X8_bestLimit l D t h0 g0 a_text d_text a_desk d_desk a_stream d_stream a_plan d_plan a_store d_store _ p1 r hF hst) (cwV 1 hts (kgood w_943 w_944 w_945 w_2 w_946) rfl rfl rfl (by decide +kernel) ⟨(Nat.le_of_ble_eq_true rfl), (Nat.le_of_ble_eq_true rfl)⟩) (ci := 7) (q0 := 1) rfl rfl rfl hl.1 rfl (Nat.le_of_ble_eq_true rfl) (kd tdlL_bestLimit_0 4 rfl) ⟨(Nat.le_of_ble_eq_true rfl), (Nat.le_of_ble_eq_true rfl)⟩) (fun E ce q9 u H locs hE hP hD hS hce hcv hcl => ?_) (fun h0c u H locs hP hD hS => ?_)
  · rcases hE with ⟨hc, rfl⟩ | ⟨hc, rfl⟩ | ⟨hc, rfl⟩
    · refine vx_catch (own := RL) (name := xI) hown [] ⟨0, 9, 12, 21⟩ [] (hte.trans rfl) (fun z hz => absurd hz List.not_mem_nil) (by decide) (by decide) (hts _ (List.mem_cons_of_mem _ w_192)) ((hX.2.2.2.2.2.2.2.2.1 xI (by simp)).use rfl) hce hcv hcl ?_
      refine lv_astore_n (lv' := [(3, .ref q9), (0, .ref h0), (1, .int p1), (2, .ref ho)]) hx hb (kd tdlL_bestLimit_0 8 rfl) rfl hl (by decide) rfl (fun ls hl => ?_)
      refine lv_iconst (v := 1) hx hb (kd tdlL_bestLimit_0 9 rfl) (by decide) ?_
      have e9 : kO r.1 (r.2.1) fo = fo := by rw [hc]; rfl
      have hP : va_P D vwCl (kflat [wlo t ho (fo), (wx8 h0 g0), (wtx t (g0 0) a_text d_text), (wdk t (g0 1) a_desk d_desk), (wsm t (g0 5) a_stream r.2.2.1), (wpl t (g0 6) a_plan r.2.2.2.1), (wso t (g0 7) a_store r.2.2.2.2)]) H := hP
      have hD : va_D A (kflat [wlo t ho (fo), (wx8 h0 g0), (wtx t (g0 0) a_text d_text), (wdk t (g0 1) a_desk d_desk), (wsm t (g0 5) a_stream r.2.2.1), (wpl t (g0 6) a_plan r.2.2.2.1), (wso t (g0 7) a_store r.2.2.2.2)]) := hD
      rw [← e9] at hP hD
      exact kes_i (wf := fun (u : Unit) => kflat [wlo t ho (kO r.1 (r.2.1) fo), (wx8 h0 g0), (wtx t (g0 0) a_text d_text), (wdk t (g0 1) a_desk d_desk), (wsm t (g0 5) a_stream r.2.2.1), (wpl t (g0 6) a_plan r.2.2.2.1), (wso t (g0 7) a_store r.2.2.2.2)]) u hx hb hr hlocks hK hP hD hS (by rw [hc]; rfl) (Nat.le_of_ble_eq_true rfl) (Nat.le_of_ble_eq_true rfl) (kd tdlL_bestLimit_0 10 rfl)
    · exact absurd hc (by omega)
    · exact absurd hc (by omega)
  · refine lv_i2l (v := (r.2.1).toInt64) hx hb (kd tdlL_bestLimit_0 5 rfl) rfl ?_
    refine va_last hx hb hK hP hD hS 0 4 rfl rfl vin01 (kd tdlL_bestLimit_0 6 rfl) (fun H locs hP hD hS => ?_)
    refine lv_goto (tgt := 15) hx hb (kd tdlL_bestLimit_0 7 rfl) (by decide) ?_
    refine lv_iconst (v := 0) hx hb (kd tdlL_bestLimit_0 11 rfl) (by decide) ?_
    have e9 : kO r.1 (r.2.1) fo = (fun j => if j = 0 then (r.2.1).toInt64 else fo j) := by rw [h0c]; rfl
    have hP : va_P D vwCl (kflat [wlo t ho (fun j => if j = 0 then (r.2.1).toInt64 else fo j), (wx8 h0 g0), (wtx t (g0 0) a_text d_text), (wdk t (g0 1) a_desk d_desk), (wsm t (g0 5) a_stream r.2.2.1), (wpl t (g0 6) a_plan r.2.2.2.1), (wso t (g0 7) a_store r.2.2.2.2)]) H := hP
    have hD : va_D A (kflat [wlo t ho (fun j => if j = 0 then (r.2.1).toInt64 else fo j), (wx8 h0 g0), (wtx t (g0 0) a_text d_text), (wdk t (g0 1) a_desk d_desk), (wsm t (g0 5) a_stream r.2.2.1), (wpl t (g0 6) a_plan r.2.2.2.1), (wso t (g0 7) a_store r.2.2.2.2)]) := hD
    rw [← e9] at hP hD
    exact kes_i (wf := fun (u : Unit) => kflat [wlo t ho (kO r.1 (r.2.1) fo), (wx8 h0 g0), (wtx t (g0 0) a_text d_text), (wdk t (g0 1) a_desk d_desk), (wsm t (g0 5) a_stream r.2.2.1), (wpl t (g0 6) a_plan r.2.2.2.1), (wso t (g0 7) a_store r.2.2.2.2)]) u hx hb hr hlocks hK hP hD hS (by rw [h0c]; rfl) (Nat.le_of_ble_eq_true rfl) (Nat.le_of_ble_eq_true rfl) (kd tdlL_bestLimit_0 12 rfl)
set_option maxHeartbeats 4000000 in
set_option maxRecDepth 100000 in
theorem c_L_runScript (l : Launch) (D : va_G) (t : Nat → ClassId) (h0 : Nat) (g0 : Nat → Nat) (a_text : Nat → Nat) (d_text : TXT) (a_desk : Nat → Nat) (d_desk : DKT) (a_trial : Nat → Nat) (d_trial : DKT) (a_stream : Nat → Nat) (d_stream : SMT) (a_plan : Nat → Nat) (d_plan : PLT) (a_store : Nat → Nat) (d_store : SOT) (a_carrier : Nat → Nat) (d_carrier : CRT) (ho : Nat) (fo : Nat → Int64) (sz : Nat) (p1 : Int32) (p2 : Int64) (r : Nat × Int32 × DKT × SMT × PLT × SOT × CRT) (hF : F_X8_runScript d_text d_desk d_trial d_stream d_plan d_store d_carrier p1 p2 = some r) (hst : l.stackTraces = false) (hcd : r.1 = 0 ∨ r.1 = 2) : Met l yL_runScript (Cond.codeWith yL_runScript cL_runScript 6 (some .int) [(0, 11, 14, 13)] :: BIG) ({ frames := 8, cells := 1, slots := 6, locals := 181 } : Room) (kPx D (TY t) (kflat [wlo t ho fo, (wx8 h0 g0), (wtx t (g0 0) a_text d_text), (wdk t (g0 1) a_desk d_desk), (wdk t (g0 2) a_trial d_trial), (wsm t (g0 5) a_stream d_stream), (wpl t (g0 6) a_plan d_plan), (wso t (g0 7) a_store d_store), (wcr t (g0 8) a_carrier d_carrier)]) [.ref h0, .int p1, .long p2, .ref ho] sz) (kQiS D (TY t) (fun (u : Unit) => kflat [wlo t ho (kO r.1 (r.2.1) fo), (wx8 h0 g0), (wtx t (g0 0) a_text d_text), (wdk t (g0 1) a_desk d_desk), (wdk t (g0 2) a_trial r.2.2.1), (wsm t (g0 5) a_stream r.2.2.2.1), (wpl t (g0 6) a_plan r.2.2.2.2.1), (wso t (g0 7) a_store r.2.2.2.2.2.1), (wcr t (g0 8) a_carrier r.2.2.2.2.2.2)]) (kW 2 r.1) (va_A (kflat [wlo t ho fo, (wx8 h0 g0), (wtx t (g0 0) a_text d_text), (wdk t (g0 1) a_desk d_desk), (wdk t (g0 2) a_trial d_trial), (wsm t (g0 5) a_stream d_stream), (wpl t (g0 6) a_plan d_plan), (wso t (g0 7) a_store d_store), (wcr t (g0 8) a_carrier d_carrier)]) sz)) 1 6 (va_A (kflat [wlo t ho fo, (wx8 h0 g0), (wtx t (g0 0) a_text d_text), (wdk t (g0 1) a_desk d_desk), (wdk t (g0 2) a_trial d_trial), (wsm t (g0 5) a_stream d_stream), (wpl t (g0 6) a_plan d_plan), (wso t (g0 7) a_store d_store), (wcr t (g0 8) a_carrier d_carrier)]) sz) := by
  refine kEh (cc := cL_runScript) (maxL := 6) (ret := (some .int)) (hh := [(0, 11, 14, 13)]) (Qx := fun A => kQiS D (TY t) (fun (u : Unit) => kflat [wlo t ho (kO r.1 (r.2.1) fo), (wx8 h0 g0), (wtx t (g0 0) a_text d_text), (wdk t (g0 1) a_desk d_desk), (wdk t (g0 2) a_trial r.2.2.1), (wsm t (g0 5) a_stream r.2.2.2.1), (wpl t (g0 6) a_plan r.2.2.2.2.1), (wso t (g0 7) a_store r.2.2.2.2.2.1), (wcr t (g0 8) a_carrier r.2.2.2.2.2.2)]) (kW 2 r.1) A) (lv0 := [(0, .ref h0), (1, .int p1), (2, .long p2), (4, .ref ho)]) RL rfl (by decide) rfl (Nat.le_of_ble_eq_true rfl) rfl ?_
  intro p e s m args below meth c A ls hx hb hml hte hr hlocks hown hts hA hX hK hP hD hS hl
  refine lv_aload hx hb (kd tdlL_runScript_0 0 rfl) (lv_at hl 3 rfl) ?_
  refine lv_iconst (v := 0) hx hb (kd tdlL_runScript_0 1 rfl) (by decide) ?_
  refine lv_aload_n hx hb (kd tdlL_runScript_0 2 rfl) rfl (lv_at hl 0 rfl) ?_
  refine lv_iload_n hx hb (kd tdlL_runScript_0 3 rfl) rfl (lv_at hl 1 rfl) ?_
  refine lv_lload_n hx hb (kd tdlL_runScript_0 4 rfl) rfl (lv_at hl 2 rfl) ?_
  refine kcT_i (S := Unit) (cs := [(wx8 h0 g0), (wtx t (g0 0) a_text d_text), (wdk t (g0 1) a_desk d_desk), (wdk t (g0 2) a_trial d_trial), (wsm t (g0 5) a_stream d_stream), (wpl t (g0 6) a_plan d_plan), (wso t (g0 7) a_store d_store), (wcr t (g0 8) a_carrier d_carrier)]) (is := [1, 2, 3, 4, 5, 6, 7, 8]) (wf := (fun (u : Unit) => [(wx8 h0 g0), (wtx t (g0 0) a_text d_text), (wdk t (g0 1) a_desk d_desk), (wdk t (g0 2) a_trial r.2.2.1), (wsm t (g0 5) a_stream r.2.2.2.1), (wpl t (g0 6) a_plan r.2.2.2.2.1), (wso t (g0 7) a_store r.2.2.2.2.2.1), (wcr t (g0 8) a_carrier r.2.2.2.2.2.2)])) (rest := [.int 0, .ref ho]) hP hD hS hA ndr_8 rfl (fun _ => rfl) (kL_VT (Qx := (fun A => kQc D (TY t) (fun (u : Unit) => kflat [(wx8 h0 g0), (wtx t (g0 0) a_text d_text), (wdk t (g0 1) a_desk d_desk), (wdk t (g0 2) a_trial r.2.2.1), (wsm t (g0 5) a_stream r.2.2.2.1), (wpl t (g0 6) a_plan r.2.2.2.2.1), (wso t (g0 7) a_store r.2.2.2.2.2.1), (wcr t (g0 8) a_carrier r.2.2.2.2.2.2)]) r.1 (r.2.1) A)) (Xx := (fun A => kXc D (TY t) (fun (u : Unit) => kflat [(wx8 h0 g0), (wtx t (g0 0) a_text d_text), (wdk t (g0 1) a_desk d_desk), (wdk t (g0 2) a_trial r.2.2.1), (wsm t (g0 5) a_stream r.2.2.2.1), (wpl t (g0 6) a_plan r.2.2.2.2.1), (wso t (g0 7) a_store r.2.2.2.2.2.1), (wcr t (g0 8) a_carrier r.2.2.2.2.2.2)]) r.1 A)) (cs := [(wx8 h0 g0), (wtx t (g0 0) a_text d_text), (wdk t (g0 1) a_desk d_desk), (wdk t (g0 2) a_trial d_trial), (wsm t (g0 5) a_stream d_stream), (wpl t (g0 6) a_plan d_plan), (wso t (g0 7) a_store d_store), (wcr t (g0 8) a_carrier d_carrier)]) (is := [1, 2, 3, 4, 5, 6, 7, 8]) (As := [.int p1, .long p2]) (rest := [.int 0, .ref ho]) ⟨hx, hb, hml, hown, hts⟩ hX hS hA hK hP hD ndr_8 rfl (c_X8_runScript l D t h0 g0 a_text d_text a_desk d_desk a_trial d_trial a_stream d_stream a_plan d_plan a_store d_store a_carrier d_carrier _ p1 p2 r hF hst) (cwV 2 hts (kgood w_967 w_968 w_969 w_2 w_970) rfl rfl rfl (by decide +kernel) ⟨(Nat.le_of_ble_eq_true rfl), (Nat.le_of_ble_eq_true rfl)⟩) (ci := 7) (q0 := 1) rfl rfl rfl hl.1 rfl (Nat.le_of_ble_eq_true rfl) (kd tdlL_runScript_0 5 rfl) ⟨(Nat.le_of_ble_eq_true rfl), (Nat.le_of_ble_eq_true rfl)⟩) (fun E ce q9 u H locs hE hP hD hS hce hcv hcl => ?_) (fun h0c u H locs hP hD hS => ?_)
  · rcases hE with ⟨hc, rfl⟩ | ⟨hc, rfl⟩ | ⟨hc, rfl⟩
    · exact absurd hc (by omega)
    · refine vx_catch (own := RL) (name := xA) hown [] ⟨0, 11, 14, 13⟩ [] (hte.trans rfl) (fun z hz => absurd hz List.not_mem_nil) (by decide) (by decide) (hts _ (List.mem_cons_of_mem _ w_124)) ((hX.2.2.2.2.2.2.2.2.1 xA (by simp)).use rfl) hce hcv hcl ?_
      refine lv_astore (lv' := [(5, .ref q9), (0, .ref h0), (1, .int p1), (2, .long p2), (4, .ref ho)]) hx hb (kd tdlL_runScript_0 9 rfl) hl (by decide) rfl (fun ls hl => ?_)
      refine lv_iconst (v := 1) hx hb (kd tdlL_runScript_0 10 rfl) (by decide) ?_
      have e9 : kO r.1 (r.2.1) fo = fo := by rw [hc]; rfl
      have hP : va_P D vwCl (kflat [wlo t ho (fo), (wx8 h0 g0), (wtx t (g0 0) a_text d_text), (wdk t (g0 1) a_desk d_desk), (wdk t (g0 2) a_trial r.2.2.1), (wsm t (g0 5) a_stream r.2.2.2.1), (wpl t (g0 6) a_plan r.2.2.2.2.1), (wso t (g0 7) a_store r.2.2.2.2.2.1), (wcr t (g0 8) a_carrier r.2.2.2.2.2.2)]) H := hP
      have hD : va_D A (kflat [wlo t ho (fo), (wx8 h0 g0), (wtx t (g0 0) a_text d_text), (wdk t (g0 1) a_desk d_desk), (wdk t (g0 2) a_trial r.2.2.1), (wsm t (g0 5) a_stream r.2.2.2.1), (wpl t (g0 6) a_plan r.2.2.2.2.1), (wso t (g0 7) a_store r.2.2.2.2.2.1), (wcr t (g0 8) a_carrier r.2.2.2.2.2.2)]) := hD
      rw [← e9] at hP hD
      exact kes_i (wf := fun (u : Unit) => kflat [wlo t ho (kO r.1 (r.2.1) fo), (wx8 h0 g0), (wtx t (g0 0) a_text d_text), (wdk t (g0 1) a_desk d_desk), (wdk t (g0 2) a_trial r.2.2.1), (wsm t (g0 5) a_stream r.2.2.2.1), (wpl t (g0 6) a_plan r.2.2.2.2.1), (wso t (g0 7) a_store r.2.2.2.2.2.1), (wcr t (g0 8) a_carrier r.2.2.2.2.2.2)]) u hx hb hr hlocks hK hP hD hS (by rw [hc]; rfl) (Nat.le_of_ble_eq_true rfl) (Nat.le_of_ble_eq_true rfl) (kd tdlL_runScript_0 11 rfl)
    · exact absurd hc (by omega)
  · refine lv_i2l (v := (r.2.1).toInt64) hx hb (kd tdlL_runScript_0 6 rfl) rfl ?_
    refine va_last hx hb hK hP hD hS 0 4 rfl rfl vin01 (kd tdlL_runScript_0 7 rfl) (fun H locs hP hD hS => ?_)
    refine lv_goto (tgt := 18) hx hb (kd tdlL_runScript_0 8 rfl) (by decide) ?_
    refine lv_iconst (v := 0) hx hb (kd tdlL_runScript_0 12 rfl) (by decide) ?_
    have e9 : kO r.1 (r.2.1) fo = (fun j => if j = 0 then (r.2.1).toInt64 else fo j) := by rw [h0c]; rfl
    have hP : va_P D vwCl (kflat [wlo t ho (fun j => if j = 0 then (r.2.1).toInt64 else fo j), (wx8 h0 g0), (wtx t (g0 0) a_text d_text), (wdk t (g0 1) a_desk d_desk), (wdk t (g0 2) a_trial r.2.2.1), (wsm t (g0 5) a_stream r.2.2.2.1), (wpl t (g0 6) a_plan r.2.2.2.2.1), (wso t (g0 7) a_store r.2.2.2.2.2.1), (wcr t (g0 8) a_carrier r.2.2.2.2.2.2)]) H := hP
    have hD : va_D A (kflat [wlo t ho (fun j => if j = 0 then (r.2.1).toInt64 else fo j), (wx8 h0 g0), (wtx t (g0 0) a_text d_text), (wdk t (g0 1) a_desk d_desk), (wdk t (g0 2) a_trial r.2.2.1), (wsm t (g0 5) a_stream r.2.2.2.1), (wpl t (g0 6) a_plan r.2.2.2.2.1), (wso t (g0 7) a_store r.2.2.2.2.2.1), (wcr t (g0 8) a_carrier r.2.2.2.2.2.2)]) := hD
    rw [← e9] at hP hD
    exact kes_i (wf := fun (u : Unit) => kflat [wlo t ho (kO r.1 (r.2.1) fo), (wx8 h0 g0), (wtx t (g0 0) a_text d_text), (wdk t (g0 1) a_desk d_desk), (wdk t (g0 2) a_trial r.2.2.1), (wsm t (g0 5) a_stream r.2.2.2.1), (wpl t (g0 6) a_plan r.2.2.2.2.1), (wso t (g0 7) a_store r.2.2.2.2.2.1), (wcr t (g0 8) a_carrier r.2.2.2.2.2.2)]) u hx hb hr hlocks hK hP hD hS (by rw [h0c]; rfl) (Nat.le_of_ble_eq_true rfl) (Nat.le_of_ble_eq_true rfl) (kd tdlL_runScript_0 13 rfl)
set_option maxHeartbeats 4000000 in
set_option maxRecDepth 100000 in
theorem c_L_simulate (l : Launch) (D : va_G) (t : Nat → ClassId) (h0 : Nat) (g0 : Nat → Nat) (a_desk : Nat → Nat) (d_desk : DKT) (a_trial : Nat → Nat) (d_trial : DKT) (a_stream : Nat → Nat) (d_stream : SMT) (a_plan : Nat → Nat) (d_plan : PLT) (a_carrier : Nat → Nat) (d_carrier : CRT) (ho : Nat) (fo : Nat → Int64) (sz : Nat) (p1 : Int64) (p3 : Int32) (r : Nat × Int32 × DKT × SMT × PLT × CRT) (hF : F_X8_simulate d_desk d_trial d_stream d_plan d_carrier p1 p3 = some r) (hst : l.stackTraces = false) (hcd : r.1 = 0 ∨ r.1 = 2) : Met l yL_simulate (Cond.codeWith yL_simulate cL_simulate 6 (some .int) [(0, 11, 14, 13)] :: BIG) ({ frames := 8, cells := 1, slots := 6, locals := 181 } : Room) (kPx D (TY t) (kflat [wlo t ho fo, (wx8 h0 g0), (wdk t (g0 1) a_desk d_desk), (wdk t (g0 2) a_trial d_trial), (wsm t (g0 5) a_stream d_stream), (wpl t (g0 6) a_plan d_plan), (wcr t (g0 8) a_carrier d_carrier)]) [.ref h0, .long p1, .int p3, .ref ho] sz) (kQiS D (TY t) (fun (u : Unit) => kflat [wlo t ho (kO r.1 (r.2.1) fo), (wx8 h0 g0), (wdk t (g0 1) a_desk d_desk), (wdk t (g0 2) a_trial r.2.2.1), (wsm t (g0 5) a_stream r.2.2.2.1), (wpl t (g0 6) a_plan r.2.2.2.2.1), (wcr t (g0 8) a_carrier r.2.2.2.2.2)]) (kW 2 r.1) (va_A (kflat [wlo t ho fo, (wx8 h0 g0), (wdk t (g0 1) a_desk d_desk), (wdk t (g0 2) a_trial d_trial), (wsm t (g0 5) a_stream d_stream), (wpl t (g0 6) a_plan d_plan), (wcr t (g0 8) a_carrier d_carrier)]) sz)) 1 6 (va_A (kflat [wlo t ho fo, (wx8 h0 g0), (wdk t (g0 1) a_desk d_desk), (wdk t (g0 2) a_trial d_trial), (wsm t (g0 5) a_stream d_stream), (wpl t (g0 6) a_plan d_plan), (wcr t (g0 8) a_carrier d_carrier)]) sz) := by
  refine kEh (cc := cL_simulate) (maxL := 6) (ret := (some .int)) (hh := [(0, 11, 14, 13)]) (Qx := fun A => kQiS D (TY t) (fun (u : Unit) => kflat [wlo t ho (kO r.1 (r.2.1) fo), (wx8 h0 g0), (wdk t (g0 1) a_desk d_desk), (wdk t (g0 2) a_trial r.2.2.1), (wsm t (g0 5) a_stream r.2.2.2.1), (wpl t (g0 6) a_plan r.2.2.2.2.1), (wcr t (g0 8) a_carrier r.2.2.2.2.2)]) (kW 2 r.1) A) (lv0 := [(0, .ref h0), (1, .long p1), (3, .int p3), (4, .ref ho)]) RL rfl (by decide) rfl (Nat.le_of_ble_eq_true rfl) rfl ?_
  intro p e s m args below meth c A ls hx hb hml hte hr hlocks hown hts hA hX hK hP hD hS hl
  refine lv_aload hx hb (kd tdlL_simulate_0 0 rfl) (lv_at hl 3 rfl) ?_
  refine lv_iconst (v := 0) hx hb (kd tdlL_simulate_0 1 rfl) (by decide) ?_
  refine lv_aload_n hx hb (kd tdlL_simulate_0 2 rfl) rfl (lv_at hl 0 rfl) ?_
  refine lv_lload_n hx hb (kd tdlL_simulate_0 3 rfl) rfl (lv_at hl 1 rfl) ?_
  refine lv_iload_n hx hb (kd tdlL_simulate_0 4 rfl) rfl (lv_at hl 2 rfl) ?_
  refine kcT_i (S := Unit) (cs := [(wx8 h0 g0), (wdk t (g0 1) a_desk d_desk), (wdk t (g0 2) a_trial d_trial), (wsm t (g0 5) a_stream d_stream), (wpl t (g0 6) a_plan d_plan), (wcr t (g0 8) a_carrier d_carrier)]) (is := [1, 2, 3, 4, 5, 6]) (wf := (fun (u : Unit) => [(wx8 h0 g0), (wdk t (g0 1) a_desk d_desk), (wdk t (g0 2) a_trial r.2.2.1), (wsm t (g0 5) a_stream r.2.2.2.1), (wpl t (g0 6) a_plan r.2.2.2.2.1), (wcr t (g0 8) a_carrier r.2.2.2.2.2)])) (rest := [.int 0, .ref ho]) hP hD hS hA ndr_6 rfl (fun _ => rfl) (kL_VT (Qx := (fun A => kQc D (TY t) (fun (u : Unit) => kflat [(wx8 h0 g0), (wdk t (g0 1) a_desk d_desk), (wdk t (g0 2) a_trial r.2.2.1), (wsm t (g0 5) a_stream r.2.2.2.1), (wpl t (g0 6) a_plan r.2.2.2.2.1), (wcr t (g0 8) a_carrier r.2.2.2.2.2)]) r.1 (r.2.1) A)) (Xx := (fun A => kXc D (TY t) (fun (u : Unit) => kflat [(wx8 h0 g0), (wdk t (g0 1) a_desk d_desk), (wdk t (g0 2) a_trial r.2.2.1), (wsm t (g0 5) a_stream r.2.2.2.1), (wpl t (g0 6) a_plan r.2.2.2.2.1), (wcr t (g0 8) a_carrier r.2.2.2.2.2)]) r.1 A)) (cs := [(wx8 h0 g0), (wdk t (g0 1) a_desk d_desk), (wdk t (g0 2) a_trial d_trial), (wsm t (g0 5) a_stream d_stream), (wpl t (g0 6) a_plan d_plan), (wcr t (g0 8) a_carrier d_carrier)]) (is := [1, 2, 3, 4, 5, 6]) (As := [.long p1, .int p3]) (rest := [.int 0, .ref ho]) ⟨hx, hb, hml, hown, hts⟩ hX hS hA hK hP hD ndr_6 rfl (c_X8_simulate l D t h0 g0 a_desk d_desk a_trial d_trial a_stream d_stream a_plan d_plan a_carrier d_carrier _ p1 p3 r hF hst) (cwV 2 hts (kgood w_1011 w_1012 w_1013 w_2 w_1014) rfl rfl rfl (by decide +kernel) ⟨(Nat.le_of_ble_eq_true rfl), (Nat.le_of_ble_eq_true rfl)⟩) (ci := 7) (q0 := 1) rfl rfl rfl hl.1 rfl (Nat.le_of_ble_eq_true rfl) (kd tdlL_simulate_0 5 rfl) ⟨(Nat.le_of_ble_eq_true rfl), (Nat.le_of_ble_eq_true rfl)⟩) (fun E ce q9 u H locs hE hP hD hS hce hcv hcl => ?_) (fun h0c u H locs hP hD hS => ?_)
  · rcases hE with ⟨hc, rfl⟩ | ⟨hc, rfl⟩ | ⟨hc, rfl⟩
    · exact absurd hc (by omega)
    · refine vx_catch (own := RL) (name := xA) hown [] ⟨0, 11, 14, 13⟩ [] (hte.trans rfl) (fun z hz => absurd hz List.not_mem_nil) (by decide) (by decide) (hts _ (List.mem_cons_of_mem _ w_124)) ((hX.2.2.2.2.2.2.2.2.1 xA (by simp)).use rfl) hce hcv hcl ?_
      refine lv_astore (lv' := [(5, .ref q9), (0, .ref h0), (1, .long p1), (3, .int p3), (4, .ref ho)]) hx hb (kd tdlL_simulate_0 9 rfl) hl (by decide) rfl (fun ls hl => ?_)
      refine lv_iconst (v := 1) hx hb (kd tdlL_simulate_0 10 rfl) (by decide) ?_
      have e9 : kO r.1 (r.2.1) fo = fo := by rw [hc]; rfl
      have hP : va_P D vwCl (kflat [wlo t ho (fo), (wx8 h0 g0), (wdk t (g0 1) a_desk d_desk), (wdk t (g0 2) a_trial r.2.2.1), (wsm t (g0 5) a_stream r.2.2.2.1), (wpl t (g0 6) a_plan r.2.2.2.2.1), (wcr t (g0 8) a_carrier r.2.2.2.2.2)]) H := hP
      have hD : va_D A (kflat [wlo t ho (fo), (wx8 h0 g0), (wdk t (g0 1) a_desk d_desk), (wdk t (g0 2) a_trial r.2.2.1), (wsm t (g0 5) a_stream r.2.2.2.1), (wpl t (g0 6) a_plan r.2.2.2.2.1), (wcr t (g0 8) a_carrier r.2.2.2.2.2)]) := hD
      rw [← e9] at hP hD
      exact kes_i (wf := fun (u : Unit) => kflat [wlo t ho (kO r.1 (r.2.1) fo), (wx8 h0 g0), (wdk t (g0 1) a_desk d_desk), (wdk t (g0 2) a_trial r.2.2.1), (wsm t (g0 5) a_stream r.2.2.2.1), (wpl t (g0 6) a_plan r.2.2.2.2.1), (wcr t (g0 8) a_carrier r.2.2.2.2.2)]) u hx hb hr hlocks hK hP hD hS (by rw [hc]; rfl) (Nat.le_of_ble_eq_true rfl) (Nat.le_of_ble_eq_true rfl) (kd tdlL_simulate_0 11 rfl)
    · exact absurd hc (by omega)
  · refine lv_i2l (v := (r.2.1).toInt64) hx hb (kd tdlL_simulate_0 6 rfl) rfl ?_
    refine va_last hx hb hK hP hD hS 0 4 rfl rfl vin01 (kd tdlL_simulate_0 7 rfl) (fun H locs hP hD hS => ?_)
    refine lv_goto (tgt := 18) hx hb (kd tdlL_simulate_0 8 rfl) (by decide) ?_
    refine lv_iconst (v := 0) hx hb (kd tdlL_simulate_0 12 rfl) (by decide) ?_
    have e9 : kO r.1 (r.2.1) fo = (fun j => if j = 0 then (r.2.1).toInt64 else fo j) := by rw [h0c]; rfl
    have hP : va_P D vwCl (kflat [wlo t ho (fun j => if j = 0 then (r.2.1).toInt64 else fo j), (wx8 h0 g0), (wdk t (g0 1) a_desk d_desk), (wdk t (g0 2) a_trial r.2.2.1), (wsm t (g0 5) a_stream r.2.2.2.1), (wpl t (g0 6) a_plan r.2.2.2.2.1), (wcr t (g0 8) a_carrier r.2.2.2.2.2)]) H := hP
    have hD : va_D A (kflat [wlo t ho (fun j => if j = 0 then (r.2.1).toInt64 else fo j), (wx8 h0 g0), (wdk t (g0 1) a_desk d_desk), (wdk t (g0 2) a_trial r.2.2.1), (wsm t (g0 5) a_stream r.2.2.2.1), (wpl t (g0 6) a_plan r.2.2.2.2.1), (wcr t (g0 8) a_carrier r.2.2.2.2.2)]) := hD
    rw [← e9] at hP hD
    exact kes_i (wf := fun (u : Unit) => kflat [wlo t ho (kO r.1 (r.2.1) fo), (wx8 h0 g0), (wdk t (g0 1) a_desk d_desk), (wdk t (g0 2) a_trial r.2.2.1), (wsm t (g0 5) a_stream r.2.2.2.1), (wpl t (g0 6) a_plan r.2.2.2.2.1), (wcr t (g0 8) a_carrier r.2.2.2.2.2)]) u hx hb hr hlocks hK hP hD hS (by rw [h0c]; rfl) (Nat.le_of_ble_eq_true rfl) (Nat.le_of_ble_eq_true rfl) (kd tdlL_simulate_0 13 rfl)
set_option maxHeartbeats 4000000 in
set_option maxRecDepth 100000 in
theorem c_L_save (l : Launch) (D : va_G) (t : Nat → ClassId) (h0 : Nat) (g0 : Nat → Nat) (a_desk : Nat → Nat) (d_desk : DKT) (u_sv : UAT) (d_sv : SVT) (ho : Nat) (fo : Nat → Int64) (sz : Nat) (p1 : Int32) (r : Nat × Int32 × SVT) (hF : F_X8_save d_desk d_sv p1 = some r) (hst : l.stackTraces = false) (hcd : r.1 = 0 ∨ r.1 = 1) : Met l yL_save (Cond.codeWith yL_save cL_save 4 (some .int) [(0, 9, 12, 21)] :: BIG) ({ frames := 7, cells := 10, slots := 1085, locals := 110 } : Room) (kPx D (TY t) (kflat [wlo t ho fo, wx8 h0 g0, wdk t (g0 1) a_desk d_desk, wsv t (g0 4) u_sv d_sv]) [.ref h0, .int p1, .ref ho] sz) (kQiS D (TY t) (fun (u : UAT) => kflat [wlo t ho (kO r.1 (r.2.1) fo), wx8 h0 g0, wdk t (g0 1) a_desk d_desk, wsv t (g0 4) u r.2.2]) (kW 1 r.1) (va_A (kflat [wlo t ho fo, wx8 h0 g0, wdk t (g0 1) a_desk d_desk, wsv t (g0 4) u_sv d_sv]) sz)) 10 1085 (va_A (kflat [wlo t ho fo, wx8 h0 g0, wdk t (g0 1) a_desk d_desk, wsv t (g0 4) u_sv d_sv]) sz) := by
  refine kEh (cc := cL_save) (maxL := 4) (ret := (some .int)) (hh := [(0, 9, 12, 21)]) (Qx := fun A => kQiS D (TY t) (fun (u : UAT) => kflat [wlo t ho (kO r.1 (r.2.1) fo), wx8 h0 g0, wdk t (g0 1) a_desk d_desk, wsv t (g0 4) u r.2.2]) (kW 1 r.1) A) (lv0 := [(0, .ref h0), (1, .int p1), (2, .ref ho)]) RL rfl (by decide) rfl (Nat.le_of_ble_eq_true rfl) rfl ?_
  intro p e s m args below meth c A ls hx hb hml hte hr hlocks hown hts hA hX hK hP hD hS hl
  refine lv_aload_n hx hb (kd tdlL_save_0 0 rfl) rfl (lv_at hl 2 rfl) ?_
  refine lv_iconst (v := 0) hx hb (kd tdlL_save_0 1 rfl) (by decide) ?_
  refine lv_aload_n hx hb (kd tdlL_save_0 2 rfl) rfl (lv_at hl 0 rfl) ?_
  refine lv_iload_n hx hb (kd tdlL_save_0 3 rfl) rfl (lv_at hl 1 rfl) ?_
  refine kcT_i (S := UAT) (cs := [wx8 h0 g0, wdk t (g0 1) a_desk d_desk, wsv t (g0 4) u_sv d_sv]) (is := [1, 2, 3]) (wf := (fun (u : UAT) => [wx8 h0 g0, wdk t (g0 1) a_desk d_desk, wsv t (g0 4) u r.2.2])) (rest := [.int 0, .ref ho]) hP hD hS hA ndr_3 rfl (fun _ => rfl) (kL_VT (Qx := (fun A => kQc D (TY t) (fun (u : UAT) => kflat [wx8 h0 g0, wdk t (g0 1) a_desk d_desk, wsv t (g0 4) u r.2.2]) r.1 (r.2.1) A)) (Xx := (fun A => kXc D (TY t) (fun (u : UAT) => kflat [wx8 h0 g0, wdk t (g0 1) a_desk d_desk, wsv t (g0 4) u r.2.2]) r.1 A)) (cs := [wx8 h0 g0, wdk t (g0 1) a_desk d_desk, wsv t (g0 4) u_sv d_sv]) (is := [1, 2, 3]) (As := [.int p1]) (rest := [.int 0, .ref ho]) ⟨hx, hb, hml, hown, hts⟩ hX hS hA hK hP hD ndr_3 rfl (c_X8_save l D t h0 g0 a_desk d_desk u_sv d_sv _ p1 r hF hst) (cwV 1 hts (kgood w_1038 w_1039 w_1040 w_2 w_1041) rfl rfl rfl (by decide +kernel) ⟨(Nat.le_of_ble_eq_true rfl), (Nat.le_of_ble_eq_true rfl)⟩) (ci := 7) (q0 := 1) rfl rfl rfl hl.1 rfl (Nat.le_of_ble_eq_true rfl) (kd tdlL_save_0 4 rfl) ⟨(Nat.le_of_ble_eq_true rfl), (Nat.le_of_ble_eq_true rfl)⟩) (fun E ce q9 u H locs hE hP hD hS hce hcv hcl => ?_) (fun h0c u H locs hP hD hS => ?_)
  · rcases hE with ⟨hc, rfl⟩ | ⟨hc, rfl⟩ | ⟨hc, rfl⟩
    · refine vx_catch (own := RL) (name := xI) hown [] ⟨0, 9, 12, 21⟩ [] (hte.trans rfl) (fun z hz => absurd hz List.not_mem_nil) (by decide) (by decide) (hts _ (List.mem_cons_of_mem _ w_192)) ((hX.2.2.2.2.2.2.2.2.1 xI (by simp)).use rfl) hce hcv hcl ?_
      refine lv_astore_n (lv' := [(3, .ref q9), (0, .ref h0), (1, .int p1), (2, .ref ho)]) hx hb (kd tdlL_save_0 8 rfl) rfl hl (by decide) rfl (fun ls hl => ?_)
      refine lv_iconst (v := 1) hx hb (kd tdlL_save_0 9 rfl) (by decide) ?_
      have e9 : kO r.1 (r.2.1) fo = fo := by rw [hc]; rfl
      have hP : va_P D vwCl (kflat [wlo t ho (fo), wx8 h0 g0, wdk t (g0 1) a_desk d_desk, wsv t (g0 4) u r.2.2]) H := hP
      have hD : va_D A (kflat [wlo t ho (fo), wx8 h0 g0, wdk t (g0 1) a_desk d_desk, wsv t (g0 4) u r.2.2]) := hD
      rw [← e9] at hP hD
      exact kes_i (wf := fun (u : UAT) => kflat [wlo t ho (kO r.1 (r.2.1) fo), wx8 h0 g0, wdk t (g0 1) a_desk d_desk, wsv t (g0 4) u r.2.2]) u hx hb hr hlocks hK hP hD hS (by rw [hc]; rfl) (Nat.le_of_ble_eq_true rfl) (Nat.le_of_ble_eq_true rfl) (kd tdlL_save_0 10 rfl)
    · exact absurd hc (by omega)
    · exact absurd hc (by omega)
  · refine lv_i2l (v := (r.2.1).toInt64) hx hb (kd tdlL_save_0 5 rfl) rfl ?_
    refine va_last hx hb hK hP hD hS 0 4 rfl rfl vin01 (kd tdlL_save_0 6 rfl) (fun H locs hP hD hS => ?_)
    refine lv_goto (tgt := 15) hx hb (kd tdlL_save_0 7 rfl) (by decide) ?_
    refine lv_iconst (v := 0) hx hb (kd tdlL_save_0 11 rfl) (by decide) ?_
    have e9 : kO r.1 (r.2.1) fo = (fun j => if j = 0 then (r.2.1).toInt64 else fo j) := by rw [h0c]; rfl
    have hP : va_P D vwCl (kflat [wlo t ho (fun j => if j = 0 then (r.2.1).toInt64 else fo j), wx8 h0 g0, wdk t (g0 1) a_desk d_desk, wsv t (g0 4) u r.2.2]) H := hP
    have hD : va_D A (kflat [wlo t ho (fun j => if j = 0 then (r.2.1).toInt64 else fo j), wx8 h0 g0, wdk t (g0 1) a_desk d_desk, wsv t (g0 4) u r.2.2]) := hD
    rw [← e9] at hP hD
    exact kes_i (wf := fun (u : UAT) => kflat [wlo t ho (kO r.1 (r.2.1) fo), wx8 h0 g0, wdk t (g0 1) a_desk d_desk, wsv t (g0 4) u r.2.2]) u hx hb hr hlocks hK hP hD hS (by rw [h0c]; rfl) (Nat.le_of_ble_eq_true rfl) (Nat.le_of_ble_eq_true rfl) (kd tdlL_save_0 12 rfl)
set_option maxHeartbeats 4000000 in
set_option maxRecDepth 100000 in
theorem c_L_restore (l : Launch) (D : va_G) (t : Nat → ClassId) (h0 : Nat) (g0 : Nat → Nat) (a_desk : Nat → Nat) (d_desk : DKT) (a_past : Nat → Nat) (u_past : UAT) (d_past : PAT) (u_sv : UAT) (d_sv : SVT) (ho : Nat) (fo : Nat → Int64) (sz : Nat) (p1 : Int32) (r : Nat × Int32 × DKT × PAT) (hF : F_X8_restore d_desk d_past d_sv p1 = some r) (hst : l.stackTraces = false) (hcd : r.1 = 0 ∨ r.1 = 1 ∨ r.1 = 3) : Met l yL_restore (Cond.codeWith yL_restore cL_restore 4 (some .int) [(0, 9, 12, 21), (0, 9, 15, 15)] :: BIG) ({ frames := 7, cells := 1, slots := 6, locals := 110 } : Room) (kPx D (TY t) (kflat [wlo t ho fo, wx8 h0 g0, wdk t (g0 1) a_desk d_desk, wpa t (g0 3) a_past u_past d_past, wsv t (g0 4) u_sv d_sv]) [.ref h0, .int p1, .ref ho] sz) (kQiS D (TY t) (fun (u : Unit) => kflat [wlo t ho (kO r.1 (r.2.1) fo), wx8 h0 g0, wdk t (g0 1) a_desk r.2.2.1, wpa t (g0 3) a_past u_past r.2.2.2, wsv t (g0 4) u_sv d_sv]) (kW 1 r.1) (va_A (kflat [wlo t ho fo, wx8 h0 g0, wdk t (g0 1) a_desk d_desk, wpa t (g0 3) a_past u_past d_past, wsv t (g0 4) u_sv d_sv]) sz)) 1 6 (va_A (kflat [wlo t ho fo, wx8 h0 g0, wdk t (g0 1) a_desk d_desk, wpa t (g0 3) a_past u_past d_past, wsv t (g0 4) u_sv d_sv]) sz) := by
  refine kEh (cc := cL_restore) (maxL := 4) (ret := (some .int)) (hh := [(0, 9, 12, 21), (0, 9, 15, 15)]) (Qx := fun A => kQiS D (TY t) (fun (u : Unit) => kflat [wlo t ho (kO r.1 (r.2.1) fo), wx8 h0 g0, wdk t (g0 1) a_desk r.2.2.1, wpa t (g0 3) a_past u_past r.2.2.2, wsv t (g0 4) u_sv d_sv]) (kW 1 r.1) A) (lv0 := [(0, .ref h0), (1, .int p1), (2, .ref ho)]) RL rfl (by decide) rfl (Nat.le_of_ble_eq_true rfl) rfl ?_
  intro p e s m args below meth c A ls hx hb hml hte hr hlocks hown hts hA hX hK hP hD hS hl
  refine lv_aload_n hx hb (kd tdlL_restore_0 0 rfl) rfl (lv_at hl 2 rfl) ?_
  refine lv_iconst (v := 0) hx hb (kd tdlL_restore_0 1 rfl) (by decide) ?_
  refine lv_aload_n hx hb (kd tdlL_restore_0 2 rfl) rfl (lv_at hl 0 rfl) ?_
  refine lv_iload_n hx hb (kd tdlL_restore_0 3 rfl) rfl (lv_at hl 1 rfl) ?_
  refine kcT_i (S := Unit) (cs := [wx8 h0 g0, wdk t (g0 1) a_desk d_desk, wpa t (g0 3) a_past u_past d_past, wsv t (g0 4) u_sv d_sv]) (is := [1, 2, 3, 4]) (wf := (fun (u : Unit) => [wx8 h0 g0, wdk t (g0 1) a_desk r.2.2.1, wpa t (g0 3) a_past u_past r.2.2.2, wsv t (g0 4) u_sv d_sv])) (rest := [.int 0, .ref ho]) hP hD hS hA ndr_4 rfl (fun _ => rfl) (kL_VT (Qx := (fun A => kQc D (TY t) (fun (u : Unit) => kflat [wx8 h0 g0, wdk t (g0 1) a_desk r.2.2.1, wpa t (g0 3) a_past u_past r.2.2.2, wsv t (g0 4) u_sv d_sv]) r.1 (r.2.1) A)) (Xx := (fun A => kXc D (TY t) (fun (u : Unit) => kflat [wx8 h0 g0, wdk t (g0 1) a_desk r.2.2.1, wpa t (g0 3) a_past u_past r.2.2.2, wsv t (g0 4) u_sv d_sv]) r.1 A)) (cs := [wx8 h0 g0, wdk t (g0 1) a_desk d_desk, wpa t (g0 3) a_past u_past d_past, wsv t (g0 4) u_sv d_sv]) (is := [1, 2, 3, 4]) (As := [.int p1]) (rest := [.int 0, .ref ho]) ⟨hx, hb, hml, hown, hts⟩ hX hS hA hK hP hD ndr_4 rfl (c_X8_restore l D t h0 g0 a_desk d_desk a_past u_past d_past u_sv d_sv _ p1 r hF hst) (cwV 1 hts (kgood w_1049 w_1050 w_1051 w_2 w_1052) rfl rfl rfl (by decide +kernel) ⟨(Nat.le_of_ble_eq_true rfl), (Nat.le_of_ble_eq_true rfl)⟩) (ci := 7) (q0 := 1) rfl rfl rfl hl.1 rfl (Nat.le_of_ble_eq_true rfl) (kd tdlL_restore_0 4 rfl) ⟨(Nat.le_of_ble_eq_true rfl), (Nat.le_of_ble_eq_true rfl)⟩) (fun E ce q9 u H locs hE hP hD hS hce hcv hcl => ?_) (fun h0c u H locs hP hD hS => ?_)
  · rcases hE with ⟨hc, rfl⟩ | ⟨hc, rfl⟩ | ⟨hc, rfl⟩
    · refine vx_catch (own := RL) (name := xI) hown [] ⟨0, 9, 12, 21⟩ [⟨0, 9, 15, 15⟩] (hte.trans rfl) (fun z hz => absurd hz List.not_mem_nil) (by decide) (by decide) (hts _ (List.mem_cons_of_mem _ w_192)) ((hX.2.2.2.2.2.2.2.2.1 xI (by simp)).use rfl) hce hcv hcl ?_
      refine lv_astore_n (lv' := [(3, .ref q9), (0, .ref h0), (1, .int p1), (2, .ref ho)]) hx hb (kd tdlL_restore_0 8 rfl) rfl hl (by decide) rfl (fun ls hl => ?_)
      refine lv_iconst (v := 1) hx hb (kd tdlL_restore_0 9 rfl) (by decide) ?_
      have e9 : kO r.1 (r.2.1) fo = fo := by rw [hc]; rfl
      have hP : va_P D vwCl (kflat [wlo t ho (fo), wx8 h0 g0, wdk t (g0 1) a_desk r.2.2.1, wpa t (g0 3) a_past u_past r.2.2.2, wsv t (g0 4) u_sv d_sv]) H := hP
      have hD : va_D A (kflat [wlo t ho (fo), wx8 h0 g0, wdk t (g0 1) a_desk r.2.2.1, wpa t (g0 3) a_past u_past r.2.2.2, wsv t (g0 4) u_sv d_sv]) := hD
      rw [← e9] at hP hD
      exact kes_i (wf := fun (u : Unit) => kflat [wlo t ho (kO r.1 (r.2.1) fo), wx8 h0 g0, wdk t (g0 1) a_desk r.2.2.1, wpa t (g0 3) a_past u_past r.2.2.2, wsv t (g0 4) u_sv d_sv]) u hx hb hr hlocks hK hP hD hS (by rw [hc]; rfl) (Nat.le_of_ble_eq_true rfl) (Nat.le_of_ble_eq_true rfl) (kd tdlL_restore_0 10 rfl)
    · exact absurd hc (by omega)
    · refine vx_catch (own := RL) (name := xS) hown [⟨0, 9, 12, 21⟩] ⟨0, 9, 15, 15⟩ [] (hte.trans rfl) (fun z hz => by cases List.mem_singleton.mp hz; exact Or.inr ⟨by decide, xI, hts _ (List.mem_cons_of_mem _ w_192), hX.2.2.2.2.2.2.2.2.2.1 (xS, xI) (by simp)⟩) (by decide) (by decide) (hts _ (List.mem_cons_of_mem _ w_125)) ((hX.2.2.2.2.2.2.2.2.1 xS (by simp)).use rfl) hce hcv hcl ?_
      refine lv_astore_n (lv' := [(3, .ref q9), (0, .ref h0), (1, .int p1), (2, .ref ho)]) hx hb (kd tdlL_restore_0 11 rfl) rfl hl (by decide) rfl (fun ls hl => ?_)
      refine lv_iconst (v := 2) hx hb (kd tdlL_restore_0 12 rfl) (by decide) ?_
      have e9 : kO r.1 (r.2.1) fo = fo := by rw [hc]; rfl
      have hP : va_P D vwCl (kflat [wlo t ho (fo), wx8 h0 g0, wdk t (g0 1) a_desk r.2.2.1, wpa t (g0 3) a_past u_past r.2.2.2, wsv t (g0 4) u_sv d_sv]) H := hP
      have hD : va_D A (kflat [wlo t ho (fo), wx8 h0 g0, wdk t (g0 1) a_desk r.2.2.1, wpa t (g0 3) a_past u_past r.2.2.2, wsv t (g0 4) u_sv d_sv]) := hD
      rw [← e9] at hP hD
      exact kes_i (wf := fun (u : Unit) => kflat [wlo t ho (kO r.1 (r.2.1) fo), wx8 h0 g0, wdk t (g0 1) a_desk r.2.2.1, wpa t (g0 3) a_past u_past r.2.2.2, wsv t (g0 4) u_sv d_sv]) u hx hb hr hlocks hK hP hD hS (by rw [hc]; rfl) (Nat.le_of_ble_eq_true rfl) (Nat.le_of_ble_eq_true rfl) (kd tdlL_restore_0 13 rfl)
  · refine lv_i2l (v := (r.2.1).toInt64) hx hb (kd tdlL_restore_0 5 rfl) rfl ?_
    refine va_last hx hb hK hP hD hS 0 4 rfl rfl vin01 (kd tdlL_restore_0 6 rfl) (fun H locs hP hD hS => ?_)
    refine lv_goto (tgt := 18) hx hb (kd tdlL_restore_0 7 rfl) (by decide) ?_
    refine lv_iconst (v := 0) hx hb (kd tdlL_restore_0 14 rfl) (by decide) ?_
    have e9 : kO r.1 (r.2.1) fo = (fun j => if j = 0 then (r.2.1).toInt64 else fo j) := by rw [h0c]; rfl
    have hP : va_P D vwCl (kflat [wlo t ho (fun j => if j = 0 then (r.2.1).toInt64 else fo j), wx8 h0 g0, wdk t (g0 1) a_desk r.2.2.1, wpa t (g0 3) a_past u_past r.2.2.2, wsv t (g0 4) u_sv d_sv]) H := hP
    have hD : va_D A (kflat [wlo t ho (fun j => if j = 0 then (r.2.1).toInt64 else fo j), wx8 h0 g0, wdk t (g0 1) a_desk r.2.2.1, wpa t (g0 3) a_past u_past r.2.2.2, wsv t (g0 4) u_sv d_sv]) := hD
    rw [← e9] at hP hD
    exact kes_i (wf := fun (u : Unit) => kflat [wlo t ho (kO r.1 (r.2.1) fo), wx8 h0 g0, wdk t (g0 1) a_desk r.2.2.1, wpa t (g0 3) a_past u_past r.2.2.2, wsv t (g0 4) u_sv d_sv]) u hx hb hr hlocks hK hP hD hS (by rw [h0c]; rfl) (Nat.le_of_ble_eq_true rfl) (Nat.le_of_ble_eq_true rfl) (kd tdlL_restore_0 15 rfl)
