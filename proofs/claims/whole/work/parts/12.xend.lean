theorem xat_ok {X : String} (hX : X = xI ∨ X = xA ∨ X = xS) : True := trivial
def xic (X : String) : Nat := if X = xI then 93 else if X = xA then 67 else 74
def xik (X : String) : Nat := if X = xI then 91 else if X = xA then 65 else 72
section KXE
variable {p : Program} {l : Launch} {e : Env} {R : Room} {s : State} {m : MethodId} {args : Array Value} {below : List Frame} {meth : Method} {c : Code} {H H0 : Heap} {locs : List Loc} {cells slots : Nat} {Q : State → Prop}
  {D : va_G} {tys : List (ClassId × FieldType)} {A : Nat → Prop} {wW W0 : va_W} {pc : Nat} {ls : Array Slot} {st0 rest : List Value} {mc ms : Nat}
variable {y : MethodName} {bytes cc : ByteArray} {maxL nL n index : Nat} {ret : Option FieldType} {ws ws' : List Cond} {rm : Room} {Ts : List Cond} {own C : String} {b : Addr} {As : List Value} {Qx : (Nat → Prop) → Array Value → State → Outcome → State → Prop} {Xx : (Nat → Prop) → String → State → State → Prop} {S : Type} {wf : S → va_W}
theorem kEx {av : List Value} {sz : Nat} {lv0 : List (Nat × Value)} (own : String) (ho : y.cls = own) (hy : plainName y.cls = true) (hw : ws = Cond.code y cc maxL ret :: ws') (hav : (lg_sl av).length ≤ maxL) (hlv : lv_args 0 av = lv0)
    (body : ∀ (p : Program) (e : Env) (s : State) (m : MethodId) (args : Array Value) (below : List Frame) (meth : Method) (c : Code) (A : Nat → Prop) (ls : Array Slot), p.tables.exec = Jvm.exec → c.code = cc → c.maxLocals = maxL → meth.sig.returnType = ret → meth.locks = false → s.vm.findClass own = some m.cls → (∀ w ∈ ws, w.before args s = true) → (∀ q : Nat, s.heap.size ≤ q → A q) → kX A s s.heap →
      va_K D vwCl tys s → va_P D vwCl W0 s.heap → va_D A W0 → va_S A s.heap s.heap [] → lv_has ls maxL lv0 → W p l e rm s m args below meth c s.heap [] 0 0 (MQ below (Qx A) args s mc ms A) (F0 m 0 ls [])) :
    Met l y ws rm (kPx D tys W0 av sz) (Qx (va_A W0 sz)) mc ms (va_A W0 sz) := by
  refine Met.ofW (cc := cc) (maxL := maxL) (ret := ret) hy hw ?_
  intro p e s m args below meth c s₁ B hml hv
  obtain ⟨rfl, ⟨hsz, hP, hK, hD0⟩, hX⟩ := hv
  have hts := atoms_spec (ws := ws) B.pre
  have hown : s.vm.findClass own = some m.cls := by rw [← ho]; exact findClass_of_methodNamed B.named
  subst hsz
  have hD : va_D (va_A W0 s.heap.size) W0 := hD0.self (sz := s.heap.size)
  have hA : ∀ q : Nat, s.heap.size ≤ q → va_A W0 s.heap.size q := fun q h => Or.inr h
  have hl := lv_entry av (n := maxL) hav
  rw [lg_entry_eq]
  rw [hlv] at hl
  exact body p e s m _ below meth c _ _ B.exec B.bytes hml B.returns B.notSynchronized hown hts hA hX hK hP hD va_S.rf hl
theorem kEt {av : List Value} {sz : Nat} {lv0 : List (Nat × Value)} (own : String) (ho : y.cls = own) (hy : plainName y.cls = true) (hw : ws = Cond.code y cc maxL ret :: ws') (hav : (lg_sl av).length ≤ maxL) (hlv : lv_args 0 av = lv0)
    (body : ∀ (p : Program) (e : Env) (s : State) (m : MethodId) (args : Array Value) (below : List Frame) (meth : Method) (c : Code) (A : Nat → Prop) (ls : Array Slot), p.tables.exec = Jvm.exec → c.code = cc → c.maxLocals = maxL → (∀ x ∈ c.exceptionTable.toList, False) → meth.sig.returnType = ret → meth.locks = false → s.vm.findClass own = some m.cls → (∀ w ∈ ws, w.before args s = true) → (∀ q : Nat, s.heap.size ≤ q → A q) → kX A s s.heap →
      va_K D vwCl tys s → va_P D vwCl W0 s.heap → va_D A W0 → va_S A s.heap s.heap [] → lv_has ls maxL lv0 → W p l e rm s m args below meth c s.heap [] 0 0 (vx_MQ below (Qx A) (Xx A) args s mc ms A) (F0 m 0 ls [])) :
    vx_Met l y ws rm (kPx D tys W0 av sz) (Qx (va_A W0 sz)) (Xx (va_A W0 sz)) mc ms (va_A W0 sz) := by
  refine vx_ofW (cc := cc) (maxL := maxL) (ret := ret) hy hw ?_
  intro p e s m args below meth c s₁ B hml hte hv
  obtain ⟨rfl, ⟨hsz, hP, hK, hD0⟩, hX⟩ := hv
  have hts := atoms_spec (ws := ws) B.pre
  have hown : s.vm.findClass own = some m.cls := by rw [← ho]; exact findClass_of_methodNamed B.named
  subst hsz
  have hD : va_D (va_A W0 s.heap.size) W0 := hD0.self (sz := s.heap.size)
  have hA : ∀ q : Nat, s.heap.size ≤ q → va_A W0 s.heap.size q := fun q h => Or.inr h
  have hl := lv_entry av (n := maxL) hav
  rw [lg_entry_eq]
  rw [hlv] at hl
  exact body p e s m _ below meth c _ _ B.exec B.bytes hml hte B.returns B.notSynchronized hown hts hA hX hK hP hD va_S.rf hl
theorem ket_i (u : S) {code : Nat} {r v : Int32} (hx : p.tables.exec = Jvm.exec) (hb : c.code = cc) (hr : meth.sig.returnType = some .int) (hlocks : meth.locks = false) (hK : va_K D vwCl tys s) (hP : va_P D vwCl (wf u) H) (hD : va_D A (wf u)) (hS : va_S A s.heap H locs) (h0 : code = 0) (hv : v = r) (hc : cells ≤ mc) (hs : slots ≤ ms) (hdg : decode cc pc = .ok (.ireturn, 1)) :
    W p l e R s m args below meth c H locs cells slots (vx_MQ below (kQc D tys wf code r A) (kXc D tys wf code A) args s mc ms A) (F0 m pc ls [.int v]) :=
  W.widen hc hs (vx_ret (W.iret (v := v) hx hb hr (fun t ht hW => ⟨⟨v, u, rfl, ⟨h0, hv⟩, by rw [ht]; exact hP, va_K.moved hW.alike hK, hD⟩, hS.F ht⟩) hS.2.2 hdg hlocks))
theorem kes_i (u : S) {r v : Int32} (hx : p.tables.exec = Jvm.exec) (hb : c.code = cc) (hr : meth.sig.returnType = some .int) (hlocks : meth.locks = false) (hK : va_K D vwCl tys s) (hP : va_P D vwCl (wf u) H) (hD : va_D A (wf u)) (hS : va_S A s.heap H locs) (hv : v = r) (hc : cells ≤ mc) (hs : slots ≤ ms) (hdg : decode cc pc = .ok (.ireturn, 1)) :
    W p l e R s m args below meth c H locs cells slots (MQ below (kQiS D tys wf r A) args s mc ms A) (F0 m pc ls [.int v]) :=
  W.widen hc hs (W.iret (v := v) hx hb hr (fun t ht hW => ⟨⟨v, u, rfl, hv, by rw [ht]; exact hP, va_K.moved hW.alike hK, hD⟩, hS.F ht⟩) hS.2.2 hdg hlocks)
theorem kes_z (u : S) {r v : Int32} (hx : p.tables.exec = Jvm.exec) (hb : c.code = cc) (hr : meth.sig.returnType = some .boolean) (hlocks : meth.locks = false) (hnar : narrow .boolean (.int v) = .int v) (hK : va_K D vwCl tys s) (hP : va_P D vwCl (wf u) H) (hD : va_D A (wf u)) (hS : va_S A s.heap H locs) (hv : v = r) (hc : cells ≤ mc) (hs : slots ≤ ms) (hdg : decode cc pc = .ok (.ireturn, 1)) :
    W p l e R s m args below meth c H locs cells slots (MQ below (kQiS D tys wf r A) args s mc ms A) (F0 m pc ls [.int v]) :=
  W.widen hc hs (W.zret (v := v) hx hb hr hnar (fun t ht hW => ⟨⟨v, u, rfl, hv, by rw [ht]; exact hP, va_K.moved hW.alike hK, hD⟩, hS.F ht⟩) hS.2.2 hdg hlocks)
theorem kes_v (u : S) (hx : p.tables.exec = Jvm.exec) (hb : c.code = cc) (hr : meth.sig.returnType = none) (hlocks : meth.locks = false) (hK : va_K D vwCl tys s) (hP : va_P D vwCl (wf u) H) (hD : va_D A (wf u)) (hS : va_S A s.heap H locs) (hc : cells ≤ mc) (hs : slots ≤ ms) (hdg : decode cc pc = .ok (.return_, 1)) :
    W p l e R s m args below meth c H locs cells slots (MQ below (kQvS D tys wf A) args s mc ms A) (F0 m pc ls []) :=
  W.widen hc hs (W.vret hx hb hr (fun t ht hW => ⟨⟨u, rfl, trivial, by rw [ht]; exact hP, va_K.moved hW.alike hK, hD⟩, hS.F ht⟩) hS.2.2 hdg hlocks)
theorem kPkeep {H1 : Heap} (hP : va_P D vwCl wW H) (h : ∀ q : Nat, q < H.size → H1[q]? = H[q]?) : va_P D vwCl wW H1 := fun k q hk => (hP k q hk).kept (h q.1 (hP k q hk).lt)
/-- throw new X() -/
theorem kthr {c0 : Cond} (u : S) {code : Nat} {r : Int32} {X : String} {ik ic : Nat} (hx : p.tables.exec = Jvm.exec) (hb : c.code = cc) (hl : l.stackTraces = false) (hown : s.vm.findClass RX8 = some m.cls) (hts : ∀ w ∈ c0 :: BIG, w.before args s = true) (hX : kX A s s.heap)
    (hfit : Bundle.fit X = true) (hk : Cond.classLink RX8 ik X ∈ BIG) (hini : Cond.initialized X ∈ BIG) (hat : ∀ w ∈ vx_at0 RX8 ic X xR, w ∈ BIG ∨ w ∈ [Cond.declares ⟨"java/lang/RuntimeException", "<init>", "()V"⟩, .declares ⟨"java/lang/Exception", "<init>", "()V"⟩, .declares ⟨"java/lang/Throwable", "<init>", "()V"⟩, .castable X X]) (hgood : ∀ w ∈ Cond.classLink RX8 ik X :: Cond.initialized X :: vx_at0 RX8 ic X xR, vx_ot w = true) (hin : X ∈ [xI, xA, xS])
    (hK : va_K D vwCl tys s) (hP : va_P D vwCl (wf u) H) (hD : va_D A (wf u)) (hS : va_S A s.heap H locs) (hsize : ls.size = c.maxLocals) (hte : ∀ x ∈ c.exceptionTable.toList, False) (hlocks : meth.locks = false) (hE : kEc code X) (hc : cells + 1 ≤ mc) (hs : slots + 6 ≤ ms)
    (hRf : 5 < R.frames) (hRl : (rest.map fun v => v.category).sum + 81 ≤ R.locals) (hRc : cells + 1 ≤ R.cells) (hRs : slots + 6 ≤ R.slots)
    (d0 : decode cc pc = .ok (.new ik, 3)) (d3 : decode cc (pc + 3) = .ok (.dup, 1)) (d4 : decode cc (pc + 4) = .ok (.invokespecial ic, 3)) (d7 : decode cc (pc + 7) = .ok (.athrow, 1)) :
    W p l e R s m args below meth c H locs cells slots (vx_MQ below (kQc D tys wf code r A) (kXc D tys wf code A) args s mc ms A) (F0 m pc ls rest) := by
  refine vx_throw0 (names := xR) (A := A) hx hb hl hown hfit (by decide +kernel) (hts _ (List.mem_cons_of_mem _ hk)) (hts _ (List.mem_cons_of_mem _ hini)) ?_ hgood hX.2.2.2.1 hX.2.2.2.2.1 hS hsize d0 d3 d4 d7 (fun x h => absurd h (hte x)) hRf hRl hRc hRs hlocks ?_ hS.2.2 hc hs
  · intro w hw
    rcases hat w hw with h | h
    · exact hts _ (List.mem_cons_of_mem _ h)
    · obtain ⟨-, -, n3, n4, -⟩ := hX.2.2.2.2.2
      simp only [List.mem_cons, List.not_mem_nil, or_false] at h
      rcases h with rfl | rfl | rfl | rfl
      · exact (n3 "java/lang/RuntimeException" (by simp)).use rfl
      · exact (n3 "java/lang/Exception" (by simp)).use rfl
      · exact (n3 "java/lang/Throwable" (by simp)).use rfl
      · exact (n4 X hin).use rfl
  · intro t hvm hz hq
    exact ⟨u, trivial, ⟨hE, kPkeep hP hq, va_K.moved hvm hK, hD⟩, Nat.le_trans hS.1 hz, fun q h1 h2 => by rw [hq q (Nat.lt_of_lt_of_le h1 hS.1)]; exact hS.2.1 q h1 h2⟩
end KXE
theorem xat_I : ∀ w ∈ vx_at0 RX8 93 xI xR, w ∈ BIG ∨ w ∈ [Cond.declares ⟨"java/lang/RuntimeException", "<init>", "()V"⟩, .declares ⟨"java/lang/Exception", "<init>", "()V"⟩, .declares ⟨"java/lang/Throwable", "<init>", "()V"⟩, .castable xI xI] := by decide +kernel
theorem xgood_I : ∀ w ∈ Cond.classLink RX8 91 xI :: Cond.initialized xI :: vx_at0 RX8 93 xI xR, vx_ot w = true := by decide +kernel
theorem kthr_I {p : Program} {l : Launch} {e : Env} {R : Room} {s : State} {m : MethodId} {args : Array Value} {below : List Frame} {meth : Method} {c : Code} {H : Heap} {locs : List Loc} {cells slots : Nat} {D : va_G} {tys : List (ClassId × FieldType)} {A : Nat → Prop} {pc : Nat} {ls : Array Slot} {rest : List Value} {mc ms : Nat} {cc : ByteArray} {S : Type} {wf : S → va_W} {c0 : Cond} (u : S) {code : Nat} {r : Int32} (hx : p.tables.exec = Jvm.exec) (hb : c.code = cc) (hl : l.stackTraces = false) (hown : s.vm.findClass RX8 = some m.cls) (hts : ∀ w ∈ c0 :: BIG, w.before args s = true) (hX : kX A s s.heap)
    (hK : va_K D vwCl tys s) (hP : va_P D vwCl (wf u) H) (hD : va_D A (wf u)) (hS : va_S A s.heap H locs) (hsize : ls.size = c.maxLocals) (hte : ∀ x ∈ c.exceptionTable.toList, False) (hlocks : meth.locks = false) (hE : kEc code xI) (hc : cells + 1 ≤ mc) (hs : slots + 6 ≤ ms)
    (hRf : 5 < R.frames) (hRl : (rest.map fun v => v.category).sum + 81 ≤ R.locals) (hRc : cells + 1 ≤ R.cells) (hRs : slots + 6 ≤ R.slots)
    (d0 : decode cc pc = .ok (.new 91, 3)) (d3 : decode cc (pc + 3) = .ok (.dup, 1)) (d4 : decode cc (pc + 4) = .ok (.invokespecial 93, 3)) (d7 : decode cc (pc + 7) = .ok (.athrow, 1)) :
    W p l e R s m args below meth c H locs cells slots (vx_MQ below (kQc D tys wf code r A) (kXc D tys wf code A) args s mc ms A) (F0 m pc ls rest) :=
  kthr (X := xI) (ik := 91) (ic := 93) u hx hb hl hown hts hX (by decide +kernel) w_197 w_198 xat_I xgood_I (by simp) hK hP hD hS hsize hte hlocks hE hc hs hRf hRl hRc hRs d0 d3 d4 d7
theorem xat_A : ∀ w ∈ vx_at0 RX8 67 xA xR, w ∈ BIG ∨ w ∈ [Cond.declares ⟨"java/lang/RuntimeException", "<init>", "()V"⟩, .declares ⟨"java/lang/Exception", "<init>", "()V"⟩, .declares ⟨"java/lang/Throwable", "<init>", "()V"⟩, .castable xA xA] := by decide +kernel
theorem xgood_A : ∀ w ∈ Cond.classLink RX8 65 xA :: Cond.initialized xA :: vx_at0 RX8 67 xA xR, vx_ot w = true := by decide +kernel
theorem kthr_A {p : Program} {l : Launch} {e : Env} {R : Room} {s : State} {m : MethodId} {args : Array Value} {below : List Frame} {meth : Method} {c : Code} {H : Heap} {locs : List Loc} {cells slots : Nat} {D : va_G} {tys : List (ClassId × FieldType)} {A : Nat → Prop} {pc : Nat} {ls : Array Slot} {rest : List Value} {mc ms : Nat} {cc : ByteArray} {S : Type} {wf : S → va_W} {c0 : Cond} (u : S) {code : Nat} {r : Int32} (hx : p.tables.exec = Jvm.exec) (hb : c.code = cc) (hl : l.stackTraces = false) (hown : s.vm.findClass RX8 = some m.cls) (hts : ∀ w ∈ c0 :: BIG, w.before args s = true) (hX : kX A s s.heap)
    (hK : va_K D vwCl tys s) (hP : va_P D vwCl (wf u) H) (hD : va_D A (wf u)) (hS : va_S A s.heap H locs) (hsize : ls.size = c.maxLocals) (hte : ∀ x ∈ c.exceptionTable.toList, False) (hlocks : meth.locks = false) (hE : kEc code xA) (hc : cells + 1 ≤ mc) (hs : slots + 6 ≤ ms)
    (hRf : 5 < R.frames) (hRl : (rest.map fun v => v.category).sum + 81 ≤ R.locals) (hRc : cells + 1 ≤ R.cells) (hRs : slots + 6 ≤ R.slots)
    (d0 : decode cc pc = .ok (.new 65, 3)) (d3 : decode cc (pc + 3) = .ok (.dup, 1)) (d4 : decode cc (pc + 4) = .ok (.invokespecial 67, 3)) (d7 : decode cc (pc + 7) = .ok (.athrow, 1)) :
    W p l e R s m args below meth c H locs cells slots (vx_MQ below (kQc D tys wf code r A) (kXc D tys wf code A) args s mc ms A) (F0 m pc ls rest) :=
  kthr (X := xA) (ik := 65) (ic := 67) u hx hb hl hown hts hX (by decide +kernel) w_130 w_131 xat_A xgood_A (by simp) hK hP hD hS hsize hte hlocks hE hc hs hRf hRl hRc hRs d0 d3 d4 d7
theorem xat_S : ∀ w ∈ vx_at0 RX8 74 xS xR, w ∈ BIG ∨ w ∈ [Cond.declares ⟨"java/lang/RuntimeException", "<init>", "()V"⟩, .declares ⟨"java/lang/Exception", "<init>", "()V"⟩, .declares ⟨"java/lang/Throwable", "<init>", "()V"⟩, .castable xS xS] := by decide +kernel
theorem xgood_S : ∀ w ∈ Cond.classLink RX8 72 xS :: Cond.initialized xS :: vx_at0 RX8 74 xS xR, vx_ot w = true := by decide +kernel
theorem kthr_S {p : Program} {l : Launch} {e : Env} {R : Room} {s : State} {m : MethodId} {args : Array Value} {below : List Frame} {meth : Method} {c : Code} {H : Heap} {locs : List Loc} {cells slots : Nat} {D : va_G} {tys : List (ClassId × FieldType)} {A : Nat → Prop} {pc : Nat} {ls : Array Slot} {rest : List Value} {mc ms : Nat} {cc : ByteArray} {S : Type} {wf : S → va_W} {c0 : Cond} (u : S) {code : Nat} {r : Int32} (hx : p.tables.exec = Jvm.exec) (hb : c.code = cc) (hl : l.stackTraces = false) (hown : s.vm.findClass RX8 = some m.cls) (hts : ∀ w ∈ c0 :: BIG, w.before args s = true) (hX : kX A s s.heap)
    (hK : va_K D vwCl tys s) (hP : va_P D vwCl (wf u) H) (hD : va_D A (wf u)) (hS : va_S A s.heap H locs) (hsize : ls.size = c.maxLocals) (hte : ∀ x ∈ c.exceptionTable.toList, False) (hlocks : meth.locks = false) (hE : kEc code xS) (hc : cells + 1 ≤ mc) (hs : slots + 6 ≤ ms)
    (hRf : 5 < R.frames) (hRl : (rest.map fun v => v.category).sum + 81 ≤ R.locals) (hRc : cells + 1 ≤ R.cells) (hRs : slots + 6 ≤ R.slots)
    (d0 : decode cc pc = .ok (.new 72, 3)) (d3 : decode cc (pc + 3) = .ok (.dup, 1)) (d4 : decode cc (pc + 4) = .ok (.invokespecial 74, 3)) (d7 : decode cc (pc + 7) = .ok (.athrow, 1)) :
    W p l e R s m args below meth c H locs cells slots (vx_MQ below (kQc D tys wf code r A) (kXc D tys wf code A) args s mc ms A) (F0 m pc ls rest) :=
  kthr (X := xS) (ik := 72) (ic := 74) u hx hb hl hown hts hX (by decide +kernel) w_132 w_133 xat_S xgood_S (by simp) hK hP hD hS hsize hte hlocks hE hc hs hRf hRl hRc hRs d0 d3 d4 d7
