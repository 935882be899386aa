/-! CONSTRUCTORS -/
section KI
variable {p : Program} {l : Launch} {e : Env} {R : Room} {s : State} {m : MethodId} {args : Array Value} {below : List Frame} {meth : Method} {c : Code} {H H0 : Heap} {locs : List Loc} {cells slots : Nat} {Q : State → Prop}
  {D : va_G} {tys : List (ClassId × FieldType)} {A : Nat → Prop} {wW W0 : va_W} {pc : Nat} {ls : Array Slot} {st0 rest : List Value} {mc ms : Nat} {t : Nat → ClassId} {cA : ClassId}
variable {y : MethodName} {bytes cc : ByteArray} {maxL nL n index : Nat} {ret : Option FieldType} {ws ws' : List Cond} {rm : Room} {Ts : List Cond} {own C : String} {b : Addr} {As : List Value} {Qx : (Nat → Prop) → Array Value → State → Outcome → State → Prop} {S : Type} {wf : S → va_W}
theorem kcA0 (h : va_K D vwCl (TY t ++ [(cA, .int)]) s) : cA = t 0 := Option.some.inj (((h.2 4 _ rfl).2 : s.vm.findClass _ = some cA).symm.trans ((h.2 0 _ rfl).2 : s.vm.findClass _ = some (t 0)))
theorem kcA1 (h : va_K D vwCl (TY t ++ [(cA, .char)]) s) : cA = t 1 := Option.some.inj (((h.2 4 _ rfl).2 : s.vm.findClass _ = some cA).symm.trans ((h.2 1 _ rfl).2 : s.vm.findClass _ = some (t 1)))
theorem kcA2 (h : va_K D vwCl (TY t ++ [(cA, .boolean)]) s) : cA = t 2 := Option.some.inj (((h.2 4 _ rfl).2 : s.vm.findClass _ = some cA).symm.trans ((h.2 2 _ rfl).2 : s.vm.findClass _ = some (t 2)))
theorem kcA3 (h : va_K D vwCl (TY t ++ [(cA, .object "ChunkCarriers$Desk")]) s) : cA = t 3 := by
  obtain ⟨k1, c1, -, -, -, h1⟩ := (h.2 4 _ rfl).2
  obtain ⟨k2, c2, -, -, -, h2⟩ := (h.2 3 _ rfl).2
  exact Option.some.inj (h1.symm.trans h2)
theorem kEi {av : List Value} {sz : Nat} {lv0 : List (Nat × Value)} (own : String) (ho : y.cls = own) (hyn : y.name = "<init>") (hy : plainName y.cls = true) (hw : ws = Cond.code y cc maxL ret :: ws') (hav : (lg_sl av).length ≤ maxL) (hlv : lv_args 0 av = lv0)
    (body : ∀ (p : Program) (e : Env) (s : State) (m : MethodId) (args : Array Value) (below : List Frame) (meth : Method) (c : Code) (A : Nat → Prop) (ls : Array Slot), p.tables.exec = Jvm.exec → c.code = cc → c.maxLocals = maxL → meth.sig.returnType = ret → meth.locks = false → s.vm.findClass own = some m.cls → meth.name = "<init>" → (∀ w ∈ ws, w.before args s = true) → (∀ q : Nat, s.heap.size ≤ q → A q) → kX A s s.heap →
      va_K D vwCl tys s → va_P D vwCl W0 s.heap → va_D A W0 → va_S A s.heap s.heap [] → lv_has ls maxL lv0 → W p l e rm s m args below meth c s.heap [] 0 0 (MQ below (Qx A) args s mc ms A) (F0 m 0 ls [])) :
    Met l y ws rm (kPx D tys W0 av sz) (Qx (va_A W0 sz)) mc ms (va_A W0 sz) := by
  refine Met.ofW (cc := cc) (maxL := maxL) (ret := ret) hy hw ?_
  intro p e s m args below meth c s₁ B hml hv
  obtain ⟨rfl, ⟨hsz, hP, hK, hD0⟩, hX⟩ := hv
  have hts := atoms_spec (ws := ws) B.pre
  have hown : s.vm.findClass own = some m.cls := by rw [← ho]; exact findClass_of_methodNamed B.named
  have hin : meth.name = "<init>" := (name_of_methodNamed B.named B.method).1.trans hyn
  subst hsz
  have hD : va_D (va_A W0 s.heap.size) W0 := hD0.self (sz := s.heap.size)
  have hA : ∀ q : Nat, s.heap.size ≤ q → va_A W0 s.heap.size q := fun q h => Or.inr h
  have hl := lv_entry av (n := maxL) hav
  rw [lg_entry_eq]
  rw [hlv] at hl
  exact body p e s m _ below meth c _ _ B.exec B.bytes hml B.returns B.notSynchronized hown hin hts hA hX hK hP hD va_S.rf hl
/-- the copy of the row of first settings -/
theorem kclone {q : Nat} {cell : Cell} (hx : p.tables.exec = Jvm.exec) (hb : c.code = cc) (hml : c.maxLocals = ls.size) (hown : s.vm.findClass own = some m.cls) (hlink : (Cond.methodLink own index ⟨"[I", "clone", "()Ljava/lang/Object;"⟩).before args s = true) (hsame : (Cond.sameMethod "[I" "java/lang/Object" "clone" "()Ljava/lang/Object;").before args s = true)
    (hnat : (Cond.native ⟨"java/lang/Object", "clone", "()Ljava/lang/Object;"⟩).before args s = true) (hinst : (Cond.instanceMethod ⟨"java/lang/Object", "clone", "()Ljava/lang/Object;"⟩).before args s = true) (hsel : (Cond.selects "[I" ⟨"[I", "clone", "()Ljava/lang/Object;"⟩ ⟨"java/lang/Object", "clone", "()Ljava/lang/Object;"⟩).before args s = true) (hcl : va_Nw (.castable "[I" "java/lang/Cloneable") s)
    (hK : va_K D vwCl (TY t) s) (hP : va_P D vwCl wW H) (hD : va_D A wW) (hS : va_S A s.heap H locs) (hA : ∀ q, s.heap.size ≤ q → A q)
    (h2 : s.heap[q]? = some cell) (h3 : s.isArrayOf cell .int) (h4 : cell.vm ≠ .unknown) (h5 : cell.slots.size = 5) (h6 : ∀ j : Nat, j < 5 → cell.slots[j]? = some (.int (stF j))) (h7 : s.vm.findClass "[I" = some cell.cls) (h8 : ¬ A q)
    (hframes : 1 ≤ R.frames) (hlocals : (rest.map fun v => v.category).sum + 14 ≤ R.locals) (hcells : cells + 1 ≤ R.cells) (hslots : slots + 5 ≤ R.slots) (hdg : decode cc pc = .ok (.invokevirtual index, 3))
    (kk : ∀ (q1 : Nat) (H1 : Heap), va_P D vwCl (wW ++ [(q1, .inl (t 0, 5, .inl stF))]) H1 → va_D A (wW ++ [(q1, .inl (t 0, 5, .inl stF))]) → va_S A s.heap H1 locs →
      W p l e R s m args below meth c H1 locs (cells + 1) (slots + 5) Q (F0 m (pc + 3) ls (.ref q1 :: rest))) : W p l e R s m args below meth c H locs cells slots Q (F0 m pc ls (.ref q :: rest)) := by
  have hq : q < s.heap.size := (Array.getElem?_eq_some_iff.mp h2).1
  have hcH : H[q]? = some cell := by rw [hS.2.1 q hq h8]; exact h2
  have hcls : cell.cls = t 0 := Option.some.inj (h7.symm.trans ((hK.2 0 _ rfl).2 : s.vm.findClass _ = some (t 0)))
  have hE : ({ cls := cell.cls, slots := cell.slots } : Cell) = vp_cell (t 0) (5, .inl stF) := by
    rw [vp_cell_i, hcls]
    have hs : cell.slots = (arrV (t 0) 5 (fun j => .int (stF j))).slots := by
      apply Array.ext_getElem?
      intro j
      by_cases hj : j < 5
      · rw [h6 j hj, arrV_read _ _ hj]
      · rw [Array.getElem?_eq_none (by rw [h5]; omega), Array.getElem?_eq_none (by rw [arrV_size]; omega)]
    rw [hs]
    rfl
  obtain ⟨c0, t0', f1, f2, f3⟩ := Cond.castable_spec (va_Nw.use (A := args) rfl hcl)
  cases h7.symm.trans f1
  intro T hT X
  obtain ⟨kS, hkS, compS, hkindS⟩ := h3.2
  obtain ⟨-, kA, hkA, comp, hkind⟩ := State.isArrayOf_alike X.warmed.alike h3
  obtain ⟨vm', X', st⟩ := X.cloneArray hx hown hlink hsame hnat hinst hsel (a := q) (cell := cell) (by rw [hT]; exact hcH) h3.1 h4 h7 f2 f3
    (fun i v hv => by
      have hk' : T.vm.classes[cell.cls]? = some kA := hkA
      have hi : i < 5 := by rw [← h5]; exact (Array.getElem?_eq_some_iff.mp hv).1
      rw [h6 i hi] at hv
      cases hv
      simp [State.fitsSlot, State.slotType?, hk', hkind, fits])
    (g := F0 m pc ls (.ref q :: rest)) rfl (by rw [hml]) rfl (by rw [hb]; exact hdg) hframes (by show 2 * 0 + _ + 14 ≤ _; omega) hcells (by rw [h5]; exact hslots) (hloader := Vm.clonesLoader_of_array hkS hkindS)
  rw [hE, h5] at X'
  generalize hH1 : H.push (vp_cell (t 0) (5, .inl stF)) = H1
  have e1 : H1[H.size]? = some (vp_cell (t 0) (5, .inl stF)) := by rw [← hH1, Array.getElem?_push_size]
  have o1 : ∀ q : Nat, q < H.size → H1[q]? = H[q]? := fun q hq => by rw [← hH1, Array.getElem?_push, if_neg (Nat.ne_of_lt hq)]
  have z1 : H1.size = H.size + 1 := by rw [← hH1, Array.size_push]
  obtain ⟨t2, b1, b2⟩ := kk H.size H1 (kP_iff.mpr fun z hz => by
      rcases List.mem_append.mp hz with h | h
      · have ha := kP_iff.mp hP z h
        exact ha.kept (o1 z.1 ha.lt)
      · rw [List.mem_singleton] at h
        subst h
        exact e1)
    (kD_iff.mpr ⟨by
      rw [List.map_append]
      refine List.nodup_append.mpr ⟨(kD_iff.mp hD).1, by simp, ?_⟩
      intro x hx2 z hz hxz
      simp only [List.map_cons, List.map_nil, List.mem_singleton] at hz
      obtain ⟨w, w1, w2⟩ := List.mem_map.mp hx2
      have := (kP_iff.mp hP w w1).lt
      omega, fun z hz => by
      rcases List.mem_append.mp hz with h | h
      · exact (kD_iff.mp hD).2 z h
      · rw [List.mem_singleton] at h
        subst h
        exact hA _ hS.1⟩)
    ⟨by rw [z1]; exact Nat.le_trans hS.1 (Nat.le_succ _), fun z h1 h9 => by rw [o1 z (Nat.lt_of_lt_of_le h1 hS.1)]; exact hS.2.1 z h1 h9, hS.2.2⟩
    ((T.setVm vm').pushCell (vp_cell (t 0) (5, .inl stF))) (by rw [← hH1, ← hT]; rfl) X'
  refine ⟨t2, st t2 ?_, b2⟩
  rw [hE]
  rw [hT]
  exact b1
end KI
