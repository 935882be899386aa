/-! WHAT A METHOD OF THE CLASS MAY KNOW BESIDE ITS WORLD: the static rows, what a throw needs, links between nest mates -/
def stF : Nat → Int32 := fun j => ([4, 4, 3, 50, 2] : List Int32).getD j 0
def stL : Nat → Int32 := fun j => ([2, 2, 1, 1, 1] : List Int32).getD j 0
def stG : Nat → Int32 := fun j => ([9, 8, 9, 100, 4] : List Int32).getD j 0
def xI : String := "java/lang/IndexOutOfBoundsException"
def xA : String := "java/lang/IllegalArgumentException"
def xS : String := "java/lang/IllegalStateException"
def xR : List String := ["java/lang/RuntimeException", "java/lang/Exception"]
def kSt (n : String) (f : Nat → Int32) (A : Nat → Prop) (U : State) (H : Heap) : Prop := ∃ q : Nat, va_Z "ChunkCarriers" n "[I" (.ref q) A U H ∧ va_T .int q 5 (fun j => .int (f j)) A U H
/-- the row that a new desk copies: exactly what it is -/
def kCl (A : Nat → Prop) (U : State) (H : Heap) : Prop := ∃ (q : Nat) (cell : Cell), va_Z "ChunkCarriers" "FIRST_SETTINGS" "[I" (.ref q) A U H ∧ H[q]? = some cell ∧ U.isArrayOf cell .int ∧ cell.vm ≠ .unknown ∧ cell.slots.size = 5 ∧ (∀ j : Nat, j < 5 → cell.slots[j]? = some (.int (stF j))) ∧ U.vm.findClass "[I" = some cell.cls ∧ ¬ A q
def NWM : List (String × Nat × MethodName) := [("ChunkCarriers", 18, yX1_init), ("ChunkCarriers", 28, yX3_init), ("ChunkCarriers", 39, yX6_init), ("ChunkCarriers", 46, yX4_init), ("ChunkCarriers", 53, yX5_init), ("ChunkCarriers", 60, yX0_init), ("ChunkCarriers", 9, yX7_init), ("ChunkCarriers$Desk", 70, yX8_isSetting), ("ChunkCarriers$Past", 24, yX1_init)]
def kNw (U : State) : Prop := (∀ q ∈ NWM, va_Nw (.methodLinkNest q.1 q.2.1 q.2.2 "ChunkCarriers") U) ∧ va_Nw (.fieldLinkNest "ChunkCarriers$Desk" 9 "ChunkCarriers" "FIRST_SETTINGS" "[I" "ChunkCarriers") U ∧
  (∀ n ∈ ["java/lang/RuntimeException", "java/lang/Exception", "java/lang/Throwable"], va_Nw (.declares ⟨n, "<init>", "()V"⟩) U) ∧ (∀ n ∈ [xI, xA, xS], va_Nw (.castable n n) U) ∧ True ∧ va_AO "ChunkCarriers$Desk" U ∧ va_Nw (.castable "[I" "java/lang/Cloneable") U
theorem kNw.go {s U : State} (h : kNw s) (hW : s.WarmedH U.vm) : kNw U := ⟨fun q hq => (h.1 q hq).warmM hW, h.2.1.warmF hW, fun n hn => (h.2.2.1 n hn).warmD hW, fun n hn => (h.2.2.2.1 n hn).warmC hW, trivial, h.2.2.2.2.2.1.moved hW.alike, h.2.2.2.2.2.2.warmC hW⟩
def kX (A : Nat → Prop) (U : State) (H : Heap) : Prop := kCl A U H ∧ kSt "LEAST_SETTINGS" stL A U H ∧ kSt "GREATEST_SETTINGS" stG A U H ∧ vx_Zq Bundle.tN "UNASSIGNED_STACK" Bundle.steD A U H ∧ vx_Zq Bundle.tN "SUPPRESSED_SENTINEL" Bundle.listD A U H ∧ kNw U
theorem kSt.go {n : String} {f : Nat → Int32} {A B : Nat → Prop} {s U : State} {H H1 : Heap} (h : kSt n f A s H) (hvm : s.vm.Alike U.vm) (hq : ∀ a : Nat, a < H.size → ¬ A a → H1[a]? = H[a]?) (hAB : ∀ q, B q → A q) : kSt n f B U H1 := by
  obtain ⟨q, h1, h2⟩ := h
  exact ⟨q, ((h1.moved hvm).kept hq).narrow hAB, ((h2.moved hvm).kept hq).narrow hAB⟩
theorem kCl.go {A B : Nat → Prop} {s U : State} {H H1 : Heap} (h : kCl A s H) (hvm : s.vm.Alike U.vm) (hq : ∀ a : Nat, a < H.size → ¬ A a → H1[a]? = H[a]?) (hAB : ∀ q, B q → A q) : kCl B U H1 := by
  obtain ⟨q, cell, h1, h2, h3, h4, h5, h6, h7, h8⟩ := h
  exact ⟨q, cell, ((h1.moved hvm).kept hq).narrow hAB, by rw [hq q (Array.getElem?_eq_some_iff.mp h2).1 h8]; exact h2, State.isArrayOf_alike hvm h3, h4, h5, h6, by rw [hvm.findClass]; exact h7, fun z => h8 (hAB _ z)⟩
theorem kX.go {A B : Nat → Prop} {s U : State} {H H1 : Heap} (h : kX A s H) (hW : s.WarmedH U.vm) (hq : ∀ a : Nat, a < H.size → ¬ A a → H1[a]? = H[a]?) (hAB : ∀ q, B q → A q) : kX B U H1 :=
  ⟨h.1.go hW.alike hq hAB, h.2.1.go hW.alike hq hAB, h.2.2.1.go hW.alike hq hAB, ((h.2.2.2.1.moved hW.alike).kept hq).narrow hAB, ((h.2.2.2.2.1.moved hW.alike).kept hq).narrow hAB, h.2.2.2.2.2.go hW⟩
theorem kNw.call {U : State} {g : JFrame} {mk : MethodId} {a : Array Value} (h : kNw U) : kNw (U.calling g mk a) := ⟨fun q hq => (h.1 q hq).same rfl rfl, h.2.1.same rfl rfl, fun n hn => (h.2.2.1 n hn).same rfl rfl, fun n hn => (h.2.2.2.1 n hn).same rfl rfl, trivial, h.2.2.2.2.2.1.moved (Vm.Alike.refl U.vm), h.2.2.2.2.2.2.same rfl rfl⟩
theorem kX.call {A : Nat → Prop} {U : State} {H : Heap} {g : JFrame} {mk : MethodId} {a : Array Value} (h : kX A U H) : kX A (U.calling g mk a) H :=
  ⟨h.1.go (U := U.calling g mk a) (Vm.Alike.refl U.vm) (fun _ _ _ => rfl) (fun _ h => h), h.2.1.go (U := U.calling g mk a) (Vm.Alike.refl U.vm) (fun _ _ _ => rfl) (fun _ h => h), h.2.2.1.go (U := U.calling g mk a) (Vm.Alike.refl U.vm) (fun _ _ _ => rfl) (fun _ h => h), h.2.2.2.1.moved (U := U.calling g mk a) (Vm.Alike.refl U.vm), h.2.2.2.2.1.moved (U := U.calling g mk a) (Vm.Alike.refl U.vm), h.2.2.2.2.2.call⟩
/-- a start that knows all that -/
def kPx (D : va_G) (tys : List (ClassId × FieldType)) (ws : va_W) (av : List Value) (sz : Nat) : Array Value → State → Prop := va_Pc av (fun U => (U.heap.size = sz ∧ va_P D vwCl ws U.heap ∧ va_K D vwCl tys U ∧ va_D (fun _ => True) ws) ∧ kX (va_A ws sz) U U.heap)
theorem kPx_blind {D : va_G} {tys : List (ClassId × FieldType)} {ws : va_W} {av : List Value} {sz : Nat} : FrameBlind (kPx D tys ws av sz) := fun a U g mk q => ⟨q.1, ⟨q.2.1.1, q.2.1.2.1, va_K.moved (u := U) (U := U.calling g mk a) (Vm.Alike.refl U.vm) q.2.1.2.2.1, q.2.1.2.2.2⟩, q.2.2.call⟩
/-! what a method that may throw says: the code of what it throws (1, 2, 3), or 0; its answer; the world behind it, whose new cells' places u tells -/
def kEc (code : Nat) (E : String) : Prop := (code = 1 ∧ E = xI) ∨ (code = 2 ∧ E = xA) ∨ (code = 3 ∧ E = xS)
def kQc {S : Type} (D : va_G) (tys : List (ClassId × FieldType)) (wf : S → va_W) (code : Nat) (r : Int32) (A : Nat → Prop) : Array Value → State → Outcome → State → Prop := va_Qi (fun (r2 : Int32) (_ : S) => code = 0 ∧ r2 = r) (fun u t => kB D tys A (wf u) t) A
def kXc {S : Type} (D : va_G) (tys : List (ClassId × FieldType)) (wf : S → va_W) (code : Nat) (A : Nat → Prop) : String → State → State → Prop := vx_X (fun (_ : S) => True) (fun E u t => kEc code E ∧ kB D tys A (wf u) t) A
def kQiS {S : Type} (D : va_G) (tys : List (ClassId × FieldType)) (wf : S → va_W) (r : Int32) (A : Nat → Prop) : Array Value → State → Outcome → State → Prop := va_Qi (fun (r2 : Int32) (_ : S) => r2 = r) (fun u t => kB D tys A (wf u) t) A
def kQvS {S : Type} (D : va_G) (tys : List (ClassId × FieldType)) (wf : S → va_W) (A : Nat → Prop) : Array Value → State → Outcome → State → Prop := va_Qv (fun (_ : S) => True) (fun u t => kB D tys A (wf u) t) A
section KX
variable {p : Program} {l : Launch} {e : Env} {R : Room} {s : State} {m : MethodId} {args : Array Value} {below : List Frame} {meth : Method} {c : Code} {H H0 : Heap} {locs : List Loc} {cells slots : Nat} {Q : State → Prop}
  {D : va_G} {tys : List (ClassId × FieldType)} {A : Nat → Prop} {L cs cs' L1 : List va_W} {pc : Nat} {ls : Array Slot} {st0 rest : List Value} {a : Array Value} {is : List Nat} {mc ms : Nat}
variable {y : MethodName} {bytes cc : ByteArray} {maxL nL n index : Nat} {ret : Option FieldType} {ws ws' : List Cond} {rm : Room} {Ts : List Cond} {own C : String} {b : Addr} {As : List Value} {Qx : (Nat → Prop) → Array Value → State → Outcome → State → Prop} {Xx : (Nat → Prop) → String → State → State → Prop} {S : Type} {wf : S → List va_W}
theorem kpreV (hK : va_K D vwCl tys s) (hP : va_P D vwCl (kflat L) H) (hD : va_D A (kflat L)) (hn : is.Nodup) (hC : is.map (fun i => L[i]?) = cs.map some) {av : List Value} : ∀ U : State, U.heap = H → s.WarmedH U.vm → kPc D tys (kflat cs) av H.size av.toArray U :=
  fun U hU hW => ⟨rfl, by rw [hU], by rw [hU]; exact kpreP hP hn hC, va_K.moved hW.alike hK, (kpreD hD hn hC).weaken (fun _ _ _ _ => trivial)⟩
theorem kpreX (hX : kX A s s.heap) (hS : va_S A s.heap H locs) (hA : ∀ q, s.heap.size ≤ q → A q) (hK : va_K D vwCl tys s) (hP : va_P D vwCl (kflat L) H) (hD : va_D A (kflat L)) (hn : is.Nodup) (hC : is.map (fun i => L[i]?) = cs.map some) {av : List Value} : ∀ U : State, U.heap = H → s.WarmedH U.vm → kPx D tys (kflat cs) av H.size av.toArray U :=
  fun U hU hW => ⟨rfl, ⟨by rw [hU], by rw [hU]; exact kpreP hP hn hC, va_K.moved hW.alike hK, (kpreD hD hn hC).weaken (fun _ _ _ _ => trivial)⟩, by rw [hU]; exact hX.go hW (fun q h1 h2 => hS.2.1 q h1 h2) (kpreF hD hS hA hn hC)⟩
/-- runs: of a plain callee, of one that knows kX, of one that may throw; virtual and static -/
theorem kL_V (CF : CallFix p m c cc nL s args Ts own) (hK : va_K D vwCl tys s) (hP : va_P D vwCl (kflat L) H) (hD : va_D A (kflat L)) (hn : is.Nodup) (hC : is.map (fun i => L[i]?) = cs.map some)
    (hM : Met l y ws rm (kPc D tys (kflat cs) (.ref b :: As) H.size) (Qx (va_A (kflat cs) H.size)) mc ms (va_A (kflat cs) H.size)) (cw : CallW R s args own C index y bytes maxL ret ws rm mc ms n) {ci q0 : Nat} {T : u_T} {N : Nat} {fs : List Value} (hc : vwCl[ci]? = some (C, T, N)) (he : (kflat L)[q0]? = some (b, .inr (ci, fs)))
    (hn2 : As.length = n) (hsize : ls.size = nL) (hstack : st0 = As.reverse ++ .ref b :: rest) (hW : (rest.map fun v => v.category).sum ≤ 8) (hdg : decode cc pc = .ok (.invokevirtual index, 3)) (hf : cells + mc ≤ R.cells ∧ slots + ms ≤ R.slots) :
    va_Run p l e R s m args below meth c H locs cells slots mc ms (F0 m pc ls st0) rest (Qx (va_A (kflat cs) H.size) (Value.ref b :: As).toArray) (va_A (kflat cs) H.size) :=
  va_runV CF hM cw ⟨kPc_blind, va_recv hK hP hc he, kpreV hK hP hD hn hC⟩ rfl hn2 hsize hstack (lv_room hW) hdg hf
theorem kL_VX (CF : CallFix p m c cc nL s args Ts own) (hX : kX A s s.heap) (hS : va_S A s.heap H locs) (hA : ∀ q, s.heap.size ≤ q → A q) (hK : va_K D vwCl tys s) (hP : va_P D vwCl (kflat L) H) (hD : va_D A (kflat L)) (hn : is.Nodup) (hC : is.map (fun i => L[i]?) = cs.map some)
    (hM : Met l y ws rm (kPx D tys (kflat cs) (.ref b :: As) H.size) (Qx (va_A (kflat cs) H.size)) mc ms (va_A (kflat cs) H.size)) (cw : CallW R s args own C index y bytes maxL ret ws rm mc ms n) {ci q0 : Nat} {T : u_T} {N : Nat} {fs : List Value} (hc : vwCl[ci]? = some (C, T, N)) (he : (kflat L)[q0]? = some (b, .inr (ci, fs)))
    (hn2 : As.length = n) (hsize : ls.size = nL) (hstack : st0 = As.reverse ++ .ref b :: rest) (hW : (rest.map fun v => v.category).sum ≤ 8) (hdg : decode cc pc = .ok (.invokevirtual index, 3)) (hf : cells + mc ≤ R.cells ∧ slots + ms ≤ R.slots) :
    va_Run p l e R s m args below meth c H locs cells slots mc ms (F0 m pc ls st0) rest (Qx (va_A (kflat cs) H.size) (Value.ref b :: As).toArray) (va_A (kflat cs) H.size) :=
  va_runV CF hM cw ⟨kPx_blind, va_recv hK hP hc he, kpreX hX hS hA hK hP hD hn hC⟩ rfl hn2 hsize hstack (lv_room hW) hdg hf
theorem kL_VT (CF : CallFix p m c cc nL s args Ts own) (hX : kX A s s.heap) (hS : va_S A s.heap H locs) (hA : ∀ q, s.heap.size ≤ q → A q) (hK : va_K D vwCl tys s) (hP : va_P D vwCl (kflat L) H) (hD : va_D A (kflat L)) (hn : is.Nodup) (hC : is.map (fun i => L[i]?) = cs.map some)
    (hM : vx_Met l y ws rm (kPx D tys (kflat cs) (.ref b :: As) H.size) (Qx (va_A (kflat cs) H.size)) (Xx (va_A (kflat cs) H.size)) mc ms (va_A (kflat cs) H.size)) (cw : CallW R s args own C index y bytes maxL ret ws rm mc ms n) {ci q0 : Nat} {T : u_T} {N : Nat} {fs : List Value} (hc : vwCl[ci]? = some (C, T, N)) (he : (kflat L)[q0]? = some (b, .inr (ci, fs)))
    (hn2 : As.length = n) (hsize : ls.size = nL) (hstack : st0 = As.reverse ++ .ref b :: rest) (hW : (rest.map fun v => v.category).sum ≤ 8) (hdg : decode cc pc = .ok (.invokevirtual index, 3)) (hf : cells + mc ≤ R.cells ∧ slots + ms ≤ R.slots) :
    vx_Run p l e R s m args below meth c H locs cells slots mc ms (F0 m pc ls st0) rest (Qx (va_A (kflat cs) H.size) (Value.ref b :: As).toArray) (Xx (va_A (kflat cs) H.size)) (va_A (kflat cs) H.size) :=
  vx_runV CF hM cw ⟨kPx_blind, va_recv hK hP hc he, kpreX hX hS hA hK hP hD hn hC⟩ rfl hn2 hsize hstack (lv_room hW) hdg hf
theorem kL_S (CF : CallFix p m c cc nL s args Ts own) (hK : va_K D vwCl tys s) (hP : va_P D vwCl (kflat L) H) (hD : va_D A (kflat L)) (hn : is.Nodup) (hC : is.map (fun i => L[i]?) = cs.map some)
    (hM : Met l y ws rm (kPc D tys (kflat cs) As H.size) (Qx (va_A (kflat cs) H.size)) mc ms (va_A (kflat cs) H.size)) (cw : CallB R s args own index y bytes maxL ret ws rm mc ms n ∧ (Cond.static y).before args s = true)
    (hn2 : As.length = n) (hsize : ls.size = nL) (hstack : st0 = As.reverse ++ rest) (hW : (rest.map fun v => v.category).sum ≤ 8) (hdg : decode cc pc = .ok (.invokestatic index, 3)) (hf : cells + mc ≤ R.cells ∧ slots + ms ≤ R.slots) :
    va_Run p l e R s m args below meth c H locs cells slots mc ms (F0 m pc ls st0) rest (Qx (va_A (kflat cs) H.size) As.toArray) (va_A (kflat cs) H.size) :=
  va_runS CF hM cw ⟨kPc_blind, kpreV hK hP hD hn hC⟩ rfl hn2 hsize hstack (lv_room hW) hdg hf
theorem kL_SX (CF : CallFix p m c cc nL s args Ts own) (hX : kX A s s.heap) (hS : va_S A s.heap H locs) (hA : ∀ q, s.heap.size ≤ q → A q) (hK : va_K D vwCl tys s) (hP : va_P D vwCl (kflat L) H) (hD : va_D A (kflat L)) (hn : is.Nodup) (hC : is.map (fun i => L[i]?) = cs.map some)
    (hM : Met l y ws rm (kPx D tys (kflat cs) As H.size) (Qx (va_A (kflat cs) H.size)) mc ms (va_A (kflat cs) H.size)) (cw : CallB R s args own index y bytes maxL ret ws rm mc ms n ∧ (Cond.static y).before args s = true)
    (hn2 : As.length = n) (hsize : ls.size = nL) (hstack : st0 = As.reverse ++ rest) (hW : (rest.map fun v => v.category).sum ≤ 8) (hdg : decode cc pc = .ok (.invokestatic index, 3)) (hf : cells + mc ≤ R.cells ∧ slots + ms ≤ R.slots) :
    va_Run p l e R s m args below meth c H locs cells slots mc ms (F0 m pc ls st0) rest (Qx (va_A (kflat cs) H.size) As.toArray) (va_A (kflat cs) H.size) :=
  va_runS CF hM cw ⟨kPx_blind, kpreX hX hS hA hK hP hD hn hC⟩ rfl hn2 hsize hstack (lv_room hW) hdg hf
theorem kL_SNX {host : String} (CF : CallFix p m c cc nL s args Ts own) (hX : kX A s s.heap) (hS : va_S A s.heap H locs) (hA : ∀ q, s.heap.size ≤ q → A q) (hK : va_K D vwCl tys s) (hP : va_P D vwCl (kflat L) H) (hD : va_D A (kflat L)) (hn : is.Nodup) (hC : is.map (fun i => L[i]?) = cs.map some)
    (hM : Met l y ws rm (kPx D tys (kflat cs) As H.size) (Qx (va_A (kflat cs) H.size)) mc ms (va_A (kflat cs) H.size)) (cw : va_CN R s args own index y host bytes maxL ret ws rm mc ms n ∧ (Cond.static y).before args s = true ∧ True)
    (hn2 : As.length = n) (hsize : ls.size = nL) (hstack : st0 = As.reverse ++ rest) (hW : (rest.map fun v => v.category).sum ≤ 8) (hdg : decode cc pc = .ok (.invokestatic index, 3)) (hf : cells + mc ≤ R.cells ∧ slots + ms ≤ R.slots) :
    va_Run p l e R s m args below meth c H locs cells slots mc ms (F0 m pc ls st0) rest (Qx (va_A (kflat cs) H.size) As.toArray) (va_A (kflat cs) H.size) :=
  va_runSN CF hM cw ⟨kPx_blind, kpreX hX hS hA hK hP hD hn hC⟩ rfl hn2 hsize hstack (lv_room hW) hdg hf
/-! behind a call -/
theorem kcL_i {r : Int32} (hP : va_P D vwCl (kflat L) H) (hD : va_D A (kflat L)) (hS : va_S A H0 H locs) (hA : ∀ q, H0.size ≤ q → A q) (hn : is.Nodup) (hC : is.map (fun i => L[i]?) = cs.map some) (hl : ∀ u, is.length = (wf u).length)
    (hr : va_Run p l e R s m args below meth c H locs cells slots mc ms (F0 m pc ls st0) rest (kQiS D tys (fun u => kflat (wf u)) r (va_A (kflat cs) H.size) a) (va_A (kflat cs) H.size))
    (kk : ∀ (u : S) (H1 : Heap) (locs1 : List Loc), va_P D vwCl (kflat (kputL L is (wf u))) H1 → va_D A (kflat (kputL L is (wf u))) → va_S A H0 H1 locs1 → W p l e R s m args below meth c H1 locs1 (cells + mc) (slots + ms) Q (F0 m (pc + 3) ls (.int r :: rest))) : W p l e R s m args below meth c H locs cells slots Q (F0 m pc ls st0) := by
  have hF := kpreF hD hS hA hn hC
  refine va_calli hr hS (fun q _ h => hF q h) hF (fun r2 u t H1 locs1 ht hvm hw hB hz hk hS1 => ?_)
  obtain ⟨hP1, -, hD1⟩ := hB
  rw [ht] at hP1
  obtain ⟨g1, g2⟩ := kjoinL hP hD hn hC (hl u) hk hF hP1 hD1
  have hw' : r2 = r := hw
  subst hw'
  exact kk u H1 locs1 g1 g2 hS1
theorem kcL_v (hP : va_P D vwCl (kflat L) H) (hD : va_D A (kflat L)) (hS : va_S A H0 H locs) (hA : ∀ q, H0.size ≤ q → A q) (hn : is.Nodup) (hC : is.map (fun i => L[i]?) = cs.map some) (hl : ∀ u, is.length = (wf u).length)
    (hr : va_Run p l e R s m args below meth c H locs cells slots mc ms (F0 m pc ls st0) rest (kQvS D tys (fun u => kflat (wf u)) (va_A (kflat cs) H.size) a) (va_A (kflat cs) H.size))
    (kk : ∀ (u : S) (H1 : Heap) (locs1 : List Loc), va_P D vwCl (kflat (kputL L is (wf u))) H1 → va_D A (kflat (kputL L is (wf u))) → va_S A H0 H1 locs1 → W p l e R s m args below meth c H1 locs1 (cells + mc) (slots + ms) Q (F0 m (pc + 3) ls rest)) : W p l e R s m args below meth c H locs cells slots Q (F0 m pc ls st0) := by
  have hF := kpreF hD hS hA hn hC
  refine va_callv hr hS (fun q _ h => hF q h) hF (fun u t H1 locs1 ht hvm hw hB hz hk hS1 => ?_)
  obtain ⟨hP1, -, hD1⟩ := hB
  rw [ht] at hP1
  obtain ⟨g1, g2⟩ := kjoinL hP hD hn hC (hl u) hk hF hP1 hD1
  exact kk u H1 locs1 g1 g2 hS1
theorem kcL_l {r : Int64} (hP : va_P D vwCl (kflat L) H) (hD : va_D A (kflat L)) (hS : va_S A H0 H locs) (hA : ∀ q, H0.size ≤ q → A q) (hn : is.Nodup) (hC : is.map (fun i => L[i]?) = cs.map some) (hl : is.length = cs'.length) (hput : kputL L is cs' = L1)
    (hr : va_Run p l e R s m args below meth c H locs cells slots 0 0 (F0 m pc ls st0) rest (kQl D tys (kflat cs') r (va_A (kflat cs) H.size) a) (va_A (kflat cs) H.size))
    (kk : ∀ (H1 : Heap) (locs1 : List Loc), va_P D vwCl (kflat L1) H1 → va_D A (kflat L1) → va_S A H0 H1 locs1 → W p l e R s m args below meth c H1 locs1 cells slots Q (F0 m (pc + 3) ls (.long r :: rest))) : W p l e R s m args below meth c H locs cells slots Q (F0 m pc ls st0) := by
  have hF := kpreF hD hS hA hn hC
  refine va_calll hr hS (fun q _ h => hF q h) hF (fun r2 u t H1 locs1 ht hvm hw hB hz hk hS1 => ?_)
  obtain ⟨hP1, -, hD1⟩ := hB
  rw [ht] at hP1
  obtain ⟨g1, g2⟩ := kjoinL hP hD hn hC hl hk hF hP1 hD1
  rw [hput] at g1 g2
  have hw' : r2 = r := hw
  subst hw'
  exact kk H1 locs1 g1 g2 hS1
end KX
