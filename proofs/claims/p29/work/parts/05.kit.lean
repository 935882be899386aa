/-! MY KIT: contracts over a world that is a list of cells; loops; guards; derived rows for calls and returns. -/
/-- the array classes: 0 int[], 1 char[], 2 boolean[], 3 Desk[] -/
def TY (t : Nat → ClassId) : List (ClassId × FieldType) := [(t 0, .int), (t 1, .char), (t 2, .boolean), (t 3, .object "ChunkCarriers$Desk")]
theorem kd {b : ByteArray} {l : List (Nat × Instr × Nat)} (h : kdec b l = true) (i : Nat) {pc : Nat} {q : Instr × Nat} (hi : l[i]? = some (pc, q)) : decode b pc = .ok q := by
  have h1 : decide (decode b pc = .ok q) = true := List.all_eq_true.mp h (pc, q) (List.mem_of_getElem? hi)
  exact @of_decide_eq_true (decode b pc = .ok q) _ h1
def MMAX (x y : Int32) : Int32 := if x < y then y else x
def MMIN (x y : Int32) : Int32 := if y < x then y else x
def kPc (D : va_G) (tys : List (ClassId × FieldType)) (ws : va_W) (av : List Value) (sz : Nat) : Array Value → State → Prop := va_Pc av (fun U => U.heap.size = sz ∧ va_P D vwCl ws U.heap ∧ va_K D vwCl tys U ∧ va_D (fun _ => True) ws)
def kB (D : va_G) (tys : List (ClassId × FieldType)) (A : Nat → Prop) (ws : va_W) (t : State) : Prop := va_P D vwCl ws t.heap ∧ va_K D vwCl tys t ∧ va_D A ws
def kQi (D : va_G) (tys : List (ClassId × FieldType)) (ws : va_W) (r : Int32) (A : Nat → Prop) : Array Value → State → Outcome → State → Prop := va_Qi (fun (r2 : Int32) (_ : Unit) => r2 = r) (fun _ t => kB D tys A ws t) A
def kQl (D : va_G) (tys : List (ClassId × FieldType)) (ws : va_W) (r : Int64) (A : Nat → Prop) : Array Value → State → Outcome → State → Prop := va_Ql (fun (r2 : Int64) (_ : Unit) => r2 = r) (fun _ t => kB D tys A ws t) A
def kQv (D : va_G) (tys : List (ClassId × FieldType)) (ws : va_W) (A : Nat → Prop) : Array Value → State → Outcome → State → Prop := va_Qv (fun (_ : Unit) => True) (fun _ t => kB D tys A ws t) A
theorem kPc_blind {D : va_G} {tys : List (ClassId × FieldType)} {ws : va_W} {av : List Value} {sz : Nat} : FrameBlind (kPc D tys ws av sz) := fun a U g mk q => ⟨q.1, q.2.1, q.2.2.1, va_K.moved (u := U) (U := U.calling g mk a) (Vm.Alike.refl U.vm) q.2.2.2.1, q.2.2.2.2⟩
/-! loops: n turns at most -/
def lp {σ ρ : Type} (f : (σ → Option ρ) → σ → Option ρ) : Nat → σ → Option ρ
  | 0 => fun _ => none
  | n + 1 => f (lp f n)
theorem lp_ind {σ ρ : Type} {f : (σ → Option ρ) → σ → Option ρ} {r : ρ} {P : σ → Prop} (h : ∀ self : σ → Option ρ, (∀ s, self s = some r → P s) → ∀ s, f self s = some r → P s) : ∀ (n : Nat) (s : σ), lp f n s = some r → P s := by
  intro n
  induction n with
  | zero => intro s hs; cases hs
  | succ n ih => intro s hs; exact h (lp f n) ih s hs
/-- the turns that a loop may take -/
def FU : Nat := 100000
/-! guards: an index, a divisor, a boolean -/
def gd {α : Type} (i : Int32) (n : Nat) (x : Option α) : Option α := if i < 0 ∨ n ≤ i.toNatClampNeg then none else x
def gz {α : Type} (y : Int32) (x : Option α) : Option α := if y = 0 then none else x
def gzl {α : Type} (y : Int64) (x : Option α) : Option α := if y = 0 then none else x
def gb {α : Type} (y : Int32) (x : Option α) : Option α := if y = 0 ∨ y = 1 then x else none
theorem kg {α : Type} {i : Int32} {n : Nat} {x : Option α} {r : α} (h : gd i n x = some r) : vp_in i n ∧ x = some r := by
  unfold gd at h
  split at h
  · cases h
  · next q => exact ⟨q, h⟩
theorem kgz {α : Type} {y : Int32} {x : Option α} {r : α} (h : gz y x = some r) : ¬ y = 0 ∧ x = some r := by
  unfold gz at h
  split at h
  · cases h
  · next q => exact ⟨q, h⟩
theorem kgzl {α : Type} {y : Int64} {x : Option α} {r : α} (h : gzl y x = some r) : ¬ y = 0 ∧ x = some r := by
  unfold gzl at h
  split at h
  · cases h
  · next q => exact ⟨q, h⟩
theorem kgb {α : Type} {y : Int32} {x : Option α} {r : α} (h : gb y x = some r) : narrow .boolean (.int y) = .int y ∧ x = some r := by
  unfold gb at h
  split at h
  · next q => rcases q with q | q <;> subst q <;> exact ⟨rfl, h⟩
  · cases h
/-- a copy of rows -/
def gc {α : Type} (sp dp n : Int32) (n0 n1 : Nat) (x : Option α) : Option α := if sp < 0 ∨ dp < 0 ∨ n < 0 ∨ n0 < sp.toNatClampNeg + n.toNatClampNeg ∨ n1 < dp.toNatClampNeg + n.toNatClampNeg then none else x
theorem kgc {α : Type} {sp dp n : Int32} {n0 n1 : Nat} {x : Option α} {r : α} (h : gc sp dp n n0 n1 x = some r) : ¬ sp < 0 ∧ ¬ dp < 0 ∧ ¬ n < 0 ∧ sp.toNatClampNeg + n.toNatClampNeg ≤ n0 ∧ dp.toNatClampNeg + n.toNatClampNeg ≤ n1 ∧ x = some r := by
  unfold gc at h
  split at h
  · cases h
  · next q =>
    simp only [not_or, Nat.not_lt] at q
    exact ⟨q.1, q.2.1, q.2.2.1, q.2.2.2.1, q.2.2.2.2, h⟩
theorem kt {c : Prop} [Decidable c] {α : Type} {x y : Option α} {r : α} (hc : c) (h : (if c then x else y) = some r) : x = some r := by rwa [if_pos hc] at h
theorem kf {c : Prop} [Decidable c] {α : Type} {x y : Option α} {r : α} (hc : ¬ c) (h : (if c then x else y) = some r) : y = some r := by rwa [if_neg hc] at h
theorem kc {α β : Type} {o : Option α} {k : α → Option β} {r : β} (h : o.bind k = some r) : ∃ x, o = some x ∧ k x = some r := by
  cases o with
  | none => cases h
  | some x => exact ⟨x, rfl, h⟩
theorem ko {α : Type} {x r : α} (h : some x = some r) : x = r := Option.some.inj h
/-! what a call leaves: the callee's cells, and the others as they were -/
def kput : va_W → List Nat → va_W → va_W
  | W, i :: is, q :: w1 => kput (W.set i q) is w1
  | W, [], _ => W
  | W, _ :: _, [] => W
theorem kput_spec : ∀ (is : List Nat) (w1 W : va_W), is.Nodup → is.length = w1.length → (∀ i ∈ is, i < W.length) → (∀ i : Nat, i ∉ is → (kput W is w1)[i]? = W[i]?) ∧ (∀ j i : Nat, is[j]? = some i → (kput W is w1)[i]? = w1[j]?) := by
  intro is
  induction is with
  | nil => intro w1 W _ _ _; exact ⟨fun i _ => by simp only [kput], fun j i h => by simp at h⟩
  | cons a is ih =>
    intro w1 W hn hl hb
    cases w1 with
    | nil => simp at hl
    | cons q w1 =>
      obtain ⟨h1, h2⟩ := ih w1 (W.set a q) (List.nodup_cons.mp hn).2 (by simpa using hl) (fun i hi => by rw [List.length_set]; exact hb i (List.mem_cons_of_mem _ hi))
      refine ⟨fun i hi => ?_, fun j i hj => ?_⟩
      · have hi1 : i ∉ is := fun h => hi (List.mem_cons_of_mem _ h)
        have hia : a ≠ i := fun h => hi (by rw [h]; exact List.mem_cons_self)
        show (kput (W.set a q) is w1)[i]? = _
        rw [h1 i hi1, List.getElem?_set_ne hia]
      · show (kput (W.set a q) is w1)[i]? = _
        cases j with
        | zero =>
          have : a = i := by simpa using hj
          subst this
          rw [h1 a (List.nodup_cons.mp hn).1, List.getElem?_set_self (hb a List.mem_cons_self)]
          rfl
        | succ j =>
          rw [List.getElem?_cons_succ] at hj
          rw [h2 j i hj, List.getElem?_cons_succ]
theorem kmap {W wc : va_W} {is : List Nat} (h : is.map (fun i => W[i]?) = wc.map some) {k i : Nat} (hk : is[k]? = some i) : ∃ q, W[i]? = some q ∧ wc[k]? = some q := by
  have h1 : (is.map (fun i => W[i]?))[k]? = (wc.map some)[k]? := by rw [h]
  rw [List.getElem?_map, List.getElem?_map, hk] at h1
  cases hw : wc[k]? with
  | none => rw [hw] at h1; cases h1
  | some q => rw [hw] at h1; exact ⟨q, Option.some.inj h1, rfl⟩
theorem kmap' {W wc : va_W} {is : List Nat} (h : is.map (fun i => W[i]?) = wc.map some) {k : Nat} {q : Nat × va_E} (hk : wc[k]? = some q) : ∃ i, is[k]? = some i ∧ W[i]? = some q := by
  have h1 : (is.map (fun i => W[i]?))[k]? = (wc.map some)[k]? := by rw [h]
  rw [List.getElem?_map, List.getElem?_map, hk] at h1
  cases hi : is[k]? with
  | none => rw [hi] at h1; cases h1
  | some i => rw [hi] at h1; exact ⟨i, rfl, Option.some.inj h1⟩
theorem kjoin {A0 : Nat → Prop} {D : va_G} {cl : List vw_C} {W wc w1 : va_W} {H H1 : Heap} (hP : va_P D cl W H) (hD : va_D A0 W) (is : List Nat) (hn : is.Nodup) (hC : is.map (fun i => W[i]?) = wc.map some) (hl : is.length = w1.length)
    (hk : ∀ q : Nat, q < H.size → ¬ va_A wc H.size q → H1[q]? = H[q]?) (hF : ∀ q, va_A wc H.size q → A0 q) (hP1 : va_P D cl w1 H1) (hD1 : va_D (va_A wc H.size) w1) : va_P D cl (kput W is w1) H1 ∧ va_D A0 (kput W is w1) := by
  have hb : ∀ i ∈ is, i < W.length := fun i hi => by
    obtain ⟨k, hk⟩ := List.getElem?_of_mem hi
    obtain ⟨q, h1, -⟩ := kmap hC hk
    exact (List.getElem?_eq_some_iff.mp h1).1
  obtain ⟨g1, g2⟩ := kput_spec is w1 W hn hl hb
  have cases' : ∀ (k : Nat) (q : Nat × va_E), (kput W is w1)[k]? = some q → (∃ j : Nat, is[j]? = some k ∧ w1[j]? = some q) ∨ (k ∉ is ∧ W[k]? = some q ∧ q.1 < H.size ∧ ¬ va_A wc H.size q.1) := by
    intro k q hq
    by_cases hm : k ∈ is
    · obtain ⟨j, hj⟩ := List.getElem?_of_mem hm
      exact Or.inl ⟨j, hj, by rw [← g2 j k hj]; exact hq⟩
    · rw [g1 k hm] at hq
      refine Or.inr ⟨hm, hq, (hP k q hq).lt, fun h => ?_⟩
      rcases h with ⟨k2, e, h⟩ | h
      · obtain ⟨i, h3, h4⟩ := kmap' hC h
        have := hD.1 k i q (q.1, e) hq h4 rfl
        subst this
        exact hm (List.mem_of_getElem? h3)
      · have := (hP k q hq).lt
        omega
  refine ⟨fun k q hq => ?_, fun i j x y hx hy hxy => ?_, fun k q hq => ?_⟩
  · rcases cases' k q hq with ⟨j, -, h2⟩ | ⟨-, h2, h3, h4⟩
    · exact hP1 j q h2
    · exact (hP k q h2).kept (hk q.1 h3 h4)
  · rcases cases' i x hx with ⟨a, h1, h2⟩ | ⟨-, h2, h3, h4⟩ <;> rcases cases' j y hy with ⟨b, h5, h6⟩ | ⟨-, h6, h7, h8⟩
    · have := hD1.1 a b x y h2 h6 hxy
      subst this
      exact Option.some.inj (h1.symm.trans h5)
    · exact absurd (hD1.2 a x h2) (by rw [hxy]; exact h8)
    · exact absurd (hD1.2 b y h6) (by rw [← hxy]; exact h4)
    · exact hD.1 i j x y h2 h6 hxy
  · rcases cases' k q hq with ⟨j, -, h2⟩ | ⟨-, h2, h3, h4⟩
    · exact hF q.1 (hD1.2 j q h2)
    · exact hD.2 k q h2
/-- a callee that leaves its cells as they were -/
theorem kjoinR {A0 : Nat → Prop} {D : va_G} {cl : List vw_C} {W wc : va_W} {H H1 : Heap} (hP : va_P D cl W H) (hD : va_D A0 W) (is : List Nat) (hC : is.map (fun i => W[i]?) = wc.map some)
    (hk : ∀ q : Nat, q < H.size → ¬ va_A wc H.size q → H1[q]? = H[q]?) (hP1 : va_P D cl wc H1) : va_P D cl W H1 := by
  intro k q hq
  by_cases h : va_A wc H.size q.1
  · rcases h with ⟨k2, e, h⟩ | h
    · obtain ⟨i, h3, h4⟩ := kmap' hC h
      have := hD.1 k i q (q.1, e) hq h4 rfl
      subst this
      have : q = (q.1, e) := Option.some.inj (hq.symm.trans h4)
      rw [this]
      exact hP1 k2 _ h
    · have := (hP k q hq).lt
      omega
  · exact (hP k q hq).kept (hk q.1 (hP k q hq).lt h)
section KCALL
variable {p : Program} {l : Launch} {e : Env} {R : Room} {s : State} {m : MethodId} {args : Array Value} {below : List Frame} {meth : Method} {c : Code} {H H0 : Heap} {locs : List Loc} {cells slots : Nat} {Q : State → Prop}
  {D : va_G} {tys : List (ClassId × FieldType)} {A : Nat → Prop} {wW wc w1 W1 : va_W} {pc : Nat} {ls : Array Slot} {st0 rest : List Value} {a : Array Value}
/-- behind a call that answers an int -/
theorem kc_i {r : Int32} (hK : va_K D vwCl tys s) (hP : va_P D vwCl wW H) (hD : va_D A wW) (hS : va_S A H0 H locs) (hA : ∀ q, H0.size ≤ q → A q) (is : List Nat) (hn : is.Nodup) (hC : is.map (fun i => wW[i]?) = wc.map some) (hl : is.length = w1.length) (hput : kput wW is w1 = W1)
    (hr : va_Run p l e R s m args below meth c H locs cells slots 0 0 (F0 m pc ls st0) rest (kQi D tys w1 r (va_A wc H.size) a) (va_A wc H.size))
    (kk : ∀ (H1 : Heap) (locs1 : List Loc), va_P D vwCl W1 H1 → va_D A W1 → va_S A H0 H1 locs1 → W p l e R s m args below meth c H1 locs1 cells slots Q (F0 m (pc + 3) ls (.int r :: rest))) : W p l e R s m args below meth c H locs cells slots Q (F0 m pc ls st0) := by
  have hF := va_free hD hS hA is hC
  refine va_calli hr hS (fun q _ h => hF q h) hF (fun r2 u t H1 locs1 ht hvm hw hB hz hk hS1 => ?_)
  obtain ⟨hP1, -, hD1⟩ := hB
  rw [ht] at hP1
  obtain ⟨g1, g2⟩ := kjoin hP hD is hn hC hl hk hF hP1 hD1
  rw [hput] at g1 g2
  have hw' : r2 = r := hw
  subst hw'
  exact kk H1 locs1 g1 g2 hS1
theorem kc_l {r : Int64} (hK : va_K D vwCl tys s) (hP : va_P D vwCl wW H) (hD : va_D A wW) (hS : va_S A H0 H locs) (hA : ∀ q, H0.size ≤ q → A q) (is : List Nat) (hn : is.Nodup) (hC : is.map (fun i => wW[i]?) = wc.map some) (hl : is.length = w1.length) (hput : kput wW is w1 = W1)
    (hr : va_Run p l e R s m args below meth c H locs cells slots 0 0 (F0 m pc ls st0) rest (kQl D tys w1 r (va_A wc H.size) a) (va_A wc H.size))
    (kk : ∀ (H1 : Heap) (locs1 : List Loc), va_P D vwCl W1 H1 → va_D A W1 → va_S A H0 H1 locs1 → W p l e R s m args below meth c H1 locs1 cells slots Q (F0 m (pc + 3) ls (.long r :: rest))) : W p l e R s m args below meth c H locs cells slots Q (F0 m pc ls st0) := by
  have hF := va_free hD hS hA is hC
  refine va_calll hr hS (fun q _ h => hF q h) hF (fun r2 u t H1 locs1 ht hvm hw hB hz hk hS1 => ?_)
  obtain ⟨hP1, -, hD1⟩ := hB
  rw [ht] at hP1
  obtain ⟨g1, g2⟩ := kjoin hP hD is hn hC hl hk hF hP1 hD1
  rw [hput] at g1 g2
  have hw' : r2 = r := hw
  subst hw'
  exact kk H1 locs1 g1 g2 hS1
theorem kc_v (hK : va_K D vwCl tys s) (hP : va_P D vwCl wW H) (hD : va_D A wW) (hS : va_S A H0 H locs) (hA : ∀ q, H0.size ≤ q → A q) (is : List Nat) (hn : is.Nodup) (hC : is.map (fun i => wW[i]?) = wc.map some) (hl : is.length = w1.length) (hput : kput wW is w1 = W1)
    (hr : va_Run p l e R s m args below meth c H locs cells slots 0 0 (F0 m pc ls st0) rest (kQv D tys w1 (va_A wc H.size) a) (va_A wc H.size))
    (kk : ∀ (H1 : Heap) (locs1 : List Loc), va_P D vwCl W1 H1 → va_D A W1 → va_S A H0 H1 locs1 → W p l e R s m args below meth c H1 locs1 cells slots Q (F0 m (pc + 3) ls rest)) : W p l e R s m args below meth c H locs cells slots Q (F0 m pc ls st0) := by
  have hF := va_free hD hS hA is hC
  refine va_callv hr hS (fun q _ h => hF q h) hF (fun u t H1 locs1 ht hvm hw hB hz hk hS1 => ?_)
  obtain ⟨hP1, -, hD1⟩ := hB
  rw [ht] at hP1
  obtain ⟨g1, g2⟩ := kjoin hP hD is hn hC hl hk hF hP1 hD1
  rw [hput] at g1 g2
  exact kk H1 locs1 g1 g2 hS1
/-- behind a call that answers an int and leaves all as it was -/
theorem kc_iR {r : Int32} (hK : va_K D vwCl tys s) (hP : va_P D vwCl wW H) (hD : va_D A wW) (hS : va_S A H0 H locs) (hA : ∀ q, H0.size ≤ q → A q) (is : List Nat) (hC : is.map (fun i => wW[i]?) = wc.map some)
    (hr : va_Run p l e R s m args below meth c H locs cells slots 0 0 (F0 m pc ls st0) rest (kQi D tys wc r (va_A wc H.size) a) (va_A wc H.size))
    (kk : ∀ (H1 : Heap) (locs1 : List Loc), va_P D vwCl wW H1 → va_S A H0 H1 locs1 → W p l e R s m args below meth c H1 locs1 cells slots Q (F0 m (pc + 3) ls (.int r :: rest))) : W p l e R s m args below meth c H locs cells slots Q (F0 m pc ls st0) := by
  have hF := va_free hD hS hA is hC
  refine va_calli hr hS (fun q _ h => hF q h) hF (fun r2 u t H1 locs1 ht hvm hw hB hz hk hS1 => ?_)
  obtain ⟨hP1, -, hD1⟩ := hB
  rw [ht] at hP1
  have hw' : r2 = r := hw
  subst hw'
  exact kk H1 locs1 (kjoinR hP hD is hC hk hP1) hS1
theorem kc_lR {r : Int64} (hK : va_K D vwCl tys s) (hP : va_P D vwCl wW H) (hD : va_D A wW) (hS : va_S A H0 H locs) (hA : ∀ q, H0.size ≤ q → A q) (is : List Nat) (hC : is.map (fun i => wW[i]?) = wc.map some)
    (hr : va_Run p l e R s m args below meth c H locs cells slots 0 0 (F0 m pc ls st0) rest (kQl D tys wc r (va_A wc H.size) a) (va_A wc H.size))
    (kk : ∀ (H1 : Heap) (locs1 : List Loc), va_P D vwCl wW H1 → va_S A H0 H1 locs1 → W p l e R s m args below meth c H1 locs1 cells slots Q (F0 m (pc + 3) ls (.long r :: rest))) : W p l e R s m args below meth c H locs cells slots Q (F0 m pc ls st0) := by
  have hF := va_free hD hS hA is hC
  refine va_calll hr hS (fun q _ h => hF q h) hF (fun r2 u t H1 locs1 ht hvm hw hB hz hk hS1 => ?_)
  obtain ⟨hP1, -, hD1⟩ := hB
  rw [ht] at hP1
  have hw' : r2 = r := hw
  subst hw'
  exact kk H1 locs1 (kjoinR hP hD is hC hk hP1) hS1
variable {y : MethodName} {bytes cc : ByteArray} {maxL nL n index : Nat} {ret : Option FieldType} {ws : List Cond} {rm : Room} {Ts : List Cond} {own C : String} {b : Addr} {As : List Value} {Qx : (Nat → Prop) → Array Value → State → Outcome → State → Prop}
/-- the run of a call of each kind, over a world's part -/
theorem kr_V (CF : CallFix p m c cc nL s args Ts own) (hK : va_K D vwCl tys s) (hP : va_P D vwCl wW H) (hD : va_D A wW) (is : List Nat) (hn : is.Nodup) (hC : is.map (fun i => wW[i]?) = wc.map some)
    (hM : Met l y ws rm (kPc D tys wc (.ref b :: As) H.size) (Qx (va_A wc H.size)) 0 0 (va_A wc H.size)) (cw : CallW R s args own C index y bytes maxL ret ws rm 0 0 n) {ci q0 : Nat} {T : u_T} {N : Nat} {fs : List Value} (hc : vwCl[ci]? = some (C, T, N)) (he : wW[q0]? = some (b, .inr (ci, fs)))
    (hn2 : As.length = n) (hsize : ls.size = nL) (hstack : st0 = As.reverse ++ .ref b :: rest) (hW : (rest.map fun v => v.category).sum ≤ 8) (hdg : decode cc pc = .ok (.invokevirtual index, 3)) (hf : cells + 0 ≤ R.cells ∧ slots + 0 ≤ R.slots) :
    va_Run p l e R s m args below meth c H locs cells slots 0 0 (F0 m pc ls st0) rest (Qx (va_A wc H.size) (Value.ref b :: As).toArray) (va_A wc H.size) := by
  have hPc : va_P D vwCl wc H := fun k q hq => by obtain ⟨i, -, h2⟩ := kmap' hC hq; exact hP i q h2
  have hDc : va_D (fun _ => True) wc := by
    refine ⟨fun i j x y hx hy hxy => ?_, fun _ _ _ => trivial⟩
    obtain ⟨i1, h1, h2⟩ := kmap' hC hx
    obtain ⟨j1, h3, h4⟩ := kmap' hC hy
    have := hD.1 i1 j1 x y h2 h4 hxy
    subst this
    exact (List.getElem?_inj (List.getElem?_eq_some_iff.mp h1).1 hn).mp (h1.trans h3.symm)
  exact va_runV CF hM cw ⟨kPc_blind, va_recv hK hP hc he, fun U hU hW => ⟨rfl, by rw [hU], by rw [hU]; exact hPc, va_K.moved hW.alike hK, hDc⟩⟩ rfl hn2 hsize hstack (lv_room hW) hdg hf
theorem kr_S (CF : CallFix p m c cc nL s args Ts own) (hK : va_K D vwCl tys s) (hP : va_P D vwCl wW H) (hD : va_D A wW) (is : List Nat) (hn : is.Nodup) (hC : is.map (fun i => wW[i]?) = wc.map some)
    (hM : Met l y ws rm (kPc D tys wc As H.size) (Qx (va_A wc H.size)) 0 0 (va_A wc H.size)) (cw : CallB R s args own index y bytes maxL ret ws rm 0 0 n ∧ (Cond.static y).before args s = true)
    (hn2 : As.length = n) (hsize : ls.size = nL) (hstack : st0 = As.reverse ++ rest) (hW : (rest.map fun v => v.category).sum ≤ 8) (hdg : decode cc pc = .ok (.invokestatic index, 3)) (hf : cells + 0 ≤ R.cells ∧ slots + 0 ≤ R.slots) :
    va_Run p l e R s m args below meth c H locs cells slots 0 0 (F0 m pc ls st0) rest (Qx (va_A wc H.size) As.toArray) (va_A wc H.size) := by
  have hPc : va_P D vwCl wc H := fun k q hq => by obtain ⟨i, -, h2⟩ := kmap' hC hq; exact hP i q h2
  have hDc : va_D (fun _ => True) wc := by
    refine ⟨fun i j x y hx hy hxy => ?_, fun _ _ _ => trivial⟩
    obtain ⟨i1, h1, h2⟩ := kmap' hC hx
    obtain ⟨j1, h3, h4⟩ := kmap' hC hy
    have := hD.1 i1 j1 x y h2 h4 hxy
    subst this
    exact (List.getElem?_inj (List.getElem?_eq_some_iff.mp h1).1 hn).mp (h1.trans h3.symm)
  exact va_runS CF hM cw ⟨kPc_blind, fun U hU hW => ⟨rfl, by rw [hU], by rw [hU]; exact hPc, va_K.moved hW.alike hK, hDc⟩⟩ rfl hn2 hsize hstack (lv_room hW) hdg hf
theorem kr_V0 (CF : CallFix p m c cc nL s args Ts own) (hK : va_K D vwCl tys s) (hP : va_P D vwCl wW H) (hD : va_D A wW)
    (hM : Met l y ws rm (kPc D tys wW (.ref b :: As) H.size) (Qx (va_A wW H.size)) 0 0 (va_A wW H.size)) (cw : CallW R s args own C index y bytes maxL ret ws rm 0 0 n) {ci q0 : Nat} {T : u_T} {N : Nat} {fs : List Value} (hc : vwCl[ci]? = some (C, T, N)) (he : wW[q0]? = some (b, .inr (ci, fs)))
    (hn2 : As.length = n) (hsize : ls.size = nL) (hstack : st0 = As.reverse ++ .ref b :: rest) (hW : (rest.map fun v => v.category).sum ≤ 8) (hdg : decode cc pc = .ok (.invokevirtual index, 3)) (hf : cells + 0 ≤ R.cells ∧ slots + 0 ≤ R.slots) :
    va_Run p l e R s m args below meth c H locs cells slots 0 0 (F0 m pc ls st0) rest (Qx (va_A wW H.size) (Value.ref b :: As).toArray) (va_A wW H.size) :=
  va_runV CF hM cw ⟨kPc_blind, va_recv hK hP hc he, fun U hU hW => ⟨rfl, by rw [hU], by rw [hU]; exact hP, va_K.moved hW.alike hK, hD.weaken (fun _ _ _ _ => trivial)⟩⟩ rfl hn2 hsize hstack (lv_room hW) hdg hf
theorem kr_S0 (CF : CallFix p m c cc nL s args Ts own) (hK : va_K D vwCl tys s) (hP : va_P D vwCl wW H) (hD : va_D A wW)
    (hM : Met l y ws rm (kPc D tys wW As H.size) (Qx (va_A wW H.size)) 0 0 (va_A wW H.size)) (cw : CallB R s args own index y bytes maxL ret ws rm 0 0 n ∧ (Cond.static y).before args s = true)
    (hn2 : As.length = n) (hsize : ls.size = nL) (hstack : st0 = As.reverse ++ rest) (hW : (rest.map fun v => v.category).sum ≤ 8) (hdg : decode cc pc = .ok (.invokestatic index, 3)) (hf : cells + 0 ≤ R.cells ∧ slots + 0 ≤ R.slots) :
    va_Run p l e R s m args below meth c H locs cells slots 0 0 (F0 m pc ls st0) rest (Qx (va_A wW H.size) As.toArray) (va_A wW H.size) :=
  va_runS CF hM cw ⟨kPc_blind, fun U hU hW => ⟨rfl, by rw [hU], by rw [hU]; exact hP, va_K.moved hW.alike hK, hD.weaken (fun _ _ _ _ => trivial)⟩⟩ rfl hn2 hsize hstack (lv_room hW) hdg hf
theorem kfree0 (hD : va_D A wW) (hS : va_S A H0 H locs) (hA : ∀ q, H0.size ≤ q → A q) : ∀ q, va_A wW H.size q → A q := by
  intro q h
  rcases h with ⟨k, e, h⟩ | h
  · exact hD.2 k _ h
  · exact hA q (Nat.le_trans hS.1 h)
theorem kc_i0 {r : Int32} (hP : va_P D vwCl wW H) (hD : va_D A wW) (hS : va_S A H0 H locs) (hA : ∀ q, H0.size ≤ q → A q)
    (hr : va_Run p l e R s m args below meth c H locs cells slots 0 0 (F0 m pc ls st0) rest (kQi D tys w1 r (va_A wW H.size) a) (va_A wW H.size))
    (kk : ∀ (H1 : Heap) (locs1 : List Loc), va_P D vwCl w1 H1 → va_D A w1 → va_S A H0 H1 locs1 → W p l e R s m args below meth c H1 locs1 cells slots Q (F0 m (pc + 3) ls (.int r :: rest))) : W p l e R s m args below meth c H locs cells slots Q (F0 m pc ls st0) := by
  have hF := kfree0 hD hS hA
  refine va_calli hr hS (fun q _ h => hF q h) hF (fun r2 u t H1 locs1 ht hvm hw hB hz hk hS1 => ?_)
  obtain ⟨hP1, -, hD1⟩ := hB
  rw [ht] at hP1
  have hw' : r2 = r := hw
  subst hw'
  exact kk H1 locs1 hP1 (hD1.weaken fun _ q _ h => hF q.1 h) hS1
theorem kc_l0 {r : Int64} (hP : va_P D vwCl wW H) (hD : va_D A wW) (hS : va_S A H0 H locs) (hA : ∀ q, H0.size ≤ q → A q)
    (hr : va_Run p l e R s m args below meth c H locs cells slots 0 0 (F0 m pc ls st0) rest (kQl D tys w1 r (va_A wW H.size) a) (va_A wW H.size))
    (kk : ∀ (H1 : Heap) (locs1 : List Loc), va_P D vwCl w1 H1 → va_D A w1 → va_S A H0 H1 locs1 → W p l e R s m args below meth c H1 locs1 cells slots Q (F0 m (pc + 3) ls (.long r :: rest))) : W p l e R s m args below meth c H locs cells slots Q (F0 m pc ls st0) := by
  have hF := kfree0 hD hS hA
  refine va_calll hr hS (fun q _ h => hF q h) hF (fun r2 u t H1 locs1 ht hvm hw hB hz hk hS1 => ?_)
  obtain ⟨hP1, -, hD1⟩ := hB
  rw [ht] at hP1
  have hw' : r2 = r := hw
  subst hw'
  exact kk H1 locs1 hP1 (hD1.weaken fun _ q _ h => hF q.1 h) hS1
theorem kc_v0 (hP : va_P D vwCl wW H) (hD : va_D A wW) (hS : va_S A H0 H locs) (hA : ∀ q, H0.size ≤ q → A q)
    (hr : va_Run p l e R s m args below meth c H locs cells slots 0 0 (F0 m pc ls st0) rest (kQv D tys w1 (va_A wW H.size) a) (va_A wW H.size))
    (kk : ∀ (H1 : Heap) (locs1 : List Loc), va_P D vwCl w1 H1 → va_D A w1 → va_S A H0 H1 locs1 → W p l e R s m args below meth c H1 locs1 cells slots Q (F0 m (pc + 3) ls rest)) : W p l e R s m args below meth c H locs cells slots Q (F0 m pc ls st0) := by
  have hF := kfree0 hD hS hA
  refine va_callv hr hS (fun q _ h => hF q h) hF (fun u t H1 locs1 ht hvm hw hB hz hk hS1 => ?_)
  obtain ⟨hP1, -, hD1⟩ := hB
  rw [ht] at hP1
  exact kk H1 locs1 hP1 (hD1.weaken fun _ q _ h => hF q.1 h) hS1
/-! a method's entry and its ends -/
theorem kE {Qx : (Nat → Prop) → Array Value → State → Outcome → State → Prop} {ws' : List Cond} {W0 : va_W} {av : List Value} {sz : Nat} {lv0 : List (Nat × Value)} (own : String) (ho : y.cls = own) (hy : plainName y.cls = true) (hw : ws = Cond.code y cc maxL ret :: ws') (hav : (lg_sl av).length ≤ maxL) (hlv : lv_args 0 av = lv0)
    (body : ∀ (p : Program) (e : Env) (s : State) (m : MethodId) (args : Array Value) (below : List Frame) (meth : Method) (c : Code) (A : Nat → Prop) (ls : Array Slot), p.tables.exec = Jvm.exec → c.code = cc → c.maxLocals = maxL → meth.sig.returnType = ret → meth.locks = false → s.vm.findClass own = some m.cls → (∀ w ∈ ws, w.before args s = true) → (∀ q : Nat, s.heap.size ≤ q → A q) →
      va_K D vwCl tys s → va_P D vwCl W0 s.heap → va_D A W0 → va_S A s.heap s.heap [] → lv_has ls maxL lv0 → W p l e rm s m args below meth c s.heap [] 0 0 (MQ below (Qx A) args s 0 0 A) (F0 m 0 ls [])) :
    Met l y ws rm (kPc D tys W0 av sz) (Qx (va_A W0 sz)) 0 0 (va_A W0 sz) := by
  refine Met.ofW (cc := cc) (maxL := maxL) (ret := ret) hy hw ?_
  intro p e s m args below meth c s₁ B hml hv
  obtain ⟨rfl, hsz, hP, hK, hD0⟩ := hv
  have hts := atoms_spec (ws := ws) B.pre
  have hown : s.vm.findClass own = some m.cls := by rw [← ho]; exact findClass_of_methodNamed B.named
  subst hsz
  have hD : va_D (va_A W0 s.heap.size) W0 := hD0.self (sz := s.heap.size)
  have hA : ∀ q : Nat, s.heap.size ≤ q → va_A W0 s.heap.size q := fun q h => Or.inr h
  have hl := lv_entry av (n := maxL) hav
  rw [lg_entry_eq]
  rw [hlv] at hl
  exact body p e s m _ below meth c _ _ B.exec B.bytes hml B.returns B.notSynchronized hown hts hA hK hP hD va_S.rf hl
theorem ke_i {r v : Int32} (hx : p.tables.exec = Jvm.exec) (hb : c.code = cc) (hr : meth.sig.returnType = some .int) (hlocks : meth.locks = false) (hK : va_K D vwCl tys s) (hP : va_P D vwCl wW H) (hD : va_D A wW) (hS : va_S A s.heap H locs) (hv : v = r) (hdg : decode cc pc = .ok (.ireturn, 1)) :
    W p l e R s m args below meth c H locs 0 0 (MQ below (kQi D tys wW r A) args s 0 0 A) (F0 m pc ls [.int v]) :=
  W.iret (v := v) hx hb hr (fun t ht hW => ⟨⟨v, (), rfl, hv, by rw [ht]; exact hP, va_K.moved hW.alike hK, hD⟩, hS.F ht⟩) hS.2.2 hdg hlocks
theorem ke_z {r v : Int32} (hx : p.tables.exec = Jvm.exec) (hb : c.code = cc) (hr : meth.sig.returnType = some .boolean) (hlocks : meth.locks = false) (hnar : narrow .boolean (.int v) = .int v) (hK : va_K D vwCl tys s) (hP : va_P D vwCl wW H) (hD : va_D A wW) (hS : va_S A s.heap H locs) (hv : v = r) (hdg : decode cc pc = .ok (.ireturn, 1)) :
    W p l e R s m args below meth c H locs 0 0 (MQ below (kQi D tys wW r A) args s 0 0 A) (F0 m pc ls [.int v]) :=
  W.zret (v := v) hx hb hr hnar (fun t ht hW => ⟨⟨v, (), rfl, hv, by rw [ht]; exact hP, va_K.moved hW.alike hK, hD⟩, hS.F ht⟩) hS.2.2 hdg hlocks
theorem ke_l {r v : Int64} (hx : p.tables.exec = Jvm.exec) (hb : c.code = cc) (hr : meth.sig.returnType = some .long) (hlocks : meth.locks = false) (hK : va_K D vwCl tys s) (hP : va_P D vwCl wW H) (hD : va_D A wW) (hS : va_S A s.heap H locs) (hv : v = r) (hdg : decode cc pc = .ok (.lreturn, 1)) :
    W p l e R s m args below meth c H locs 0 0 (MQ below (kQl D tys wW r A) args s 0 0 A) (F0 m pc ls [.long v]) :=
  W.lret (v := v) hx hb hr (fun t ht hW => ⟨⟨v, (), rfl, hv, by rw [ht]; exact hP, va_K.moved hW.alike hK, hD⟩, hS.F ht⟩) hS.2.2 hdg hlocks
theorem ke_v (hx : p.tables.exec = Jvm.exec) (hb : c.code = cc) (hr : meth.sig.returnType = none) (hlocks : meth.locks = false) (hK : va_K D vwCl tys s) (hP : va_P D vwCl wW H) (hD : va_D A wW) (hS : va_S A s.heap H locs) (hdg : decode cc pc = .ok (.return_, 1)) :
    W p l e R s m args below meth c H locs 0 0 (MQ below (kQv D tys wW A) args s 0 0 A) (F0 m pc ls []) :=
  W.vret hx hb hr (fun t ht hW => ⟨⟨(), rfl, trivial, by rw [ht]; exact hP, va_K.moved hW.alike hK, hD⟩, hS.F ht⟩) hS.2.2 hdg hlocks
theorem kmmmax {c0 : Cond} (hx : p.tables.exec = Jvm.exec) (hb : c.code = cc) (hml : c.maxLocals = ls.size) (hown : s.vm.findClass own = some m.cls) (hts : ∀ w ∈ c0 :: BIG, w.before args s = true) (hlink : Cond.methodLink own index Lib.Math.max.name ∈ BIG) (hc : cells ≤ R.cells) (hs : slots ≤ R.slots) (hframes : 1 ≤ R.frames) (hlocals : (rest.map fun v => v.category).sum + 13 ≤ R.locals) {x y : Int32} (hdg : decode cc pc = .ok (.invokestatic index, 3))
    (kk : W p l e R s m args below meth c H locs cells slots Q (F0 m (pc + 3) ls (.int (MMAX x y) :: rest))) : W p l e R s m args below meth c H locs cells slots Q (F0 m pc ls (.int y :: .int x :: rest)) :=
  va_mmax hx hb hml hown (hts _ (List.mem_cons_of_mem _ hlink)) (hts _ (List.mem_cons_of_mem _ w_146)) (hts _ (List.mem_cons_of_mem _ w_147)) (hts _ (List.mem_cons_of_mem _ w_148)) hframes hlocals hc hs hdg kk
theorem kmmmin {c0 : Cond} (hx : p.tables.exec = Jvm.exec) (hb : c.code = cc) (hml : c.maxLocals = ls.size) (hown : s.vm.findClass own = some m.cls) (hts : ∀ w ∈ c0 :: BIG, w.before args s = true) (hlink : Cond.methodLink own index Lib.Math.min.name ∈ BIG) (hc : cells ≤ R.cells) (hs : slots ≤ R.slots) (hframes : 1 ≤ R.frames) (hlocals : (rest.map fun v => v.category).sum + 13 ≤ R.locals) {x y : Int32} (hdg : decode cc pc = .ok (.invokestatic index, 3))
    (kk : W p l e R s m args below meth c H locs cells slots Q (F0 m (pc + 3) ls (.int (MMIN x y) :: rest))) : W p l e R s m args below meth c H locs cells slots Q (F0 m pc ls (.int y :: .int x :: rest)) :=
  va_mmin hx hb hml hown (hts _ (List.mem_cons_of_mem _ hlink)) (hts _ (List.mem_cons_of_mem _ w_301)) (hts _ (List.mem_cons_of_mem _ w_147)) (hts _ (List.mem_cons_of_mem _ w_302)) hframes hlocals hc hs hdg kk
theorem ksw (hexec : p.tables.exec = Jvm.exec) (hb : c.code = cc) {dflt lo hi : Int} {offs : Array Int} {len : Nat} {x n : Int32} {off : Int} {tgt : Nat} (hdg : decode cc pc = .ok (.tableswitch dflt lo hi offs, len)) (hv : x = n) (h1 : ¬ n.toInt < lo) (h2 : ¬ hi < n.toInt) (ho : offs[(n.toInt - lo).toNat]? = some off) (ht : (pc : Int) + off = (tgt : Int))
    (k : W p l e R s m args below meth c H locs cells slots Q (F0 m tgt ls rest)) : W p l e R s m args below meth c H locs cells slots Q (F0 m pc ls (.int x :: rest)) := by
  subst hv
  exact lv_tableIn hexec hb hdg h1 h2 ho ht k
end KCALL
theorem kne {x n : Int32} {k : Int} (h : ¬ x = n) (hk : n.toInt = k) : x.toInt ≠ k := fun q => h (Int32.toInt_inj.mp (q.trans hk.symm))
theorem keq {x n : Int32} {k : Int} (h : x.toInt = k) (hk : n.toInt = k) : x = n := Int32.toInt_inj.mp (h.trans hk.symm)
