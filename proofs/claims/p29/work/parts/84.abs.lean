/-! THE PURE SIDE: containers, backups; how the Model's row holds them -/
/-- the first of N that is so, or N -/
def fi (p : Nat → Bool) : Nat → Nat
  | 0 => 0
  | n + 1 => if fi p n < n then fi p n else if p n then n else n + 1
theorem fi_spec (p : Nat → Bool) : ∀ N, fi p N ≤ N ∧ (∀ j, j < fi p N → p j = false) ∧ (fi p N < N → p (fi p N) = true) := by
  intro N
  induction N with
  | zero => exact ⟨Nat.le_refl _, fun j hj => absurd hj (Nat.not_lt_zero _), fun h => absurd h (Nat.not_lt_zero _)⟩
  | succ n ih =>
    obtain ⟨h1, h2, h3⟩ := ih
    unfold fi
    by_cases q : fi p n < n
    · rw [if_pos q]
      exact ⟨by omega, h2, fun _ => h3 q⟩
    · rw [if_neg q]
      have e : fi p n = n := by omega
      rw [e] at h2
      by_cases z : p n = true
      · rw [if_pos z]
        exact ⟨by omega, h2, fun _ => z⟩
      · rw [if_neg z]
        refine ⟨Nat.le_refl _, fun j hj => ?_, fun h => absurd h (by omega)⟩
        by_cases w : j = n
        · subst w; exact Bool.eq_false_iff.mpr z
        · exact h2 j (by omega)
theorem fi_eq {p : Nat → Bool} {N k : Nat} (h1 : k ≤ N) (h2 : ∀ j, j < k → p j = false) (h3 : k < N → p k = true) : fi p N = k := by
  obtain ⟨g1, g2, g3⟩ := fi_spec p N
  rcases Nat.lt_trichotomy (fi p N) k with q | q | q
  · have := g3 (by omega)
    rw [h2 _ q] at this
    cases this
  · exact q
  · have := h3 (by omega)
    rw [g2 _ q] at this
    cases this
theorem fi_ext {p q : Nat → Bool} {N : Nat} (h : ∀ i, i < N → p i = q i) : fi p N = fi q N := by
  obtain ⟨g1, g2, g3⟩ := fi_spec q N
  exact fi_eq g1 (fun j hj => by rw [h j (by omega)]; exact g2 j hj) (fun hk => by rw [h _ hk]; exact g3 hk)
def RJ (k N : Nat) : Int32 := if k < N then J k else NN
/-- the last of N that is so -/
def lastP (p : Nat → Bool) : Nat → Option Nat
  | 0 => none
  | n + 1 => if p n then some n else lastP p n
theorem lastP_some {p : Nat → Bool} {k : Nat} : ∀ {N : Nat}, lastP p N = some k → k < N ∧ p k = true ∧ ∀ j, k < j → j < N → p j = false := by
  intro N
  induction N with
  | zero => intro h; cases h
  | succ n ih =>
    intro h
    unfold lastP at h
    by_cases q : p n = true
    · rw [if_pos q] at h
      cases h
      exact ⟨by omega, q, fun j h1 h2 => absurd h1 (by omega)⟩
    · rw [if_neg q] at h
      obtain ⟨h1, h2, h3⟩ := ih h
      refine ⟨by omega, h2, fun j g1 g2 => ?_⟩
      by_cases w : j = n
      · subst w; exact Bool.eq_false_iff.mpr q
      · exact h3 j g1 (by omega)
theorem lastP_none {p : Nat → Bool} : ∀ {N : Nat}, lastP p N = none → ∀ j, j < N → p j = false := by
  intro N
  induction N with
  | zero => intro _ j hj; exact absurd hj (Nat.not_lt_zero _)
  | succ n ih =>
    intro h j hj
    unfold lastP at h
    by_cases q : p n = true
    · rw [if_pos q] at h; cases h
    · rw [if_neg q] at h
      by_cases w : j = n
      · subst w; exact Bool.eq_false_iff.mpr q
      · exact ih h j (by omega)
theorem lastP_eq_some {p : Nat → Bool} {k N : Nat} (h1 : k < N) (h2 : p k = true) (h3 : ∀ j, k < j → j < N → p j = false) : lastP p N = some k := by
  cases h : lastP p N with
  | none => rw [lastP_none h k h1] at h2; cases h2
  | some j =>
    obtain ⟨g1, g2, g3⟩ := lastP_some h
    rcases Nat.lt_trichotomy j k with q | q | q
    · rw [g3 k q h1] at h2; cases h2
    · rw [q]
    · rw [h3 j q g1] at g2; cases g2
theorem lastP_eq_none {p : Nat → Bool} {N : Nat} (h : ∀ j, j < N → p j = false) : lastP p N = none := by
  cases q : lastP p N with
  | none => rfl
  | some j =>
    obtain ⟨g1, g2, -⟩ := lastP_some q
    rw [h j g1] at g2
    cases g2
theorem lastP_ext {p q : Nat → Bool} : ∀ {N : Nat}, (∀ i, i < N → p i = q i) → lastP p N = lastP q N := by
  intro N
  induction N with
  | zero => intro _; rfl
  | succ n ih =>
    intro h
    unfold lastP
    rw [ih fun i hi => h i (by omega), h n (by omega)]
/-- a loop downwards -/
theorem lp_dn {σ ρ : Type} {f : (σ → Option ρ) → σ → Option ρ} (st : Nat → σ) (p : Nat → Bool) (r : Option Nat → Option ρ) (h0 : ∀ self, f self (st 0) = r none) : ∀ (N fuel : Nat), (∀ (self : σ → Option ρ) (j : Nat), j < N → f self (st (j + 1)) = if p j then r (some j) else self (st j)) → N < fuel → lp f fuel (st N) = r (lastP p N) := by
  intro N
  induction N with
  | zero =>
    intro fuel _ hf
    obtain ⟨fuel, rfl⟩ : ∃ q, fuel = q + 1 := ⟨fuel - 1, by omega⟩
    exact h0 _
  | succ N ih =>
    intro fuel hs hf
    obtain ⟨fuel, rfl⟩ : ∃ q, fuel = q + 1 := ⟨fuel - 1, by omega⟩
    show f (lp f fuel) (st (N + 1)) = _
    rw [hs _ N (by omega)]
    unfold lastP
    by_cases q : p N = true
    · rw [if_pos q, if_pos q]
    · rw [if_neg q, if_neg q]
      exact ih fuel (fun self j hj => hs self j (by omega)) (by omega)
/-- one below -/
def dn (j : Nat) : Int32 := if j = 0 then NN else J (j - 1)
theorem dn_succ (j : Nat) : dn (j + 1) = J j := by
  unfold dn
  rw [if_neg (by omega)]
  rfl
theorem dn_sub (j : Nat) : J j - J 1 = dn j := by
  unfold dn
  by_cases q : j = 0
  · rw [if_pos q, q]; rfl
  · rw [if_neg q, J_sub (by omega)]
theorem dn_add (j : Nat) : J j + NN = dn j := by
  unfold dn
  by_cases q : j = 0
  · rw [if_pos q, q]; rfl
  · rw [if_neg q, J_dec (by omega)]
/-- a container: its number, its capacity, its chunks -/
abbrev Ct : Type := Nat × Nat × List (List Nat)
def cn (cs : List Ct) (k : Nat) : Ct := cs[k]?.getD (0, 0, [])
def nu (cs : List Ct) (k : Nat) : Nat := (cn cs k).1
def ca (cs : List Ct) (k : Nat) : Nat := (cn cs k).2.1
def si (cs : List Ct) (k : Nat) : Nat := (cn cs k).2.2.length
def ch (cs : List Ct) (k i : Nat) : List Nat := (cn cs k).2.2[i]?.getD []
/-- what stands before a container -/
def st (cs : List Ct) (k : Nat) : Nat := sm (si cs) k
def Wk (cs : List Ct) (nx k : Nat) : Prop := 1 ≤ si cs k ∧ si cs k ≤ ca cs k ∧ 2 ≤ ca cs k ∧ ca cs k ≤ 8 ∧ nu cs k < nx ∧ ∀ i, i < si cs k → vch (ch cs k i)
def Wc (cs : List Ct) (nx : Nat) : Prop := nx < 2 ^ 30 ∧ (∀ k, k < cs.length → Wk cs nx k) ∧ ∀ j k, j < k → k < cs.length → nu cs j < nu cs k
def RMk (s : Nat → Int32) (cs : List Ct) (k : Nat) : Prop := s (8 + 11 * k) = J (nu cs k) ∧ s (8 + 11 * k + 1) = J (ca cs k) ∧ s (8 + 11 * k + 2) = J (si cs k) ∧ ∀ i, i < si cs k → s (8 + 11 * k + 3 + i) = J (c9 (ch cs k i))
def RMc (s : Nat → Int32) (se : Nat → Nat) (nx : Nat) (cs : List Ct) : Prop := (∀ i, i < 5 → s i = J (se i)) ∧ s 5 = J nx ∧ s 7 = J cs.length ∧ ∀ k, k < cs.length → RMk s cs k
/-- reference i of a backup: a number, a place in the container -/
def rf (l : List (Nat × Nat)) (i : Nat) : Nat × Nat := l[i]?.getD (0, 0)
def RMb (s : Nat → Int32) (bs : Nat → List (Nat × Nat)) : Prop := ∀ b, b < 8 → s (998 + 34 * b) = J (min 1 (bs b).length) ∧ s (998 + 34 * b + 1) = J (bs b).length ∧ ∀ i, i < (bs b).length → s (998 + 34 * b + 2 + 2 * i) = J (rf (bs b) i).1 ∧ s (998 + 34 * b + 2 + 2 * i + 1) = J (rf (bs b) i).2
def RV (cs : List Ct) (r : Nat × Nat) : Prop := ∃ k, k < cs.length ∧ r.1 = nu cs k ∧ r.2 < si cs k
def Wb (cs : List Ct) (bs : Nat → List (Nat × Nat)) : Prop := ∀ b, b < 8 → (bs b).length ≤ 15 ∧ ∀ i, i < (bs b).length → RV cs (rf (bs b) i)
def Ws (se : Nat → Nat) : Prop := 2 ≤ se 0 ∧ se 0 ≤ 9 ∧ 2 ≤ se 1 ∧ se 1 ≤ 8 ∧ 1 ≤ se 2 ∧ se 2 ≤ 9 ∧ 1 ≤ se 3 ∧ se 3 ≤ 100 ∧ 1 ≤ se 4 ∧ se 4 ≤ 4
theorem sm_step {f : Nat → Nat} (i : Nat) : sm f (i + 1) = sm f i + f i := rfl
theorem cp_step {p : Nat → Bool} (i : Nat) : cp p (i + 1) = cp p i + (if p i then 1 else 0) := rfl
theorem cp_yes {p : Nat → Bool} {i : Nat} (h : p i = true) : cp p (i + 1) = cp p i + 1 := by rw [cp_step, if_pos h]
theorem cp_no {p : Nat → Bool} {i : Nat} (h : p i = false) : cp p (i + 1) = cp p i := by rw [cp_step, h]; rfl
theorem rf_mem {l : List (Nat × Nat)} {i : Nat} (h : i < l.length) : rf l i ∈ l := by
  unfold rf
  rw [List.getElem?_eq_getElem h]
  exact List.getElem_mem h
theorem rf_at {l : List (Nat × Nat)} {i : Nat} (h : i < l.length) : l[i]? = some (rf l i) := by
  unfold rf
  rw [List.getElem?_eq_getElem h]
  rfl
theorem Wc_nu {cs : List Ct} {nx k : Nat} (h : Wc cs nx) (hk : k < cs.length) : nu cs k < 2 ^ 30 := by
  have h1 := h.1
  have h2 := (h.2.1 k hk).2.2.2.2.1
  omega
theorem Wc_inj {cs : List Ct} {nx j k : Nat} (h : Wc cs nx) (hj : j < cs.length) (hk : k < cs.length) (he : nu cs j = nu cs k) : j = k := by
  rcases Nat.lt_trichotomy j k with q | q | q
  · have := h.2.2 j k q hk; omega
  · exact q
  · have := h.2.2 k j q hj; omega
theorem Wc_lt {cs : List Ct} {nx j k : Nat} (h : Wc cs nx) (hj : j < cs.length) (hk : k < cs.length) : (nu cs j < nu cs k) ↔ j < k := by
  constructor
  · intro q
    rcases Nat.lt_trichotomy j k with z | z | z
    · exact z
    · subst z; omega
    · have := h.2.2 k j z hj; omega
  · exact fun q => h.2.2 j k q hk
/-- the place of a number -/
def pl (cs : List Ct) (n : Nat) : Nat := fi (fun j => decide (nu cs j = n)) cs.length
theorem pl_at {cs : List Ct} {nx k : Nat} (h : Wc cs nx) (hk : k < cs.length) : pl cs (nu cs k) = k :=
  fi_eq (by omega) (fun j hj => decide_eq_false fun q => by have := Wc_inj h (by omega) hk q; omega) (fun _ => decide_eq_true rfl)
theorem pl_RV {cs : List Ct} {nx : Nat} {r : Nat × Nat} (h : Wc cs nx) (hr : RV cs r) : pl cs r.1 < cs.length ∧ nu cs (pl cs r.1) = r.1 ∧ r.2 < si cs (pl cs r.1) := by
  obtain ⟨k, h1, h2, h3⟩ := hr
  rw [h2, pl_at h h1]
  exact ⟨h1, rfl, h3⟩
theorem J_eqx {a b : Nat} (ha : a < 2 ^ 31) (hb : b < 2 ^ 31) : decide (J a = J b) = decide (a = b) := decide_eq_decide.mpr (J_eq ha hb)
/-- where a chunk stands first in a container -/
def fe (cs : List Ct) (k : Nat) (l : List Nat) : Nat := fi (fun e => decide (ch cs k e = l)) (si cs k)
/-- the home of a chunk: the last container that has it -/
def hm (cs : List Ct) (l : List Nat) : Option Nat := lastP (fun k => decide (fe cs k l < si cs k)) cs.length
def OJ (g : Nat → Nat) : Option Nat → Int32
  | none => NN
  | some k => J (g k)
/-- how many references there are to an entry, but for those of backup u -/
def cnt (bs : Nat → List (Nat × Nat)) (u : Nat) (r : Nat × Nat) : Nat := sm (fun b => if b = u then 0 else (bs b).count r) 8
def lv (cs : List Ct) (bs : Nat → List (Nat × Nat)) (u k : Nat) : Nat := cp (fun i => decide (0 < cnt bs u (nu cs k, i))) (si cs k)
def thn (se : Nat → Nat) (cs : List Ct) (bs : Nat → List (Nat × Nat)) (k : Nat) : Bool := decide (k + 1 < cs.length ∧ 100 * lv cs bs 8 k < se 3 * si cs k)
theorem cnt_le {cs : List Ct} {bs : Nat → List (Nat × Nat)} (h : Wb cs bs) (u : Nat) (r : Nat × Nat) : cnt bs u r ≤ 120 := by
  have := sm_le (f := fun b => if b = u then 0 else (bs b).count r) (B := 15) (n := 8) (fun b hb => by
    have h1 := (h b hb).1
    have h2 := List.count_le_length (a := r) (l := bs b)
    split <;> omega)
  show sm _ 8 ≤ 120
  omega
theorem lv_le (cs : List Ct) (bs : Nat → List (Nat × Nat)) (u k : Nat) : lv cs bs u k ≤ si cs k := cp_le _ _
