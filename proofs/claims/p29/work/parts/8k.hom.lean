/-! THE PURE SIDE: homes: votes, and which of them stay -/
theorem cp_inj {P : Nat → Bool} {f : Nat → Nat} : ∀ {n : Nat} {Q : Nat → Bool} {m : Nat}, (∀ i, i < n → P i = true → f i < m ∧ Q (f i) = true) → (∀ i j, i < n → j < n → P i = true → P j = true → f i = f j → i = j) → cp P n ≤ cp Q m := by
  intro n
  induction n with
  | zero => intro Q m _ _; exact Nat.zero_le _
  | succ n ih =>
    intro Q m h1 h2
    rw [cp_step]
    by_cases q : P n = true
    · obtain ⟨z1, z2⟩ := h1 n (by omega) q
      have h3 := cp_one (p := Q) (q := fun k => if k = f n then false else Q k) z1 (fun i hi hne => by rw [if_neg hne])
      rw [if_pos z2, if_pos rfl] at h3
      have h4 := ih (Q := fun k => if k = f n then false else Q k) (m := m) (fun i hi hp => by
        obtain ⟨y1, y2⟩ := h1 i (by omega) hp
        refine ⟨y1, ?_⟩
        show (if f i = f n then false else Q (f i)) = true
        rw [if_neg (fun w => by have := h2 i n (by omega) (by omega) hp q w; omega)]
        exact y2) (fun i j hi hj => h2 i j (by omega) (by omega))
      rw [if_pos q]
      have h5 : (if false = true then 1 else 0) = 0 := rfl
      omega
    · rw [if_neg q]
      exact ih (fun i hi => h1 i (by omega)) (fun i j hi hj => h2 i j (by omega) (by omega))
/-- how many chunks of the first i have their home at p -/
def vt (h : Nat → Option Nat) (i p : Nat) : Nat := cp (fun j => decide (h j = some p)) i
/-- the first chunk with this home -/
def ifs (h : Nat → Option Nat) (i : Nat) : Bool := decide (h i ≠ none ∧ cp (fun j => decide (h j = h i)) i = 0)
/-- q is ahead of p -/
def ahd (h : Nat → Option Nat) (n q p : Nat) : Bool := decide (vt h n p < vt h n q ∨ (vt h n q = vt h n p ∧ p < q))
/-- how many homes are ahead of one -/
def ah (h : Nat → Option Nat) (n p : Nat) : Nat := cp (fun i => ifs h i && ahd h n ((h i).getD 0) p) n
/-- the homes that stay -/
def kh (h : Nat → Option Nat) (n lim j : Nat) : Option Nat := if lim ≤ ah h n ((h j).getD 0) then none else h j
theorem ahd_asymm {h : Nat → Option Nat} {n q p : Nat} (h1 : ahd h n q p = true) (h2 : ahd h n p q = true) : False := by
  have a := of_decide_eq_true h1
  have b := of_decide_eq_true h2
  omega
theorem ahd_total {h : Nat → Option Nat} {n q p : Nat} (hne : q ≠ p) : ahd h n q p = true ∨ ahd h n p q = true := by
  by_cases c : vt h n p < vt h n q ∨ (vt h n q = vt h n p ∧ p < q)
  · exact Or.inl (decide_eq_true c)
  · exact Or.inr (decide_eq_true (by omega))
theorem ahd_self {h : Nat → Option Nat} {n p : Nat} : ahd h n p p = false := decide_eq_false (by omega)
theorem vt_le (h : Nat → Option Nat) (i p : Nat) : vt h i p ≤ i := cp_le _ _
/-- the rivals while they are dropped: R k for k < m -/
def Rv (h : Nat → Option Nat) (n lim : Nat) (R : Nat → Nat) (m : Nat) : Prop :=
  (∀ j k, j < m → k < m → R j = R k → j = k) ∧ (∀ k, k < m → ∃ j, j < n ∧ h j = some (R k)) ∧ (∀ j p, j < n → h j = some p → (∀ k, k < m → R k ≠ p) → lim ≤ ah h n p) ∧ ∀ k, k < m → ∀ j q, j < n → h j = some q → ahd h n q (R k) = true → ∃ k2, k2 < m ∧ R k2 = q
def ina (R : Nat → Nat) (m p : Nat) : Prop := ∃ k, k < m ∧ R k = p
theorem Rv_kept {h : Nat → Option Nat} {n lim m : Nat} {R : Nat → Nat} (hR : Rv h n lim R m) {k : Nat} (hk : k < m) : ah h n (R k) < m := by
  obtain ⟨r1, r2, r3, r4⟩ := hR
  have h1 : ah h n (R k) ≤ cp (fun x => decide (x ≠ k)) m := by
    refine cp_inj (f := fun i => fi (fun x => decide (R x = (h i).getD 0)) m) (fun i hi hp => ?_) (fun i j hi hj hp hq he => ?_)
    · rw [Bool.and_eq_true] at hp
      obtain ⟨p1, p2⟩ := hp
      have p3 := (of_decide_eq_true p1).1
      cases hh : h i with
      | none => exact absurd hh p3
      | some q =>
        rw [hh] at p2
        obtain ⟨k2, z1, z2⟩ := r4 k hk i q hi hh p2
        have e : fi (fun x => decide (R x = (h i).getD 0)) m = k2 := fi_eq (by omega) (fun j hj => decide_eq_false fun w => by
          rw [hh] at w
          have := r1 j k2 (by omega) z1 (w.trans z2.symm)
          omega) (fun _ => decide_eq_true (by rw [hh]; exact z2))
        rw [hh] at e
        show fi (fun x => decide (R x = (some q).getD 0)) m < m ∧ decide (fi (fun x => decide (R x = (some q).getD 0)) m ≠ k) = true
        rw [e]
        refine ⟨z1, decide_eq_true fun w => ?_⟩
        subst w
        rw [z2] at p2
        have p2' : ahd h n q q = true := p2
        rw [ahd_self] at p2'
        cases p2'
    · rw [Bool.and_eq_true] at hp hq
      have hp3 := of_decide_eq_true hp.1
      have hq3 := of_decide_eq_true hq.1
      cases hhi : h i with
      | none => exact absurd hhi hp3.1
      | some q =>
        cases hhj : h j with
        | none => exact absurd hhj hq3.1
        | some q2 =>
          have p2 := hp.2
          have q3 := hq.2
          rw [hhi] at p2
          rw [hhj] at q3
          obtain ⟨k2, z1, z2⟩ := r4 k hk i q hi hhi p2
          obtain ⟨k3, y1, y2⟩ := r4 k hk j q2 hj hhj q3
          have e1 : fi (fun x => decide (R x = (h i).getD 0)) m = k2 := fi_eq (by omega) (fun j hj => decide_eq_false fun w => by
            rw [hhi] at w
            have := r1 j k2 (by omega) z1 (w.trans z2.symm)
            omega) (fun _ => decide_eq_true (by rw [hhi]; exact z2))
          have e2 : fi (fun x => decide (R x = (h j).getD 0)) m = k3 := fi_eq (by omega) (fun j hj => decide_eq_false fun w => by
            rw [hhj] at w
            have := r1 j k3 (by omega) y1 (w.trans y2.symm)
            omega) (fun _ => decide_eq_true (by rw [hhj]; exact y2))
          have he' : fi (fun x => decide (R x = (h i).getD 0)) m = fi (fun x => decide (R x = (h j).getD 0)) m := he
          rw [e1, e2] at he'
          have hqq : q = q2 := by rw [← z2, ← y2, he']
          subst hqq
          rcases Nat.lt_trichotomy i j with w | w | w
          · have := cp_pos (p := fun x => decide (h x = h j)) w (decide_eq_true (by rw [hhi, hhj]))
            rw [hq3.2] at this; omega
          · exact w
          · have := cp_pos (p := fun x => decide (h x = h i)) w (decide_eq_true (by rw [hhi, hhj]))
            rw [hp3.2] at this; omega
  have h2 := cp_one (p := fun _ => true) (q := fun x => decide (x ≠ k)) hk (fun i hi hne => (decide_eq_true hne).symm)
  have h3 : ∀ z, cp (fun _ => true) z = z := by
    intro z
    induction z with
    | zero => rfl
    | succ z ih => rw [cp_step, ih]; rfl
  rw [h3, if_pos rfl, if_neg (by simp)] at h2
  omega
theorem Rv_out {h : Nat → Option Nat} {n lim m w : Nat} {R : Nat → Nat} (hR : Rv h n lim R m) (hw : w < m) (hmin : ∀ k, k < m → k ≠ w → ahd h n (R k) (R w) = true) : m ≤ ah h n (R w) + 1 := by
  obtain ⟨r1, r2, r3, r4⟩ := hR
  have h1 : cp (fun x => decide (x ≠ w)) m ≤ ah h n (R w) := by
    have key : ∀ k, k < m → ∃ i, i < n ∧ h i = some (R k) ∧ ifs h i = true ∧ fi (fun i => decide (h i = some (R k))) n = i := by
      intro k hk
      obtain ⟨j, j1, j2⟩ := r2 k hk
      obtain ⟨f1, f2, f3⟩ := fi_spec (fun i => decide (h i = some (R k))) n
      have hlt : fi (fun i => decide (h i = some (R k))) n < n := by
        rcases Nat.lt_or_ge (fi (fun i => decide (h i = some (R k))) n) n with z | z
        · exact z
        · exact absurd j2 (of_decide_eq_false (f2 j (by omega)))
      have h2 := of_decide_eq_true (f3 hlt)
      refine ⟨_, hlt, h2, decide_eq_true ⟨by rw [h2]; exact fun z => (by cases z), cp_zero fun x hx => decide_eq_false fun z => ?_⟩, rfl⟩
      exact of_decide_eq_false (f2 x hx) (z.trans h2)
    refine cp_inj (f := fun k => fi (fun i => decide (h i = some (R k))) n) (fun k hk hp => ?_) (fun j k hj hk _ _ he => ?_)
    · obtain ⟨i, i1, i2, i3, i4⟩ := key k hk
      show fi (fun i => decide (h i = some (R k))) n < n ∧ (ifs h (fi (fun i => decide (h i = some (R k))) n) && ahd h n ((h (fi (fun i => decide (h i = some (R k))) n)).getD 0) (R w)) = true
      rw [i4, i2, i3]
      exact ⟨i1, hmin k hk (of_decide_eq_true hp)⟩
    · obtain ⟨i, i1, i2, i3, i4⟩ := key j hj
      obtain ⟨x, x1, x2, x3, x4⟩ := key k hk
      have he' : fi (fun i => decide (h i = some (R j))) n = fi (fun i => decide (h i = some (R k))) n := he
      rw [i4, x4] at he'
      subst he'
      rw [i2] at x2
      exact r1 j k hj hk (Option.some.inj x2)
  have h2 := cp_one (p := fun _ => true) (q := fun x => decide (x ≠ w)) hw (fun i hi hne => (decide_eq_true hne).symm)
  have h3 : ∀ z, cp (fun _ => true) z = z := by
    intro z
    induction z with
    | zero => rfl
    | succ z ih => rw [cp_step, ih]; rfl
  rw [h3, if_pos rfl, if_neg (by simp)] at h2
  omega
/-- the weakest dropped: the last rival takes its place -/
def rdr (R : Nat → Nat) (m w : Nat) : Nat → Nat := fun k => if k = w then R (m - 1) else R k
theorem rdr_in {R : Nat → Nat} {m w p : Nat} (hinj : ∀ j k, j < m → k < m → R j = R k → j = k) (hw : w < m) : ina (rdr R m w) (m - 1) p ↔ ina R m p ∧ p ≠ R w := by
  constructor
  · rintro ⟨k, k1, k2⟩
    unfold rdr at k2
    by_cases q : k = w
    · rw [if_pos q] at k2
      refine ⟨⟨m - 1, by omega, k2⟩, fun z => ?_⟩
      have := hinj (m - 1) w (by omega) hw (k2.trans z)
      omega
    · rw [if_neg q] at k2
      refine ⟨⟨k, by omega, k2⟩, fun z => ?_⟩
      exact q (hinj k w (by omega) hw (k2.trans z))
  · rintro ⟨⟨k, k1, k2⟩, k3⟩
    have hkw : k ≠ w := fun z => k3 (by rw [← k2, z])
    by_cases q : k = m - 1
    · refine ⟨w, by omega, ?_⟩
      unfold rdr
      rw [if_pos rfl, ← q]
      exact k2
    · refine ⟨k, by omega, ?_⟩
      unfold rdr
      rw [if_neg hkw]
      exact k2
theorem Rv_drop {h : Nat → Option Nat} {n lim m w : Nat} {R : Nat → Nat} (hR : Rv h n lim R m) (hw : w < m) (hlim : lim < m) (hmin : ∀ k, k < m → k ≠ w → ahd h n (R k) (R w) = true) : Rv h n lim (rdr R m w) (m - 1) := by
  have ho := Rv_out hR hw hmin
  obtain ⟨r1, r2, r3, r4⟩ := hR
  have hin := fun p => rdr_in (p := p) r1 hw
  refine ⟨fun j k hj hk he => ?_, fun k hk => ?_, fun j p hj hp hno => ?_, fun k hk j q hj hq ha => ?_⟩
  · unfold rdr at he
    by_cases q : j = w
    · rw [if_pos q] at he
      by_cases z : k = w
      · omega
      · rw [if_neg z] at he
        have := r1 (m - 1) k (by omega) (by omega) he
        omega
    · rw [if_neg q] at he
      by_cases z : k = w
      · rw [if_pos z] at he
        have := r1 j (m - 1) (by omega) (by omega) he
        omega
      · rw [if_neg z] at he
        exact r1 j k (by omega) (by omega) he
  · obtain ⟨⟨k2, z1, z2⟩, -⟩ := (hin (rdr R m w k)).mp ⟨k, hk, rfl⟩
    rw [← z2]
    exact r2 k2 z1
  · by_cases q : p = R w
    · subst q; omega
    · refine r3 j p hj hp fun k hk z => ?_
      obtain ⟨k2, z1, z2⟩ := (hin p).mpr ⟨⟨k, hk, z⟩, q⟩
      exact hno k2 z1 z2
  · obtain ⟨⟨k2, z1, z2⟩, z3⟩ := (hin (rdr R m w k)).mp ⟨k, hk, rfl⟩
    rw [← z2] at ha z3
    obtain ⟨k3, y1, y2⟩ := r4 k2 z1 j q hj hq ha
    have hne : q ≠ R w := by
      intro z
      rw [z] at ha
      have hk2w : k2 ≠ w := fun x => z3 (by rw [x])
      exact ahd_asymm ha (hmin k2 z1 hk2w)
    obtain ⟨k4, x1, x2⟩ := (hin q).mpr ⟨⟨k3, y1, y2⟩, hne⟩
    exact ⟨k4, x1, x2⟩
/-- when no more than the limit are left, they are the homes that stay -/
theorem Rv_end {h : Nat → Option Nat} {n lim m : Nat} {R : Nat → Nat} (hR : Rv h n lim R m) (hm : m ≤ lim) {j : Nat} (hj : j < n) : (∀ p, h j = some p → ina R m p → kh h n lim j = some p) ∧ ((∀ p, h j = some p → ¬ ina R m p) → kh h n lim j = none) := by
  constructor
  · rintro p hp ⟨k, k1, k2⟩
    have := Rv_kept hR k1
    unfold kh
    rw [hp]
    show (if lim ≤ ah h n p then none else some p) = some p
    rw [if_neg (by rw [← k2]; omega)]
  · intro hno
    unfold kh
    cases hh : h j with
    | none =>
      show (if lim ≤ ah h n 0 then none else none) = (none : Option Nat)
      split <;> rfl
    | some p =>
      have := hR.2.2.1 j p hj hh fun k hk z => hno p hh ⟨k, hk, z⟩
      show (if lim ≤ ah h n p then none else some p) = none
      rw [if_pos this]
/-- the rivals after i chunks -/
def rv (h : Nat → Option Nat) : Nat → List Nat
  | 0 => []
  | i + 1 => match h i with
    | none => rv h i
    | some p => if p ∈ rv h i then rv h i else rv h i ++ [p]
theorem rv_step (h : Nat → Option Nat) (i : Nat) : rv h (i + 1) = match h i with
    | none => rv h i
    | some p => if p ∈ rv h i then rv h i else rv h i ++ [p] := rfl
theorem rv_mem {h : Nat → Option Nat} {p : Nat} : ∀ {i : Nat}, p ∈ rv h i ↔ ∃ j, j < i ∧ h j = some p := by
  intro i
  induction i with
  | zero => exact ⟨fun h => (by cases h), fun ⟨j, hj, _⟩ => absurd hj (Nat.not_lt_zero _)⟩
  | succ i ih =>
    have key : p ∈ rv h (i + 1) ↔ p ∈ rv h i ∨ h i = some p := by
      rw [rv_step]
      cases hh : h i with
      | none => exact ⟨Or.inl, fun z => z.elim id (fun w => (by cases w))⟩
      | some q =>
        show p ∈ (if q ∈ rv h i then rv h i else rv h i ++ [q]) ↔ _
        by_cases w : q ∈ rv h i
        · rw [if_pos w]
          exact ⟨Or.inl, fun z => z.elim id (fun x => (by cases x; exact w))⟩
        · rw [if_neg w, List.mem_append, List.mem_singleton]
          exact ⟨fun z => z.elim Or.inl (fun x => Or.inr (by rw [x])), fun z => z.elim Or.inl (fun x => (by cases x; exact Or.inr rfl))⟩
    rw [key, ih]
    constructor
    · rintro (⟨j, j1, j2⟩ | z)
      · exact ⟨j, by omega, j2⟩
      · exact ⟨i, by omega, z⟩
    · rintro ⟨j, j1, j2⟩
      by_cases w : j = i
      · subst w; exact Or.inr j2
      · exact Or.inl ⟨j, by omega, j2⟩
theorem rv_nodup {h : Nat → Option Nat} : ∀ i, (rv h i).Nodup := by
  intro i
  induction i with
  | zero => exact List.nodup_nil
  | succ i ih =>
    rw [rv_step]
    cases hh : h i with
    | none => exact ih
    | some q =>
      show (if q ∈ rv h i then rv h i else rv h i ++ [q]).Nodup
      by_cases w : q ∈ rv h i
      · rw [if_pos w]; exact ih
      · rw [if_neg w, List.nodup_append]
        refine ⟨ih, by simp, fun a ha b hb z => ?_⟩
        rw [List.mem_singleton.mp hb] at z
        exact w (z ▸ ha)
theorem rv_len {h : Nat → Option Nat} : ∀ i, (rv h i).length ≤ i := by
  intro i
  induction i with
  | zero => exact Nat.le_refl _
  | succ i ih =>
    rw [rv_step]
    cases hh : h i with
    | none => exact Nat.le_succ_of_le ih
    | some q =>
      show (if q ∈ rv h i then rv h i else rv h i ++ [q]).length ≤ _
      split
      · omega
      · rw [List.length_append]
        show (rv h i).length + 1 ≤ _
        omega
def rvf (h : Nat → Option Nat) (n k : Nat) : Nat := (rv h n)[k]?.getD 0
theorem rvf_at {h : Nat → Option Nat} {n k : Nat} (hk : k < (rv h n).length) : (rv h n)[k]? = some (rvf h n k) := by
  unfold rvf
  rw [List.getElem?_eq_getElem hk]
  rfl
theorem Rv_begin (h : Nat → Option Nat) (n lim : Nat) : Rv h n lim (rvf h n) (rv h n).length := by
  refine ⟨fun j k hj hk he => ?_, fun k hk => ?_, fun j p hj hp hno => ?_, fun k hk j q hj hq _ => ?_⟩
  · have a := rvf_at hj
    have b := rvf_at hk
    rw [he, ← b] at a
    exact (List.getElem?_inj hj (rv_nodup n)).mp a
  · exact rv_mem.mp (List.mem_of_getElem? (rvf_at hk))
  · have := rv_mem.mpr ⟨j, hj, hp⟩
    obtain ⟨k, hk⟩ := List.getElem?_of_mem this
    have h1 := (List.getElem?_eq_some_iff.mp hk).1
    have h2 := rvf_at h1
    rw [hk] at h2
    exact absurd (Option.some.inj h2).symm (hno k h1)
  · have := rv_mem.mpr ⟨j, hj, hq⟩
    obtain ⟨k2, hk2⟩ := List.getElem?_of_mem this
    have h1 := (List.getElem?_eq_some_iff.mp hk2).1
    have h2 := rvf_at h1
    rw [hk2] at h2
    exact ⟨k2, h1, (Option.some.inj h2).symm⟩
