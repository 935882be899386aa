/-! THE PURE SIDE: the Model's reading of the text -/
def rdm (c : Nat → Nat) (n : Nat) : Nat → Nat → Nat → Nat → (Nat → Int32) → (Nat → Int32) → Option Nat × (Nat → Int32) × (Nat → Int32) × Nat
  | 0, _, ss, le, b, l => (if le = 0 then some n else none, b, l, ss)
  | k + 1, i, ss, le, b, l => if 97 ≤ c i ∧ c i ≤ 104 ∧ le < 30 then (if le = 0 then rdm c n k (i + 1) (ss + 1) 1 (upd b ss (J i)) (upd l ss (J 1)) else rdm c n k (i + 1) ss (le + 1) b (upd l (ss - 1) (J (le + 1)))) else if c i = 44 ∧ 0 < le ∧ ss < 4 then rdm c n k (i + 1) ss 0 b l else (some i, b, l, ss)
theorem in_J {v a b : Nat} (hv : v < 2 ^ 31) (ha : a < 2 ^ 31) (hb : b < 2 ^ 31) : F_X9_in (J v) (J a) (J b) = some (if a ≤ v ∧ v ≤ b then 1 else 0) := by
  unfold F_X9_in
  simp only [J_lt hv ha, J_lt hb hv]
  by_cases h1 : v < a
  · rw [if_pos h1, if_neg (by omega)]
  · rw [if_neg h1]
    by_cases h2 : b < v
    · rw [if_pos h2, if_neg (by omega)]
    · rw [if_neg h2, if_pos (by omega)]
theorem reads_J {f : Nat → Int32} {c : Nat → Nat} {n : Nat} (hn : n ≤ 120) (hc : ∀ i, i < n → f i = J (c i) ∧ c i < 256) : ∀ (k i ss le fuel : Nat) (b l : Nat → Int32), i + k = n → ss ≤ 4 → le ≤ 30 → (le = 0 → ss < 4) → (0 < le → 0 < ss) → k < fuel → lp (B_X9_reads_9 (J n) f (K_X9_reads_116 (J n))) fuel (J le, J i, b, l, J ss) = some (EJ (rdm c n k i ss le b l).1, (rdm c n k i ss le b l).2.1, (rdm c n k i ss le b l).2.2.1, J (rdm c n k i ss le b l).2.2.2) := by
  intro k
  induction k with
  | zero =>
    intro i ss le fuel b l hi hss hle h0 h1 hf
    obtain ⟨fuel, rfl⟩ : ∃ f, fuel = f + 1 := ⟨fuel - 1, by omega⟩
    show B_X9_reads_9 _ _ _ _ _ = _
    unfold B_X9_reads_9 K_X9_reads_116
    have e1 : (J n ≤ J i) ↔ n ≤ i := J_le (by omega) (by omega)
    have e2 : (J le = 0) ↔ le = 0 := J_eq (b := 0) (by omega) (by decide)
    simp only [e1, e2]
    rw [if_pos (by omega)]
    unfold rdm
    by_cases h : le = 0
    · rw [if_pos h, if_pos h]; rfl
    · rw [if_neg h, if_neg h]; rfl
  | succ k ih =>
    intro i ss le fuel b l hi hss hle h0 h1 hf
    obtain ⟨fuel, rfl⟩ : ∃ f, fuel = f + 1 := ⟨fuel - 1, by omega⟩
    obtain ⟨s1, s2⟩ := hc i (by omega)
    have ni : (J i).toNatClampNeg = i := J_nat (by omega)
    have ns : (J ss).toNatClampNeg = ss := J_nat (by omega)
    have e1 : (J n ≤ J i) ↔ n ≤ i := J_le (by omega) (by omega)
    have e2 : (J le = 30) ↔ le = 30 := J_eq (b := 30) (by omega) (by decide)
    have e2b : (J le = 0) ↔ le = 0 := J_eq (b := 0) (by omega) (by decide)
    have e3 : (J le ≤ 0) ↔ le ≤ 0 := J_le (b := 0) (by omega) (by decide)
    have e4 : (4 ≤ J ss) ↔ 4 ≤ ss := J_le (a := 4) (by decide) (by omega)
    have e5 : (J (c i) = 44) ↔ c i = 44 := J_eq (b := 44) (by omega) (by decide)
    have g1 : ∀ (α : Type) (z : Option α), gd (J i) 120 z = z := fun α z => gd_J (by omega) (by omega)
    have a1 : J i + 1 = J (i + 1) := J_add i 1
    have a2 : J le + 1 = J (le + 1) := J_add le 1
    have a3 : J ss + 1 = J (ss + 1) := J_add ss 1
    have z0 : (0 : Int32) = J 0 := rfl
    have il : F_X9_in (J (c i)) 97 104 = some (if 97 ≤ c i ∧ c i ≤ 104 then 1 else 0) := in_J (a := 97) (b := 104) (by omega) (by decide) (by decide)
    show B_X9_reads_9 _ _ _ (lp _ fuel) _ = _
    unfold B_X9_reads_9 J_X9_reads_67
    simp only [e1, e2, e2b, e3, e4, g1, ni, ns, s1, il, e5, Option.bind_some, a1, a2, a3]
    rw [if_neg (by omega)]
    unfold rdm
    by_cases hl : 97 ≤ c i ∧ c i ≤ 104
    · rw [if_pos hl, if_neg (by decide)]
      by_cases h2 : le = 30
      · rw [if_pos h2, if_neg (show ¬ (97 ≤ c i ∧ c i ≤ 104 ∧ le < 30) by omega), if_neg (show ¬ (c i = 44 ∧ 0 < le ∧ ss < 4) by omega)]
        rfl
      · rw [if_neg h2, if_pos (show 97 ≤ c i ∧ c i ≤ 104 ∧ le < 30 by omega)]
        by_cases h3 : le = 0
        · have h4 := h0 h3
          have m1 : J (ss + 1) - 1 = J ss := J_sub (a := ss + 1) (b := 1) (by omega)
          have g2 : ∀ (α : Type) (z : Option α), gd (J ss) 4 z = z := fun α z => gd_J (by omega) (by omega)
          rw [if_pos h3, if_pos h3, g2, m1, g2, ns]
          subst h3
          exact ih (i + 1) (ss + 1) 1 fuel _ _ (by omega) (by omega) (by omega) (by omega) (by omega) (by omega)
        · have h4 := h1 (by omega)
          have m1 : J ss - 1 = J (ss - 1) := J_sub (a := ss) (b := 1) (by omega)
          have g2 : ∀ (α : Type) (z : Option α), gd (J (ss - 1)) 4 z = z := fun α z => gd_J (by omega) (by omega)
          have nm : (J (ss - 1)).toNatClampNeg = ss - 1 := J_nat (by omega)
          rw [if_neg h3, if_neg h3, m1, g2, nm]
          exact ih (i + 1) ss (le + 1) fuel _ _ (by omega) (by omega) (by omega) (by omega) (by omega) (by omega)
    · rw [if_neg hl, if_pos rfl, if_neg (show ¬ (97 ≤ c i ∧ c i ≤ 104 ∧ le < 30) by omega)]
      by_cases h1' : c i = 44
      · rw [if_pos h1']
        by_cases h2 : le ≤ 0
        · rw [if_pos h2, if_neg (by omega)]; rfl
        · rw [if_neg h2]
          by_cases h3 : 4 ≤ ss
          · rw [if_pos h3, if_neg (by omega)]; rfl
          · rw [if_neg h3, if_pos (by omega), z0]
            exact ih (i + 1) ss 0 fuel b l (by omega) (by omega) (by omega) (by omega) (by omega) (by omega)
      · rw [if_neg h1', if_neg (by omega)]; rfl
theorem rdm_er (c : Nat → Nat) (n : Nat) : ∀ (k i ss le st : Nat) (b l : Nat → Int32), 0 < st → ss + 1 = st + (if le = 0 then 0 else 1) → (rdm c n k i ss le b l).1 = er c n k i st le := by
  intro k
  induction k with
  | zero => intro i ss le st b l _ _; rfl
  | succ k ih =>
    intro i ss le st b l hst h
    unfold rdm er
    by_cases h1 : 97 ≤ c i ∧ c i ≤ 104 ∧ le < 30
    · rw [if_pos h1, if_pos h1]
      by_cases h2 : le = 0
      · rw [if_pos h2]
        rw [if_pos h2] at h
        subst h2
        exact ih (i + 1) (ss + 1) 1 st _ _ hst (by simp; omega)
      · rw [if_neg h2]
        rw [if_neg h2] at h
        exact ih (i + 1) ss (le + 1) st _ _ hst (by simp; omega)
    · rw [if_neg h1, if_neg h1]
      by_cases h2 : le = 0
      · rw [if_neg (by omega), if_neg (by omega)]
      · rw [if_neg h2] at h
        by_cases h3 : c i = 44 ∧ 0 < le ∧ ss < 4
        · rw [if_pos h3, if_pos (by omega)]
          exact ih (i + 1) ss 0 (st + 1) b l (by omega) (by simp; omega)
        · rw [if_neg h3, if_neg (by omega)]
