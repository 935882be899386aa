/-! THE PURE SIDE: where a stream starts -/
def sto (c : Nat → Nat) (p : Nat) : Nat → Nat → Nat → Option Nat
  | 0, _, _ => none
  | k + 1, i, cm => if c i = 44 then (if cm + 1 = p then some (i + 1) else sto c p k (i + 1) (cm + 1)) else (if cm = p then some (i + 1) else sto c p k (i + 1) cm)
theorem startOf_J {x : TXT} {c : Nat → Nat} {n p : Nat} (hn : n ≤ 120) (hp : p < 2 ^ 31) (hl : tx_length x = J n) (hc : ∀ i, i < n → tx_signs x i = J (c i) ∧ c i < 256) : ∀ (k i cm fuel : Nat), i + k = n → cm ≤ i → k < fuel → lp (B_X7_startOf_10 x (J p)) fuel (J cm, J i) = some (EJ (sto c p k i cm)) := by
  intro k
  induction k with
  | zero =>
    intro i cm fuel hi hcm hf
    obtain ⟨fuel, rfl⟩ : ∃ f, fuel = f + 1 := ⟨fuel - 1, by omega⟩
    show B_X7_startOf_10 x _ _ _ = _
    unfold B_X7_startOf_10
    have e1 : (tx_length x ≤ J i) ↔ n ≤ i := by rw [hl]; exact J_le (by omega) (by omega)
    simp only [e1]
    rw [if_pos (by omega)]
    rfl
  | succ k ih =>
    intro i cm fuel hi hcm hf
    obtain ⟨fuel, rfl⟩ : ∃ f, fuel = f + 1 := ⟨fuel - 1, by omega⟩
    obtain ⟨s1, s2⟩ := hc i (by omega)
    have ni : (J i).toNatClampNeg = i := J_nat (by omega)
    have e1 : (tx_length x ≤ J i) ↔ n ≤ i := by rw [hl]; exact J_le (by omega) (by omega)
    have e5 : (J (c i) = 44) ↔ c i = 44 := J_eq (b := 44) (by omega) (by decide)
    have e6 : (J (cm + 1) = J p) ↔ cm + 1 = p := J_eq (by omega) hp
    have e7 : (J cm = J p) ↔ cm = p := J_eq (by omega) hp
    have g1 : ∀ (α : Type) (z : Option α), gd (J i) 120 z = z := fun α z => gd_J (by omega) (by omega)
    have a1 : J i + 1 = J (i + 1) := J_add i 1
    have a2 : J cm + 1 = J (cm + 1) := J_add cm 1
    show B_X7_startOf_10 x _ (lp _ fuel) _ = _
    unfold B_X7_startOf_10 J_X7_startOf_32
    simp only [e1, g1, ni, s1, e5, a1, a2, e6, e7]
    rw [if_neg (by omega)]
    unfold sto
    by_cases h1 : c i = 44
    · rw [if_pos h1, if_pos h1]
      by_cases h2 : cm + 1 = p
      · rw [if_pos h2, if_pos h2]; rfl
      · rw [if_neg h2, if_neg h2]
        exact ih (i + 1) (cm + 1) fuel (by omega) (by omega) (by omega)
    · rw [if_neg h1, if_neg h1]
      by_cases h2 : cm = p
      · rw [if_pos h2, if_pos h2]; rfl
      · rw [if_neg h2, if_neg h2]
        exact ih (i + 1) cm fuel (by omega) (by omega) (by omega)
