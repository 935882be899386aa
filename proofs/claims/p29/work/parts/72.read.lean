/-! THE PURE SIDE: reading the text -/
def er (c : Nat → Nat) (n : Nat) : Nat → Nat → Nat → Nat → Option Nat
  | 0, _, _, le => if le = 0 then some n else none
  | k + 1, i, st, le => if 97 ≤ c i ∧ c i ≤ 104 ∧ le < 30 then er c n k (i + 1) st (le + 1) else if c i = 44 ∧ 0 < le ∧ st < 4 then er c n k (i + 1) (st + 1) 0 else some i
def EJ : Option Nat → Int32
  | none => -1
  | some e => J e
theorem J_le_lit {a : Nat} (ha : a < 2 ^ 31) (b : Nat) (hb : b < 2 ^ 31) : (J a ≤ Int32.ofNat b) ↔ a ≤ b := J_le ha hb
theorem isLetter_J {v : Nat} (hv : v < 256) : F_X7_isLetter (J v) = some (if 97 ≤ v ∧ v ≤ 104 then 1 else 0) := by
  unfold F_X7_isLetter
  have e1 : (J v < 97) ↔ v < 97 := J_lt (b := 97) (by omega) (by decide)
  have e2 : (104 < J v) ↔ 104 < v := J_lt (a := 104) (by decide) (by omega)
  simp only [e1, e2]
  by_cases h1 : v < 97
  · rw [if_pos h1, if_neg (by omega)]
  · rw [if_neg h1]
    by_cases h2 : 104 < v
    · rw [if_pos h2, if_neg (by omega)]
    · rw [if_neg h2, if_pos (by omega)]
theorem firstError_J {x : TXT} {c : Nat → Nat} {n : Nat} (hn : n ≤ 120) (hl : tx_length x = J n) (hc : ∀ i, i < n → tx_signs x i = J (c i) ∧ c i < 256) : ∀ (k i st le fuel : Nat), i + k = n → st ≤ 4 → le ≤ 30 → k < fuel → lp (B_X7_firstError_6 x (K_X7_firstError_74 x)) fuel (J st, J le, J i) = some (EJ (er c n k i st le)) := by
  intro k
  induction k with
  | zero =>
    intro i st le fuel hi hst hle hf
    obtain ⟨fuel, rfl⟩ : ∃ f, fuel = f + 1 := ⟨fuel - 1, by omega⟩
    show B_X7_firstError_6 x _ _ _ = _
    unfold B_X7_firstError_6 K_X7_firstError_74
    have e1 : (tx_length x ≤ J i) ↔ n ≤ i := by rw [hl]; exact J_le (by omega) (by omega)
    have e2 : (J le ≤ 0) ↔ le ≤ 0 := J_le (b := 0) (by omega) (by decide)
    simp only [e1, e2]
    rw [if_pos (by omega)]
    unfold er
    by_cases h : le = 0
    · rw [if_pos (by omega), if_pos h, hl]
      rfl
    · rw [if_neg (by omega), if_neg h]
      rfl
  | succ k ih =>
    intro i st le fuel hi hst hle hf
    obtain ⟨fuel, rfl⟩ : ∃ f, fuel = f + 1 := ⟨fuel - 1, by omega⟩
    obtain ⟨s1, s2⟩ := hc i (by omega)
    have ni : (J i).toNatClampNeg = i := J_nat (by omega)
    have e1 : (tx_length x ≤ J i) ↔ n ≤ i := by rw [hl]; exact J_le (by omega) (by omega)
    have e2 : (30 ≤ J le) ↔ 30 ≤ le := J_le (a := 30) (by decide) (by omega)
    have e3 : (J le ≤ 0) ↔ le ≤ 0 := J_le (b := 0) (by omega) (by decide)
    have e4 : (4 ≤ J st) ↔ 4 ≤ st := J_le (a := 4) (by decide) (by omega)
    have e5 : (J (c i) = 44) ↔ c i = 44 := J_eq (b := 44) (by omega) (by decide)
    have g1 : ∀ (α : Type) (z : Option α), gd (J i) 120 z = z := fun α z => gd_J (by omega) (by omega)
    have a1 : J i + 1 = J (i + 1) := J_add i 1
    have a2 : J le + 1 = J (le + 1) := J_add le 1
    have a3 : J st + 1 = J (st + 1) := J_add st 1
    have z0 : (0 : Int32) = J 0 := rfl
    show B_X7_firstError_6 x _ (lp _ fuel) _ = _
    unfold B_X7_firstError_6 J_X7_firstError_38
    simp only [e1, e2, e3, e4, g1, ni, s1, isLetter_J s2, e5, Option.bind_some, a1, a2, a3]
    rw [if_neg (by omega)]
    have hcomma : (if c i = 44 then if le ≤ 0 then some (J i) else if 4 ≤ st then some (J i) else lp (B_X7_firstError_6 x (K_X7_firstError_74 x)) fuel (J (st + 1), 0, J (i + 1)) else some (J i)) = some (EJ (if c i = 44 ∧ 0 < le ∧ st < 4 then er c n k (i + 1) (st + 1) 0 else some i)) := by
      by_cases h1 : c i = 44
      · rw [if_pos h1]
        by_cases h2 : le ≤ 0
        · rw [if_pos h2, if_neg (by omega)]; rfl
        · rw [if_neg h2]
          by_cases h3 : 4 ≤ st
          · rw [if_pos h3, if_neg (by omega)]; rfl
          · rw [if_neg h3, if_pos (by omega), z0]
            exact ih (i + 1) (st + 1) 0 fuel (by omega) (by omega) (by omega) (by omega)
      · rw [if_neg h1, if_neg (by omega)]; rfl
    unfold er
    by_cases h1 : 97 ≤ c i ∧ c i ≤ 104
    · rw [if_pos h1, if_neg (by decide)]
      by_cases h2 : 30 ≤ le
      · rw [if_pos h2, if_neg (show ¬ (97 ≤ c i ∧ c i ≤ 104 ∧ le < 30) by omega)]
        exact hcomma
      · rw [if_neg h2, if_pos (show 97 ≤ c i ∧ c i ≤ 104 ∧ le < 30 by omega)]
        exact ih (i + 1) st (le + 1) fuel (by omega) hst (by omega) (by omega)
    · rw [if_neg h1, if_pos rfl, if_neg (show ¬ (97 ≤ c i ∧ c i ≤ 104 ∧ le < 30) by omega)]
      exact hcomma
