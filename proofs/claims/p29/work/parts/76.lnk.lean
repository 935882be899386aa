/-! THE PURE SIDE: the streams of a text without an error -/
def rl (c : Nat → Nat) : Nat → Nat → Nat
  | 0, _ => 0
  | k + 1, i => if c i = 44 then 0 else rl c k (i + 1) + 1
theorem upd_self (f : Nat → Int32) (k : Nat) (v : Int32) : upd f k v k = v := by simp [upd]
theorem upd_ne (f : Nat → Int32) {k j : Nat} (v : Int32) (h : j ≠ k) : upd f k v j = f j := by simp [upd, h]
/-- what the streams before the one under way have is kept -/
theorem rdm_keep (c : Nat → Nat) (n : Nat) : ∀ (k i ss le : Nat) (b l : Nat → Int32) (p : Nat), (le = 0 → p < ss) → (0 < le → p + 1 < ss) → (rdm c n k i ss le b l).2.1 p = b p ∧ (rdm c n k i ss le b l).2.2.1 p = l p ∧ ss ≤ (rdm c n k i ss le b l).2.2.2 := by
  intro k
  induction k with
  | zero => intro i ss le b l p _ _; exact ⟨rfl, rfl, Nat.le_refl _⟩
  | succ k ih =>
    intro i ss le b l p h0 h1
    unfold rdm
    by_cases a1 : 97 ≤ c i ∧ c i ≤ 104 ∧ le < 30
    · rw [if_pos a1]
      by_cases a2 : le = 0
      · rw [if_pos a2]
        have hp := h0 a2
        obtain ⟨e1, e2, e3⟩ := ih (i + 1) (ss + 1) 1 (upd b ss (J i)) (upd l ss (J 1)) p (by omega) (by omega)
        exact ⟨e1.trans (upd_ne _ _ (by omega)), e2.trans (upd_ne _ _ (by omega)), by omega⟩
      · rw [if_neg a2]
        have hp := h1 (by omega)
        obtain ⟨e1, e2, e3⟩ := ih (i + 1) ss (le + 1) b (upd l (ss - 1) (J (le + 1))) p (by omega) (by omega)
        exact ⟨e1, e2.trans (upd_ne _ _ (by omega)), e3⟩
    · rw [if_neg a1]
      by_cases a3 : c i = 44 ∧ 0 < le ∧ ss < 4
      · rw [if_pos a3]
        exact ih (i + 1) ss 0 b l p (by have := h1 (by omega); omega) (by omega)
      · rw [if_neg a3]
        exact ⟨rfl, rfl, Nat.le_refl _⟩
/-- the stream under way: where it began, how long it is in the end -/
theorem rdm_cur (c : Nat → Nat) (n : Nat) : ∀ (k i ss le st : Nat) (b l : Nat → Int32), er c n k i st le = none → 0 < le → ss = st → l (ss - 1) = J le → 0 < ss → (rdm c n k i ss le b l).2.1 (ss - 1) = b (ss - 1) ∧ (rdm c n k i ss le b l).2.2.1 (ss - 1) = J (le + rl c k i) := by
  intro k
  induction k with
  | zero => intro i ss le st b l _ _ _ h4 _; exact ⟨rfl, h4⟩
  | succ k ih =>
    intro i ss le st b l he h2 h3 h4 h5
    unfold er at he
    unfold rdm rl
    by_cases a1 : 97 ≤ c i ∧ c i ≤ 104 ∧ le < 30
    · rw [if_pos a1] at he
      rw [if_pos a1, if_neg (by omega), if_neg (by omega)]
      obtain ⟨e1, e2⟩ := ih (i + 1) ss (le + 1) st b (upd l (ss - 1) (J (le + 1))) he (by omega) h3 (upd_self _ _ _) h5
      exact ⟨e1, by rw [e2]; congr 1; omega⟩
    · rw [if_neg a1] at he
      rw [if_neg a1]
      by_cases a3 : c i = 44 ∧ 0 < le ∧ st < 4
      · rw [if_pos a3] at he
        rw [if_pos (by omega), if_pos a3.1]
        obtain ⟨e1, e2, -⟩ := rdm_keep c n k (i + 1) ss 0 b l (ss - 1) (by omega) (by omega)
        exact ⟨e1, by rw [e2, h4]; rfl⟩
      · rw [if_neg a3] at he
        cases he
