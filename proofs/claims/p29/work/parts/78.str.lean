theorem rdm_ge (c : Nat → Nat) (n : Nat) : ∀ (k i ss le : Nat) (b l : Nat → Int32), ss ≤ (rdm c n k i ss le b l).2.2.2 := by
  intro k
  induction k with
  | zero => intro i ss le b l; exact Nat.le_refl _
  | succ k ih =>
    intro i ss le b l
    unfold rdm
    split
    · split
      · exact Nat.le_trans (Nat.le_succ _) (ih _ _ _ _ _)
      · exact ih _ _ _ _ _
    · split
      · exact ih _ _ _ _ _
      · exact Nat.le_refl _
/-- all streams of a text without an error -/
theorem str_all (c : Nat → Nat) (n : Nat) (b l : Nat → Int32) (he : er c n n 0 1 0 = none) : 0 < (rdm c n n 0 0 0 b l).2.2.2 ∧ (∀ p, p < (rdm c n n 0 0 0 b l).2.2.2 → ∃ s k' : Nat, s + k' = n ∧ (p = 0 → s = 0) ∧ (0 < p → sto c p n 0 0 = some s) ∧ (rdm c n n 0 0 0 b l).2.1 p = J s ∧ (rdm c n n 0 0 0 b l).2.2.1 p = J (rl c k' s)) ∧ ∀ p, 0 < p → (rdm c n n 0 0 0 b l).2.2.2 ≤ p → sto c p n 0 0 = none := by
  generalize hm : n = k0 at he ⊢
  suffices h : ∀ k, k = n → er c n k 0 1 0 = none → 0 < (rdm c n k 0 0 0 b l).2.2.2 ∧ (∀ p, p < (rdm c n k 0 0 0 b l).2.2.2 → ∃ s k' : Nat, s + k' = k ∧ (p = 0 → s = 0) ∧ (0 < p → sto c p k 0 0 = some s) ∧ (rdm c n k 0 0 0 b l).2.1 p = J s ∧ (rdm c n k 0 0 0 b l).2.2.1 p = J (rl c k' s)) ∧ ∀ p, 0 < p → (rdm c n k 0 0 0 b l).2.2.2 ≤ p → sto c p k 0 0 = none by
    subst hm
    exact h _ rfl he
  intro k hk he
  cases k with
  | zero => unfold er at he; rw [if_pos rfl] at he; cases he
  | succ k =>
    unfold er at he
    by_cases b1 : 97 ≤ c 0 ∧ c 0 ≤ 104 ∧ 0 < 30
    · rw [if_pos b1] at he
      unfold rdm
      rw [if_pos b1, if_pos rfl]
      have q3 := rdm_ge c n k (0 + 1) (0 + 1) 1 (upd b 0 (J 0)) (upd l 0 (J 1))
      refine ⟨by omega, fun p hp => ?_, fun p hp h => ?_⟩
      · by_cases h0 : p = 0
        · subst h0
          obtain ⟨r1, r2⟩ := rdm_cur c n k (0 + 1) (0 + 1) 1 (0 + 1) (upd b 0 (J 0)) (upd l 0 (J 1)) he (by omega) rfl (upd_self _ _ _) (by omega)
          refine ⟨0, k + 1, by omega, fun _ => rfl, fun h => absurd h (by omega), r1.trans (upd_self _ _ _), r2.trans ?_⟩
          rw [show rl c (k + 1) 0 = rl c k (0 + 1) + 1 from if_neg (by omega), Nat.add_comm]
        · obtain ⟨f1, -⟩ := rdm_next c n k k (Nat.le_refl _) (0 + 1) (0 + 1) 1 (upd b 0 (J 0)) (upd l 0 (J 1)) p he (by omega) (by omega) (by omega)
          obtain ⟨s, k', g1, g2, -, g4, g5⟩ := f1 hp
          refine ⟨s, k', by omega, fun h => absurd h h0, fun _ => ?_, g4, g5⟩
          unfold sto
          rw [if_neg (show ¬ c 0 = 44 by omega), if_neg (show ¬ 0 = p by omega)]
          exact g1
      · obtain ⟨-, f2⟩ := rdm_next c n k k (Nat.le_refl _) (0 + 1) (0 + 1) 1 (upd b 0 (J 0)) (upd l 0 (J 1)) p he (by omega) (by omega) (by omega)
        unfold sto
        rw [if_neg (show ¬ c 0 = 44 by omega), if_neg (show ¬ 0 = p by omega)]
        exact f2 h
    · rw [if_neg b1, if_neg (by omega)] at he
      cases he
