/-- the streams behind the one under way -/
theorem rdm_next (c : Nat → Nat) (n : Nat) : ∀ (m k : Nat), k ≤ m → ∀ (i ss le : Nat) (b l : Nat → Int32) (p : Nat), er c n k i ss le = none → 0 < le → 0 < ss → ss ≤ p → (p < (rdm c n k i ss le b l).2.2.2 → ∃ s k' : Nat, sto c p k i (ss - 1) = some s ∧ s + k' = i + k ∧ i < s ∧ (rdm c n k i ss le b l).2.1 p = J s ∧ (rdm c n k i ss le b l).2.2.1 p = J (rl c k' s)) ∧ ((rdm c n k i ss le b l).2.2.2 ≤ p → sto c p k i (ss - 1) = none) := by
  intro m
  induction m with
  | zero =>
    intro k hk i ss le b l p he h1 h2 hp
    obtain rfl : k = 0 := by omega
    exact ⟨fun h => by have : p < ss := h; omega, fun _ => rfl⟩
  | succ m ih =>
    intro k hk i ss le b l p he h1 h2 hp
    cases k with
    | zero => exact ⟨fun h => by have : p < ss := h; omega, fun _ => rfl⟩
    | succ k =>
      unfold er at he
      unfold rdm sto
      by_cases a1 : 97 ≤ c i ∧ c i ≤ 104 ∧ le < 30
      · rw [if_pos a1] at he
        rw [if_pos a1, if_neg (show ¬ le = 0 by omega), if_neg (show ¬ c i = 44 by omega), if_neg (show ¬ ss - 1 = p by omega)]
        obtain ⟨f1, f2⟩ := ih k (by omega) (i + 1) ss (le + 1) b (upd l (ss - 1) (J (le + 1))) p he (by omega) h2 hp
        refine ⟨fun h => ?_, f2⟩
        obtain ⟨s, k', g1, g2, g3, g4⟩ := f1 h
        exact ⟨s, k', g1, by omega, by omega, g4⟩
      · rw [if_neg a1] at he
        rw [if_neg a1]
        by_cases a3 : c i = 44 ∧ 0 < le ∧ ss < 4
        · rw [if_pos a3] at he
          rw [if_pos a3, if_pos a3.1]
          cases k with
          | zero => unfold er at he; rw [if_pos rfl] at he; cases he
          | succ k =>
            unfold er at he
            by_cases b1 : 97 ≤ c (i + 1) ∧ c (i + 1) ≤ 104 ∧ 0 < 30
            · rw [if_pos b1] at he
              unfold rdm
              rw [if_pos b1, if_pos rfl]
              have e1 : ss - 1 + 1 = ss := by omega
              rw [e1]
              by_cases hs : ss = p
              · subst hs
                rw [if_pos rfl]
                obtain ⟨r1, r2⟩ := rdm_cur c n k (i + 1 + 1) (ss + 1) 1 (ss + 1) (upd b ss (J (i + 1))) (upd l ss (J 1)) he (by omega) rfl (upd_self _ _ _) (by omega)
                refine ⟨fun _ => ⟨i + 1, k + 1, rfl, by omega, by omega, r1.trans (upd_self _ _ _), r2.trans ?_⟩, fun h => ?_⟩
                · show J (1 + rl c k (i + 1 + 1)) = J (rl c (k + 1) (i + 1))
                  rw [show rl c (k + 1) (i + 1) = rl c k (i + 1 + 1) + 1 from if_neg (by omega), Nat.add_comm]
                · obtain ⟨-, -, q3⟩ := rdm_keep c n k (i + 1 + 1) (ss + 1) 1 (upd b ss (J (i + 1))) (upd l ss (J 1)) 0 (by omega) (by omega)
                  omega
              · rw [if_neg hs]
                unfold sto
                rw [if_neg (show ¬ c (i + 1) = 44 by omega), if_neg hs]
                obtain ⟨f1, f2⟩ := ih k (by omega) (i + 1 + 1) (ss + 1) 1 (upd b ss (J (i + 1))) (upd l ss (J 1)) p he (by omega) (by omega) (by omega)
                refine ⟨fun h => ?_, f2⟩
                obtain ⟨s, k', g1, g2, g3, g4⟩ := f1 h
                exact ⟨s, k', g1, by omega, by omega, g4⟩
            · rw [if_neg b1, if_neg (by omega)] at he
              cases he
        · rw [if_neg a3] at he
          cases he
