/-! THE PURE SIDE: the first state; every turn -/
/-- settings, next number, carried, containers, backups of a new object -/
def A0 : AT := ((fun i => if i = 0 then 4 else if i = 1 then 4 else if i = 2 then 3 else if i = 3 then 50 else 2), 0, 0, [], fun _ => [])
theorem five {P : Nat → Prop} (h0 : P 0) (h1 : P 1) (h2 : P 2) (h3 : P 3) (h4 : P 4) : ∀ i, i < 5 → P i := by
  intro i hi
  rcases (show i = 0 ∨ i = 1 ∨ i = 2 ∨ i = 3 ∨ i = 4 by omega) with rfl | rfl | rfl | rfl | rfl
  · exact h0
  · exact h1
  · exact h2
  · exact h3
  · exact h4
theorem A0_WF : WF A0 0 := by
  refine ⟨⟨by decide, fun k hk => absurd hk (Nat.not_lt_zero _), fun j k _ hk => absurd hk (Nat.not_lt_zero _)⟩, fun b _ => ⟨Nat.zero_le _, fun i hi => absurd hi (Nat.not_lt_zero _)⟩, ?_, ⟨0, Nat.zero_le _, fun k hk => absurd hk (Nat.not_lt_zero _), Nat.zero_le _⟩, Nat.zero_le _, Nat.le_refl _⟩
  show 2 ≤ 4 ∧ 4 ≤ 9 ∧ 2 ≤ 4 ∧ 4 ≤ 8 ∧ 1 ≤ 3 ∧ 3 ≤ 9 ∧ 1 ≤ 50 ∧ 50 ≤ 100 ∧ 1 ≤ 2 ∧ 2 ≤ 4
  decide
theorem A0_DR : DR DKI A0 := by
  refine ⟨⟨five (by rfl) (by rfl) (by rfl) (by rfl) (by rfl), rfl, rfl, rfl, fun k hk => absurd hk (Nat.not_lt_zero _), fun e he => absurd he (Nat.not_lt_zero _)⟩, fun b _ => ⟨rfl, fun i hi => absurd hi (Nat.not_lt_zero _)⟩, fun k hk => absurd hk (Nat.not_lt_zero _), rfl⟩
theorem mdi_s : md_s MDI = upd (upd (upd (upd (upd (fun _ => 0) 0 (J 4)) 1 (J 4)) 2 (J 3)) 3 (J 50)) 4 (J 2) := rfl
theorem A0_MR : MR (md_s MDI) A0 := by
  rw [mdi_s]
  refine ⟨⟨five (by rfl) (by rfl) (by rfl) (by rfl) (by rfl), rfl, rfl, fun k hk => absurd hk (Nat.not_lt_zero _)⟩, fun b _ => ⟨?_, ?_, fun i hi => absurd hi (Nat.not_lt_zero _)⟩, rfl⟩
  · rw [upd_ne _ _ (by omega), upd_ne _ _ (by omega), upd_ne _ _ (by omega), upd_ne _ _ (by omega), upd_ne _ _ (by omega)]
    rfl
  · rw [upd_ne _ _ (by omega), upd_ne _ _ (by omega), upd_ne _ _ (by omega), upd_ne _ _ (by omega), upd_ne _ _ (by omega)]
    rfl
theorem i_first : Inv 0 ST0 := by
  refine ⟨A0, [], fun _ => none, ⟨0, by omega, rfl, rfl, fun i hi => absurd hi (Nat.not_lt_zero _)⟩, A0_DR, A0_MR, A0_WF, ⟨by decide, rfl, rfl, ⟨0, by omega, rfl, fun i A hA => ?_⟩, fun i A hA => ?_⟩, fun h hh => (by cases hh), fun i _ => ⟨fun _ => ⟨rfl, rfl⟩, fun A hA => (by cases hA)⟩, fun i h _ hh => (by cases hh)⟩
  · simp at hA
  · simp at hA
theorem i_turn {n : Nat} {st : STT} (h : Inv n st) (hN : n < 512) (q0 q1 q2 q3 : Int32) : ∃ st', F_turn st q0 q1 q2 q3 = some st' ∧ Inv (n + 1) st' := by
  unfold F_turn
  generalize q0 &&& 31 = w
  by_cases c0 : w = 0
  · rw [if_pos c0]; exact i_append h
  rw [if_neg c0]
  by_cases c1 : w = 1
  · rw [if_pos c1]; exact i_clearText h
  rw [if_neg c1]
  by_cases c2 : w = 2
  · rw [if_pos c2]; exact i_errorPosition h
  rw [if_neg c2]
  by_cases c3 : w = 3
  · rw [if_pos c3]; exact i_chunk h
  rw [if_neg c3]
  by_cases c4 : w = 4
  · rw [if_pos c4]; exact i_about h
  rw [if_neg c4]
  by_cases c5 : w = 5
  · rw [if_pos c5]; exact i_container h
  rw [if_neg c5]
  by_cases c6 : w = 6
  · rw [if_pos c6]; exact i_containerOf h
  rw [if_neg c6]
  by_cases c7 : w = 7
  · rw [if_pos c7]; exact i_entry h
  rw [if_neg c7]
  by_cases c8 : w = 8
  · rw [if_pos c8]; exact i_backupOf h
  rw [if_neg c8]
  by_cases c9 : w = 9
  · rw [if_pos c9]; exact i_reference h
  rw [if_neg c9]
  by_cases c10 : w = 10
  · rw [if_pos c10]; exact i_letter h
  rw [if_neg c10]
  by_cases c11 : w = 11
  · rw [if_pos c11]; exact i_setting h
  rw [if_neg c11]
  by_cases c12 : w = 12
  · rw [if_pos c12]; exact i_backup hN h
  rw [if_neg c12]
  by_cases c13 : w = 13
  · rw [if_pos c13]; exact i_delete h
  rw [if_neg c13]
  by_cases c14 : w = 14
  · rw [if_pos c14]; exact i_carry hN h
  rw [if_neg c14]
  by_cases c15 : w = 15
  · rw [if_pos c15]; exact i_set h
  rw [if_neg c15]
  by_cases c16 : w = 16
  · rw [if_pos c16]; exact i_undo h
  rw [if_neg c16]
  by_cases c17 : w = 17
  · rw [if_pos c17]; exact i_ifDeleted h
  rw [if_neg c17]
  by_cases c18 : w = 18
  · rw [if_pos c18]; exact i_ifCarried hN h
  rw [if_neg c18]
  by_cases c19 : w = 19
  · rw [if_pos c19]; exact i_wouldPut hN h
  rw [if_neg c19]
  by_cases c20 : w = 20
  · rw [if_pos c20]; exact i_bestLimit hN h
  rw [if_neg c20]
  by_cases c21 : w = 21
  · rw [if_pos c21]; exact i_worst h
  rw [if_neg c21]
  by_cases c22 : w = 22
  · rw [if_pos c22]; exact i_runScript hN h
  rw [if_neg c22]
  by_cases c23 : w = 23
  · rw [if_pos c23]; exact i_simulate hN h
  rw [if_neg c23]
  by_cases c24 : w = 24
  · rw [if_pos c24]; exact i_save h
  rw [if_neg c24]
  by_cases c25 : w = 25
  · rw [if_pos c25]; exact i_restore h
  rw [if_neg c25]
  exact ⟨st, rfl, Inv_SE h ⟨rfl, rfl, rfl, rfl, fun _ _ => rfl, rfl, rfl, rfl, rfl, rfl, rfl⟩⟩
