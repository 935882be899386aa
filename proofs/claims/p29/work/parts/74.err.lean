/-! THE PURE SIDE: errorPosition -/
theorem TI_c {x : TXT} {f : Nat → Int32} {k : Int32} (h : TI x f k) : ∃ n : Nat, n ≤ 120 ∧ tx_length x = J n ∧ k = J n ∧ ∃ c : Nat → Nat, (∀ i, i < n → tx_signs x i = J (c i) ∧ c i < 256) ∧ ∀ i, i < n → f i = J (c i) ∧ c i < 256 := by
  obtain ⟨n, h1, h2, h3, h4⟩ := h
  refine ⟨n, h1, h2, h3, fun i => (f i).toNatClampNeg, fun i hi => ?_, fun i hi => ?_⟩
  · obtain ⟨a, c, b1, b2⟩ := h4 i hi
    dsimp only
    rw [a, b2, J_nat (by omega)]
    exact ⟨rfl, b1⟩
  · obtain ⟨a, c, b1, b2⟩ := h4 i hi
    dsimp only
    rw [b2, J_nat (by omega)]
    exact ⟨rfl, b1⟩
theorem a_errorPosition {st : STT} {q1 q2 q3 : Int32} (h : TI (S_tx st) (md_text (S_md st)) (md_length (S_md st))) : ∃ st' : STT, F_T_errorPosition st q1 q2 q3 = some st' ∧ TI (S_tx st') (md_text (S_md st')) (md_length (S_md st')) ∧ SD st st' := by
  obtain ⟨n, hn, h1, h2, c, h3, h4⟩ := TI_c h
  have r1 : F_X7_firstError (S_tx st) = some (EJ (er c n n 0 1 0)) := by
    unfold F_X7_firstError
    exact firstError_J hn h1 h3 n 0 1 0 FU (by omega) (by omega) (by omega) (by unfold FU; omega)
  have r2 : F_X9_reads (md_text (S_md st)) (md_length (S_md st)) (md_begins (S_md st)) (md_lengths (S_md st)) (md_streams (S_md st)) = some (EJ (rdm c n n 0 0 0 (md_begins (S_md st)) (md_lengths (S_md st))).1, (rdm c n n 0 0 0 (md_begins (S_md st)) (md_lengths (S_md st))).2.1, (rdm c n n 0 0 0 (md_begins (S_md st)) (md_lengths (S_md st))).2.2.1, J (rdm c n n 0 0 0 (md_begins (S_md st)) (md_lengths (S_md st))).2.2.2) := by
    unfold F_X9_reads
    rw [h2]
    exact reads_J hn h4 n 0 0 0 FU _ _ (by omega) (by omega) (by omega) (by omega) (by omega) (by unfold FU; omega)
  have r3 := rdm_er c n n 0 0 0 1 (md_begins (S_md st)) (md_lengths (S_md st)) (by omega) (by simp)
  unfold F_T_errorPosition F_X8_errorPosition F_X9_errorPosition
  rw [r1, r2]
  simp only [Option.bind_some]
  rw [if_pos (by rw [r3])]
  exact ⟨_, rfl, h, rfl, rfl, rfl, rfl, rfl, rfl, rfl, rfl, rfl⟩
