/-! THE PURE SIDE: the text -/
theorem J_of {x : Int32} (h : ¬ x < 0) : ∃ k : Nat, k < 2 ^ 31 ∧ x = J k := by
  have h0 : (0 : Int) ≤ x.toInt := by
    have := mt Int32.lt_iff_toInt_lt.mpr h
    have e : (0 : Int32).toInt = 0 := rfl
    omega
  refine ⟨x.toInt.toNat, ?_, ?_⟩
  · have := Int32.toInt_lt x
    omega
  · apply Int32.toInt_inj.mp
    have h1 := Int32.toInt_lt x
    rw [J_toInt (by omega)]
    omega
theorem kchar : ∀ k : Fin 256, vp_nar .char (UInt32.toInt32 (Int32.toUInt32 (J k.1) % 65536)) = J k.1 := by decide +kernel
/-- the class's text and the Model's are the same signs -/
def TI (x : TXT) (f : Nat → Int32) (k : Int32) : Prop := ∃ n : Nat, n ≤ 120 ∧ tx_length x = J n ∧ k = J n ∧ ∀ i, i < n → tx_signs x i = f i ∧ ∃ c : Nat, c < 256 ∧ f i = J c
/-- what the containers, the backups, the past and what is saved hold is untouched -/
def SD (st st' : STT) : Prop := S_desk st' = S_desk st ∧ S_past st' = S_past st ∧ S_saved st' = S_saved st ∧ md_s (S_md st') = md_s (S_md st) ∧ md_aside (S_md st') = md_aside (S_md st) ∧ md_saved (S_md st') = md_saved (S_md st) ∧ md_savedMany (S_md st') = md_savedMany (S_md st) ∧ md_slots (S_md st') = md_slots (S_md st) ∧ md_hasSlot (S_md st') = md_hasSlot (S_md st)
theorem TI_add {x : TXT} {f : Nat → Int32} {n c : Nat} (hn : n < 120) (h1 : tx_length x = J n) (h2 : ∀ i, i < n → tx_signs x i = f i ∧ ∃ c : Nat, c < 256 ∧ f i = J c) (hc : c < 256) : TI ((upd (tx_signs x) (Int32.toNatClampNeg (tx_length x)) (vp_nar .char (UInt32.toInt32 (Int32.toUInt32 (J c) % 65536)))), tx_length x + 1) (upd f (Int32.toNatClampNeg (J n)) (J c)) (J n + 1) := by
  have e : J n + 1 = J (n + 1) := J_add n 1
  refine ⟨n + 1, by omega, ?_, e, ?_⟩
  · show tx_length x + 1 = _
    rw [h1, e]
  · intro i hi
    show upd (tx_signs x) _ _ i = _ ∧ _
    rw [h1, J_nat (by omega), kchar ⟨c, hc⟩]
    by_cases hin : i = n
    · subst hin
      simp only [upd, if_true]
      exact ⟨trivial, c, hc, rfl⟩
    · simp only [upd, hin, if_false]
      exact h2 i (by omega)
theorem a_clearText {st : STT} {q1 q2 q3 : Int32} (h : TI (S_tx st) (md_text (S_md st)) (md_length (S_md st))) : ∃ st' : STT, F_T_clearText st q1 q2 q3 = some st' ∧ TI (S_tx st') (md_text (S_md st')) (md_length (S_md st')) ∧ SD st st' := by
  obtain ⟨n, hn, h1, h2, h3⟩ := h
  unfold F_T_clearText F_X8_clearText F_X9_clearText
  simp only [Option.bind_some]
  rw [if_pos (by rw [h1, h2])]
  exact ⟨_, rfl, ⟨0, Nat.zero_le _, rfl, rfl, fun i hi => absurd hi (Nat.not_lt_zero _)⟩, rfl, rfl, rfl, rfl, rfl, rfl, rfl, rfl, rfl⟩
theorem a_append {st : STT} {q1 q2 q3 : Int32} (h : TI (S_tx st) (md_text (S_md st)) (md_length (S_md st))) : ∃ st' : STT, F_T_append st q1 q2 q3 = some st' ∧ TI (S_tx st') (md_text (S_md st')) (md_length (S_md st')) ∧ SD st st' := by
  obtain ⟨n, hn, h1, h2, h3⟩ := id h
  unfold F_T_append F_X8_append F_X9_append F_X9_in F_X9_fails F_X9_thrown F_X7_isFull F_X7_add F_X7_isFull
  by_cases c1 : q1 < 0
  · simp only [c1, if_true, Option.bind_some]
    exact ⟨_, rfl, h, rfl, rfl, rfl, rfl, rfl, rfl, rfl, rfl, rfl⟩
  obtain ⟨c, hc, rfl⟩ := J_of c1
  have e255 : (255 : Int32) = J 255 := rfl
  by_cases c2 : c ≤ 255
  · have d1 : J c ≤ 255 := (J_le hc (by decide)).mpr c2
    have d2 : ¬ (255 : Int32) < J c := fun q => by have := (J_lt (by decide) hc).mp (show J 255 < J c from q); omega
    by_cases c3 : n < 120
    · have d3 : tx_length (S_tx st) < 120 := by rw [h1]; exact (J_lt (by omega) (by decide)).mpr c3
      have d4 : ¬ md_length (S_md st) = 120 := by rw [h2]; intro q; have := (J_eq (by omega) (by decide)).mp (show J n = J 120 from q); omega
      have g1 : ∀ (α : Type) (x : Option α), gd (tx_length (S_tx st)) 120 x = x := fun α x => by rw [h1]; exact gd_J c3 (by omega)
      have g2 : ∀ (α : Type) (x : Option α), gd (md_length (S_md st)) 120 x = x := fun α x => by rw [h2]; exact gd_J c3 (by omega)
      have k1 : (1 : Int32) = 0 ↔ False := by decide
      simp only [c1, d1, d2, d3, d4, g1, g2, k1, if_true, if_false, Option.bind_some]
      have t1 := TI_add c3 h1 h3 (show c < 256 by omega)
      rw [if_pos (by decide), if_pos (by rfl), if_pos (by rfl), if_pos (by show Int32.toInt64 (tx_length (S_tx st) + 1) = _; rw [h1, h2])]
      refine ⟨_, rfl, ?_, rfl, rfl, rfl, rfl, rfl, rfl, rfl, rfl, rfl⟩
      show TI (_, tx_length (S_tx st) + 1) (upd (md_text (S_md st)) (Int32.toNatClampNeg (md_length (S_md st))) (J c)) (md_length (S_md st) + 1)
      rw [h2]
      exact t1
    · have d3 : ¬ tx_length (S_tx st) < 120 := by rw [h1]; exact fun q => c3 ((J_lt (by omega) (by decide)).mp (show J n < J 120 from q))
      have d4 : md_length (S_md st) = 120 := by rw [h2, show n = 120 by omega]; rfl
      have k1 : (1 : Int32) = 0 ↔ False := by decide
      simp only [c1, d1, d2, d3, d4, k1, if_true, if_false, Option.bind_some]
      rw [if_pos (by decide), if_pos (by rfl), if_neg (by decide)]
      refine ⟨_, rfl, ?_, rfl, rfl, rfl, rfl, rfl, rfl, rfl, rfl, rfl⟩
      rw [← d4]
      exact h
  · have d1 : ¬ J c ≤ 255 := fun q => c2 ((J_le hc (by decide)).mp (show J c ≤ J 255 from q))
    have d2 : (255 : Int32) < J c := show J 255 < J c from (J_lt (by decide) hc).mpr (by omega)
    simp only [c1, d1, d2, if_true, if_false, Option.bind_some]
    rw [if_pos (by decide), if_pos (by rfl), if_neg (by decide)]
    exact ⟨_, rfl, h, rfl, rfl, rfl, rfl, rfl, rfl, rfl, rfl, rfl⟩
