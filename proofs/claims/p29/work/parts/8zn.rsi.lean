/-! THE PURE SIDE: the call runScript -/
theorem runScript_A {tx : TXT} {d tr : DKT} {m : MDT} {A : AT} {N : Nat} {so : SMT} {p0 : PLT} {st0 : SOT} {cr : CRT} {q : Int32} {l : Int64} (hN : N ≤ 590) (ht : TI tx (md_text m) (md_length m)) (hd : DR d A) (hm : MR (md_s m) A) (hW : WF A N) : (∃ v d' so' p' st' cr' m', F_X8_runScript tx d tr so p0 st0 cr q l = some (0, v, d', so', p', st', cr') ∧ F_X9_runScript m q l = some (v, m') ∧ md_thrown m' = 0 ∧ SM m m') ∨ (∃ m', F_X8_runScript tx d tr so p0 st0 cr q l = some (2, 0, tr, so, p0, st0, cr) ∧ F_X9_runScript m q l = some (0, m') ∧ md_thrown m' = 1 ∧ SM m m') := by
  unfold F_X8_runScript F_X9_runScript
  rcases J_cases q with c | ⟨k, hk31, rfl⟩
  · right
    have c1 : q < 1 := by
      apply Int32.lt_iff_toInt_lt.mpr
      have := neg_toInt c
      have h1 : (1 : Int32).toInt = 1 := rfl
      omega
    have hin : F_X9_in q 1 3 = some (J 0) := by
      unfold F_X9_in
      rw [if_pos c1]
      rfl
    rw [if_pos c1, hin]
    simp only [Option.bind_some, F_X9_fails]
    rw [if_pos (show J 0 = 0 from rfl)]
    exact ⟨_, by first | rfl | trivial, rfl, rfl, SM_rf rfl rfl rfl rfl rfl rfl rfl⟩
  have hin3 : F_X9_in (J k) 1 3 = some (J (if 1 ≤ k ∧ k ≤ 3 then 1 else 0)) := in_nn (a := 1) (b := 3) hk31 (by omega) (by omega)
  rw [hin3]
  simp only [Option.bind_some]
  by_cases c : 1 ≤ k ∧ k ≤ 3
  rotate_left
  · right
    rw [if_neg c, if_pos (show J 0 = 0 from rfl)]
    simp only [Option.bind_some, F_X9_fails]
    by_cases c1 : J k < 1
    · rw [if_pos c1]
      exact ⟨_, by first | rfl | trivial, rfl, rfl, SM_rf rfl rfl rfl rfl rfl rfl rfl⟩
    · have c2 : 1 ≤ k := by
        have := J_lt (a := k) (b := 1) hk31 (by omega)
        have h2 : ¬ k < 1 := fun z => c1 (this.mpr z)
        omega
      rw [if_neg c1, if_neg (show ¬ J k ≤ 3 from fun z => c ⟨c2, (J_le (b := 3) hk31 (by omega)).mp z⟩)]
      exact ⟨_, by first | rfl | trivial, rfl, rfl, SM_rf rfl rfl rfl rfl rfl rfl rfl⟩
  obtain ⟨ck1, ck3⟩ := c
  have hmul : ∀ i, i ≤ 3 → YL (10000 ^ i) * 10000 = YL (10000 ^ (i + 1)) := fun i hi => by
    rw [show (10000 : Int64) = YL 10000 from rfl, YL_mul, Nat.pow_succ]
  have hloop : ∀ (K : Int64 → Option (Int32 × MDT)), lp (B_X9_runScript_26 (J k) K) FU (1, 1) = K (YL (10000 ^ (k - 1))) := fun K => by
    have e0 : ((1 : Int64), (1 : Int32)) = (fun i => (YL (10000 ^ i), J (i + 1))) 0 := by
      show _ = (YL (10000 ^ 0), J (0 + 1))
      rfl
    rw [e0]
    refine lp_run (fun i => (YL (10000 ^ i), J (i + 1))) (k - 1) (fun self i hi => ?_) (fun self => ?_) (by unfold FU; omega)
    · unfold B_X9_runScript_26
      rw [if_neg (show ¬ J k ≤ J (i + 1) by rw [J_le (by omega) (by omega)]; omega)]
      show self (YL (10000 ^ i) * 10000, J (i + 1) + 1) = _
      rw [hmul i (by omega), show J (i + 1) + 1 = J (i + 1 + 1) from J_add (i + 1) 1]
    · unfold B_X9_runScript_26
      rw [if_pos (show J k ≤ J (k - 1 + 1) by rw [J_le (by omega) (by omega)]; omega)]
  rw [if_pos (show (1 ≤ k ∧ k ≤ 3) from ⟨ck1, ck3⟩), if_neg (show ¬ J 1 = 0 by decide), hloop, if_neg (show ¬ J k < 1 from fun z => by have := (J_lt (b := 1) hk31 (by omega)).mp z; omega), if_pos (show J k ≤ 3 from (J_le (b := 3) hk31 (by omega)).mpr ck3)]
  unfold K_X9_runScript_46
  by_cases c0 : lg_cmp l 0 < 0
  · right
    rw [if_pos c0, if_pos c0]
    unfold J_X9_runScript_63
    simp only [Option.bind_some, F_X9_fails]
    exact ⟨_, by first | rfl | trivial, rfl, rfl, SM_rf rfl rfl rfl rfl rfl rfl rfl⟩
  rw [if_neg c0, if_neg c0]
  obtain ⟨n, hn, rfl⟩ := YL_of (q := l) (fun z => c0 ((lg_cmp_lt l 0).mpr z))
  obtain ⟨q1, q2⟩ := p10_le (show k - 1 ≤ 3 by omega)
  have hdl := Nat.div_le_self n (10000 ^ (k - 1))
  have hdl2 := Nat.div_le_self n (10000 ^ k)
  rw [wog_A hn ck3, gzl_YL q1 (by omega), YL_div hn (by omega)]
  simp only [Option.bind_some]
  have hpk : n / 10000 ^ k = n / 10000 ^ (k - 1) / 10000 := by
    rw [Nat.div_div_eq_div_mul, ← Nat.pow_succ, show (k - 1).succ = k by omega]
  by_cases c1 : n / 10000 ^ (k - 1) < 10000
  rotate_left
  · right
    have h1 : ¬ lg_cmp (YL (n / 10000 ^ (k - 1))) 10000 < 0 := fun z => c1 ((YL_lt (b := 10000) (by omega) (by omega)).mp ((lg_cmp_lt _ _).mp z))
    have h2 : ¬ lg_cmp (YL (n / 10000 ^ k)) 0 = 0 := fun z => by
      have := (YL_eq (b := 0) (by omega) (by omega)).mp ((lg_cmp_eq _ _).mp z)
      omega
    rw [if_neg h1, if_neg h2]
    unfold J_X9_runScript_63
    simp only [Option.bind_some, F_X9_fails]
    exact ⟨_, by first | rfl | trivial, rfl, rfl, SM_rf rfl rfl rfl rfl rfl rfl rfl⟩
  · left
    have h1 : lg_cmp (YL (n / 10000 ^ (k - 1))) 10000 < 0 := (lg_cmp_lt _ _).mpr ((YL_lt (b := 10000) (by omega) (by omega)).mpr c1)
    have h2 : lg_cmp (YL (n / 10000 ^ k)) 0 = 0 := (lg_cmp_eq _ _).mpr ((YL_eq (b := 0) (by omega) (by omega)).mpr (by rw [hpk]; exact Nat.div_eq_of_lt c1))
    obtain ⟨v1, x1, x2⟩ := copy_D (d0 := tr) hd hW
    rw [if_pos h1, if_pos h2, x1, keepsBase_M]
    simp only [Option.bind_some]
    obtain ⟨v, d', so', p', st', cr', m', y1, y2, y3⟩ := script_b (tx := tx) (n := n) (k := k) (N := N) (m0 := (0, (md_s m), (md_aside m), fil (md_base m) (md_s m) 1270, (md_saved m), (md_savedMany m), (md_slots m), (md_hasSlot m), (md_text m), (md_length m), (md_begins m), (md_lengths m), (md_streams m), (md_letters m), (md_letterMany m), (md_chunks m), (md_chunkMany m), (md_homes m), (md_dropped m), (md_madeIn m), (md_madeAt m), (md_putMany m), (md_path m), (md_store m), (md_thinOnes m))) hN hn ck1 ck3 ht K_X9_runScript_158 k 0 FU FU (YL (10000 ^ (k - 1))) v1 so p0 st0 cr (0, (md_s m), (md_aside m), fil (md_base m) (md_s m) 1270, (md_saved m), (md_savedMany m), (md_slots m), (md_hasSlot m), (md_text m), (md_length m), (md_begins m), (md_lengths m), (md_streams m), (md_letters m), (md_letterMany m), (md_chunks m), (md_chunkMany m), (md_homes m), (md_dropped m), (md_madeIn m), (md_madeAt m), (md_putMany m), (md_path m), (md_store m), (md_thinOnes m)) A (by omega) (by unfold FU; omega) (by unfold FU; omega) (fun _ => by rw [Nat.sub_zero]) x2 hm hW (MB_rf _)
    obtain ⟨b1, b2, b3, b4, b5, b6, b7, b8⟩ := y3
    unfold K_X9_runScript_158 at y2
    rw [backToBase_M] at y2
    simp only [Option.bind_some] at y2
    refine ⟨v, d', so', p', st', cr', _, y1, y2, b1, fun j hj => ?_, b3, b4, b5, b6, b7, b8⟩
    show fil (md_s m') (md_base m') 1270 j = md_s m j
    rw [b2]
    exact fil_back hj
theorem i_runScript {n : Nat} {st : STT} {q1 q2 q3 : Int32} (hN : n < 512) (h : Inv n st) : ∃ st', F_T_runScript st q1 q2 q3 = some st' ∧ Inv (n + 1) st' := by
  obtain ⟨A, H, Sl, h1, h2, h3, h4, h5⟩ := id h
  unfold F_T_runScript F_X9_thrown
  rcases runScript_A (tr := S_trial st) (so := S_stream st) (p0 := S_plan st) (st0 := S_store st) (cr := S_carrier st) (q := q1) (l := (Int32.toInt64 q2 <<< (Int32.toInt64 32 &&& 63)) ||| (Int32.toInt64 q3 &&& 4294967295)) (by omega) h1 h2 h3 h4 with ⟨v, d', so', p', st', cr', m', a1, a2, a3, a4⟩ | ⟨m', a1, a2, a3, a4⟩
  · rw [a1, a2]
    simp only [Option.bind_some]
    rw [if_pos (by decide), if_pos (by exact a3), if_pos (by rfl), if_pos (by rfl)]
    exact ⟨_, rfl, Inv_SM h a4 _ _ _ _ _ _⟩
  · rw [a1, a2]
    simp only [Option.bind_some]
    rw [if_pos (by decide), if_pos (by exact a3), if_neg (by decide)]
    exact ⟨_, rfl, Inv_SM h a4 _ _ _ _ _ _⟩
