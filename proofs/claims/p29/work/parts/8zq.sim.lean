/-! THE PURE SIDE: the call simulate -/
theorem sim_b {m0 : MDT} {n N : Nat} (hN : N ≤ 550) (hn : n ≤ 40) (K8 : (DKT × SMT × PLT × CRT) → Option (Nat × Int32 × DKT × SMT × PLT × CRT)) (K : MDT → Option (Int32 × MDT)) : ∀ (y i fuel fuel' : Nat) (x : Int64) (d : DKT) (so : SMT) (p0 : PLT) (cr : CRT) (m : MDT) (A : AT), i + y = n → y < fuel → y < fuel' → DR d A → MR (md_s m) A → WF A (N + i) → MB m0 m → ∃ d' so' p' cr' m' A', lp (B_X8_simulate_36 (J n) K8) fuel (x, J i, d, so, p0, cr) = K8 (d', so', p', cr') ∧ lp (B_X9_simulate_31 (J n) K) fuel' (x, J i, m) = K m' ∧ MB m0 m' ∧ DR d' A' ∧ MR (md_s m') A' ∧ WF A' (N + n) := by
  intro y
  induction y with
  | zero =>
    intro i fuel fuel' x d so p0 cr m A hi hf hf' hd hm hW hB
    obtain ⟨fuel, rfl⟩ : ∃ q, fuel = q + 1 := ⟨fuel - 1, by omega⟩
    obtain ⟨fuel', rfl⟩ : ∃ q, fuel' = q + 1 := ⟨fuel' - 1, by omega⟩
    obtain rfl : i = n := by omega
    have hle : J i ≤ J i := by rw [J_le (by omega) (by omega)]; omega
    refine ⟨d, so, p0, cr, m, A, ?_, ?_, hB, hd, hm, hW⟩
    · show B_X8_simulate_36 _ _ _ _ = _
      unfold B_X8_simulate_36
      rw [if_pos hle]
    · show B_X9_simulate_31 _ _ _ _ = _
      unfold B_X9_simulate_31
      rw [if_pos hle]
  | succ y ih =>
    intro i fuel fuel' x d so p0 cr m A hi hf hf' hd hm hW hB
    obtain ⟨fuel, rfl⟩ : ∃ q, fuel = q + 1 := ⟨fuel - 1, by omega⟩
    obtain ⟨fuel', rfl⟩ : ∃ q, fuel' = q + 1 := ⟨fuel' - 1, by omega⟩
    have hle : ¬ J n ≤ J i := by rw [J_le (by omega) (by omega)]; omega
    obtain ⟨d1, so1, p1, cr1, m1, A1, t1, t2, t3, t4, t5, t6⟩ := turn_A (so := so) (p0 := p0) (cr := cr) (x := x) (N := N + i) (i := i) (n := n) (by omega) (by omega) hn hd hm hW K
    obtain ⟨d', so', p', cr', m', A', y1, y2, y3, y4, y5, y6⟩ := ih (i + 1) fuel fuel' ((x * (6364136223846793005)) + (1442695040888963407)) d1 so1 p1 cr1 m1 A1 (by omega) (by omega) (by omega) t4 t5 t6 (MB_tr hB t3)
    refine ⟨d', so', p', cr', m', A', ?_, ?_, y3, y4, y5, y6⟩
    · rw [← y1]
      show B_X8_simulate_36 _ _ (lp _ fuel) _ = _
      generalize lp (B_X8_simulate_36 (J n) K8) fuel = self
      unfold B_X8_simulate_36
      rw [if_neg hle, t1]
      simp only [Option.bind_some]
      rw [show J i + 1 = J (i + 1) from J_add i 1]
    · rw [← y2]
      show B_X9_simulate_31 _ _ (lp _ fuel') _ = _
      exact t2 _
theorem simulate_A {d tr : DKT} {m : MDT} {A : AT} {N : Nat} {so : SMT} {p0 : PLT} {cr : CRT} {q : Int32} {l : Int64} (hN : N ≤ 550) (hd : DR d A) (hm : MR (md_s m) A) (hW : WF A N) : (∃ v d' so' p' cr' m', F_X8_simulate d tr so p0 cr l q = some (0, v, d', so', p', cr') ∧ F_X9_simulate m l q = some (v, m') ∧ md_thrown m' = 0 ∧ SM m m') ∨ (∃ m', F_X8_simulate d tr so p0 cr l q = some (2, 0, tr, so, p0, cr) ∧ F_X9_simulate m l q = some (0, m') ∧ md_thrown m' = 1 ∧ SM m m') := by
  unfold F_X8_simulate F_X9_simulate
  rcases J_cases q with c | ⟨n, hn31, rfl⟩
  · right
    have c1 : q < 1 := by
      apply Int32.lt_iff_toInt_lt.mpr
      have := neg_toInt c
      have h1 : (1 : Int32).toInt = 1 := rfl
      omega
    have hin : F_X9_in q 1 40 = some (J 0) := by
      unfold F_X9_in
      rw [if_pos c1]
      rfl
    rw [if_pos c1, hin]
    simp only [Option.bind_some, F_X9_fails]
    rw [if_pos (show J 0 = 0 from rfl)]
    exact ⟨_, by first | rfl | trivial, rfl, rfl, SM_rf rfl rfl rfl rfl rfl rfl rfl⟩
  have hin3 : F_X9_in (J n) 1 40 = some (J (if 1 ≤ n ∧ n ≤ 40 then 1 else 0)) := in_nn (a := 1) (b := 40) hn31 (by omega) (by omega)
  rw [hin3]
  simp only [Option.bind_some]
  by_cases c : 1 ≤ n ∧ n ≤ 40
  rotate_left
  · right
    rw [if_neg c, if_pos (show J 0 = 0 from rfl)]
    simp only [Option.bind_some, F_X9_fails]
    by_cases c1 : J n < 1
    · rw [if_pos c1]
      exact ⟨_, by first | rfl | trivial, rfl, rfl, SM_rf rfl rfl rfl rfl rfl rfl rfl⟩
    · have c2 : 1 ≤ n := by
        have := J_lt (a := n) (b := 1) hn31 (by omega)
        have h2 : ¬ n < 1 := fun z => c1 (this.mpr z)
        omega
      rw [if_neg c1, if_neg (show ¬ J n ≤ 40 from fun z => c ⟨c2, (J_le (b := 40) hn31 (by omega)).mp z⟩)]
      exact ⟨_, by first | rfl | trivial, rfl, rfl, SM_rf rfl rfl rfl rfl rfl rfl rfl⟩
  left
  obtain ⟨ck1, ck3⟩ := c
  obtain ⟨v1, x1, x2⟩ := copy_D (d0 := tr) hd hW
  rw [if_pos (show (1 ≤ n ∧ n ≤ 40) from ⟨ck1, ck3⟩), if_neg (show ¬ J 1 = 0 by decide), if_neg (show ¬ J n < 1 from fun z => by have := (J_lt (b := 1) hn31 (by omega)).mp z; omega), if_pos (show J n ≤ 40 from (J_le (b := 40) hn31 (by omega)).mpr ck3), x1, keepsBase_M]
  simp only [Option.bind_some]
  obtain ⟨d', so', p', cr', m', A', y1, y2, y3, y4, y5, y6⟩ := sim_b (n := n) (N := N) (m0 := (0, (md_s m), (md_aside m), fil (md_base m) (md_s m) 1270, (md_saved m), (md_savedMany m), (md_slots m), (md_hasSlot m), (md_text m), (md_length m), (md_begins m), (md_lengths m), (md_streams m), (md_letters m), (md_letterMany m), (md_chunks m), (md_chunkMany m), (md_homes m), (md_dropped m), (md_madeIn m), (md_madeAt m), (md_putMany m), (md_path m), (md_store m), (md_thinOnes m))) hN ck3 K_X8_simulate_70 K_X9_simulate_190 n 0 FU FU l v1 so p0 cr (0, (md_s m), (md_aside m), fil (md_base m) (md_s m) 1270, (md_saved m), (md_savedMany m), (md_slots m), (md_hasSlot m), (md_text m), (md_length m), (md_begins m), (md_lengths m), (md_streams m), (md_letters m), (md_letterMany m), (md_chunks m), (md_chunkMany m), (md_homes m), (md_dropped m), (md_madeIn m), (md_madeAt m), (md_putMany m), (md_path m), (md_store m), (md_thinOnes m)) A (by omega) (by unfold FU; omega) (by unfold FU; omega) x2 hm hW (MB_rf _)
  obtain ⟨b1, b2, b3, b4, b5, b6, b7, b8⟩ := y3
  have hl := WF_len y6
  have e4N : (-1 : Int32) = NN := rfl
  have hs7 : md_s m' (Int32.toNatClampNeg 7) = J (a_cs A').length := y5.1.2.2.1
  have g7 : ∀ (z : Option (Int32 × MDT)), gd 7 1270 z = z := fun z => gd_J (a := 7) (by omega) (by omega)
  unfold K_X8_simulate_70 at y1
  unfold K_X9_simulate_190 at y2
  rw [living_D y4.1 y4.2.2.1 (WF_Wn y6) y6.2.1] at y1
  simp only [Option.bind_some] at y1
  rw [y4.1.2.2.1] at y1
  rw [g7, e4N, livingBut_M y5.1 y5.2.1 y6.1 y6.2.1 (show (a_cs A').length ≤ 92 by omega) but_8] at y2
  simp only [Option.bind_some] at y2
  rw [backToBase_M] at y2
  simp only [Option.bind_some] at y2
  rw [hs7] at y2
  refine ⟨_, d', so', p', cr', _, y1, y2, b1, fun j hj => ?_, b3, b4, b5, b6, b7, b8⟩
  show fil (md_s m') (md_base m') 1270 j = md_s m j
  rw [b2]
  exact fil_back hj
theorem i_simulate {n : Nat} {st : STT} {q1 q2 q3 : Int32} (hN : n < 512) (h : Inv n st) : ∃ st', F_T_simulate st q1 q2 q3 = some st' ∧ Inv (n + 1) st' := by
  obtain ⟨A, H, Sl, h1, h2, h3, h4, h5⟩ := id h
  unfold F_T_simulate F_X9_thrown
  rcases simulate_A (tr := S_trial st) (so := S_stream st) (p0 := S_plan st) (cr := S_carrier st) (q := q3) (l := (Int32.toInt64 q1 <<< (Int32.toInt64 32 &&& 63)) ||| (Int32.toInt64 q2 &&& 4294967295)) (by omega) h2 h3 h4 with ⟨v, d', so', p', cr', m', a1, a2, a3, a4⟩ | ⟨m', a1, a2, a3, a4⟩
  · rw [a1, a2]
    simp only [Option.bind_some]
    rw [if_pos (by decide), if_pos (by exact a3), if_pos (by rfl), if_pos (by rfl)]
    exact ⟨_, rfl, Inv_SM h a4 _ _ _ _ _ _⟩
  · rw [a1, a2]
    simp only [Option.bind_some]
    rw [if_pos (by decide), if_pos (by exact a3), if_neg (by decide)]
    exact ⟨_, rfl, Inv_SM h a4 _ _ _ _ _ _⟩
