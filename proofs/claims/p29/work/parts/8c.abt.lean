/-! THE PURE SIDE: about, container, containerOf, entry, setting -/
theorem about_A {d : DKT} {s : Nat → Int32} {A : AT} {n : Nat} (hd : DR d A) (hm : MR s A) (hW : WF A n) (th q : Int32) : (∃ x, F_X8_about d q = some (0, x) ∧ F_X9_about th s q = some (x, 0)) ∨ (F_X8_about d q = some (2, 0) ∧ F_X9_about th s q = some (0, 1)) := by
  obtain ⟨d1, d2, d3, d4⟩ := hd
  obtain ⟨m1, m2, m3⟩ := hm
  have hl := WF_len hW
  have hn := WF_Wn hW
  obtain ⟨w1, w2, w3, w4, w5, w6⟩ := hW
  have hk : F_X9_about th s q = K_X9_about_36 q s (J (sm (fun b => (a_bs A b).length) 8)) := by
    unfold F_X9_about
    refine lp_run (fun b => (J (sm (fun b => (a_bs A b).length) b), J b)) 8 (fun self b h8 => ?_) (fun self => ?_) (by unfold FU; omega)
    · obtain ⟨g1, g2, g3⟩ := m2 b h8
      rw [sm_step]
      unfold B_X9_about_9
      simp (disch := omega) only [g2, J_add, J_mul, J_sub, J_dec, J_nat, J_lt, J_le, J_eq, gd_J, gz_J, gb_J, J_div, J_mod, md_back, JN, J_neN, J_Nne, J_ltN, J_Nlt, J_leN, J_Nle, N_refl, J01, J_addN, J_pred, F_X9_at, F_X9_backupAt, F_X9_fails, F_X9_thrown, Option.bind_some, if_true, if_false, Nat.add_zero, Nat.zero_add, Nat.mul_zero, Nat.zero_mul, Nat.reduceAdd, Nat.reduceMul, Nat.reduceSub, Nat.reduceEqDiff, Nat.reduceLeDiff, Nat.reduceLT, Nat.reducePow, Nat.not_lt_zero, Nat.zero_le, eq_self, not_true_eq_false, not_false_eq_true, reduceIte, L_0, L_1, L_2, L_3, L_4, L_5, L_6, L_7, L_8, L_9, L_10, L_11, L_12, L_14, L_15, L_16, L_24, L_30, L_31, L_32, L_34, L_40, L_44, L_90, L_96, L_97, L_100, L_120, L_121, L_192, L_997, L_998, L_1000, L_1270, L_10000, L_17780, L_2540, L_32768, L_16510]
      rw [if_neg (by omega)]
    · unfold B_X9_about_9
      simp (disch := omega) only [Nat.le_refl, J_add, J_mul, J_sub, J_dec, J_nat, J_lt, J_le, J_eq, gd_J, gz_J, gb_J, J_div, J_mod, md_back, JN, J_neN, J_Nne, J_ltN, J_Nlt, J_leN, J_Nle, N_refl, J01, J_addN, J_pred, F_X9_at, F_X9_backupAt, F_X9_fails, F_X9_thrown, Option.bind_some, if_true, if_false, Nat.add_zero, Nat.zero_add, Nat.mul_zero, Nat.zero_mul, Nat.reduceAdd, Nat.reduceMul, Nat.reduceSub, Nat.reduceEqDiff, Nat.reduceLeDiff, Nat.reduceLT, Nat.reducePow, Nat.not_lt_zero, Nat.zero_le, eq_self, not_true_eq_false, not_false_eq_true, reduceIte, L_0, L_1, L_2, L_3, L_4, L_5, L_6, L_7, L_8, L_9, L_10, L_11, L_12, L_14, L_15, L_16, L_24, L_30, L_31, L_32, L_34, L_40, L_44, L_90, L_96, L_97, L_100, L_120, L_121, L_192, L_997, L_998, L_1000, L_1270, L_10000, L_17780, L_2540, L_32768, L_16510]
  rw [hk]
  unfold F_X8_about K_X9_about_36
  by_cases c : (q.toInt < 0 ∨ 9 < q.toInt)
  · right
    constructor
    · rw [if_pos c]
    · rw [if_pos c]; rfl
  left
  by_cases c0 : q = 0
  · refine ⟨J (a_cs A).length, ?_, ?_⟩
    · rw [if_neg c, if_pos c0, d1.2.2.1]
    · rw [if_neg c, if_pos c0]
      simp (disch := omega) only [m1.2.2.1, J_add, J_mul, J_sub, J_dec, J_nat, J_lt, J_le, J_eq, gd_J, gz_J, gb_J, J_div, J_mod, md_back, JN, J_neN, J_Nne, J_ltN, J_Nlt, J_leN, J_Nle, N_refl, J01, J_addN, J_pred, F_X9_at, F_X9_backupAt, F_X9_fails, F_X9_thrown, Option.bind_some, if_true, if_false, Nat.add_zero, Nat.zero_add, Nat.mul_zero, Nat.zero_mul, Nat.reduceAdd, Nat.reduceMul, Nat.reduceSub, Nat.reduceEqDiff, Nat.reduceLeDiff, Nat.reduceLT, Nat.reducePow, Nat.not_lt_zero, Nat.zero_le, eq_self, not_true_eq_false, not_false_eq_true, reduceIte, L_0, L_1, L_2, L_3, L_4, L_5, L_6, L_7, L_8, L_9, L_10, L_11, L_12, L_14, L_15, L_16, L_24, L_30, L_31, L_32, L_34, L_40, L_44, L_90, L_96, L_97, L_100, L_120, L_121, L_192, L_997, L_998, L_1000, L_1270, L_10000, L_17780, L_2540, L_32768, L_16510]
  by_cases c1 : q = 1
  · refine ⟨J (sm (fun b => min 1 (a_bs A b).length) 8), ?_, ?_⟩
    rotate_left
    · rw [if_neg c, if_neg c0, if_pos c1, backups_M m2]; rfl
    · rw [if_neg c, if_neg c0, if_pos c1, backups_D d2 w2]; rfl
  by_cases c2 : q = 2
  · refine ⟨J (st (a_cs A) (a_cs A).length), ?_, ?_⟩
    rotate_left
    · rw [if_neg c, if_neg c0, if_neg c1, if_pos c2, entries_M m1 (by omega)]; rfl
    · rw [if_neg c, if_neg c0, if_neg c1, if_pos c2, d1.2.2.2.1]
  have e4 : (-1 : Int32) = NN := rfl
  by_cases c3 : q = 3
  · refine ⟨J (sm (lv (a_cs A) (a_bs A) 8) (a_cs A).length), ?_, ?_⟩
    rotate_left
    · rw [if_neg c, if_neg c0, if_neg c1, if_neg c2, if_pos c3, e4, livingBut_M m1 m2 w1 w2 (by omega) but_8]; rfl
    · rw [if_neg c, if_neg c0, if_neg c1, if_neg c2, if_pos c3, living_D d1 d3 hn w2]; rfl
  by_cases c4 : q = 4
  · refine ⟨J (sm (fun k => cp (un (a_cs A) k) (si (a_cs A) k)) (a_cs A).length), ?_, ?_⟩
    rotate_left
    · rw [if_neg c, if_neg c0, if_neg c1, if_neg c2, if_neg c3, if_pos c4, unlike_M m1 w1 (by omega)]; rfl
    · rw [if_neg c, if_neg c0, if_neg c1, if_neg c2, if_neg c3, if_pos c4, unlike_D d1 hn w1]; rfl
  by_cases c5 : q = 5
  · refine ⟨J (cp (thn (a_se A) (a_cs A) (a_bs A)) (a_cs A).length), ?_, ?_⟩
    rotate_left
    · rw [if_neg c, if_neg c0, if_neg c1, if_neg c2, if_neg c3, if_neg c4, if_pos c5, thin_M m1 m2 w1 w3 w2 (by omega)]; rfl
    · rw [if_neg c, if_neg c0, if_neg c1, if_neg c2, if_neg c3, if_neg c4, if_pos c5, thin_D d1 d3 hn w2 w1 w3]; rfl
  by_cases c6 : q = 6
  · refine ⟨J (sm (fun b => (a_bs A b).length) 8), ?_, ?_⟩
    rotate_left
    · rw [if_neg c, if_neg c0, if_neg c1, if_neg c2, if_neg c3, if_neg c4, if_neg c5, if_pos c6]
    · rw [if_neg c, if_neg c0, if_neg c1, if_neg c2, if_neg c3, if_neg c4, if_neg c5, if_pos c6, allRefs_D d2 w2]; rfl
  by_cases c7 : q = 7
  · refine ⟨J (sm (fun k => sm (fun i => (ch (a_cs A) k i).length) (si (a_cs A) k)) (a_cs A).length), ?_, ?_⟩
    rotate_left
    · rw [if_neg c, if_neg c0, if_neg c1, if_neg c2, if_neg c3, if_neg c4, if_neg c5, if_neg c6, if_pos c7, allLetters_M m1 w1 (by omega)]; rfl
    · rw [if_neg c, if_neg c0, if_neg c1, if_neg c2, if_neg c3, if_neg c4, if_neg c5, if_neg c6, if_pos c7, allLetters_D d1 hn w1]; rfl
  by_cases c8 : q = 8
  · refine ⟨J (a_nx A), ?_, ?_⟩
    · rw [if_neg c, if_neg c0, if_neg c1, if_neg c2, if_neg c3, if_neg c4, if_neg c5, if_neg c6, if_neg c7, if_pos c8, d1.2.1]
    · rw [if_neg c, if_neg c0, if_neg c1, if_neg c2, if_neg c3, if_neg c4, if_neg c5, if_neg c6, if_neg c7, if_pos c8]
      simp (disch := omega) only [m1.2.1, J_add, J_mul, J_sub, J_dec, J_nat, J_lt, J_le, J_eq, gd_J, gz_J, gb_J, J_div, J_mod, md_back, JN, J_neN, J_Nne, J_ltN, J_Nlt, J_leN, J_Nle, N_refl, J01, J_addN, J_pred, F_X9_at, F_X9_backupAt, F_X9_fails, F_X9_thrown, Option.bind_some, if_true, if_false, Nat.add_zero, Nat.zero_add, Nat.mul_zero, Nat.zero_mul, Nat.reduceAdd, Nat.reduceMul, Nat.reduceSub, Nat.reduceEqDiff, Nat.reduceLeDiff, Nat.reduceLT, Nat.reducePow, Nat.not_lt_zero, Nat.zero_le, eq_self, not_true_eq_false, not_false_eq_true, reduceIte, L_0, L_1, L_2, L_3, L_4, L_5, L_6, L_7, L_8, L_9, L_10, L_11, L_12, L_14, L_15, L_16, L_24, L_30, L_31, L_32, L_34, L_40, L_44, L_90, L_96, L_97, L_100, L_120, L_121, L_192, L_997, L_998, L_1000, L_1270, L_10000, L_17780, L_2540, L_32768, L_16510]
  · refine ⟨a_ca A, ?_, ?_⟩
    · rw [if_neg c, if_neg c0, if_neg c1, if_neg c2, if_neg c3, if_neg c4, if_neg c5, if_neg c6, if_neg c7, if_neg c8, d4]
    · rw [if_neg c, if_neg c0, if_neg c1, if_neg c2, if_neg c3, if_neg c4, if_neg c5, if_neg c6, if_neg c7, if_neg c8]
      simp (disch := omega) only [m3, J_add, J_mul, J_sub, J_dec, J_nat, J_lt, J_le, J_eq, gd_J, gz_J, gb_J, J_div, J_mod, md_back, JN, J_neN, J_Nne, J_ltN, J_Nlt, J_leN, J_Nle, N_refl, J01, J_addN, J_pred, F_X9_at, F_X9_backupAt, F_X9_fails, F_X9_thrown, Option.bind_some, if_true, if_false, Nat.add_zero, Nat.zero_add, Nat.mul_zero, Nat.zero_mul, Nat.reduceAdd, Nat.reduceMul, Nat.reduceSub, Nat.reduceEqDiff, Nat.reduceLeDiff, Nat.reduceLT, Nat.reducePow, Nat.not_lt_zero, Nat.zero_le, eq_self, not_true_eq_false, not_false_eq_true, reduceIte, L_0, L_1, L_2, L_3, L_4, L_5, L_6, L_7, L_8, L_9, L_10, L_11, L_12, L_14, L_15, L_16, L_24, L_30, L_31, L_32, L_34, L_40, L_44, L_90, L_96, L_97, L_100, L_120, L_121, L_192, L_997, L_998, L_1000, L_1270, L_10000, L_17780, L_2540, L_32768, L_16510]
theorem i_about {n : Nat} {st : STT} {q1 q2 q3 : Int32} (h : Inv n st) : ∃ st', F_T_about st q1 q2 q3 = some st' ∧ Inv (n + 1) st' := by
  obtain ⟨A, H, Sl, h1, h2, h3, h4, h5⟩ := id h
  unfold F_T_about F_X9_thrown
  rcases about_A h2 h3 h4 (md_thrown (S_md st)) q1 with ⟨x, a1, a2⟩ | ⟨a1, a2⟩
  · rw [a1, a2]
    simp only [Option.bind_some]
    rw [if_pos (by decide), if_pos (by rfl), if_pos (by rfl), if_pos (by rfl)]
    exact ⟨_, rfl, Inv_SE h ⟨rfl, rfl, rfl, rfl, fun _ _ => rfl, rfl, rfl, rfl, rfl, rfl, rfl⟩⟩
  · rw [a1, a2]
    simp only [Option.bind_some]
    rw [if_pos (by decide), if_pos (by rfl), if_neg (by decide)]
    exact ⟨_, rfl, Inv_SE h ⟨rfl, rfl, rfl, rfl, fun _ _ => rfl, rfl, rfl, rfl, rfl, rfl, rfl⟩⟩
theorem container_A {d : DKT} {s : Nat → Int32} {A : AT} {n : Nat} (hd : DR d A) (hm : MR s A) (hW : WF A n) (th q : Int32) : (∃ x, F_X8_container d q = some (0, x) ∧ F_X9_container th s q = some (x, 0)) ∨ (F_X8_container d q = some (2, 0) ∧ F_X9_container th s q = some (0, 1)) := by
  obtain ⟨d1, d2, d3, d4⟩ := hd
  obtain ⟨m1, m2, m3⟩ := hm
  have hl := WF_len hW
  have hn := WF_Wn hW
  obtain ⟨w1, w2, w3, w4, w5, w6⟩ := hW
  unfold F_X8_container F_X9_container
  rcases J_cases q with c | ⟨k, hk, rfl⟩
  · right
    have c' : ¬ 0 ≤ q := by
      intro z
      have a := neg_toInt c
      have b := Int32.le_iff_toInt_le.mp z
      have e : (0 : Int32).toInt = 0 := rfl
      omega
    rw [if_neg c', if_neg c']
    exact ⟨rfl, rfl⟩
  · left
    by_cases z : k < (a_cs A).length
    · refine ⟨J (nu (a_cs A) k), ?_, ?_⟩
      · simp (disch := omega) only [numberAt_D d1 hn z, J_add, J_mul, J_sub, J_dec, J_nat, J_lt, J_le, J_eq, gd_J, gz_J, gb_J, J_div, J_mod, md_back, JN, J_neN, J_Nne, J_ltN, J_Nlt, J_leN, J_Nle, N_refl, J01, J_addN, J_pred, F_X9_at, F_X9_backupAt, F_X9_fails, F_X9_thrown, Option.bind_some, if_true, if_false, Nat.add_zero, Nat.zero_add, Nat.mul_zero, Nat.zero_mul, Nat.reduceAdd, Nat.reduceMul, Nat.reduceSub, Nat.reduceEqDiff, Nat.reduceLeDiff, Nat.reduceLT, Nat.reducePow, Nat.not_lt_zero, Nat.zero_le, eq_self, not_true_eq_false, not_false_eq_true, reduceIte, L_0, L_1, L_2, L_3, L_4, L_5, L_6, L_7, L_8, L_9, L_10, L_11, L_12, L_14, L_15, L_16, L_24, L_30, L_31, L_32, L_34, L_40, L_44, L_90, L_96, L_97, L_100, L_120, L_121, L_192, L_997, L_998, L_1000, L_1270, L_10000, L_17780, L_2540, L_32768, L_16510]
      · obtain ⟨g1, g2, g3, g4⟩ := m1.2.2.2 k z
        simp (disch := omega) only [m1.2.2.1, g1, J_add, J_mul, J_sub, J_dec, J_nat, J_lt, J_le, J_eq, gd_J, gz_J, gb_J, J_div, J_mod, md_back, JN, J_neN, J_Nne, J_ltN, J_Nlt, J_leN, J_Nle, N_refl, J01, J_addN, J_pred, F_X9_at, F_X9_backupAt, F_X9_fails, F_X9_thrown, Option.bind_some, if_true, if_false, Nat.add_zero, Nat.zero_add, Nat.mul_zero, Nat.zero_mul, Nat.reduceAdd, Nat.reduceMul, Nat.reduceSub, Nat.reduceEqDiff, Nat.reduceLeDiff, Nat.reduceLT, Nat.reducePow, Nat.not_lt_zero, Nat.zero_le, eq_self, not_true_eq_false, not_false_eq_true, reduceIte, L_0, L_1, L_2, L_3, L_4, L_5, L_6, L_7, L_8, L_9, L_10, L_11, L_12, L_14, L_15, L_16, L_24, L_30, L_31, L_32, L_34, L_40, L_44, L_90, L_96, L_97, L_100, L_120, L_121, L_192, L_997, L_998, L_1000, L_1270, L_10000, L_17780, L_2540, L_32768, L_16510]
        rw [if_neg (by omega)]
    · refine ⟨NN, ?_, ?_⟩
      · unfold F_X1_numberAt
        rw [hasPlace_D d1 hn hk, if_neg z]
        simp (disch := omega) only [J_add, J_mul, J_sub, J_dec, J_nat, J_lt, J_le, J_eq, gd_J, gz_J, gb_J, J_div, J_mod, md_back, JN, J_neN, J_Nne, J_ltN, J_Nlt, J_leN, J_Nle, N_refl, J01, J_addN, J_pred, F_X9_at, F_X9_backupAt, F_X9_fails, F_X9_thrown, Option.bind_some, if_true, if_false, Nat.add_zero, Nat.zero_add, Nat.mul_zero, Nat.zero_mul, Nat.reduceAdd, Nat.reduceMul, Nat.reduceSub, Nat.reduceEqDiff, Nat.reduceLeDiff, Nat.reduceLT, Nat.reducePow, Nat.not_lt_zero, Nat.zero_le, eq_self, not_true_eq_false, not_false_eq_true, reduceIte, L_0, L_1, L_2, L_3, L_4, L_5, L_6, L_7, L_8, L_9, L_10, L_11, L_12, L_14, L_15, L_16, L_24, L_30, L_31, L_32, L_34, L_40, L_44, L_90, L_96, L_97, L_100, L_120, L_121, L_192, L_997, L_998, L_1000, L_1270, L_10000, L_17780, L_2540, L_32768, L_16510]
      · simp (disch := omega) only [m1.2.2.1, J_add, J_mul, J_sub, J_dec, J_nat, J_lt, J_le, J_eq, gd_J, gz_J, gb_J, J_div, J_mod, md_back, JN, J_neN, J_Nne, J_ltN, J_Nlt, J_leN, J_Nle, N_refl, J01, J_addN, J_pred, F_X9_at, F_X9_backupAt, F_X9_fails, F_X9_thrown, Option.bind_some, if_true, if_false, Nat.add_zero, Nat.zero_add, Nat.mul_zero, Nat.zero_mul, Nat.reduceAdd, Nat.reduceMul, Nat.reduceSub, Nat.reduceEqDiff, Nat.reduceLeDiff, Nat.reduceLT, Nat.reducePow, Nat.not_lt_zero, Nat.zero_le, eq_self, not_true_eq_false, not_false_eq_true, reduceIte, L_0, L_1, L_2, L_3, L_4, L_5, L_6, L_7, L_8, L_9, L_10, L_11, L_12, L_14, L_15, L_16, L_24, L_30, L_31, L_32, L_34, L_40, L_44, L_90, L_96, L_97, L_100, L_120, L_121, L_192, L_997, L_998, L_1000, L_1270, L_10000, L_17780, L_2540, L_32768, L_16510]
        rw [if_pos (by omega)]
theorem i_container {n : Nat} {st : STT} {q1 q2 q3 : Int32} (h : Inv n st) : ∃ st', F_T_container st q1 q2 q3 = some st' ∧ Inv (n + 1) st' := by
  obtain ⟨A, H, Sl, h1, h2, h3, h4, h5⟩ := id h
  unfold F_T_container F_X9_thrown
  rcases container_A h2 h3 h4 (md_thrown (S_md st)) q1 with ⟨x, a1, a2⟩ | ⟨a1, a2⟩
  · rw [a1, a2]
    simp only [Option.bind_some]
    rw [if_pos (by decide), if_pos (by rfl), if_pos (by rfl), if_pos (by rfl)]
    exact ⟨_, rfl, Inv_SE h ⟨rfl, rfl, rfl, rfl, fun _ _ => rfl, rfl, rfl, rfl, rfl, rfl, rfl⟩⟩
  · rw [a1, a2]
    simp only [Option.bind_some]
    rw [if_pos (by decide), if_pos (by rfl), if_neg (by decide)]
    exact ⟨_, rfl, Inv_SE h ⟨rfl, rfl, rfl, rfl, fun _ _ => rfl, rfl, rfl, rfl, rfl, rfl, rfl⟩⟩
theorem cof_loop {s : Nat → Int32} {A : AT} {n : Nat} (hm : MR s A) (hW : WF A n) {k : Nat} (z : k < (a_cs A).length) (x v : Int32) (hx : x = J (nu (a_cs A) k)) : lp (B_X9_containerOf_43 s x (K_X9_containerOf_76 v (J k) s)) FU (0, 0) = K_X9_containerOf_76 v (J k) s (J (cp (fun b => rt (a_bs A b) (nu (a_cs A) k)) 8)) := by
  subst hx
  obtain ⟨m1, m2, m3⟩ := hm
  have hnu := Wc_nu hW.1 z
  refine lp_run (fun b => (J (cp (fun b => rt (a_bs A b) (nu (a_cs A) k)) b), J b)) 8 (fun self b h8 => ?_) (fun self => ?_) (by unfold FU; omega)
  · unfold B_X9_containerOf_43
    simp (disch := omega) only [refersTo_M m2 hW.1 hW.2.1 h8 (show nu (a_cs A) k < 2 ^ 31 by omega), J_add, J_mul, J_sub, J_dec, J_nat, J_lt, J_le, J_eq, gd_J, gz_J, gb_J, J_div, J_mod, md_back, JN, J_neN, J_Nne, J_ltN, J_Nlt, J_leN, J_Nle, N_refl, J01, J_addN, J_pred, F_X9_at, F_X9_backupAt, F_X9_fails, F_X9_thrown, Option.bind_some, if_true, if_false, Nat.add_zero, Nat.zero_add, Nat.mul_zero, Nat.zero_mul, Nat.reduceAdd, Nat.reduceMul, Nat.reduceSub, Nat.reduceEqDiff, Nat.reduceLeDiff, Nat.reduceLT, Nat.reducePow, Nat.not_lt_zero, Nat.zero_le, eq_self, not_true_eq_false, not_false_eq_true, reduceIte, L_0, L_1, L_2, L_3, L_4, L_5, L_6, L_7, L_8, L_9, L_10, L_11, L_12, L_14, L_15, L_16, L_24, L_30, L_31, L_32, L_34, L_40, L_44, L_90, L_96, L_97, L_100, L_120, L_121, L_192, L_997, L_998, L_1000, L_1270, L_10000, L_17780, L_2540, L_32768, L_16510]
    rw [if_neg (by omega)]
    by_cases w : rt (a_bs A b) (nu (a_cs A) k) = true
    · rw [cp_yes (by exact w), if_pos w]
      simp (disch := omega) only [J_add, J_mul, J_sub, J_dec, J_nat, J_lt, J_le, J_eq, gd_J, gz_J, gb_J, J_div, J_mod, md_back, JN, J_neN, J_Nne, J_ltN, J_Nlt, J_leN, J_Nle, N_refl, J01, J_addN, J_pred, F_X9_at, F_X9_backupAt, F_X9_fails, F_X9_thrown, Option.bind_some, if_true, if_false, Nat.add_zero, Nat.zero_add, Nat.mul_zero, Nat.zero_mul, Nat.reduceAdd, Nat.reduceMul, Nat.reduceSub, Nat.reduceEqDiff, Nat.reduceLeDiff, Nat.reduceLT, Nat.reducePow, Nat.not_lt_zero, Nat.zero_le, eq_self, not_true_eq_false, not_false_eq_true, reduceIte, L_0, L_1, L_2, L_3, L_4, L_5, L_6, L_7, L_8, L_9, L_10, L_11, L_12, L_14, L_15, L_16, L_24, L_30, L_31, L_32, L_34, L_40, L_44, L_90, L_96, L_97, L_100, L_120, L_121, L_192, L_997, L_998, L_1000, L_1270, L_10000, L_17780, L_2540, L_32768, L_16510]
    · rw [cp_no (by exact Bool.eq_false_iff.mpr w), if_neg w]
      simp (disch := omega) only [J_add, J_mul, J_sub, J_dec, J_nat, J_lt, J_le, J_eq, gd_J, gz_J, gb_J, J_div, J_mod, md_back, JN, J_neN, J_Nne, J_ltN, J_Nlt, J_leN, J_Nle, N_refl, J01, J_addN, J_pred, F_X9_at, F_X9_backupAt, F_X9_fails, F_X9_thrown, Option.bind_some, if_true, if_false, Nat.add_zero, Nat.zero_add, Nat.mul_zero, Nat.zero_mul, Nat.reduceAdd, Nat.reduceMul, Nat.reduceSub, Nat.reduceEqDiff, Nat.reduceLeDiff, Nat.reduceLT, Nat.reducePow, Nat.not_lt_zero, Nat.zero_le, eq_self, not_true_eq_false, not_false_eq_true, reduceIte, L_0, L_1, L_2, L_3, L_4, L_5, L_6, L_7, L_8, L_9, L_10, L_11, L_12, L_14, L_15, L_16, L_24, L_30, L_31, L_32, L_34, L_40, L_44, L_90, L_96, L_97, L_100, L_120, L_121, L_192, L_997, L_998, L_1000, L_1270, L_10000, L_17780, L_2540, L_32768, L_16510]
  · unfold B_X9_containerOf_43
    simp (disch := omega) only [Nat.le_refl, J_add, J_mul, J_sub, J_dec, J_nat, J_lt, J_le, J_eq, gd_J, gz_J, gb_J, J_div, J_mod, md_back, JN, J_neN, J_Nne, J_ltN, J_Nlt, J_leN, J_Nle, N_refl, J01, J_addN, J_pred, F_X9_at, F_X9_backupAt, F_X9_fails, F_X9_thrown, Option.bind_some, if_true, if_false, Nat.add_zero, Nat.zero_add, Nat.mul_zero, Nat.zero_mul, Nat.reduceAdd, Nat.reduceMul, Nat.reduceSub, Nat.reduceEqDiff, Nat.reduceLeDiff, Nat.reduceLT, Nat.reducePow, Nat.not_lt_zero, Nat.zero_le, eq_self, not_true_eq_false, not_false_eq_true, reduceIte, L_0, L_1, L_2, L_3, L_4, L_5, L_6, L_7, L_8, L_9, L_10, L_11, L_12, L_14, L_15, L_16, L_24, L_30, L_31, L_32, L_34, L_40, L_44, L_90, L_96, L_97, L_100, L_120, L_121, L_192, L_997, L_998, L_1000, L_1270, L_10000, L_17780, L_2540, L_32768, L_16510]
theorem cof_in {d : DKT} {s : Nat → Int32} {A : AT} {n : Nat} (hd : DR d A) (hm : MR s A) (hW : WF A n) {k v : Nat} (z : k < (a_cs A).length) (c : v ≤ 4) : ∃ x, (if (J v).toInt < 0 ∨ 4 < (J v).toInt then some (2, 0) else (if J v = 0 then (F_X1_capacityAt d (J k)).bind fun v61 => some (0, v61) else (if J v = 1 then (F_X1_sizeAt d (J k)).bind fun v70 => some (0, v70) else (if J v = 2 then (F_X1_livingAt d (J k)).bind fun v79 => some (0, v79) else (if J v = 3 then (F_X1_isThin d (J k)).bind fun v88 => (if v88 = 0 then some (0, 0) else some (0, 1)) else (F_X1_backupsReferringTo d (J k)).bind fun v105 => some (0, v105)))))) = some ((0 : Nat), x) ∧ K_X9_containerOf_76 (J v) (J k) s (J (cp (fun b => rt (a_bs A b) (nu (a_cs A) k)) 8)) = some (x, 0) := by
  obtain ⟨d1, d2, d3, d4⟩ := hd
  obtain ⟨m1, m2, m3⟩ := hm
  have hl := WF_len hW
  have hn := WF_Wn hW
  obtain ⟨w1, w2, w3, w4, w5, w6⟩ := hW
  obtain ⟨g1, g2, g3, g4⟩ := m1.2.2.2 k z
  have e4 : (-1 : Int32) = NN := rfl
  unfold K_X9_containerOf_76
  rcases (show v = 0 ∨ v = 1 ∨ v = 2 ∨ v = 3 ∨ v = 4 by omega) with rfl | rfl | rfl | rfl | rfl
  · refine ⟨J (ca (a_cs A) k), ?_, ?_⟩
    · rw [if_neg (by decide), if_pos (by decide), capacityAt_D d1 hn z]; rfl
    · rw [if_neg (by decide), if_pos (by decide)]
      simp (disch := omega) only [g2, J_add, J_mul, J_sub, J_dec, J_nat, J_lt, J_le, J_eq, gd_J, gz_J, gb_J, J_div, J_mod, md_back, JN, J_neN, J_Nne, J_ltN, J_Nlt, J_leN, J_Nle, N_refl, J01, J_addN, J_pred, F_X9_at, F_X9_backupAt, F_X9_fails, F_X9_thrown, Option.bind_some, if_true, if_false, Nat.add_zero, Nat.zero_add, Nat.mul_zero, Nat.zero_mul, Nat.reduceAdd, Nat.reduceMul, Nat.reduceSub, Nat.reduceEqDiff, Nat.reduceLeDiff, Nat.reduceLT, Nat.reducePow, Nat.not_lt_zero, Nat.zero_le, eq_self, not_true_eq_false, not_false_eq_true, reduceIte, L_0, L_1, L_2, L_3, L_4, L_5, L_6, L_7, L_8, L_9, L_10, L_11, L_12, L_14, L_15, L_16, L_24, L_30, L_31, L_32, L_34, L_40, L_44, L_90, L_96, L_97, L_100, L_120, L_121, L_192, L_997, L_998, L_1000, L_1270, L_10000, L_17780, L_2540, L_32768, L_16510]
  · refine ⟨J (si (a_cs A) k), ?_, ?_⟩
    · rw [if_neg (by decide), if_neg (by decide), if_pos (by decide), sizeAt_D d1 hn z]; rfl
    · rw [if_neg (by decide), if_neg (by decide), if_pos (by decide)]
      simp (disch := omega) only [g3, J_add, J_mul, J_sub, J_dec, J_nat, J_lt, J_le, J_eq, gd_J, gz_J, gb_J, J_div, J_mod, md_back, JN, J_neN, J_Nne, J_ltN, J_Nlt, J_leN, J_Nle, N_refl, J01, J_addN, J_pred, F_X9_at, F_X9_backupAt, F_X9_fails, F_X9_thrown, Option.bind_some, if_true, if_false, Nat.add_zero, Nat.zero_add, Nat.mul_zero, Nat.zero_mul, Nat.reduceAdd, Nat.reduceMul, Nat.reduceSub, Nat.reduceEqDiff, Nat.reduceLeDiff, Nat.reduceLT, Nat.reducePow, Nat.not_lt_zero, Nat.zero_le, eq_self, not_true_eq_false, not_false_eq_true, reduceIte, L_0, L_1, L_2, L_3, L_4, L_5, L_6, L_7, L_8, L_9, L_10, L_11, L_12, L_14, L_15, L_16, L_24, L_30, L_31, L_32, L_34, L_40, L_44, L_90, L_96, L_97, L_100, L_120, L_121, L_192, L_997, L_998, L_1000, L_1270, L_10000, L_17780, L_2540, L_32768, L_16510]
  · refine ⟨J (lv (a_cs A) (a_bs A) 8 k), ?_, ?_⟩
    · rw [if_neg (by decide), if_neg (by decide), if_neg (by decide), if_pos (by decide), livingAt_D d1 d3 hn w2 z]; rfl
    · rw [if_neg (by decide), if_neg (by decide), if_neg (by decide), if_pos (by decide), e4, livingIn_M m1 m2 w1 w2 (by omega) z but_8]; rfl
  · have t1 := isThin_D d1 d3 hn w2 w1 w3 z
    have t2 := isThin_M m1 m2 w1 w3 w2 (by omega) z
    rw [if_neg (by decide), if_neg (by decide), if_neg (by decide), if_neg (by decide), if_pos (by decide), if_neg (by decide), if_neg (by decide), if_neg (by decide), if_neg (by decide), t1, t2]
    simp only [Option.bind_some]
    by_cases w : thn (a_se A) (a_cs A) (a_bs A) k = true
    · rw [if_pos w]
      refine ⟨1, ?_, ?_⟩ <;> rw [if_neg (by decide)]
    · rw [if_neg w]
      refine ⟨0, ?_, ?_⟩ <;> rw [if_pos (by decide)]
  · refine ⟨J (cp (fun b => rt (a_bs A b) (nu (a_cs A) k)) 8), ?_, ?_⟩
    · rw [if_neg (by decide), if_neg (by decide), if_neg (by decide), if_neg (by decide), if_neg (by decide), backupsRef_D d1 d2 hn w1 w2 z]; rfl
    · rw [if_pos (by decide)]
theorem containerOf_A {d : DKT} {s : Nat → Int32} {A : AT} {n : Nat} (hd : DR d A) (hm : MR s A) (hW : WF A n) (th x q : Int32) : (∃ v, F_X8_containerOf d x q = some (0, v) ∧ F_X9_containerOf th s x q = some (v, 0)) ∨ (F_X8_containerOf d x q = some (1, 0) ∧ F_X9_containerOf th s x q = some (0, 1)) ∨ (F_X8_containerOf d x q = some (2, 0) ∧ F_X9_containerOf th s x q = some (0, 2)) := by
  have hl := WF_len hW
  have hn := WF_Wn hW
  obtain ⟨f1, f2, f3⟩ := fi_spec (fun j => decide (J (nu (a_cs A) j) = x)) (a_cs A).length
  have e4 : (-1 : Int32) = NN := rfl
  unfold F_X8_containerOf F_X9_containerOf
  rw [placeOfNumber_D hd.1 hn x, slotx_M hm.1 (by omega) x]
  generalize fi (fun j => decide (J (nu (a_cs A) j) = x)) (a_cs A).length = k at *
  simp only [Option.bind_some]
  unfold RJ
  by_cases z : k < (a_cs A).length
  rotate_left
  · right; left
    rw [if_neg z, if_pos e4.symm, if_pos e4.symm]
    refine ⟨rfl, ?_⟩
    unfold F_X9_fails
    simp only [Option.bind_some]
  have hx := of_decide_eq_true (f3 z)
  have hne : ¬ J k = -1 := by rw [e4, J_neN (by omega)]; exact id
  rw [if_pos z, if_neg hne, if_neg hne]
  rw [cof_loop hm hW z x q hx.symm]
  rcases J_cases q with c | ⟨v, hv, rfl⟩
  · right; right
    have c2 := neg_toInt c
    rw [if_pos (Or.inl c2), in_neg c]
    refine ⟨rfl, ?_⟩
    unfold F_X9_fails
    simp only [Option.bind_some]
    rw [if_pos (by decide)]
  have hin : F_X9_in (J v) 0 4 = some (J (if 0 ≤ v ∧ v ≤ 4 then 1 else 0)) := in_nn (a := 0) (b := 4) hv (by omega) (by omega)
  rw [hin]
  simp only [Option.bind_some]
  by_cases c : v ≤ 4
  · left
    obtain ⟨y, y1, y2⟩ := cof_in hd hm hW z c
    refine ⟨y, y1, ?_⟩
    rw [if_pos (show 0 ≤ v ∧ v ≤ 4 by omega), if_neg (by decide)]
    exact y2
  · right; right
    rw [if_pos (Or.inr (by rw [J_toInt hv]; omega)), if_neg (show ¬ (0 ≤ v ∧ v ≤ 4) by omega), if_pos (show J 0 = 0 from rfl)]
    refine ⟨rfl, ?_⟩
    unfold F_X9_fails
    simp only [Option.bind_some]
theorem i_containerOf {n : Nat} {st : STT} {q1 q2 q3 : Int32} (h : Inv n st) : ∃ st', F_T_containerOf st q1 q2 q3 = some st' ∧ Inv (n + 1) st' := by
  obtain ⟨A, H, Sl, h1, h2, h3, h4, h5⟩ := id h
  unfold F_T_containerOf F_X9_thrown
  rcases containerOf_A h2 h3 h4 (md_thrown (S_md st)) q1 q2 with ⟨x, a1, a2⟩ | ⟨a1, a2⟩ | ⟨a1, a2⟩
  · rw [a1, a2]
    simp only [Option.bind_some]
    rw [if_pos (by decide), if_pos (by rfl), if_pos (by rfl), if_pos (by rfl)]
    exact ⟨_, rfl, Inv_SE h ⟨rfl, rfl, rfl, rfl, fun _ _ => rfl, rfl, rfl, rfl, rfl, rfl, rfl⟩⟩
  · rw [a1, a2]
    simp only [Option.bind_some]
    rw [if_pos (by decide), if_pos (by rfl), if_neg (by decide)]
    exact ⟨_, rfl, Inv_SE h ⟨rfl, rfl, rfl, rfl, fun _ _ => rfl, rfl, rfl, rfl, rfl, rfl, rfl⟩⟩
  · rw [a1, a2]
    simp only [Option.bind_some]
    rw [if_pos (by decide), if_pos (by rfl), if_neg (by decide)]
    exact ⟨_, rfl, Inv_SE h ⟨rfl, rfl, rfl, rfl, fun _ _ => rfl, rfl, rfl, rfl, rfl, rfl, rfl⟩⟩
