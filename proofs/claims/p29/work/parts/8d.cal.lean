/-! THE PURE SIDE: entry, backupOf, reference, letter, setting, worst -/
theorem entry_A {d : DKT} {s : Nat → Int32} {A : AT} {n : Nat} (hd : DR d A) (hm : MR s A) (hW : WF A n) (th x q r : Int32) : (∃ v, F_X8_entry d x q r = some (0, v) ∧ F_X9_entry th s x q r = some (v, 0)) ∨ (F_X8_entry d x q r = some (1, 0) ∧ F_X9_entry th s x q r = some (0, 1)) ∨ (F_X8_entry d x q r = some (2, 0) ∧ F_X9_entry th s x q r = some (0, 2)) := by
  have hl := WF_len hW
  have hn := WF_Wn hW
  obtain ⟨d1, d2, d3, d4⟩ := hd
  obtain ⟨m1, m2, m3⟩ := hm
  obtain ⟨w1, w2, w3, w4, w5, w6⟩ := hW
  obtain ⟨f1, f2, f3⟩ := fi_spec (fun j => decide (J (nu (a_cs A) j) = x)) (a_cs A).length
  have e4 : (-1 : Int32) = NN := rfl
  have j41 : J_X9_entry_41 () = some (0, 1) := rfl
  unfold F_X8_entry F_X9_entry
  rw [placeOfNumber_D d1 hn x, slotx_M m1 (by omega) x, j41]
  generalize fi (fun j => decide (J (nu (a_cs A) j) = x)) (a_cs A).length = k at *
  simp only [Option.bind_some]
  unfold RJ
  by_cases z : k < (a_cs A).length
  rotate_left
  · right; left
    rw [if_neg z, if_pos e4.symm, if_pos e4.symm]
    exact ⟨rfl, rfl⟩
  have hx := of_decide_eq_true (f3 z)
  have hne : ¬ J k = -1 := by rw [e4, J_neN (by omega)]; exact id
  have hnu := Wc_nu w1 z
  obtain ⟨g1, g2, g3, g4⟩ := m1.2.2.2 k z
  obtain ⟨k1, k2, k3, k4, k5, k6⟩ := w1.2.1 k z
  have hin := st_in (a_cs A) z
  have hn2 := hn.2
  have hm1 : s (Int32.toNatClampNeg (8 + 11 * J k + 2)) - 1 = J (si (a_cs A) k - 1) := by simp (disch := omega) only [g3, J_add, J_mul, J_sub, J_dec, J_nat, J_lt, J_le, J_eq, gd_J, gz_J, gb_J, J_div, J_mod, md_back, JN, J_neN, J_Nne, J_ltN, J_Nlt, J_leN, J_Nle, N_refl, J01, J_addN, J_pred, F_X9_at, F_X9_backupAt, F_X9_fails, F_X9_thrown, Option.bind_some, if_true, if_false, Nat.add_zero, Nat.zero_add, Nat.mul_zero, Nat.zero_mul, Nat.reduceAdd, Nat.reduceMul, Nat.reduceSub, Nat.reduceEqDiff, Nat.reduceLeDiff, Nat.reduceLT, Nat.reducePow, Nat.not_lt_zero, Nat.zero_le, eq_self, not_true_eq_false, not_false_eq_true, reduceIte, L_0, L_1, L_2, L_3, L_4, L_5, L_6, L_7, L_8, L_9, L_10, L_11, L_12, L_14, L_15, L_16, L_24, L_30, L_31, L_32, L_34, L_40, L_44, L_90, L_96, L_97, L_100, L_120, L_121, L_192, L_997, L_998, L_1000, L_1270, L_10000, L_17780, L_2540, L_32768, L_16510]
  have hg : ∀ (z : Option (Int32 × Int32)), gd (8 + 11 * J k + 2) 1270 z = z := fun z => by simp (disch := omega) only [J_add, J_mul, J_sub, J_dec, J_nat, J_lt, J_le, J_eq, gd_J, gz_J, gb_J, J_div, J_mod, md_back, JN, J_neN, J_Nne, J_ltN, J_Nlt, J_leN, J_Nle, N_refl, J01, J_addN, J_pred, F_X9_at, F_X9_backupAt, F_X9_fails, F_X9_thrown, Option.bind_some, if_true, if_false, Nat.add_zero, Nat.zero_add, Nat.mul_zero, Nat.zero_mul, Nat.reduceAdd, Nat.reduceMul, Nat.reduceSub, Nat.reduceEqDiff, Nat.reduceLeDiff, Nat.reduceLT, Nat.reducePow, Nat.not_lt_zero, Nat.zero_le, eq_self, not_true_eq_false, not_false_eq_true, reduceIte, L_0, L_1, L_2, L_3, L_4, L_5, L_6, L_7, L_8, L_9, L_10, L_11, L_12, L_14, L_15, L_16, L_24, L_30, L_31, L_32, L_34, L_40, L_44, L_90, L_96, L_97, L_100, L_120, L_121, L_192, L_997, L_998, L_1000, L_1270, L_10000, L_17780, L_2540, L_32768, L_16510]
  rw [if_pos z, if_neg hne, if_neg hne, sizeAt_D d1 hn z]
  unfold F_X9_at
  simp only [Option.bind_some]
  rw [hg, hm1]
  rcases J_cases q with c | ⟨e, he, rfl⟩
  · right; left
    rw [if_pos c, in_neg c]
    refine ⟨rfl, ?_⟩
    simp only [Option.bind_some]
    rw [if_pos (show J 0 = 0 from rfl)]
  have hq0 : ¬ J e < 0 := J_neg he
  have hin2 : F_X9_in (J e) 0 (J (si (a_cs A) k - 1)) = some (J (if 0 ≤ e ∧ e ≤ si (a_cs A) k - 1 then 1 else 0)) := in_nn (a := 0) he (by omega) (by omega)
  rw [if_neg hq0, hin2]
  simp only [Option.bind_some]
  by_cases y : e < si (a_cs A) k
  rotate_left
  · right; left
    rw [if_neg (show ¬ J e < J (si (a_cs A) k) by rw [J_lt he (by omega)]; exact y), if_neg (show ¬ (0 ≤ e ∧ e ≤ si (a_cs A) k - 1) by omega), if_pos (show J 0 = 0 from rfl)]
    exact ⟨rfl, rfl⟩
  rw [if_pos (show J e < J (si (a_cs A) k) by rw [J_lt he (by omega)]; exact y), if_pos (show 0 ≤ e ∧ e ≤ si (a_cs A) k - 1 by omega), if_neg (show ¬ J 1 = 0 by decide), firstEntryAt_D d1 hn (by omega)]
  simp only [Option.bind_some]
  rw [J_add]
  rcases J_cases r with c | ⟨v, hv, rfl⟩
  · right; right
    have c2 := neg_toInt c
    rw [if_pos (Or.inl c2), in_neg c]
    refine ⟨rfl, ?_⟩
    simp only [Option.bind_some]
    rw [if_pos (show J 0 = 0 from rfl)]
    rfl
  have hin3 : F_X9_in (J v) 0 3 = some (J (if 0 ≤ v ∧ v ≤ 3 then 1 else 0)) := in_nn (a := 0) (b := 3) hv (by omega) (by omega)
  rw [hin3]
  simp only [Option.bind_some]
  by_cases c : v ≤ 3
  rotate_left
  · right; right
    rw [if_pos (Or.inr (by rw [J_toInt hv]; omega)), if_neg (show ¬ (0 ≤ v ∧ v ≤ 3) by omega), if_pos (show J 0 = 0 from rfl)]
    exact ⟨rfl, rfl⟩
  left
  rw [if_pos (show 0 ≤ v ∧ v ≤ 3 by omega), if_neg (show ¬ J 1 = 0 by decide)]
  have hcode := codeOf_D d1 hn (e := st (a_cs A) k + e) (by omega)
  rw [cf_at z y] at hcode
  have hg2 : ∀ (z : Option (Int32 × Int32)), gd (8 + 11 * J k + 3 + J e) 1270 z = z := fun z => by simp (disch := omega) only [J_add, J_mul, J_sub, J_dec, J_nat, J_lt, J_le, J_eq, gd_J, gz_J, gb_J, J_div, J_mod, md_back, JN, J_neN, J_Nne, J_ltN, J_Nlt, J_leN, J_Nle, N_refl, J01, J_addN, J_pred, F_X9_at, F_X9_backupAt, F_X9_fails, F_X9_thrown, Option.bind_some, if_true, if_false, Nat.add_zero, Nat.zero_add, Nat.mul_zero, Nat.zero_mul, Nat.reduceAdd, Nat.reduceMul, Nat.reduceSub, Nat.reduceEqDiff, Nat.reduceLeDiff, Nat.reduceLT, Nat.reducePow, Nat.not_lt_zero, Nat.zero_le, eq_self, not_true_eq_false, not_false_eq_true, reduceIte, L_0, L_1, L_2, L_3, L_4, L_5, L_6, L_7, L_8, L_9, L_10, L_11, L_12, L_14, L_15, L_16, L_24, L_30, L_31, L_32, L_34, L_40, L_44, L_90, L_96, L_97, L_100, L_120, L_121, L_192, L_997, L_998, L_1000, L_1270, L_10000, L_17780, L_2540, L_32768, L_16510]
  have hs : s (Int32.toNatClampNeg (8 + 11 * J k + 3 + J e)) = J (c9 (ch (a_cs A) k e)) := by simp (disch := omega) only [g4 e y, J_add, J_mul, J_sub, J_dec, J_nat, J_lt, J_le, J_eq, gd_J, gz_J, gb_J, J_div, J_mod, md_back, JN, J_neN, J_Nne, J_ltN, J_Nlt, J_leN, J_Nle, N_refl, J01, J_addN, J_pred, F_X9_at, F_X9_backupAt, F_X9_fails, F_X9_thrown, Option.bind_some, if_true, if_false, Nat.add_zero, Nat.zero_add, Nat.mul_zero, Nat.zero_mul, Nat.reduceAdd, Nat.reduceMul, Nat.reduceSub, Nat.reduceEqDiff, Nat.reduceLeDiff, Nat.reduceLT, Nat.reducePow, Nat.not_lt_zero, Nat.zero_le, eq_self, not_true_eq_false, not_false_eq_true, reduceIte, L_0, L_1, L_2, L_3, L_4, L_5, L_6, L_7, L_8, L_9, L_10, L_11, L_12, L_14, L_15, L_16, L_24, L_30, L_31, L_32, L_34, L_40, L_44, L_90, L_96, L_97, L_100, L_120, L_121, L_192, L_997, L_998, L_1000, L_1270, L_10000, L_17780, L_2540, L_32768, L_16510]
  have hv2 := k6 e y
  rw [hg2, hs]
  rcases (show v = 0 ∨ v = 1 ∨ v = 2 ∨ v = 3 by omega) with rfl | rfl | rfl | rfl
  · refine ⟨J (ch (a_cs A) k e).length, ?_, ?_⟩
    · rw [if_neg (by decide), if_pos (by decide), hcode]
      simp only [Option.bind_some]
      rw [count_J hv2]
      rfl
    · rw [if_neg (by decide), if_pos (by decide), lengthOf_J hv2]
      rfl
  · refine ⟨J (sc (ch (a_cs A) k e)), ?_, ?_⟩
    · rw [if_neg (by decide), if_neg (by decide), if_pos (by decide), hcode]
      simp only [Option.bind_some]
      rw [sum_J hv2]
      rfl
    · rw [if_neg (by decide), if_neg (by decide), if_pos (by decide), sumOf_J hv2]
      rfl
  · refine ⟨J (cnt (a_bs A) 8 (nu (a_cs A) k, e)), ?_, ?_⟩
    · rw [if_neg (by decide), if_neg (by decide), if_neg (by decide), if_pos (by decide), usesOf_D d1 d3 hn z y]
      rfl
    · rw [if_neg (by decide), if_neg (by decide), if_neg (by decide), ← hx, e4, refsBut_M m2 w1 w2 (by omega) (by omega) but_8]
      rfl
  · obtain ⟨w, q1, q2, q3⟩ := vl_at hv2.2.2 (m := 0) (by have := hv2.1; omega)
    have e0 : (0 : Int32) = J 0 := rfl
    refine ⟨J (96 + w), ?_, ?_⟩
    · rw [if_neg (by decide), if_neg (by decide), if_neg (by decide), if_neg (by decide), hcode]
      simp only [Option.bind_some]
      rw [show F_X2_sign (J (c8 (ch (a_cs A) k e))) 0 = some (J (96 + w)) from sign_J hv2 q1]
      rfl
    · rw [if_pos (by decide), show F_X9_worthAt (J (c9 (ch (a_cs A) k e))) 0 = some (J w) from worthAt_J hv2 q1]
      simp (disch := omega) only [J_add, J_mul, J_sub, J_dec, J_nat, J_lt, J_le, J_eq, gd_J, gz_J, gb_J, J_div, J_mod, md_back, JN, J_neN, J_Nne, J_ltN, J_Nlt, J_leN, J_Nle, N_refl, J01, J_addN, J_pred, F_X9_at, F_X9_backupAt, F_X9_fails, F_X9_thrown, Option.bind_some, if_true, if_false, Nat.add_zero, Nat.zero_add, Nat.mul_zero, Nat.zero_mul, Nat.reduceAdd, Nat.reduceMul, Nat.reduceSub, Nat.reduceEqDiff, Nat.reduceLeDiff, Nat.reduceLT, Nat.reducePow, Nat.not_lt_zero, Nat.zero_le, eq_self, not_true_eq_false, not_false_eq_true, reduceIte, L_0, L_1, L_2, L_3, L_4, L_5, L_6, L_7, L_8, L_9, L_10, L_11, L_12, L_14, L_15, L_16, L_24, L_30, L_31, L_32, L_34, L_40, L_44, L_90, L_96, L_97, L_100, L_120, L_121, L_192, L_997, L_998, L_1000, L_1270, L_10000, L_17780, L_2540, L_32768, L_16510]
theorem i_entry {n : Nat} {st : STT} {q1 q2 q3 : Int32} (h : Inv n st) : ∃ st', F_T_entry st q1 q2 q3 = some st' ∧ Inv (n + 1) st' := by
  obtain ⟨A, H, Sl, h1, h2, h3, h4, h5⟩ := id h
  unfold F_T_entry F_X9_thrown
  rcases entry_A h2 h3 h4 (md_thrown (S_md st)) q1 q2 q3 with ⟨x, a1, a2⟩ | ⟨a1, a2⟩ | ⟨a1, a2⟩
  · rw [a1, a2]
    simp only [Option.bind_some]
    rw [if_pos (by decide), if_pos (by rfl), if_pos (by rfl), if_pos (by rfl)]
    exact ⟨_, rfl, Inv_SE h ⟨rfl, rfl, rfl, rfl, fun _ _ => rfl, rfl, rfl, rfl, rfl, rfl, rfl⟩⟩
  · rw [a1, a2]
    simp only [Option.bind_some]
    rw [if_pos (by decide), if_pos (by rfl), if_neg (by decide)]
    exact ⟨_, rfl, Inv_SE h ⟨rfl, rfl, rfl, rfl, fun _ _ => rfl, rfl, rfl, rfl, rfl, rfl, rfl⟩⟩
  · rw [a1, a2]
    simp only [Option.bind_some]
    rw [if_pos (by decide), if_pos (by rfl), if_neg (by decide)]
    exact ⟨_, rfl, Inv_SE h ⟨rfl, rfl, rfl, rfl, fun _ _ => rfl, rfl, rfl, rfl, rfl, rfl, rfl⟩⟩
theorem setting_A {d : DKT} {s : Nat → Int32} {A : AT} {n : Nat} (hd : DR d A) (hm : MR s A) (hW : WF A n) (th q : Int32) : (∃ x, F_X8_setting d q = some (0, x) ∧ F_X9_setting th s q = some (x, 0)) ∨ (F_X8_setting d q = some (2, 0) ∧ F_X9_setting th s q = some (0, 1)) := by
  unfold F_X8_setting F_X9_setting
  rcases J_cases q with c | ⟨k, hk, rfl⟩
  · right
    rw [if_pos c, in_neg c]
    refine ⟨rfl, ?_⟩
    simp only [Option.bind_some]
    rw [if_pos (show J 0 = 0 from rfl)]
    rfl
  have hin3 : F_X9_in (J k) 0 4 = some (J (if 0 ≤ k ∧ k ≤ 4 then 1 else 0)) := in_nn (a := 0) (b := 4) hk (by omega) (by omega)
  rw [if_neg (J_neg hk), hin3]
  simp only [Option.bind_some]
  by_cases c : k < 5
  · left
    refine ⟨J (a_se A k), ?_, ?_⟩
    · rw [if_pos (show J k < 5 from (J_lt (b := 5) hk (by omega)).mpr c), settingAt_D hd.1 c]
      rfl
    · rw [if_pos (show 0 ≤ k ∧ k ≤ 4 by omega), if_neg (show ¬ J 1 = 0 by decide)]
      simp (disch := omega) only [hm.1.1 k c, J_add, J_mul, J_sub, J_dec, J_nat, J_lt, J_le, J_eq, gd_J, gz_J, gb_J, J_div, J_mod, md_back, JN, J_neN, J_Nne, J_ltN, J_Nlt, J_leN, J_Nle, N_refl, J01, J_addN, J_pred, F_X9_at, F_X9_backupAt, F_X9_fails, F_X9_thrown, Option.bind_some, if_true, if_false, Nat.add_zero, Nat.zero_add, Nat.mul_zero, Nat.zero_mul, Nat.reduceAdd, Nat.reduceMul, Nat.reduceSub, Nat.reduceEqDiff, Nat.reduceLeDiff, Nat.reduceLT, Nat.reducePow, Nat.not_lt_zero, Nat.zero_le, eq_self, not_true_eq_false, not_false_eq_true, reduceIte, L_0, L_1, L_2, L_3, L_4, L_5, L_6, L_7, L_8, L_9, L_10, L_11, L_12, L_14, L_15, L_16, L_24, L_30, L_31, L_32, L_34, L_40, L_44, L_90, L_96, L_97, L_100, L_120, L_121, L_192, L_997, L_998, L_1000, L_1270, L_10000, L_17780, L_2540, L_32768, L_16510]
  · right
    rw [if_neg (show ¬ J k < 5 from fun z => c ((J_lt (b := 5) hk (by omega)).mp z)), if_neg (show ¬ (0 ≤ k ∧ k ≤ 4) by omega), if_pos (show J 0 = 0 from rfl)]
    exact ⟨rfl, rfl⟩
theorem i_setting {n : Nat} {st : STT} {q1 q2 q3 : Int32} (h : Inv n st) : ∃ st', F_T_setting st q1 q2 q3 = some st' ∧ Inv (n + 1) st' := by
  obtain ⟨A, H, Sl, h1, h2, h3, h4, h5⟩ := id h
  unfold F_T_setting F_X9_thrown
  rcases setting_A h2 h3 h4 (md_thrown (S_md st)) q1 with ⟨x, a1, a2⟩ | ⟨a1, a2⟩
  · rw [a1, a2]
    simp only [Option.bind_some]
    rw [if_pos (by decide), if_pos (by rfl), if_pos (by rfl), if_pos (by rfl)]
    exact ⟨_, rfl, Inv_SE h ⟨rfl, rfl, rfl, rfl, fun _ _ => rfl, rfl, rfl, rfl, rfl, rfl, rfl⟩⟩
  · rw [a1, a2]
    simp only [Option.bind_some]
    rw [if_pos (by decide), if_pos (by rfl), if_neg (by decide)]
    exact ⟨_, rfl, Inv_SE h ⟨rfl, rfl, rfl, rfl, fun _ _ => rfl, rfl, rfl, rfl, rfl, rfl, rfl⟩⟩
theorem bko_loop {s pa sto : Nat → Int32} {A : AT} {n : Nat} (hm : MR s A) (hW : WF A n) {b : Nat} (h8 : b < 8) (q : Int32) : lp (B_X9_backupOf_59 s (J (998 + 34 * b)) (J b) (K_X9_backupOf_133 q pa sto s (J (998 + 34 * b)) (J b))) FU (0, 0, 0) = K_X9_backupOf_133 q pa sto s (J (998 + 34 * b)) (J b) (J (sm (fun i => (cr (a_cs A) (rf (a_bs A b) i)).length) (a_bs A b).length), J (jp (fun i => (rf (a_bs A b) i).1) (a_bs A b).length)) := by
  have hl := WF_len hW
  obtain ⟨m1, m2, m3⟩ := hm
  obtain ⟨w1, w2, w3, w4, w5, w6⟩ := hW
  obtain ⟨g1, g2, g3⟩ := m2 b h8
  obtain ⟨v1, v2⟩ := w2 b h8
  refine lp_run (fun i => (J (sm (fun i => (cr (a_cs A) (rf (a_bs A b) i)).length) i), J (jp (fun i => (rf (a_bs A b) i).1) i), J i)) (a_bs A b).length (fun self i hi => ?_) (fun self => ?_) (by unfold FU; omega)
  · obtain ⟨y1, y2⟩ := g3 i hi
    have hsi := RV_small w1 (v2 i hi)
    rw [sm_step]
    unfold jp
    rw [cp_step]
    unfold B_X9_backupOf_59
    by_cases z : 0 < i
    · obtain ⟨y3, y4⟩ := g3 (i - 1) (by omega)
      have hsj := RV_small w1 (v2 (i - 1) (by omega))
      have e1 : 998 + 34 * b + 2 + 2 * i - 2 = 998 + 34 * b + 2 + 2 * (i - 1) := by omega
      simp (disch := omega) only [g2, referred_M m1 m2 w1 w2 (show (a_cs A).length ≤ 92 by omega) h8 hi, lengthOf_J (cr_v w1 (v2 i hi)), y1, e1, y3, J_add, J_mul, J_sub, J_dec, J_nat, J_lt, J_le, J_eq, gd_J, gz_J, gb_J, J_div, J_mod, md_back, JN, J_neN, J_Nne, J_ltN, J_Nlt, J_leN, J_Nle, N_refl, J01, J_addN, J_pred, F_X9_at, F_X9_backupAt, F_X9_fails, F_X9_thrown, Option.bind_some, if_true, if_false, Nat.add_zero, Nat.zero_add, Nat.mul_zero, Nat.zero_mul, Nat.reduceAdd, Nat.reduceMul, Nat.reduceSub, Nat.reduceEqDiff, Nat.reduceLeDiff, Nat.reduceLT, Nat.reducePow, Nat.not_lt_zero, Nat.zero_le, eq_self, not_true_eq_false, not_false_eq_true, reduceIte, L_0, L_1, L_2, L_3, L_4, L_5, L_6, L_7, L_8, L_9, L_10, L_11, L_12, L_14, L_15, L_16, L_24, L_30, L_31, L_32, L_34, L_40, L_44, L_90, L_96, L_97, L_100, L_120, L_121, L_192, L_997, L_998, L_1000, L_1270, L_10000, L_17780, L_2540, L_32768, L_16510]
      rw [if_neg (by omega), if_neg (by omega)]
      by_cases w : (rf (a_bs A b) i).1 = (rf (a_bs A b) (i - 1)).1
      · rw [if_pos w, if_neg (by simp [w])]
        rfl
      · rw [if_neg w, if_pos (decide_eq_true ⟨z, w⟩)]
    · simp (disch := omega) only [g2, referred_M m1 m2 w1 w2 (show (a_cs A).length ≤ 92 by omega) h8 hi, lengthOf_J (cr_v w1 (v2 i hi)), J_add, J_mul, J_sub, J_dec, J_nat, J_lt, J_le, J_eq, gd_J, gz_J, gb_J, J_div, J_mod, md_back, JN, J_neN, J_Nne, J_ltN, J_Nlt, J_leN, J_Nle, N_refl, J01, J_addN, J_pred, F_X9_at, F_X9_backupAt, F_X9_fails, F_X9_thrown, Option.bind_some, if_true, if_false, Nat.add_zero, Nat.zero_add, Nat.mul_zero, Nat.zero_mul, Nat.reduceAdd, Nat.reduceMul, Nat.reduceSub, Nat.reduceEqDiff, Nat.reduceLeDiff, Nat.reduceLT, Nat.reducePow, Nat.not_lt_zero, Nat.zero_le, eq_self, not_true_eq_false, not_false_eq_true, reduceIte, L_0, L_1, L_2, L_3, L_4, L_5, L_6, L_7, L_8, L_9, L_10, L_11, L_12, L_14, L_15, L_16, L_24, L_30, L_31, L_32, L_34, L_40, L_44, L_90, L_96, L_97, L_100, L_120, L_121, L_192, L_997, L_998, L_1000, L_1270, L_10000, L_17780, L_2540, L_32768, L_16510]
      rw [if_neg (by omega), if_pos (by omega), if_neg (by simp; omega)]
      rfl
  · unfold B_X9_backupOf_59
    simp (disch := omega) only [g2, Nat.le_refl, J_add, J_mul, J_sub, J_dec, J_nat, J_lt, J_le, J_eq, gd_J, gz_J, gb_J, J_div, J_mod, md_back, JN, J_neN, J_Nne, J_ltN, J_Nlt, J_leN, J_Nle, N_refl, J01, J_addN, J_pred, F_X9_at, F_X9_backupAt, F_X9_fails, F_X9_thrown, Option.bind_some, if_true, if_false, Nat.add_zero, Nat.zero_add, Nat.mul_zero, Nat.zero_mul, Nat.reduceAdd, Nat.reduceMul, Nat.reduceSub, Nat.reduceEqDiff, Nat.reduceLeDiff, Nat.reduceLT, Nat.reducePow, Nat.not_lt_zero, Nat.zero_le, eq_self, not_true_eq_false, not_false_eq_true, reduceIte, L_0, L_1, L_2, L_3, L_4, L_5, L_6, L_7, L_8, L_9, L_10, L_11, L_12, L_14, L_15, L_16, L_24, L_30, L_31, L_32, L_34, L_40, L_44, L_90, L_96, L_97, L_100, L_120, L_121, L_192, L_997, L_998, L_1000, L_1270, L_10000, L_17780, L_2540, L_32768, L_16510]
theorem backupOf_A {d : DKT} {s : Nat → Int32} {A : AT} {n : Nat} (hd : DR d A) (hm : MR s A) (hW : WF A n) (so : SOT) (pa sto : Nat → Int32) (th x q : Int32) : (∃ v so' pa' sto', F_X8_backupOf d so x q = some (0, v, so') ∧ F_X9_backupOf th s pa sto x q = some (v, 0, pa', sto')) ∨ (F_X8_backupOf d so x q = some (1, 0, so) ∧ F_X9_backupOf th s pa sto x q = some (0, 1, pa, sto)) ∨ (F_X8_backupOf d so x q = some (2, 0, so) ∧ F_X9_backupOf th s pa sto x q = some (0, 2, pa, sto)) := by
  have hl := WF_len hW
  have hn := WF_Wn hW
  have hloop := fun {b : Nat} (h8 : b < 8) => bko_loop (pa := pa) (sto := sto) hm hW h8 q
  obtain ⟨d1, d2, d3, d4⟩ := hd
  obtain ⟨m1, m2, m3⟩ := hm
  obtain ⟨w1, w2, w3, w4, w5, w6⟩ := hW
  unfold F_X8_backupOf F_X9_backupOf
  rcases hasB d2 m2 w2 x with ⟨b, h8, rfl, hb1, e1, e2⟩ | ⟨e1, e2⟩
  rotate_left
  · right; left
    rw [e1, e2]
    simp only [Option.bind_some]
    rw [if_pos (show J 0 = 0 from rfl), if_pos (show J 0 = 0 from rfl)]
    exact ⟨rfl, rfl⟩
  rw [e1, e2]
  simp only [Option.bind_some]
  rw [if_neg (show ¬ J 1 = 0 by decide), if_neg (show ¬ J 1 = 0 by decide)]
  rcases J_cases q with c | ⟨v, hv, rfl⟩
  · right; right
    have c2 := neg_toInt c
    rw [if_pos (Or.inl c2), in_neg c]
    refine ⟨rfl, ?_⟩
    simp only [Option.bind_some]
    rw [if_pos (show J 0 = 0 from rfl)]
    rfl
  have hin3 : F_X9_in (J v) 0 4 = some (J (if 0 ≤ v ∧ v ≤ 4 then 1 else 0)) := in_nn (a := 0) (b := 4) hv (by omega) (by omega)
  rw [hin3]
  simp only [Option.bind_some]
  by_cases c : v ≤ 4
  rotate_left
  · right; right
    rw [if_pos (Or.inr (by rw [J_toInt hv]; omega)), if_neg (show ¬ (0 ≤ v ∧ v ≤ 4) by omega), if_pos (show J 0 = 0 from rfl)]
    exact ⟨rfl, rfl⟩
  left
  rw [if_pos (show 0 ≤ v ∧ v ≤ 4 by omega), if_neg (show ¬ J 1 = 0 by decide)]
  have hat : F_X9_backupAt (J b) = some (J (998 + 34 * b)) := by simp (disch := omega) only [J_add, J_mul, J_sub, J_dec, J_nat, J_lt, J_le, J_eq, gd_J, gz_J, gb_J, J_div, J_mod, md_back, JN, J_neN, J_Nne, J_ltN, J_Nlt, J_leN, J_Nle, N_refl, J01, J_addN, J_pred, F_X9_at, F_X9_backupAt, F_X9_fails, F_X9_thrown, Option.bind_some, if_true, if_false, Nat.add_zero, Nat.zero_add, Nat.mul_zero, Nat.zero_mul, Nat.reduceAdd, Nat.reduceMul, Nat.reduceSub, Nat.reduceEqDiff, Nat.reduceLeDiff, Nat.reduceLT, Nat.reducePow, Nat.not_lt_zero, Nat.zero_le, eq_self, not_true_eq_false, not_false_eq_true, reduceIte, L_0, L_1, L_2, L_3, L_4, L_5, L_6, L_7, L_8, L_9, L_10, L_11, L_12, L_14, L_15, L_16, L_24, L_30, L_31, L_32, L_34, L_40, L_44, L_90, L_96, L_97, L_100, L_120, L_121, L_192, L_997, L_998, L_1000, L_1270, L_10000, L_17780, L_2540, L_32768, L_16510]
  have hg : ∀ (z : Option (Int32 × Int32 × (Nat → Int32) × (Nat → Int32))), gd (J (998 + 34 * b) + 1) 1270 z = z := fun z => by simp (disch := omega) only [J_add, J_mul, J_sub, J_dec, J_nat, J_lt, J_le, J_eq, gd_J, gz_J, gb_J, J_div, J_mod, md_back, JN, J_neN, J_Nne, J_ltN, J_Nlt, J_leN, J_Nle, N_refl, J01, J_addN, J_pred, F_X9_at, F_X9_backupAt, F_X9_fails, F_X9_thrown, Option.bind_some, if_true, if_false, Nat.add_zero, Nat.zero_add, Nat.mul_zero, Nat.zero_mul, Nat.reduceAdd, Nat.reduceMul, Nat.reduceSub, Nat.reduceEqDiff, Nat.reduceLeDiff, Nat.reduceLT, Nat.reducePow, Nat.not_lt_zero, Nat.zero_le, eq_self, not_true_eq_false, not_false_eq_true, reduceIte, L_0, L_1, L_2, L_3, L_4, L_5, L_6, L_7, L_8, L_9, L_10, L_11, L_12, L_14, L_15, L_16, L_24, L_30, L_31, L_32, L_34, L_40, L_44, L_90, L_96, L_97, L_100, L_120, L_121, L_192, L_997, L_998, L_1000, L_1270, L_10000, L_17780, L_2540, L_32768, L_16510]
  rw [hat]
  simp only [Option.bind_some]
  rw [hg, hloop h8]
  obtain ⟨g1, g2, g3⟩ := m2 b h8
  unfold K_X9_backupOf_133
  rcases (show v = 0 ∨ v = 1 ∨ v = 2 ∨ v = 3 ∨ v = 4 by omega) with rfl | rfl | rfl | rfl | rfl
  · refine ⟨J (a_bs A b).length, so, pa, sto, ?_, ?_⟩
    · rw [if_neg (by decide), if_pos (by decide), chunksOf_D d2 w2 h8]
      rfl
    · rw [if_neg (by decide), if_pos (by decide)]
      simp (disch := omega) only [g2, J_add, J_mul, J_sub, J_dec, J_nat, J_lt, J_le, J_eq, gd_J, gz_J, gb_J, J_div, J_mod, md_back, JN, J_neN, J_Nne, J_ltN, J_Nlt, J_leN, J_Nle, N_refl, J01, J_addN, J_pred, F_X9_at, F_X9_backupAt, F_X9_fails, F_X9_thrown, Option.bind_some, if_true, if_false, Nat.add_zero, Nat.zero_add, Nat.mul_zero, Nat.zero_mul, Nat.reduceAdd, Nat.reduceMul, Nat.reduceSub, Nat.reduceEqDiff, Nat.reduceLeDiff, Nat.reduceLT, Nat.reducePow, Nat.not_lt_zero, Nat.zero_le, eq_self, not_true_eq_false, not_false_eq_true, reduceIte, L_0, L_1, L_2, L_3, L_4, L_5, L_6, L_7, L_8, L_9, L_10, L_11, L_12, L_14, L_15, L_16, L_24, L_30, L_31, L_32, L_34, L_40, L_44, L_90, L_96, L_97, L_100, L_120, L_121, L_192, L_997, L_998, L_1000, L_1270, L_10000, L_17780, L_2540, L_32768, L_16510]
  · refine ⟨J (sm (fun i => (cr (a_cs A) (rf (a_bs A b) i)).length) (a_bs A b).length), so, pa, sto, ?_, ?_⟩
    · rw [if_neg (by decide), if_neg (by decide), if_pos (by decide), lettersOf_D d1 d2 hn w1 w2 h8]
      rfl
    · rw [if_neg (by decide), if_neg (by decide), if_pos (by decide)]
  · refine ⟨J (cp (fun k => rt (a_bs A b) (nu (a_cs A) k)) (a_cs A).length), so, pa, sto, ?_, ?_⟩
    · rw [if_neg (by decide), if_neg (by decide), if_neg (by decide), if_pos (by decide), containersOf_D d1 d2 hn w1 w2 h8]
      rfl
    · rw [if_neg (by decide), if_neg (by decide), if_neg (by decide), if_pos (by decide), containersOf_M m1 m2 w1 w2 (by omega) h8]
      rfl
  · obtain ⟨so', l1, l2⟩ := loads_D (s := so) d1 d2 hn w1 w2 w3 h8
    obtain ⟨pa', sto', l3⟩ := loadsOf_M (pa := pa) (sto := sto) m1 m2 w1 w2 w3 h8
    rw [(ur_bk w1 w2 h8 (a_se A 4)).1] at l1
    refine ⟨J (ur (a_se A 4) (fun i => (rf (a_bs A b) i).1) (a_bs A b).length).2.2, so', pa', sto', ?_, ?_⟩
    rotate_left
    · rw [if_neg (by decide), if_neg (by decide), if_neg (by decide), if_neg (by decide), l3]
      rfl
    · rw [if_neg (by decide), if_neg (by decide), if_neg (by decide), if_neg (by decide), if_pos (by decide), l1]
      rfl
  · obtain ⟨so', l1, l2⟩ := loads_D (s := so) d1 d2 hn w1 w2 w3 h8
    rw [(ur_bk w1 w2 h8 (a_se A 4)).2] at l2
    refine ⟨J (jp (fun i => (rf (a_bs A b) i).1) (a_bs A b).length), so', pa, sto, ?_, ?_⟩
    · rw [if_neg (by decide), if_neg (by decide), if_neg (by decide), if_neg (by decide), if_neg (by decide), l2]
      rfl
    · rw [if_pos (by decide)]
theorem i_backupOf {n : Nat} {st : STT} {q1 q2 q3 : Int32} (h : Inv n st) : ∃ st', F_T_backupOf st q1 q2 q3 = some st' ∧ Inv (n + 1) st' := by
  obtain ⟨A, H, Sl, h1, h2, h3, h4, h5⟩ := id h
  unfold F_T_backupOf F_X9_thrown
  rcases backupOf_A h2 h3 h4 (S_store st) (md_path (S_md st)) (md_store (S_md st)) (md_thrown (S_md st)) q1 q2 with ⟨x, so', pa', sto', a1, a2⟩ | ⟨a1, a2⟩ | ⟨a1, a2⟩
  · rw [a1, a2]
    simp only [Option.bind_some]
    rw [if_pos (by decide), if_pos (by rfl), if_pos (by rfl), if_pos (by rfl)]
    exact ⟨_, rfl, Inv_SE h ⟨rfl, rfl, rfl, rfl, fun _ _ => rfl, rfl, rfl, rfl, rfl, rfl, rfl⟩⟩
  · rw [a1, a2]
    simp only [Option.bind_some]
    rw [if_pos (by decide), if_pos (by rfl), if_neg (by decide)]
    exact ⟨_, rfl, Inv_SE h ⟨rfl, rfl, rfl, rfl, fun _ _ => rfl, rfl, rfl, rfl, rfl, rfl, rfl⟩⟩
  · rw [a1, a2]
    simp only [Option.bind_some]
    rw [if_pos (by decide), if_pos (by rfl), if_neg (by decide)]
    exact ⟨_, rfl, Inv_SE h ⟨rfl, rfl, rfl, rfl, fun _ _ => rfl, rfl, rfl, rfl, rfl, rfl, rfl⟩⟩
theorem reference_A {d : DKT} {s : Nat → Int32} {A : AT} {n : Nat} (hd : DR d A) (hm : MR s A) (hW : WF A n) (th x q r : Int32) : (∃ v, F_X8_reference d x q r = some (0, v) ∧ F_X9_reference th s x q r = some (v, 0)) ∨ (F_X8_reference d x q r = some (1, 0) ∧ F_X9_reference th s x q r = some (0, 1)) ∨ (F_X8_reference d x q r = some (2, 0) ∧ F_X9_reference th s x q r = some (0, 2)) := by
  have hl := WF_len hW
  have hn := WF_Wn hW
  obtain ⟨d1, d2, d3, d4⟩ := hd
  obtain ⟨m1, m2, m3⟩ := hm
  obtain ⟨w1, w2, w3, w4, w5, w6⟩ := hW
  have j32 : J_X9_reference_32 () = some (0, 2) := rfl
  unfold F_X8_reference F_X9_reference
  rw [j32]
  rcases hasB d2 m2 w2 x with ⟨b, h8, rfl, hb1, e1, e2⟩ | ⟨e1, e2⟩
  rotate_left
  · right; left
    rw [e1, e2]
    simp only [Option.bind_some]
    rw [if_pos (show J 0 = 0 from rfl), if_pos (show J 0 = 0 from rfl)]
    exact ⟨rfl, rfl⟩
  rw [e1, e2]
  simp only [Option.bind_some]
  rw [if_neg (show ¬ J 1 = 0 by decide), if_neg (show ¬ J 1 = 0 by decide)]
  obtain ⟨g1, g2, g3⟩ := m2 b h8
  obtain ⟨v1, v2⟩ := w2 b h8
  rcases J_cases q with c | ⟨i, hi31, rfl⟩
  · right; right
    rw [if_pos c, if_pos c]
    exact ⟨rfl, rfl⟩
  rw [if_neg (J_neg hi31), if_neg (J_neg hi31)]
  rcases J_cases r with c | ⟨v, hv, rfl⟩
  · right; right
    rw [if_pos c, in_neg c]
    refine ⟨rfl, ?_⟩
    simp only [Option.bind_some]
    rw [if_pos (show J 0 = 0 from rfl)]
  have hin3 : F_X9_in (J v) 0 1 = some (J (if 0 ≤ v ∧ v ≤ 1 then 1 else 0)) := in_nn (a := 0) (b := 1) hv (by omega) (by omega)
  rw [if_neg (J_neg hv), hin3]
  simp only [Option.bind_some]
  by_cases c : v ≤ 1
  rotate_left
  · right; right
    rw [if_neg (show ¬ J v ≤ 1 from fun z => c ((J_le (b := 1) hv (by omega)).mp z)), if_neg (show ¬ (0 ≤ v ∧ v ≤ 1) by omega), if_pos (show J 0 = 0 from rfl)]
    exact ⟨rfl, rfl⟩
  left
  rw [if_pos (show J v ≤ 1 from (J_le (b := 1) hv (by omega)).mpr c), if_pos (show 0 ≤ v ∧ v ≤ 1 by omega), if_neg (show ¬ J 1 = 0 by decide)]
  by_cases z : i < (a_bs A b).length
  rotate_left
  · refine ⟨NN, ?_, ?_⟩
    · unfold F_X1_entryReferred
      simp (disch := omega) only [chunksOf_D d2 w2 h8, J_add, J_mul, J_sub, J_dec, J_nat, J_lt, J_le, J_eq, gd_J, gz_J, gb_J, J_div, J_mod, md_back, JN, J_neN, J_Nne, J_ltN, J_Nlt, J_leN, J_Nle, N_refl, J01, J_addN, J_pred, F_X9_at, F_X9_backupAt, F_X9_fails, F_X9_thrown, Option.bind_some, if_true, if_false, Nat.add_zero, Nat.zero_add, Nat.mul_zero, Nat.zero_mul, Nat.reduceAdd, Nat.reduceMul, Nat.reduceSub, Nat.reduceEqDiff, Nat.reduceLeDiff, Nat.reduceLT, Nat.reducePow, Nat.not_lt_zero, Nat.zero_le, eq_self, not_true_eq_false, not_false_eq_true, reduceIte, L_0, L_1, L_2, L_3, L_4, L_5, L_6, L_7, L_8, L_9, L_10, L_11, L_12, L_14, L_15, L_16, L_24, L_30, L_31, L_32, L_34, L_40, L_44, L_90, L_96, L_97, L_100, L_120, L_121, L_192, L_997, L_998, L_1000, L_1270, L_10000, L_17780, L_2540, L_32768, L_16510]
      rw [if_neg z]
      simp (disch := omega) only [J_add, J_mul, J_sub, J_dec, J_nat, J_lt, J_le, J_eq, gd_J, gz_J, gb_J, J_div, J_mod, md_back, JN, J_neN, J_Nne, J_ltN, J_Nlt, J_leN, J_Nle, N_refl, J01, J_addN, J_pred, F_X9_at, F_X9_backupAt, F_X9_fails, F_X9_thrown, Option.bind_some, if_true, if_false, Nat.add_zero, Nat.zero_add, Nat.mul_zero, Nat.zero_mul, Nat.reduceAdd, Nat.reduceMul, Nat.reduceSub, Nat.reduceEqDiff, Nat.reduceLeDiff, Nat.reduceLT, Nat.reducePow, Nat.not_lt_zero, Nat.zero_le, eq_self, not_true_eq_false, not_false_eq_true, reduceIte, L_0, L_1, L_2, L_3, L_4, L_5, L_6, L_7, L_8, L_9, L_10, L_11, L_12, L_14, L_15, L_16, L_24, L_30, L_31, L_32, L_34, L_40, L_44, L_90, L_96, L_97, L_100, L_120, L_121, L_192, L_997, L_998, L_1000, L_1270, L_10000, L_17780, L_2540, L_32768, L_16510]
    · simp (disch := omega) only [g2, J_add, J_mul, J_sub, J_dec, J_nat, J_lt, J_le, J_eq, gd_J, gz_J, gb_J, J_div, J_mod, md_back, JN, J_neN, J_Nne, J_ltN, J_Nlt, J_leN, J_Nle, N_refl, J01, J_addN, J_pred, F_X9_at, F_X9_backupAt, F_X9_fails, F_X9_thrown, Option.bind_some, if_true, if_false, Nat.add_zero, Nat.zero_add, Nat.mul_zero, Nat.zero_mul, Nat.reduceAdd, Nat.reduceMul, Nat.reduceSub, Nat.reduceEqDiff, Nat.reduceLeDiff, Nat.reduceLT, Nat.reducePow, Nat.not_lt_zero, Nat.zero_le, eq_self, not_true_eq_false, not_false_eq_true, reduceIte, L_0, L_1, L_2, L_3, L_4, L_5, L_6, L_7, L_8, L_9, L_10, L_11, L_12, L_14, L_15, L_16, L_24, L_30, L_31, L_32, L_34, L_40, L_44, L_90, L_96, L_97, L_100, L_120, L_121, L_192, L_997, L_998, L_1000, L_1270, L_10000, L_17780, L_2540, L_32768, L_16510]
      rw [if_pos (by omega)]
  obtain ⟨y1, y2⟩ := g3 i z
  obtain ⟨p1, p2, p3⟩ := pl_RV w1 (v2 i z)
  obtain ⟨x1, x2, x3, x4⟩ := ex_in w1 (v2 i z)
  have hn2 := hn.2
  rcases (show v = 0 ∨ v = 1 by omega) with rfl | rfl
  · refine ⟨J (rf (a_bs A b) i).1, ?_, ?_⟩
    · simp (disch := omega) only [entryReferred_D d2 w2 h8 z, placeRef_D d1 hn w1 (v2 i z), numberAt_D d1 hn p1, p2, J_add, J_mul, J_sub, J_dec, J_nat, J_lt, J_le, J_eq, gd_J, gz_J, gb_J, J_div, J_mod, md_back, JN, J_neN, J_Nne, J_ltN, J_Nlt, J_leN, J_Nle, N_refl, J01, J_addN, J_pred, F_X9_at, F_X9_backupAt, F_X9_fails, F_X9_thrown, Option.bind_some, if_true, if_false, Nat.add_zero, Nat.zero_add, Nat.mul_zero, Nat.zero_mul, Nat.reduceAdd, Nat.reduceMul, Nat.reduceSub, Nat.reduceEqDiff, Nat.reduceLeDiff, Nat.reduceLT, Nat.reducePow, Nat.not_lt_zero, Nat.zero_le, eq_self, not_true_eq_false, not_false_eq_true, reduceIte, L_0, L_1, L_2, L_3, L_4, L_5, L_6, L_7, L_8, L_9, L_10, L_11, L_12, L_14, L_15, L_16, L_24, L_30, L_31, L_32, L_34, L_40, L_44, L_90, L_96, L_97, L_100, L_120, L_121, L_192, L_997, L_998, L_1000, L_1270, L_10000, L_17780, L_2540, L_32768, L_16510]
    · simp (disch := omega) only [g2, y1, J_add, J_mul, J_sub, J_dec, J_nat, J_lt, J_le, J_eq, gd_J, gz_J, gb_J, J_div, J_mod, md_back, JN, J_neN, J_Nne, J_ltN, J_Nlt, J_leN, J_Nle, N_refl, J01, J_addN, J_pred, F_X9_at, F_X9_backupAt, F_X9_fails, F_X9_thrown, Option.bind_some, if_true, if_false, Nat.add_zero, Nat.zero_add, Nat.mul_zero, Nat.zero_mul, Nat.reduceAdd, Nat.reduceMul, Nat.reduceSub, Nat.reduceEqDiff, Nat.reduceLeDiff, Nat.reduceLT, Nat.reducePow, Nat.not_lt_zero, Nat.zero_le, eq_self, not_true_eq_false, not_false_eq_true, reduceIte, L_0, L_1, L_2, L_3, L_4, L_5, L_6, L_7, L_8, L_9, L_10, L_11, L_12, L_14, L_15, L_16, L_24, L_30, L_31, L_32, L_34, L_40, L_44, L_90, L_96, L_97, L_100, L_120, L_121, L_192, L_997, L_998, L_1000, L_1270, L_10000, L_17780, L_2540, L_32768, L_16510]
      rw [if_neg (by omega)]
  · refine ⟨J (rf (a_bs A b) i).2, ?_, ?_⟩
    · simp (disch := omega) only [entryReferred_D d2 w2 h8 z, placeRef_D d1 hn w1 (v2 i z), firstEntryAt_D d1 hn (show pl (a_cs A) (rf (a_bs A b) i).1 ≤ (a_cs A).length by omega), J_add, J_mul, J_sub, J_dec, J_nat, J_lt, J_le, J_eq, gd_J, gz_J, gb_J, J_div, J_mod, md_back, JN, J_neN, J_Nne, J_ltN, J_Nlt, J_leN, J_Nle, N_refl, J01, J_addN, J_pred, F_X9_at, F_X9_backupAt, F_X9_fails, F_X9_thrown, Option.bind_some, if_true, if_false, Nat.add_zero, Nat.zero_add, Nat.mul_zero, Nat.zero_mul, Nat.reduceAdd, Nat.reduceMul, Nat.reduceSub, Nat.reduceEqDiff, Nat.reduceLeDiff, Nat.reduceLT, Nat.reducePow, Nat.not_lt_zero, Nat.zero_le, eq_self, not_true_eq_false, not_false_eq_true, reduceIte, L_0, L_1, L_2, L_3, L_4, L_5, L_6, L_7, L_8, L_9, L_10, L_11, L_12, L_14, L_15, L_16, L_24, L_30, L_31, L_32, L_34, L_40, L_44, L_90, L_96, L_97, L_100, L_120, L_121, L_192, L_997, L_998, L_1000, L_1270, L_10000, L_17780, L_2540, L_32768, L_16510]
      unfold ex
      rw [J_sub (by omega), Nat.add_sub_cancel_left]
    · simp (disch := omega) only [g2, y2, J_add, J_mul, J_sub, J_dec, J_nat, J_lt, J_le, J_eq, gd_J, gz_J, gb_J, J_div, J_mod, md_back, JN, J_neN, J_Nne, J_ltN, J_Nlt, J_leN, J_Nle, N_refl, J01, J_addN, J_pred, F_X9_at, F_X9_backupAt, F_X9_fails, F_X9_thrown, Option.bind_some, if_true, if_false, Nat.add_zero, Nat.zero_add, Nat.mul_zero, Nat.zero_mul, Nat.reduceAdd, Nat.reduceMul, Nat.reduceSub, Nat.reduceEqDiff, Nat.reduceLeDiff, Nat.reduceLT, Nat.reducePow, Nat.not_lt_zero, Nat.zero_le, eq_self, not_true_eq_false, not_false_eq_true, reduceIte, L_0, L_1, L_2, L_3, L_4, L_5, L_6, L_7, L_8, L_9, L_10, L_11, L_12, L_14, L_15, L_16, L_24, L_30, L_31, L_32, L_34, L_40, L_44, L_90, L_96, L_97, L_100, L_120, L_121, L_192, L_997, L_998, L_1000, L_1270, L_10000, L_17780, L_2540, L_32768, L_16510]
      rw [if_neg (by omega)]
theorem i_reference {n : Nat} {st : STT} {q1 q2 q3 : Int32} (h : Inv n st) : ∃ st', F_T_reference st q1 q2 q3 = some st' ∧ Inv (n + 1) st' := by
  obtain ⟨A, H, Sl, h1, h2, h3, h4, h5⟩ := id h
  unfold F_T_reference F_X9_thrown
  rcases reference_A h2 h3 h4 (md_thrown (S_md st)) q1 q2 q3 with ⟨x, a1, a2⟩ | ⟨a1, a2⟩ | ⟨a1, a2⟩
  · rw [a1, a2]
    simp only [Option.bind_some]
    rw [if_pos (by decide), if_pos (by rfl), if_pos (by rfl), if_pos (by rfl)]
    exact ⟨_, rfl, Inv_SE h ⟨rfl, rfl, rfl, rfl, fun _ _ => rfl, rfl, rfl, rfl, rfl, rfl, rfl⟩⟩
  · rw [a1, a2]
    simp only [Option.bind_some]
    rw [if_pos (by decide), if_pos (by rfl), if_neg (by decide)]
    exact ⟨_, rfl, Inv_SE h ⟨rfl, rfl, rfl, rfl, fun _ _ => rfl, rfl, rfl, rfl, rfl, rfl, rfl⟩⟩
  · rw [a1, a2]
    simp only [Option.bind_some]
    rw [if_pos (by decide), if_pos (by rfl), if_neg (by decide)]
    exact ⟨_, rfl, Inv_SE h ⟨rfl, rfl, rfl, rfl, fun _ _ => rfl, rfl, rfl, rfl, rfl, rfl, rfl⟩⟩
theorem letter_A {d : DKT} {s : Nat → Int32} {A : AT} {n : Nat} (hd : DR d A) (hm : MR s A) (hW : WF A n) (th x q : Int32) : (∃ v, F_X8_letter d x q = some (0, v) ∧ F_X9_letter th s x q = some (v, 0)) ∨ (F_X8_letter d x q = some (1, 0) ∧ F_X9_letter th s x q = some (0, 1)) ∨ (F_X8_letter d x q = some (2, 0) ∧ F_X9_letter th s x q = some (0, 2)) := by
  have hl := WF_len hW
  have hn := WF_Wn hW
  obtain ⟨d1, d2, d3, d4⟩ := hd
  obtain ⟨m1, m2, m3⟩ := hm
  obtain ⟨w1, w2, w3, w4, w5, w6⟩ := hW
  unfold F_X8_letter F_X9_letter
  rcases hasB d2 m2 w2 x with ⟨b, h8, rfl, hb1, e1, e2⟩ | ⟨e1, e2⟩
  rotate_left
  · right; left
    rw [e1, e2]
    simp only [Option.bind_some]
    rw [if_pos (show J 0 = 0 from rfl), if_pos (show J 0 = 0 from rfl)]
    exact ⟨rfl, rfl⟩
  rw [e1, e2]
  simp only [Option.bind_some]
  rw [if_neg (show ¬ J 1 = 0 by decide), if_neg (show ¬ J 1 = 0 by decide)]
  obtain ⟨g1, g2, g3⟩ := m2 b h8
  obtain ⟨v1, v2⟩ := w2 b h8
  rcases J_cases q with c | ⟨i, hi31, rfl⟩
  · right; right
    have c' : ¬ 0 ≤ q := by
      intro z
      have a := neg_toInt c
      have b := Int32.le_iff_toInt_le.mp z
      have e : (0 : Int32).toInt = 0 := rfl
      omega
    rw [if_neg c', if_neg c']
    exact ⟨rfl, rfl⟩
  left
  have c0 : (0 : Int32) ≤ J i := (J_le (a := 0) (by omega) hi31).mpr (Nat.zero_le _)
  rw [if_pos c0, if_pos c0]
  generalize hL : (fun j => (cr (a_cs A) (rf (a_bs A b) j)).length) = L
  have hLj : ∀ j, (cr (a_cs A) (rf (a_bs A b) j)).length = L j := fun j => by rw [← hL]
  obtain ⟨f1, f2, f3⟩ := fi_spec (fun j => decide (i < sm L (j + 1))) (a_bs A b).length
  have hle : ∀ j, j ≤ fi (fun j => decide (i < sm L (j + 1))) (a_bs A b).length → sm L j ≤ i := by
    intro j hj
    cases j with
    | zero => exact Nat.zero_le _
    | succ j => have := of_decide_eq_false (f2 j (by omega)); omega
  have hL6 : ∀ j, j < (a_bs A b).length → L j ≤ 6 := fun j hj => by rw [← hLj j]; exact (cr_v w1 (v2 j hj)).2.1
  generalize fi (fun j => decide (i < sm L (j + 1))) (a_bs A b).length = N at *
  have hsteps : ∀ (r8 : Option Int32) (r9 : Option (Int32 × Int32)), (∀ self, B_X1_signOf_5 d (J b) (J i) (K_X1_signOf_43 (J i)) self (J (sm L N), J N) = r8) → (∀ self, B_X9_letter_34 (J b) s K_X9_letter_69 self (J (i - sm L N), J N) = r9) → F_X1_signOf d (J b) (J i) = r8 ∧ lp (B_X9_letter_34 (J b) s K_X9_letter_69) FU (J i, 0) = r9 := by
    intro r8 r9 h8r h9r
    constructor
    · unfold F_X1_signOf
      refine lp_run (fun j => (J (sm L j), J j)) N (fun self j hj => ?_) h8r (by unfold FU; omega)
      have q1 := hle j (by omega)
      have q2 := of_decide_eq_false (f2 j hj)
      rw [sm_step] at q2
      have q3 := hL6 j (by omega)
      rw [sm_step]
      unfold B_X1_signOf_5
      simp (disch := omega) only [chunksOf_D d2 w2 h8, entryReferred_D d2 w2 h8 (show j < (a_bs A b).length by omega), codeRef_D d1 hn w1 (v2 j (by omega)), count_J (cr_v w1 (v2 j (by omega))), hLj j, J_add, J_mul, J_sub, J_dec, J_nat, J_lt, J_le, J_eq, gd_J, gz_J, gb_J, J_div, J_mod, md_back, JN, J_neN, J_Nne, J_ltN, J_Nlt, J_leN, J_Nle, N_refl, J01, J_addN, J_pred, F_X9_at, F_X9_backupAt, F_X9_fails, F_X9_thrown, Option.bind_some, if_true, if_false, Nat.add_zero, Nat.zero_add, Nat.mul_zero, Nat.zero_mul, Nat.reduceAdd, Nat.reduceMul, Nat.reduceSub, Nat.reduceEqDiff, Nat.reduceLeDiff, Nat.reduceLT, Nat.reducePow, Nat.not_lt_zero, Nat.zero_le, eq_self, not_true_eq_false, not_false_eq_true, reduceIte, L_0, L_1, L_2, L_3, L_4, L_5, L_6, L_7, L_8, L_9, L_10, L_11, L_12, L_14, L_15, L_16, L_24, L_30, L_31, L_32, L_34, L_40, L_44, L_90, L_96, L_97, L_100, L_120, L_121, L_192, L_997, L_998, L_1000, L_1270, L_10000, L_17780, L_2540, L_32768, L_16510]
      rw [if_neg (by omega), if_pos (by omega)]
    · refine lp_run (fun j => (J (i - sm L j), J j)) N (fun self j hj => ?_) h9r (by unfold FU; omega)
      have q1 := hle j (by omega)
      have q2 := of_decide_eq_false (f2 j hj)
      rw [sm_step] at q2
      have q3 := hL6 j (by omega)
      rw [sm_step]
      unfold B_X9_letter_34
      simp (disch := omega) only [g2, referred_M m1 m2 w1 w2 (show (a_cs A).length ≤ 92 by omega) h8 (show j < (a_bs A b).length by omega), lengthOf_J (cr_v w1 (v2 j (by omega))), hLj j, J_add, J_mul, J_sub, J_dec, J_nat, J_lt, J_le, J_eq, gd_J, gz_J, gb_J, J_div, J_mod, md_back, JN, J_neN, J_Nne, J_ltN, J_Nlt, J_leN, J_Nle, N_refl, J01, J_addN, J_pred, F_X9_at, F_X9_backupAt, F_X9_fails, F_X9_thrown, Option.bind_some, if_true, if_false, Nat.add_zero, Nat.zero_add, Nat.mul_zero, Nat.zero_mul, Nat.reduceAdd, Nat.reduceMul, Nat.reduceSub, Nat.reduceEqDiff, Nat.reduceLeDiff, Nat.reduceLT, Nat.reducePow, Nat.not_lt_zero, Nat.zero_le, eq_self, not_true_eq_false, not_false_eq_true, reduceIte, L_0, L_1, L_2, L_3, L_4, L_5, L_6, L_7, L_8, L_9, L_10, L_11, L_12, L_14, L_15, L_16, L_24, L_30, L_31, L_32, L_34, L_40, L_44, L_90, L_96, L_97, L_100, L_120, L_121, L_192, L_997, L_998, L_1000, L_1270, L_10000, L_17780, L_2540, L_32768, L_16510]
      rw [if_neg (by omega), if_pos (by omega), Nat.sub_sub]
  have q1 := hle N (Nat.le_refl _)
  by_cases z : N < (a_bs A b).length
  · have q2 := of_decide_eq_true (f3 z)
    rw [sm_step] at q2
    have q3 := hL6 N z
    have hv := cr_v w1 (v2 N z)
    obtain ⟨w, u1, u2, u3⟩ := vl_at hv.2.2 (m := i - sm L N) (by rw [hLj N]; omega)
    obtain ⟨r1, r2⟩ := hsteps (some (J (96 + w))) (some (J (96 + w), J 0)) (fun self => by
      unfold B_X1_signOf_5 K_X1_signOf_43
      simp (disch := omega) only [chunksOf_D d2 w2 h8, entryReferred_D d2 w2 h8 z, codeRef_D d1 hn w1 (v2 N z), count_J hv, hLj N, sign_J hv u1, J_add, J_mul, J_sub, J_dec, J_nat, J_lt, J_le, J_eq, gd_J, gz_J, gb_J, J_div, J_mod, md_back, JN, J_neN, J_Nne, J_ltN, J_Nlt, J_leN, J_Nle, N_refl, J01, J_addN, J_pred, F_X9_at, F_X9_backupAt, F_X9_fails, F_X9_thrown, Option.bind_some, if_true, if_false, Nat.add_zero, Nat.zero_add, Nat.mul_zero, Nat.zero_mul, Nat.reduceAdd, Nat.reduceMul, Nat.reduceSub, Nat.reduceEqDiff, Nat.reduceLeDiff, Nat.reduceLT, Nat.reducePow, Nat.not_lt_zero, Nat.zero_le, eq_self, not_true_eq_false, not_false_eq_true, reduceIte, L_0, L_1, L_2, L_3, L_4, L_5, L_6, L_7, L_8, L_9, L_10, L_11, L_12, L_14, L_15, L_16, L_24, L_30, L_31, L_32, L_34, L_40, L_44, L_90, L_96, L_97, L_100, L_120, L_121, L_192, L_997, L_998, L_1000, L_1270, L_10000, L_17780, L_2540, L_32768, L_16510]
      rw [if_neg (by omega), if_neg (by omega)]) (fun self => by
      unfold B_X9_letter_34 K_X9_letter_69
      simp (disch := omega) only [g2, referred_M m1 m2 w1 w2 (show (a_cs A).length ≤ 92 by omega) h8 z, lengthOf_J hv, hLj N, worthAt_J hv u1, J_add, J_mul, J_sub, J_dec, J_nat, J_lt, J_le, J_eq, gd_J, gz_J, gb_J, J_div, J_mod, md_back, JN, J_neN, J_Nne, J_ltN, J_Nlt, J_leN, J_Nle, N_refl, J01, J_addN, J_pred, F_X9_at, F_X9_backupAt, F_X9_fails, F_X9_thrown, Option.bind_some, if_true, if_false, Nat.add_zero, Nat.zero_add, Nat.mul_zero, Nat.zero_mul, Nat.reduceAdd, Nat.reduceMul, Nat.reduceSub, Nat.reduceEqDiff, Nat.reduceLeDiff, Nat.reduceLT, Nat.reducePow, Nat.not_lt_zero, Nat.zero_le, eq_self, not_true_eq_false, not_false_eq_true, reduceIte, L_0, L_1, L_2, L_3, L_4, L_5, L_6, L_7, L_8, L_9, L_10, L_11, L_12, L_14, L_15, L_16, L_24, L_30, L_31, L_32, L_34, L_40, L_44, L_90, L_96, L_97, L_100, L_120, L_121, L_192, L_997, L_998, L_1000, L_1270, L_10000, L_17780, L_2540, L_32768, L_16510]
      rw [if_neg (by omega), if_neg (by omega)])
    refine ⟨J (96 + w), ?_, r2⟩
    rw [r1]
    rfl
  · obtain ⟨r1, r2⟩ := hsteps (some NN) (some (NN, J 0)) (fun self => by
      unfold B_X1_signOf_5
      simp (disch := omega) only [chunksOf_D d2 w2 h8, J_add, J_mul, J_sub, J_dec, J_nat, J_lt, J_le, J_eq, gd_J, gz_J, gb_J, J_div, J_mod, md_back, JN, J_neN, J_Nne, J_ltN, J_Nlt, J_leN, J_Nle, N_refl, J01, J_addN, J_pred, F_X9_at, F_X9_backupAt, F_X9_fails, F_X9_thrown, Option.bind_some, if_true, if_false, Nat.add_zero, Nat.zero_add, Nat.mul_zero, Nat.zero_mul, Nat.reduceAdd, Nat.reduceMul, Nat.reduceSub, Nat.reduceEqDiff, Nat.reduceLeDiff, Nat.reduceLT, Nat.reducePow, Nat.not_lt_zero, Nat.zero_le, eq_self, not_true_eq_false, not_false_eq_true, reduceIte, L_0, L_1, L_2, L_3, L_4, L_5, L_6, L_7, L_8, L_9, L_10, L_11, L_12, L_14, L_15, L_16, L_24, L_30, L_31, L_32, L_34, L_40, L_44, L_90, L_96, L_97, L_100, L_120, L_121, L_192, L_997, L_998, L_1000, L_1270, L_10000, L_17780, L_2540, L_32768, L_16510]
      rw [if_pos (by omega)]) (fun self => by
      unfold B_X9_letter_34
      simp (disch := omega) only [g2, J_add, J_mul, J_sub, J_dec, J_nat, J_lt, J_le, J_eq, gd_J, gz_J, gb_J, J_div, J_mod, md_back, JN, J_neN, J_Nne, J_ltN, J_Nlt, J_leN, J_Nle, N_refl, J01, J_addN, J_pred, F_X9_at, F_X9_backupAt, F_X9_fails, F_X9_thrown, Option.bind_some, if_true, if_false, Nat.add_zero, Nat.zero_add, Nat.mul_zero, Nat.zero_mul, Nat.reduceAdd, Nat.reduceMul, Nat.reduceSub, Nat.reduceEqDiff, Nat.reduceLeDiff, Nat.reduceLT, Nat.reducePow, Nat.not_lt_zero, Nat.zero_le, eq_self, not_true_eq_false, not_false_eq_true, reduceIte, L_0, L_1, L_2, L_3, L_4, L_5, L_6, L_7, L_8, L_9, L_10, L_11, L_12, L_14, L_15, L_16, L_24, L_30, L_31, L_32, L_34, L_40, L_44, L_90, L_96, L_97, L_100, L_120, L_121, L_192, L_997, L_998, L_1000, L_1270, L_10000, L_17780, L_2540, L_32768, L_16510]
      rw [if_pos (by omega)])
    refine ⟨NN, ?_, r2⟩
    rw [r1]
    rfl
theorem i_letter {n : Nat} {st : STT} {q1 q2 q3 : Int32} (h : Inv n st) : ∃ st', F_T_letter st q1 q2 q3 = some st' ∧ Inv (n + 1) st' := by
  obtain ⟨A, H, Sl, h1, h2, h3, h4, h5⟩ := id h
  unfold F_T_letter F_X9_thrown
  rcases letter_A h2 h3 h4 (md_thrown (S_md st)) q1 q2 with ⟨x, a1, a2⟩ | ⟨a1, a2⟩ | ⟨a1, a2⟩
  · rw [a1, a2]
    simp only [Option.bind_some]
    rw [if_pos (by decide), if_pos (by rfl), if_pos (by rfl), if_pos (by rfl)]
    exact ⟨_, rfl, Inv_SE h ⟨rfl, rfl, rfl, rfl, fun _ _ => rfl, rfl, rfl, rfl, rfl, rfl, rfl⟩⟩
  · rw [a1, a2]
    simp only [Option.bind_some]
    rw [if_pos (by decide), if_pos (by rfl), if_neg (by decide)]
    exact ⟨_, rfl, Inv_SE h ⟨rfl, rfl, rfl, rfl, fun _ _ => rfl, rfl, rfl, rfl, rfl, rfl, rfl⟩⟩
  · rw [a1, a2]
    simp only [Option.bind_some]
    rw [if_pos (by decide), if_pos (by rfl), if_neg (by decide)]
    exact ⟨_, rfl, Inv_SE h ⟨rfl, rfl, rfl, rfl, fun _ _ => rfl, rfl, rfl, rfl, rfl, rfl, rfl⟩⟩
/-- the worst of the first b -/
def wst (L : Nat → Nat) : Nat → Int32 × Nat
  | 0 => (NN, 0)
  | b + 1 => if (wst L b).2 < L b then (J b, L b) else wst L b
theorem worst_A {d : DKT} {s : Nat → Int32} {A : AT} {n : Nat} (hd : DR d A) (hm : MR s A) (hW : WF A n) (so : SOT) (pa sto : Nat → Int32) (th : Int32) : ∃ v so' pa' sto', F_X8_worst d so = some (v, so') ∧ F_X9_worst th s pa sto = some (v, 0, pa', sto') := by
  have hl := WF_len hW
  have hn := WF_Wn hW
  obtain ⟨d1, d2, d3, d4⟩ := hd
  obtain ⟨m1, m2, m3⟩ := hm
  obtain ⟨w1, w2, w3, w4, w5, w6⟩ := hW
  generalize hL : (fun b => (ur (a_se A 4) (fun i => (rf (a_bs A b) i).1) (a_bs A b).length).2.2) = L
  have hb : ∀ k (path : Nat → Nat) rm, (ur rm path k).2.2 ≤ k := by
    intro k path rm
    induction k with
    | zero => exact Nat.le_refl _
    | succ k ih =>
      show (ur rm path k).2.2 + (if ua (ur rm path k) (path k) < (ur rm path k).1 then 0 else 1) ≤ k + 1
      split <;> omega
  have hL15 : ∀ b, b < 8 → L b ≤ 15 := fun b h8 => by
    rw [← hL]
    exact Nat.le_trans (hb _ _ _) (w2 b h8).1
  have hw15 : ∀ b, b ≤ 8 → (wst L b).2 ≤ 15 := by
    intro b
    induction b with
    | zero => intro _; exact Nat.zero_le _
    | succ b ih =>
      intro h
      unfold wst
      split
      · exact hL15 b (by omega)
      · exact ih (by omega)
  have go8 : ∀ (m b fuel : Nat) (so : SOT), b + m = 8 → m < fuel → ∃ so', lp (B_X8_worst_6 d) fuel ((wst L b).1, J (wst L b).2, J b, so) = some ((wst L 8).1, so') := by
    intro m
    induction m with
    | zero =>
      intro b fuel so hb2 hf
      obtain ⟨fuel, rfl⟩ : ∃ q, fuel = q + 1 := ⟨fuel - 1, by omega⟩
      obtain rfl : b = 8 := by omega
      refine ⟨so, ?_⟩
      show B_X8_worst_6 _ _ _ = _
      unfold B_X8_worst_6
      simp (disch := omega) only [Nat.le_refl, J_add, J_mul, J_sub, J_dec, J_nat, J_lt, J_le, J_eq, gd_J, gz_J, gb_J, J_div, J_mod, md_back, JN, J_neN, J_Nne, J_ltN, J_Nlt, J_leN, J_Nle, N_refl, J01, J_addN, J_pred, F_X9_at, F_X9_backupAt, F_X9_fails, F_X9_thrown, Option.bind_some, if_true, if_false, Nat.add_zero, Nat.zero_add, Nat.mul_zero, Nat.zero_mul, Nat.reduceAdd, Nat.reduceMul, Nat.reduceSub, Nat.reduceEqDiff, Nat.reduceLeDiff, Nat.reduceLT, Nat.reducePow, Nat.not_lt_zero, Nat.zero_le, eq_self, not_true_eq_false, not_false_eq_true, reduceIte, L_0, L_1, L_2, L_3, L_4, L_5, L_6, L_7, L_8, L_9, L_10, L_11, L_12, L_14, L_15, L_16, L_24, L_30, L_31, L_32, L_34, L_40, L_44, L_90, L_96, L_97, L_100, L_120, L_121, L_192, L_997, L_998, L_1000, L_1270, L_10000, L_17780, L_2540, L_32768, L_16510]
    | succ m ih =>
      intro b fuel so hb2 hf
      obtain ⟨fuel, rfl⟩ : ∃ q, fuel = q + 1 := ⟨fuel - 1, by omega⟩
      obtain ⟨so2, z, -⟩ := loads_D (s := so) d1 d2 hn w1 w2 w3 (show b < 8 by omega)
      rw [(ur_bk w1 w2 (show b < 8 by omega) (a_se A 4)).1] at z
      have z2 : F_X8_loads so d (J b) = some (J (L b), so2) := by rw [z, ← hL]
      obtain ⟨so', y⟩ := ih (b + 1) fuel so2 (by omega) (by omega)
      refine ⟨so', ?_⟩
      have q1 := hL15 b (by omega)
      have q2 := hw15 b (by omega)
      rw [show wst L (b + 1) = if (wst L b).2 < L b then (J b, L b) else wst L b from rfl] at y
      show B_X8_worst_6 _ (lp _ fuel) _ = _
      generalize lp (B_X8_worst_6 d) fuel = self at y ⊢
      unfold B_X8_worst_6
      simp (disch := omega) only [z2, J_add, J_mul, J_sub, J_dec, J_nat, J_lt, J_le, J_eq, gd_J, gz_J, gb_J, J_div, J_mod, md_back, JN, J_neN, J_Nne, J_ltN, J_Nlt, J_leN, J_Nle, N_refl, J01, J_addN, J_pred, F_X9_at, F_X9_backupAt, F_X9_fails, F_X9_thrown, Option.bind_some, if_true, if_false, Nat.add_zero, Nat.zero_add, Nat.mul_zero, Nat.zero_mul, Nat.reduceAdd, Nat.reduceMul, Nat.reduceSub, Nat.reduceEqDiff, Nat.reduceLeDiff, Nat.reduceLT, Nat.reducePow, Nat.not_lt_zero, Nat.zero_le, eq_self, not_true_eq_false, not_false_eq_true, reduceIte, L_0, L_1, L_2, L_3, L_4, L_5, L_6, L_7, L_8, L_9, L_10, L_11, L_12, L_14, L_15, L_16, L_24, L_30, L_31, L_32, L_34, L_40, L_44, L_90, L_96, L_97, L_100, L_120, L_121, L_192, L_997, L_998, L_1000, L_1270, L_10000, L_17780, L_2540, L_32768, L_16510]
      rw [if_neg (by omega)]
      by_cases w : (wst L b).2 < L b
      · rw [if_pos w] at y
        rw [if_neg (by omega)]
        exact y
      · rw [if_neg w] at y
        rw [if_pos (by omega)]
        exact y
  have go9 : ∀ (m b fuel : Nat) (pa sto : Nat → Int32), b + m = 8 → m < fuel → ∃ pa' sto', lp (B_X9_worst_11 s) fuel ((wst L b).1, J (wst L b).2, J b, pa, sto) = some ((wst L 8).1, J 0, pa', sto') := by
    intro m
    induction m with
    | zero =>
      intro b fuel pa sto hb2 hf
      obtain ⟨fuel, rfl⟩ : ∃ q, fuel = q + 1 := ⟨fuel - 1, by omega⟩
      obtain rfl : b = 8 := by omega
      refine ⟨pa, sto, ?_⟩
      show B_X9_worst_11 _ _ _ = _
      unfold B_X9_worst_11
      simp (disch := omega) only [Nat.le_refl, J_add, J_mul, J_sub, J_dec, J_nat, J_lt, J_le, J_eq, gd_J, gz_J, gb_J, J_div, J_mod, md_back, JN, J_neN, J_Nne, J_ltN, J_Nlt, J_leN, J_Nle, N_refl, J01, J_addN, J_pred, F_X9_at, F_X9_backupAt, F_X9_fails, F_X9_thrown, Option.bind_some, if_true, if_false, Nat.add_zero, Nat.zero_add, Nat.mul_zero, Nat.zero_mul, Nat.reduceAdd, Nat.reduceMul, Nat.reduceSub, Nat.reduceEqDiff, Nat.reduceLeDiff, Nat.reduceLT, Nat.reducePow, Nat.not_lt_zero, Nat.zero_le, eq_self, not_true_eq_false, not_false_eq_true, reduceIte, L_0, L_1, L_2, L_3, L_4, L_5, L_6, L_7, L_8, L_9, L_10, L_11, L_12, L_14, L_15, L_16, L_24, L_30, L_31, L_32, L_34, L_40, L_44, L_90, L_96, L_97, L_100, L_120, L_121, L_192, L_997, L_998, L_1000, L_1270, L_10000, L_17780, L_2540, L_32768, L_16510]
    | succ m ih =>
      intro b fuel pa sto hb2 hf
      obtain ⟨fuel, rfl⟩ : ∃ q, fuel = q + 1 := ⟨fuel - 1, by omega⟩
      obtain ⟨g1, g2, g3⟩ := m2 b (by omega)
      obtain ⟨pa2, sto2, z⟩ := loadsOf_M (pa := pa) (sto := sto) m1 m2 w1 w2 w3 (show b < 8 by omega)
      have z2 : F_X9_loadsOf s pa sto (J b) = some (J (L b), pa2, sto2) := by rw [z, ← hL]
      have q1 := hL15 b (by omega)
      have q2 := hw15 b (by omega)
      have hwst : wst L (b + 1) = if (wst L b).2 < L b then (J b, L b) else wst L b := rfl
      by_cases q : (a_bs A b).length = 0
      · have hL0 : L b = 0 := by rw [← hL]; show (ur _ _ (a_bs A b).length).2.2 = 0; rw [q]; rfl
        obtain ⟨pa', sto', y⟩ := ih (b + 1) fuel pa sto (by omega) (by omega)
        refine ⟨pa', sto', ?_⟩
        rw [hwst, if_neg (by omega)] at y
        show B_X9_worst_11 _ (lp _ fuel) _ = _
        generalize lp (B_X9_worst_11 s) fuel = self at y ⊢
        unfold B_X9_worst_11 J_X9_worst_42
        simp (disch := omega) only [g1, q, Nat.min_zero, J_add, J_mul, J_sub, J_dec, J_nat, J_lt, J_le, J_eq, gd_J, gz_J, gb_J, J_div, J_mod, md_back, JN, J_neN, J_Nne, J_ltN, J_Nlt, J_leN, J_Nle, N_refl, J01, J_addN, J_pred, F_X9_at, F_X9_backupAt, F_X9_fails, F_X9_thrown, Option.bind_some, if_true, if_false, Nat.add_zero, Nat.zero_add, Nat.mul_zero, Nat.zero_mul, Nat.reduceAdd, Nat.reduceMul, Nat.reduceSub, Nat.reduceEqDiff, Nat.reduceLeDiff, Nat.reduceLT, Nat.reducePow, Nat.not_lt_zero, Nat.zero_le, eq_self, not_true_eq_false, not_false_eq_true, reduceIte, L_0, L_1, L_2, L_3, L_4, L_5, L_6, L_7, L_8, L_9, L_10, L_11, L_12, L_14, L_15, L_16, L_24, L_30, L_31, L_32, L_34, L_40, L_44, L_90, L_96, L_97, L_100, L_120, L_121, L_192, L_997, L_998, L_1000, L_1270, L_10000, L_17780, L_2540, L_32768, L_16510]
        rw [if_neg (by omega)]
        exact y
      · obtain ⟨pa', sto', y⟩ := ih (b + 1) fuel pa2 sto2 (by omega) (by omega)
        refine ⟨pa', sto', ?_⟩
        rw [hwst] at y
        show B_X9_worst_11 _ (lp _ fuel) _ = _
        generalize lp (B_X9_worst_11 s) fuel = self at y ⊢
        have e1 : min 1 (a_bs A b).length = 1 := by omega
        unfold B_X9_worst_11 J_X9_worst_42
        simp (disch := omega) only [g1, e1, z2, J_add, J_mul, J_sub, J_dec, J_nat, J_lt, J_le, J_eq, gd_J, gz_J, gb_J, J_div, J_mod, md_back, JN, J_neN, J_Nne, J_ltN, J_Nlt, J_leN, J_Nle, N_refl, J01, J_addN, J_pred, F_X9_at, F_X9_backupAt, F_X9_fails, F_X9_thrown, Option.bind_some, if_true, if_false, Nat.add_zero, Nat.zero_add, Nat.mul_zero, Nat.zero_mul, Nat.reduceAdd, Nat.reduceMul, Nat.reduceSub, Nat.reduceEqDiff, Nat.reduceLeDiff, Nat.reduceLT, Nat.reducePow, Nat.not_lt_zero, Nat.zero_le, eq_self, not_true_eq_false, not_false_eq_true, reduceIte, L_0, L_1, L_2, L_3, L_4, L_5, L_6, L_7, L_8, L_9, L_10, L_11, L_12, L_14, L_15, L_16, L_24, L_30, L_31, L_32, L_34, L_40, L_44, L_90, L_96, L_97, L_100, L_120, L_121, L_192, L_997, L_998, L_1000, L_1270, L_10000, L_17780, L_2540, L_32768, L_16510]
        rw [if_neg (by omega)]
        by_cases w : (wst L b).2 < L b
        · rw [if_pos w] at y
          rw [if_neg (by omega)]
          exact y
        · rw [if_neg w] at y
          rw [if_pos (by omega)]
          exact y
  obtain ⟨so', y1⟩ := go8 8 0 FU so (by omega) (by unfold FU; omega)
  obtain ⟨pa', sto', y2⟩ := go9 8 0 FU pa sto (by omega) (by unfold FU; omega)
  exact ⟨_, so', pa', sto', y1, y2⟩
theorem i_worst {n : Nat} {st : STT} {q1 q2 q3 : Int32} (h : Inv n st) : ∃ st', F_T_worst st q1 q2 q3 = some st' ∧ Inv (n + 1) st' := by
  obtain ⟨A, H, Sl, h1, h2, h3, h4, h5⟩ := id h
  unfold F_T_worst
  obtain ⟨v, so', pa', sto', a1, a2⟩ := worst_A h2 h3 h4 (S_store st) (md_path (S_md st)) (md_store (S_md st)) (md_thrown (S_md st))
  rw [a1, a2]
  simp only [Option.bind_some]
  rw [if_pos trivial]
  exact ⟨_, rfl, Inv_SE h ⟨rfl, rfl, rfl, rfl, fun _ _ => rfl, rfl, rfl, rfl, rfl, rfl, rfl⟩⟩
