/-! THE PURE SIDE: readers over all entries, the class's and the Model's -/
/-- no entry before has this chunk -/
def un (cs : List Ct) (k i : Nat) : Bool := decide (fe cs k (ch cs k i) = i ∧ cp (fun j => decide (fe cs j (ch cs k i) < si cs j)) k = 0)
theorem un_flat {cs : List Ct} {k i : Nat} (hk : k < cs.length) (hi : i < si cs k) : decide (fi (fun e => decide (cf cs e = cf cs (st cs k + i))) (st cs cs.length) = st cs k + i) = un cs k i := by
  rw [cf_at hk hi]
  have hin := st_in cs hk
  refine decide_eq_decide.mpr ⟨fun h => ?_, fun h => ?_⟩
  · have h2 := (fi_spec (fun e => decide (cf cs e = ch cs k i)) (st cs cs.length)).2.1
    rw [h] at h2
    constructor
    · refine fi_eq (by omega) (fun j hj => decide_eq_false fun q => ?_) (fun _ => decide_eq_true rfl)
      have := of_decide_eq_false (h2 (st cs k + j) (by omega))
      rw [cf_at hk (by omega)] at this
      exact this q
    · refine cp_zero fun j hj => decide_eq_false fun q => ?_
      obtain ⟨z, z1, z2⟩ := fe_lt.mp q
      have z3 := st_in cs hj
      have := of_decide_eq_false (h2 (st cs j + z) (by omega))
      rw [cf_at (by omega) z1] at this
      exact this z2
  · obtain ⟨h1, h2⟩ := h
    refine fi_eq (by omega) (fun e he => decide_eq_false fun q => ?_) (fun _ => decide_eq_true (cf_at hk hi))
    obtain ⟨k1, k2, k3⟩ := kpl_lt (cs := cs) (e := e) (by omega)
    have h4 : kpl cs e ≤ k := by
      rcases Nat.lt_or_ge k (kpl cs e) with z | z
      · have := st_in cs z; omega
      · exact z
    have h5 : fe cs (kpl cs e) (ch cs k i) < si cs (kpl cs e) := fe_lt.mpr ⟨_, k3, q⟩
    by_cases z : kpl cs e = k
    · rw [z] at k2 k3
      have h6 := (fi_spec (fun e => decide (ch cs k e = ch cs k i)) (si cs k)).2.1 (e - st cs k) (by
        have : fe cs k (ch cs k i) = fi (fun e => decide (ch cs k e = ch cs k i)) (si cs k) := rfl
        omega)
      have h7 : cf cs e = ch cs k (e - st cs k) := by unfold cf; rw [z]
      exact of_decide_eq_false h6 (by rw [← h7]; exact q)
    · have := cp_pos (p := fun j => decide (fe cs j (ch cs k i) < si cs j)) (i := kpl cs e) (n := k) (by omega) (decide_eq_true h5)
      omega
theorem unlike_D {d : DKT} {se : Nat → Nat} {nx : Nat} {cs : List Ct} (hd : RDc d se nx cs) (hn : Wn cs) (hW : Wc cs nx) : F_X1_unlikeChunks d = some (J (sm (fun k => cp (un cs k) (si cs k)) cs.length)) := by
  have h1 := hn.2
  have e1 : sm (fun k => cp (un cs k) (si cs k)) cs.length = cp (fun e => decide (fi (fun x => decide (cf cs x = cf cs e)) (st cs cs.length) = e)) (st cs cs.length) := by
    rw [cp_flat]
    exact sm_ext fun k hk => cp_ext fun i hi => (un_flat hk hi).symm
  rw [e1]
  unfold F_X1_unlikeChunks
  refine lp_run (fun e => (J (cp (fun e => decide (fi (fun x => decide (cf cs x = cf cs e)) (st cs cs.length) = e)) e), J e)) (st cs cs.length) (fun self e he => ?_) (fun self => ?_) (by unfold FU; omega)
  · obtain ⟨g1, g2⟩ := hd.2.2.2.2.2 e he
    obtain ⟨f1, f2, f3⟩ := fi_spec (fun x => decide (cf cs x = cf cs e)) (st cs cs.length)
    have h2 := firstFrom_D hd hn hW (cf_v hW he) (s := 0) (N := fi (fun x => decide (cf cs x = cf cs e)) (st cs cs.length)) (by omega) f1 (fun x _ hx => of_decide_eq_false (f2 x hx)) (fun q => of_decide_eq_true (f3 q))
    have h3 : (RJ (fi (fun x => decide (cf cs x = cf cs e)) (st cs cs.length)) (st cs cs.length) = J e) ↔ fi (fun x => decide (cf cs x = cf cs e)) (st cs cs.length) = e := by
      unfold RJ
      by_cases q : fi (fun x => decide (cf cs x = cf cs e)) (st cs cs.length) < st cs cs.length
      · rw [if_pos q]; exact J_eq (by omega) (by omega)
      · rw [if_neg q, J_Nne (by omega)]
        exact ⟨fun h => h.elim, fun h => absurd h (by omega)⟩
    unfold B_X1_unlikeChunks_4
    simp (disch := omega) only [hd.2.2.2.1, g1, h2, h3, J_add, J_mul, J_sub, J_dec, J_nat, J_lt, J_le, J_eq, gd_J, gz_J, gb_J, J_div, J_mod, md_back, JN, J_neN, J_Nne, J_ltN, J_Nlt, J_leN, J_Nle, N_refl, J01, J_addN, J_pred, F_X9_at, F_X9_backupAt, F_X9_fails, F_X9_thrown, Option.bind_some, if_true, if_false, Nat.add_zero, Nat.zero_add, Nat.mul_zero, Nat.zero_mul, Nat.reduceAdd, Nat.reduceMul, Nat.reduceSub, Nat.reduceEqDiff, Nat.reduceLeDiff, Nat.reduceLT, Nat.reducePow, Nat.not_lt_zero, Nat.zero_le, eq_self, not_true_eq_false, not_false_eq_true, reduceIte, L_0, L_1, L_2, L_3, L_4, L_5, L_6, L_7, L_8, L_9, L_10, L_11, L_12, L_14, L_15, L_16, L_24, L_30, L_31, L_32, L_34, L_40, L_44, L_90, L_96, L_97, L_100, L_120, L_121, L_192, L_997, L_998, L_1000, L_1270, L_10000, L_17780, L_2540, L_32768, L_16510]
    rw [if_neg (by omega)]
    by_cases q : fi (fun x => decide (cf cs x = cf cs e)) (st cs cs.length) = e
    · rw [cp_yes (by exact decide_eq_true q), if_pos q]
    · rw [cp_no (by exact decide_eq_false q), if_neg q]
  · unfold B_X1_unlikeChunks_4
    simp (disch := omega) only [hd.2.2.2.1, Nat.le_refl, J_add, J_mul, J_sub, J_dec, J_nat, J_lt, J_le, J_eq, gd_J, gz_J, gb_J, J_div, J_mod, md_back, JN, J_neN, J_Nne, J_ltN, J_Nlt, J_leN, J_Nle, N_refl, J01, J_addN, J_pred, F_X9_at, F_X9_backupAt, F_X9_fails, F_X9_thrown, Option.bind_some, if_true, if_false, Nat.add_zero, Nat.zero_add, Nat.mul_zero, Nat.zero_mul, Nat.reduceAdd, Nat.reduceMul, Nat.reduceSub, Nat.reduceEqDiff, Nat.reduceLeDiff, Nat.reduceLT, Nat.reducePow, Nat.not_lt_zero, Nat.zero_le, eq_self, not_true_eq_false, not_false_eq_true, reduceIte, L_0, L_1, L_2, L_3, L_4, L_5, L_6, L_7, L_8, L_9, L_10, L_11, L_12, L_14, L_15, L_16, L_24, L_30, L_31, L_32, L_34, L_40, L_44, L_90, L_96, L_97, L_100, L_120, L_121, L_192, L_997, L_998, L_1000, L_1270, L_10000, L_17780, L_2540, L_32768, L_16510]
theorem unlike_M {s : Nat → Int32} {se : Nat → Nat} {nx : Nat} {cs : List Ct} (hR : RMc s se nx cs) (hW : Wc cs nx) (hl : cs.length ≤ 92) : F_X9_unlike s = some (J (sm (fun k => cp (un cs k) (si cs k)) cs.length)) := by
  unfold F_X9_unlike
  refine lp_run (fun i => (J (sm (fun k => cp (un cs k) (si cs k)) i), J i)) cs.length (fun self k hk => ?_) (fun self => ?_) (by unfold FU; omega)
  · obtain ⟨g1, g2, g3, g4⟩ := hR.2.2.2 k hk
    obtain ⟨w1, w2, w3, w4, w5, w6⟩ := hW.2.1 k hk
    rw [sm_step]
    generalize sm (fun k => cp (un cs k) (si cs k)) k = a
    unfold B_X9_unlike_4
    simp (disch := omega) only [hR.2.2.1, J_add, J_mul, J_sub, J_dec, J_nat, J_lt, J_le, J_eq, gd_J, gz_J, gb_J, J_div, J_mod, md_back, JN, J_neN, J_Nne, J_ltN, J_Nlt, J_leN, J_Nle, N_refl, J01, J_addN, J_pred, F_X9_at, F_X9_backupAt, F_X9_fails, F_X9_thrown, Option.bind_some, if_true, if_false, Nat.add_zero, Nat.zero_add, Nat.mul_zero, Nat.zero_mul, Nat.reduceAdd, Nat.reduceMul, Nat.reduceSub, Nat.reduceEqDiff, Nat.reduceLeDiff, Nat.reduceLT, Nat.reducePow, Nat.not_lt_zero, Nat.zero_le, eq_self, not_true_eq_false, not_false_eq_true, reduceIte, L_0, L_1, L_2, L_3, L_4, L_5, L_6, L_7, L_8, L_9, L_10, L_11, L_12, L_14, L_15, L_16, L_24, L_30, L_31, L_32, L_34, L_40, L_44, L_90, L_96, L_97, L_100, L_120, L_121, L_192, L_997, L_998, L_1000, L_1270, L_10000, L_17780, L_2540, L_32768, L_16510]
    rw [if_neg (by omega)]
    refine lp_run (fun i => (J (a + cp (un cs k) i), J i)) (si cs k) (fun self2 i hi => ?_) (fun self2 => ?_) (by unfold FU; omega)
    · have h2 := entryOf_M hR hW hl hk (w6 i hi)
      have h3 : (RJ (fe cs k (ch cs k i)) (si cs k) = J i) ↔ fe cs k (ch cs k i) = i := by
        have hlt : fe cs k (ch cs k i) < si cs k := fe_lt.mpr ⟨i, hi, rfl⟩
        unfold RJ
        rw [if_pos hlt]
        exact J_eq (by omega) (by omega)
      have hin : ∀ b : Nat, b ≤ 1 → (b = 1 ↔ fe cs k (ch cs k i) = i) → J_X9_unlike_65 (J a, J k) s (J (8 + 11 * k)) (J (a + cp (un cs k) i), J i) self2 (J b) = self2 (J (a + cp (un cs k) (i + 1)), J (i + 1)) := by
        intro b hb1 hb2
        unfold J_X9_unlike_65
        have e0 : (J b, (0 : Int32)) = (fun j => (J (if b = 1 ∧ cp (fun j => decide (fe cs j (ch cs k i) < si cs j)) j = 0 then 1 else 0), J j)) 0 := by
          show _ = (J (if b = 1 ∧ cp (fun j => decide (fe cs j (ch cs k i) < si cs j)) 0 = 0 then 1 else 0), J 0)
          by_cases q : b = 1
          · have z0 : cp (fun j => decide (fe cs j (ch cs k i) < si cs j)) 0 = 0 := rfl
            rw [if_pos (And.intro q z0), q]; rfl
          · rw [if_neg (fun z => q z.1), show b = 0 by omega]; rfl
        rw [e0]
        refine lp_run (fun j => (J (if b = 1 ∧ cp (fun j => decide (fe cs j (ch cs k i) < si cs j)) j = 0 then 1 else 0), J j)) k (fun self3 j hj => ?_) (fun self3 => ?_) (by unfold FU; omega)
        · have h4 := entryOf_M hR hW hl (show j < cs.length by omega) (w6 i hi)
          rw [cp_step]
          generalize hc : cp (fun j => decide (fe cs j (ch cs k i) < si cs j)) j = c
          unfold B_X9_unlike_70
          simp (disch := omega) only [g4 i hi, h4, J_add, J_mul, J_sub, J_dec, J_nat, J_lt, J_le, J_eq, gd_J, gz_J, gb_J, J_div, J_mod, md_back, JN, J_neN, J_Nne, J_ltN, J_Nlt, J_leN, J_Nle, N_refl, J01, J_addN, J_pred, F_X9_at, F_X9_backupAt, F_X9_fails, F_X9_thrown, Option.bind_some, if_true, if_false, Nat.add_zero, Nat.zero_add, Nat.mul_zero, Nat.zero_mul, Nat.reduceAdd, Nat.reduceMul, Nat.reduceSub, Nat.reduceEqDiff, Nat.reduceLeDiff, Nat.reduceLT, Nat.reducePow, Nat.not_lt_zero, Nat.zero_le, eq_self, not_true_eq_false, not_false_eq_true, reduceIte, L_0, L_1, L_2, L_3, L_4, L_5, L_6, L_7, L_8, L_9, L_10, L_11, L_12, L_14, L_15, L_16, L_24, L_30, L_31, L_32, L_34, L_40, L_44, L_90, L_96, L_97, L_100, L_120, L_121, L_192, L_997, L_998, L_1000, L_1270, L_10000, L_17780, L_2540, L_32768, L_16510]
          rw [if_neg (by omega)]
          by_cases q : b = 1 ∧ c = 0
          · rw [if_pos q]
            unfold RJ
            by_cases z : fe cs j (ch cs k i) < si cs j
            · have z2 := (hW.2.1 j (by omega)).2
              rw [if_pos z, if_pos (decide_eq_true z), if_neg (show ¬ (b = 1 ∧ c + 1 = 0) by omega)]
              simp (disch := omega) only [J_add, J_mul, J_sub, J_dec, J_nat, J_lt, J_le, J_eq, gd_J, gz_J, gb_J, J_div, J_mod, md_back, JN, J_neN, J_Nne, J_ltN, J_Nlt, J_leN, J_Nle, N_refl, J01, J_addN, J_pred, F_X9_at, F_X9_backupAt, F_X9_fails, F_X9_thrown, Option.bind_some, if_true, if_false, Nat.add_zero, Nat.zero_add, Nat.mul_zero, Nat.zero_mul, Nat.reduceAdd, Nat.reduceMul, Nat.reduceSub, Nat.reduceEqDiff, Nat.reduceLeDiff, Nat.reduceLT, Nat.reducePow, Nat.not_lt_zero, Nat.zero_le, eq_self, not_true_eq_false, not_false_eq_true, reduceIte, L_0, L_1, L_2, L_3, L_4, L_5, L_6, L_7, L_8, L_9, L_10, L_11, L_12, L_14, L_15, L_16, L_24, L_30, L_31, L_32, L_34, L_40, L_44, L_90, L_96, L_97, L_100, L_120, L_121, L_192, L_997, L_998, L_1000, L_1270, L_10000, L_17780, L_2540, L_32768, L_16510]
            · rw [if_neg z, if_neg (show ¬ (decide (fe cs j (ch cs k i) < si cs j) = true) by simpa using z), if_pos (show b = 1 ∧ c + 0 = 0 by omega)]
              simp (disch := omega) only [J_add, J_mul, J_sub, J_dec, J_nat, J_lt, J_le, J_eq, gd_J, gz_J, gb_J, J_div, J_mod, md_back, JN, J_neN, J_Nne, J_ltN, J_Nlt, J_leN, J_Nle, N_refl, J01, J_addN, J_pred, F_X9_at, F_X9_backupAt, F_X9_fails, F_X9_thrown, Option.bind_some, if_true, if_false, Nat.add_zero, Nat.zero_add, Nat.mul_zero, Nat.zero_mul, Nat.reduceAdd, Nat.reduceMul, Nat.reduceSub, Nat.reduceEqDiff, Nat.reduceLeDiff, Nat.reduceLT, Nat.reducePow, Nat.not_lt_zero, Nat.zero_le, eq_self, not_true_eq_false, not_false_eq_true, reduceIte, L_0, L_1, L_2, L_3, L_4, L_5, L_6, L_7, L_8, L_9, L_10, L_11, L_12, L_14, L_15, L_16, L_24, L_30, L_31, L_32, L_34, L_40, L_44, L_90, L_96, L_97, L_100, L_120, L_121, L_192, L_997, L_998, L_1000, L_1270, L_10000, L_17780, L_2540, L_32768, L_16510]
          · rw [if_neg q, if_neg (show ¬ (b = 1 ∧ c + (if decide (fe cs j (ch cs k i) < si cs j) = true then 1 else 0) = 0) by split <;> omega)]
            simp (disch := omega) only [J_add, J_mul, J_sub, J_dec, J_nat, J_lt, J_le, J_eq, gd_J, gz_J, gb_J, J_div, J_mod, md_back, JN, J_neN, J_Nne, J_ltN, J_Nlt, J_leN, J_Nle, N_refl, J01, J_addN, J_pred, F_X9_at, F_X9_backupAt, F_X9_fails, F_X9_thrown, Option.bind_some, if_true, if_false, Nat.add_zero, Nat.zero_add, Nat.mul_zero, Nat.zero_mul, Nat.reduceAdd, Nat.reduceMul, Nat.reduceSub, Nat.reduceEqDiff, Nat.reduceLeDiff, Nat.reduceLT, Nat.reducePow, Nat.not_lt_zero, Nat.zero_le, eq_self, not_true_eq_false, not_false_eq_true, reduceIte, L_0, L_1, L_2, L_3, L_4, L_5, L_6, L_7, L_8, L_9, L_10, L_11, L_12, L_14, L_15, L_16, L_24, L_30, L_31, L_32, L_34, L_40, L_44, L_90, L_96, L_97, L_100, L_120, L_121, L_192, L_997, L_998, L_1000, L_1270, L_10000, L_17780, L_2540, L_32768, L_16510]
        · generalize hc : cp (fun j => decide (fe cs j (ch cs k i) < si cs j)) k = c
          unfold B_X9_unlike_70 K_X9_unlike_106
          simp (disch := omega) only [Nat.le_refl, J_add, J_mul, J_sub, J_dec, J_nat, J_lt, J_le, J_eq, gd_J, gz_J, gb_J, J_div, J_mod, md_back, JN, J_neN, J_Nne, J_ltN, J_Nlt, J_leN, J_Nle, N_refl, J01, J_addN, J_pred, F_X9_at, F_X9_backupAt, F_X9_fails, F_X9_thrown, Option.bind_some, if_true, if_false, Nat.add_zero, Nat.zero_add, Nat.mul_zero, Nat.zero_mul, Nat.reduceAdd, Nat.reduceMul, Nat.reduceSub, Nat.reduceEqDiff, Nat.reduceLeDiff, Nat.reduceLT, Nat.reducePow, Nat.not_lt_zero, Nat.zero_le, eq_self, not_true_eq_false, not_false_eq_true, reduceIte, L_0, L_1, L_2, L_3, L_4, L_5, L_6, L_7, L_8, L_9, L_10, L_11, L_12, L_14, L_15, L_16, L_24, L_30, L_31, L_32, L_34, L_40, L_44, L_90, L_96, L_97, L_100, L_120, L_121, L_192, L_997, L_998, L_1000, L_1270, L_10000, L_17780, L_2540, L_32768, L_16510]
          by_cases q : b = 1 ∧ c = 0
          · rw [if_pos q, cp_yes (show un cs k i = true from decide_eq_true ⟨hb2.mp q.1, by rw [hc]; exact q.2⟩)]
            simp (disch := omega) only [J_add, J_mul, J_sub, J_dec, J_nat, J_lt, J_le, J_eq, gd_J, gz_J, gb_J, J_div, J_mod, md_back, JN, J_neN, J_Nne, J_ltN, J_Nlt, J_leN, J_Nle, N_refl, J01, J_addN, J_pred, F_X9_at, F_X9_backupAt, F_X9_fails, F_X9_thrown, Option.bind_some, if_true, if_false, Nat.add_zero, Nat.zero_add, Nat.mul_zero, Nat.zero_mul, Nat.reduceAdd, Nat.reduceMul, Nat.reduceSub, Nat.reduceEqDiff, Nat.reduceLeDiff, Nat.reduceLT, Nat.reducePow, Nat.not_lt_zero, Nat.zero_le, eq_self, not_true_eq_false, not_false_eq_true, reduceIte, L_0, L_1, L_2, L_3, L_4, L_5, L_6, L_7, L_8, L_9, L_10, L_11, L_12, L_14, L_15, L_16, L_24, L_30, L_31, L_32, L_34, L_40, L_44, L_90, L_96, L_97, L_100, L_120, L_121, L_192, L_997, L_998, L_1000, L_1270, L_10000, L_17780, L_2540, L_32768, L_16510]
            rfl
          · rw [if_neg q, cp_no (show un cs k i = false from decide_eq_false fun z => q ⟨hb2.mpr z.1, by rw [← hc]; exact z.2⟩)]
            simp (disch := omega) only [J_add, J_mul, J_sub, J_dec, J_nat, J_lt, J_le, J_eq, gd_J, gz_J, gb_J, J_div, J_mod, md_back, JN, J_neN, J_Nne, J_ltN, J_Nlt, J_leN, J_Nle, N_refl, J01, J_addN, J_pred, F_X9_at, F_X9_backupAt, F_X9_fails, F_X9_thrown, Option.bind_some, if_true, if_false, Nat.add_zero, Nat.zero_add, Nat.mul_zero, Nat.zero_mul, Nat.reduceAdd, Nat.reduceMul, Nat.reduceSub, Nat.reduceEqDiff, Nat.reduceLeDiff, Nat.reduceLT, Nat.reducePow, Nat.not_lt_zero, Nat.zero_le, eq_self, not_true_eq_false, not_false_eq_true, reduceIte, L_0, L_1, L_2, L_3, L_4, L_5, L_6, L_7, L_8, L_9, L_10, L_11, L_12, L_14, L_15, L_16, L_24, L_30, L_31, L_32, L_34, L_40, L_44, L_90, L_96, L_97, L_100, L_120, L_121, L_192, L_997, L_998, L_1000, L_1270, L_10000, L_17780, L_2540, L_32768, L_16510]
      unfold B_X9_unlike_17
      simp (disch := omega) only [g3, g4 i hi, h2, h3, J_add, J_mul, J_sub, J_dec, J_nat, J_lt, J_le, J_eq, gd_J, gz_J, gb_J, J_div, J_mod, md_back, JN, J_neN, J_Nne, J_ltN, J_Nlt, J_leN, J_Nle, N_refl, J01, J_addN, J_pred, F_X9_at, F_X9_backupAt, F_X9_fails, F_X9_thrown, Option.bind_some, if_true, if_false, Nat.add_zero, Nat.zero_add, Nat.mul_zero, Nat.zero_mul, Nat.reduceAdd, Nat.reduceMul, Nat.reduceSub, Nat.reduceEqDiff, Nat.reduceLeDiff, Nat.reduceLT, Nat.reducePow, Nat.not_lt_zero, Nat.zero_le, eq_self, not_true_eq_false, not_false_eq_true, reduceIte, L_0, L_1, L_2, L_3, L_4, L_5, L_6, L_7, L_8, L_9, L_10, L_11, L_12, L_14, L_15, L_16, L_24, L_30, L_31, L_32, L_34, L_40, L_44, L_90, L_96, L_97, L_100, L_120, L_121, L_192, L_997, L_998, L_1000, L_1270, L_10000, L_17780, L_2540, L_32768, L_16510]
      rw [if_neg (by omega)]
      by_cases q : fe cs k (ch cs k i) = i
      · rw [if_pos q]
        exact hin 1 (by omega) ⟨fun _ => q, fun _ => rfl⟩
      · rw [if_neg q]
        exact hin 0 (by omega) ⟨fun z => absurd z (by omega), fun z => absurd z q⟩
    · unfold B_X9_unlike_17
      simp (disch := omega) only [g3, Nat.le_refl, J_add, J_mul, J_sub, J_dec, J_nat, J_lt, J_le, J_eq, gd_J, gz_J, gb_J, J_div, J_mod, md_back, JN, J_neN, J_Nne, J_ltN, J_Nlt, J_leN, J_Nle, N_refl, J01, J_addN, J_pred, F_X9_at, F_X9_backupAt, F_X9_fails, F_X9_thrown, Option.bind_some, if_true, if_false, Nat.add_zero, Nat.zero_add, Nat.mul_zero, Nat.zero_mul, Nat.reduceAdd, Nat.reduceMul, Nat.reduceSub, Nat.reduceEqDiff, Nat.reduceLeDiff, Nat.reduceLT, Nat.reducePow, Nat.not_lt_zero, Nat.zero_le, eq_self, not_true_eq_false, not_false_eq_true, reduceIte, L_0, L_1, L_2, L_3, L_4, L_5, L_6, L_7, L_8, L_9, L_10, L_11, L_12, L_14, L_15, L_16, L_24, L_30, L_31, L_32, L_34, L_40, L_44, L_90, L_96, L_97, L_100, L_120, L_121, L_192, L_997, L_998, L_1000, L_1270, L_10000, L_17780, L_2540, L_32768, L_16510]
  · unfold B_X9_unlike_4
    simp (disch := omega) only [hR.2.2.1, Nat.le_refl, J_add, J_mul, J_sub, J_dec, J_nat, J_lt, J_le, J_eq, gd_J, gz_J, gb_J, J_div, J_mod, md_back, JN, J_neN, J_Nne, J_ltN, J_Nlt, J_leN, J_Nle, N_refl, J01, J_addN, J_pred, F_X9_at, F_X9_backupAt, F_X9_fails, F_X9_thrown, Option.bind_some, if_true, if_false, Nat.add_zero, Nat.zero_add, Nat.mul_zero, Nat.zero_mul, Nat.reduceAdd, Nat.reduceMul, Nat.reduceSub, Nat.reduceEqDiff, Nat.reduceLeDiff, Nat.reduceLT, Nat.reducePow, Nat.not_lt_zero, Nat.zero_le, eq_self, not_true_eq_false, not_false_eq_true, reduceIte, L_0, L_1, L_2, L_3, L_4, L_5, L_6, L_7, L_8, L_9, L_10, L_11, L_12, L_14, L_15, L_16, L_24, L_30, L_31, L_32, L_34, L_40, L_44, L_90, L_96, L_97, L_100, L_120, L_121, L_192, L_997, L_998, L_1000, L_1270, L_10000, L_17780, L_2540, L_32768, L_16510]
theorem allLetters_D {d : DKT} {se : Nat → Nat} {nx : Nat} {cs : List Ct} (hd : RDc d se nx cs) (hn : Wn cs) (hW : Wc cs nx) : F_X1_allLetters d = some (J (sm (fun k => sm (fun i => (ch cs k i).length) (si cs k)) cs.length)) := by
  have h1 := hn.2
  have e1 : sm (fun k => sm (fun i => (ch cs k i).length) (si cs k)) cs.length = sm (fun e => (cf cs e).length) (st cs cs.length) := by
    rw [sm_flat]
    exact sm_ext fun k hk => sm_ext fun i hi => by rw [cf_at hk hi]
  rw [e1]
  unfold F_X1_allLetters
  refine lp_run (fun e => (J (sm (fun e => (cf cs e).length) e), J e)) (st cs cs.length) (fun self e he => ?_) (fun self => ?_) (by unfold FU; omega)
  · obtain ⟨g1, g2⟩ := hd.2.2.2.2.2 e he
    unfold B_X1_allLetters_4
    simp (disch := omega) only [hd.2.2.2.1, g1, count_J (cf_v hW he), J_add, J_mul, J_sub, J_dec, J_nat, J_lt, J_le, J_eq, gd_J, gz_J, gb_J, J_div, J_mod, md_back, JN, J_neN, J_Nne, J_ltN, J_Nlt, J_leN, J_Nle, N_refl, J01, J_addN, J_pred, F_X9_at, F_X9_backupAt, F_X9_fails, F_X9_thrown, Option.bind_some, if_true, if_false, Nat.add_zero, Nat.zero_add, Nat.mul_zero, Nat.zero_mul, Nat.reduceAdd, Nat.reduceMul, Nat.reduceSub, Nat.reduceEqDiff, Nat.reduceLeDiff, Nat.reduceLT, Nat.reducePow, Nat.not_lt_zero, Nat.zero_le, eq_self, not_true_eq_false, not_false_eq_true, reduceIte, L_0, L_1, L_2, L_3, L_4, L_5, L_6, L_7, L_8, L_9, L_10, L_11, L_12, L_14, L_15, L_16, L_24, L_30, L_31, L_32, L_34, L_40, L_44, L_90, L_96, L_97, L_100, L_120, L_121, L_192, L_997, L_998, L_1000, L_1270, L_10000, L_17780, L_2540, L_32768, L_16510]
    rw [if_neg (by omega)]
    rfl
  · unfold B_X1_allLetters_4
    simp (disch := omega) only [hd.2.2.2.1, Nat.le_refl, J_add, J_mul, J_sub, J_dec, J_nat, J_lt, J_le, J_eq, gd_J, gz_J, gb_J, J_div, J_mod, md_back, JN, J_neN, J_Nne, J_ltN, J_Nlt, J_leN, J_Nle, N_refl, J01, J_addN, J_pred, F_X9_at, F_X9_backupAt, F_X9_fails, F_X9_thrown, Option.bind_some, if_true, if_false, Nat.add_zero, Nat.zero_add, Nat.mul_zero, Nat.zero_mul, Nat.reduceAdd, Nat.reduceMul, Nat.reduceSub, Nat.reduceEqDiff, Nat.reduceLeDiff, Nat.reduceLT, Nat.reducePow, Nat.not_lt_zero, Nat.zero_le, eq_self, not_true_eq_false, not_false_eq_true, reduceIte, L_0, L_1, L_2, L_3, L_4, L_5, L_6, L_7, L_8, L_9, L_10, L_11, L_12, L_14, L_15, L_16, L_24, L_30, L_31, L_32, L_34, L_40, L_44, L_90, L_96, L_97, L_100, L_120, L_121, L_192, L_997, L_998, L_1000, L_1270, L_10000, L_17780, L_2540, L_32768, L_16510]
theorem allLetters_M {s : Nat → Int32} {se : Nat → Nat} {nx : Nat} {cs : List Ct} (hR : RMc s se nx cs) (hW : Wc cs nx) (hl : cs.length ≤ 92) : F_X9_lettersOfEntries s = some (J (sm (fun k => sm (fun i => (ch cs k i).length) (si cs k)) cs.length)) := by
  unfold F_X9_lettersOfEntries
  refine lp_run (fun i => (J (sm (fun k => sm (fun i => (ch cs k i).length) (si cs k)) i), J i)) cs.length (fun self k hk => ?_) (fun self => ?_) (by unfold FU; omega)
  · obtain ⟨g1, g2, g3, g4⟩ := hR.2.2.2 k hk
    obtain ⟨w1, w2, w3, w4, w5, w6⟩ := hW.2.1 k hk
    rw [sm_step]
    generalize sm (fun k => sm (fun i => (ch cs k i).length) (si cs k)) k = a
    unfold B_X9_lettersOfEntries_4
    simp (disch := omega) only [hR.2.2.1, J_add, J_mul, J_sub, J_dec, J_nat, J_lt, J_le, J_eq, gd_J, gz_J, gb_J, J_div, J_mod, md_back, JN, J_neN, J_Nne, J_ltN, J_Nlt, J_leN, J_Nle, N_refl, J01, J_addN, J_pred, F_X9_at, F_X9_backupAt, F_X9_fails, F_X9_thrown, Option.bind_some, if_true, if_false, Nat.add_zero, Nat.zero_add, Nat.mul_zero, Nat.zero_mul, Nat.reduceAdd, Nat.reduceMul, Nat.reduceSub, Nat.reduceEqDiff, Nat.reduceLeDiff, Nat.reduceLT, Nat.reducePow, Nat.not_lt_zero, Nat.zero_le, eq_self, not_true_eq_false, not_false_eq_true, reduceIte, L_0, L_1, L_2, L_3, L_4, L_5, L_6, L_7, L_8, L_9, L_10, L_11, L_12, L_14, L_15, L_16, L_24, L_30, L_31, L_32, L_34, L_40, L_44, L_90, L_96, L_97, L_100, L_120, L_121, L_192, L_997, L_998, L_1000, L_1270, L_10000, L_17780, L_2540, L_32768, L_16510]
    rw [if_neg (by omega)]
    refine lp_run (fun i => (J (a + sm (fun i => (ch cs k i).length) i), J i)) (si cs k) (fun self2 i hi => ?_) (fun self2 => ?_) (by unfold FU; omega)
    · rw [sm_step]
      unfold B_X9_lettersOfEntries_17
      simp (disch := omega) only [g3, g4 i hi, lengthOf_J (w6 i hi), J_add, J_mul, J_sub, J_dec, J_nat, J_lt, J_le, J_eq, gd_J, gz_J, gb_J, J_div, J_mod, md_back, JN, J_neN, J_Nne, J_ltN, J_Nlt, J_leN, J_Nle, N_refl, J01, J_addN, J_pred, F_X9_at, F_X9_backupAt, F_X9_fails, F_X9_thrown, Option.bind_some, if_true, if_false, Nat.add_zero, Nat.zero_add, Nat.mul_zero, Nat.zero_mul, Nat.reduceAdd, Nat.reduceMul, Nat.reduceSub, Nat.reduceEqDiff, Nat.reduceLeDiff, Nat.reduceLT, Nat.reducePow, Nat.not_lt_zero, Nat.zero_le, eq_self, not_true_eq_false, not_false_eq_true, reduceIte, L_0, L_1, L_2, L_3, L_4, L_5, L_6, L_7, L_8, L_9, L_10, L_11, L_12, L_14, L_15, L_16, L_24, L_30, L_31, L_32, L_34, L_40, L_44, L_90, L_96, L_97, L_100, L_120, L_121, L_192, L_997, L_998, L_1000, L_1270, L_10000, L_17780, L_2540, L_32768, L_16510]
      rw [if_neg (by omega), Nat.add_assoc]
    · unfold B_X9_lettersOfEntries_17
      simp (disch := omega) only [g3, Nat.le_refl, J_add, J_mul, J_sub, J_dec, J_nat, J_lt, J_le, J_eq, gd_J, gz_J, gb_J, J_div, J_mod, md_back, JN, J_neN, J_Nne, J_ltN, J_Nlt, J_leN, J_Nle, N_refl, J01, J_addN, J_pred, F_X9_at, F_X9_backupAt, F_X9_fails, F_X9_thrown, Option.bind_some, if_true, if_false, Nat.add_zero, Nat.zero_add, Nat.mul_zero, Nat.zero_mul, Nat.reduceAdd, Nat.reduceMul, Nat.reduceSub, Nat.reduceEqDiff, Nat.reduceLeDiff, Nat.reduceLT, Nat.reducePow, Nat.not_lt_zero, Nat.zero_le, eq_self, not_true_eq_false, not_false_eq_true, reduceIte, L_0, L_1, L_2, L_3, L_4, L_5, L_6, L_7, L_8, L_9, L_10, L_11, L_12, L_14, L_15, L_16, L_24, L_30, L_31, L_32, L_34, L_40, L_44, L_90, L_96, L_97, L_100, L_120, L_121, L_192, L_997, L_998, L_1000, L_1270, L_10000, L_17780, L_2540, L_32768, L_16510]
  · unfold B_X9_lettersOfEntries_4
    simp (disch := omega) only [hR.2.2.1, Nat.le_refl, J_add, J_mul, J_sub, J_dec, J_nat, J_lt, J_le, J_eq, gd_J, gz_J, gb_J, J_div, J_mod, md_back, JN, J_neN, J_Nne, J_ltN, J_Nlt, J_leN, J_Nle, N_refl, J01, J_addN, J_pred, F_X9_at, F_X9_backupAt, F_X9_fails, F_X9_thrown, Option.bind_some, if_true, if_false, Nat.add_zero, Nat.zero_add, Nat.mul_zero, Nat.zero_mul, Nat.reduceAdd, Nat.reduceMul, Nat.reduceSub, Nat.reduceEqDiff, Nat.reduceLeDiff, Nat.reduceLT, Nat.reducePow, Nat.not_lt_zero, Nat.zero_le, eq_self, not_true_eq_false, not_false_eq_true, reduceIte, L_0, L_1, L_2, L_3, L_4, L_5, L_6, L_7, L_8, L_9, L_10, L_11, L_12, L_14, L_15, L_16, L_24, L_30, L_31, L_32, L_34, L_40, L_44, L_90, L_96, L_97, L_100, L_120, L_121, L_192, L_997, L_998, L_1000, L_1270, L_10000, L_17780, L_2540, L_32768, L_16510]
theorem entriesWith_D {d : DKT} {se : Nat → Nat} {nx : Nat} {cs : List Ct} (hd : RDc d se nx cs) (hn : Wn cs) (hW : Wc cs nx) {l : List Nat} (hv : vch l) : F_X1_entriesWith d (J (c8 l)) = some (J (sm (fun k => cp (fun i => decide (ch cs k i = l)) (si cs k)) cs.length)) := by
  have h1 := hn.2
  have e1 : sm (fun k => cp (fun i => decide (ch cs k i = l)) (si cs k)) cs.length = cp (fun e => decide (cf cs e = l)) (st cs cs.length) := by
    rw [cp_flat]
    exact sm_ext fun k hk => cp_ext fun i hi => by rw [cf_at hk hi]
  rw [e1]
  unfold F_X1_entriesWith
  refine lp_run (fun e => (J (cp (fun e => decide (cf cs e = l)) e), J e)) (st cs cs.length) (fun self e he => ?_) (fun self => ?_) (by unfold FU; omega)
  · obtain ⟨g1, g2⟩ := hd.2.2.2.2.2 e he
    unfold B_X1_entriesWith_4
    simp (disch := omega) only [hd.2.2.2.1, g1, c8_eq (cf_v hW he) hv, J_add, J_mul, J_sub, J_dec, J_nat, J_lt, J_le, J_eq, gd_J, gz_J, gb_J, J_div, J_mod, md_back, JN, J_neN, J_Nne, J_ltN, J_Nlt, J_leN, J_Nle, N_refl, J01, J_addN, J_pred, F_X9_at, F_X9_backupAt, F_X9_fails, F_X9_thrown, Option.bind_some, if_true, if_false, Nat.add_zero, Nat.zero_add, Nat.mul_zero, Nat.zero_mul, Nat.reduceAdd, Nat.reduceMul, Nat.reduceSub, Nat.reduceEqDiff, Nat.reduceLeDiff, Nat.reduceLT, Nat.reducePow, Nat.not_lt_zero, Nat.zero_le, eq_self, not_true_eq_false, not_false_eq_true, reduceIte, L_0, L_1, L_2, L_3, L_4, L_5, L_6, L_7, L_8, L_9, L_10, L_11, L_12, L_14, L_15, L_16, L_24, L_30, L_31, L_32, L_34, L_40, L_44, L_90, L_96, L_97, L_100, L_120, L_121, L_192, L_997, L_998, L_1000, L_1270, L_10000, L_17780, L_2540, L_32768, L_16510]
    rw [if_neg (by omega)]
    by_cases q : cf cs e = l
    · rw [cp_yes (by exact decide_eq_true q), if_pos q]
    · rw [cp_no (by exact decide_eq_false q), if_neg q]
  · unfold B_X1_entriesWith_4
    simp (disch := omega) only [hd.2.2.2.1, Nat.le_refl, J_add, J_mul, J_sub, J_dec, J_nat, J_lt, J_le, J_eq, gd_J, gz_J, gb_J, J_div, J_mod, md_back, JN, J_neN, J_Nne, J_ltN, J_Nlt, J_leN, J_Nle, N_refl, J01, J_addN, J_pred, F_X9_at, F_X9_backupAt, F_X9_fails, F_X9_thrown, Option.bind_some, if_true, if_false, Nat.add_zero, Nat.zero_add, Nat.mul_zero, Nat.zero_mul, Nat.reduceAdd, Nat.reduceMul, Nat.reduceSub, Nat.reduceEqDiff, Nat.reduceLeDiff, Nat.reduceLT, Nat.reducePow, Nat.not_lt_zero, Nat.zero_le, eq_self, not_true_eq_false, not_false_eq_true, reduceIte, L_0, L_1, L_2, L_3, L_4, L_5, L_6, L_7, L_8, L_9, L_10, L_11, L_12, L_14, L_15, L_16, L_24, L_30, L_31, L_32, L_34, L_40, L_44, L_90, L_96, L_97, L_100, L_120, L_121, L_192, L_997, L_998, L_1000, L_1270, L_10000, L_17780, L_2540, L_32768, L_16510]
