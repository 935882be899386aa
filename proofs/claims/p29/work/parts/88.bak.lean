/-! THE PURE SIDE: readers of backups, the class's and the Model's -/
theorem hasBackup_D {d : DKT} {cs : List Ct} {bs : Nat → List (Nat × Nat)} (hd : RDb d cs bs) (hb : Wb cs bs) {b : Nat} (h8 : b < 8) : F_X1_hasBackup d (J b) = some (J (min 1 (bs b).length)) := by
  obtain ⟨g1, g2⟩ := hd b h8
  obtain ⟨v1, v2⟩ := hb b h8
  unfold F_X1_hasBackup
  simp (disch := omega) only [g1, J_add, J_mul, J_sub, J_dec, J_nat, J_lt, J_le, J_eq, gd_J, gz_J, gb_J, J_div, J_mod, md_back, JN, J_neN, J_Nne, J_ltN, J_Nlt, J_leN, J_Nle, N_refl, J01, J_addN, J_pred, F_X9_at, F_X9_backupAt, F_X9_fails, F_X9_thrown, Option.bind_some, if_true, if_false, Nat.add_zero, Nat.zero_add, Nat.mul_zero, Nat.zero_mul, Nat.reduceAdd, Nat.reduceMul, Nat.reduceSub, Nat.reduceEqDiff, Nat.reduceLeDiff, Nat.reduceLT, Nat.reducePow, Nat.not_lt_zero, Nat.zero_le, eq_self, not_true_eq_false, not_false_eq_true, reduceIte, L_0, L_1, L_2, L_3, L_4, L_5, L_6, L_7, L_8, L_9, L_10, L_11, L_12, L_14, L_15, L_16, L_24, L_30, L_31, L_32, L_34, L_40, L_44, L_90, L_96, L_97, L_100, L_120, L_121, L_192, L_997, L_998, L_1000, L_1270, L_10000, L_17780, L_2540, L_32768, L_16510]
  rw [if_neg (by omega)]
  by_cases q : (bs b).length = 0
  · rw [if_pos (by omega), q]; rfl
  · rw [if_neg (by omega), show min 1 (bs b).length = 1 by omega]
theorem isBackup_M {s : Nat → Int32} {cs : List Ct} {bs : Nat → List (Nat × Nat)} (hm : RMb s bs) (hb : Wb cs bs) {b : Nat} (h8 : b < 8) : F_X9_isBackup s (J b) = some (J (min 1 (bs b).length)) := by
  obtain ⟨g1, g2, g3⟩ := hm b h8
  obtain ⟨v1, v2⟩ := hb b h8
  unfold F_X9_isBackup F_X9_in
  simp (disch := omega) only [g1, J_add, J_mul, J_sub, J_dec, J_nat, J_lt, J_le, J_eq, gd_J, gz_J, gb_J, J_div, J_mod, md_back, JN, J_neN, J_Nne, J_ltN, J_Nlt, J_leN, J_Nle, N_refl, J01, J_addN, J_pred, F_X9_at, F_X9_backupAt, F_X9_fails, F_X9_thrown, Option.bind_some, if_true, if_false, Nat.add_zero, Nat.zero_add, Nat.mul_zero, Nat.zero_mul, Nat.reduceAdd, Nat.reduceMul, Nat.reduceSub, Nat.reduceEqDiff, Nat.reduceLeDiff, Nat.reduceLT, Nat.reducePow, Nat.not_lt_zero, Nat.zero_le, eq_self, not_true_eq_false, not_false_eq_true, reduceIte, L_0, L_1, L_2, L_3, L_4, L_5, L_6, L_7, L_8, L_9, L_10, L_11, L_12, L_14, L_15, L_16, L_24, L_30, L_31, L_32, L_34, L_40, L_44, L_90, L_96, L_97, L_100, L_120, L_121, L_192, L_997, L_998, L_1000, L_1270, L_10000, L_17780, L_2540, L_32768, L_16510]
  rw [if_neg (by omega)]
  simp (disch := omega) only [J_add, J_mul, J_sub, J_dec, J_nat, J_lt, J_le, J_eq, gd_J, gz_J, gb_J, J_div, J_mod, md_back, JN, J_neN, J_Nne, J_ltN, J_Nlt, J_leN, J_Nle, N_refl, J01, J_addN, J_pred, F_X9_at, F_X9_backupAt, F_X9_fails, F_X9_thrown, Option.bind_some, if_true, if_false, Nat.add_zero, Nat.zero_add, Nat.mul_zero, Nat.zero_mul, Nat.reduceAdd, Nat.reduceMul, Nat.reduceSub, Nat.reduceEqDiff, Nat.reduceLeDiff, Nat.reduceLT, Nat.reducePow, Nat.not_lt_zero, Nat.zero_le, eq_self, not_true_eq_false, not_false_eq_true, reduceIte, L_0, L_1, L_2, L_3, L_4, L_5, L_6, L_7, L_8, L_9, L_10, L_11, L_12, L_14, L_15, L_16, L_24, L_30, L_31, L_32, L_34, L_40, L_44, L_90, L_96, L_97, L_100, L_120, L_121, L_192, L_997, L_998, L_1000, L_1270, L_10000, L_17780, L_2540, L_32768, L_16510]
  by_cases q : (bs b).length = 0
  · rw [if_neg (by omega), q]; rfl
  · rw [if_pos (by omega), show min 1 (bs b).length = 1 by omega]
theorem hasB {d : DKT} {s : Nat → Int32} {cs : List Ct} {bs : Nat → List (Nat × Nat)} (hd : RDb d cs bs) (hm : RMb s bs) (hb : Wb cs bs) (x : Int32) : (∃ b, b < 8 ∧ x = J b ∧ 1 ≤ (bs b).length ∧ F_X1_hasBackup d x = some (J 1) ∧ F_X9_isBackup s x = some (J 1)) ∨ (F_X1_hasBackup d x = some (J 0) ∧ F_X9_isBackup s x = some (J 0)) := by
  by_cases c1 : x < 0
  · right
    have c2 : x < J 0 := c1
    unfold F_X1_hasBackup F_X9_isBackup F_X9_in
    constructor
    · rw [if_pos c1]; rfl
    · simp (disch := omega) only [c2, J_add, J_mul, J_sub, J_dec, J_nat, J_lt, J_le, J_eq, gd_J, gz_J, gb_J, J_div, J_mod, md_back, JN, J_neN, J_Nne, J_ltN, J_Nlt, J_leN, J_Nle, N_refl, J01, J_addN, J_pred, F_X9_at, F_X9_backupAt, F_X9_fails, F_X9_thrown, Option.bind_some, if_true, if_false, Nat.add_zero, Nat.zero_add, Nat.mul_zero, Nat.zero_mul, Nat.reduceAdd, Nat.reduceMul, Nat.reduceSub, Nat.reduceEqDiff, Nat.reduceLeDiff, Nat.reduceLT, Nat.reducePow, Nat.not_lt_zero, Nat.zero_le, eq_self, not_true_eq_false, not_false_eq_true, reduceIte, L_0, L_1, L_2, L_3, L_4, L_5, L_6, L_7, L_8, L_9, L_10, L_11, L_12, L_14, L_15, L_16, L_24, L_30, L_31, L_32, L_34, L_40, L_44, L_90, L_96, L_97, L_100, L_120, L_121, L_192, L_997, L_998, L_1000, L_1270, L_10000, L_17780, L_2540, L_32768, L_16510]
  obtain ⟨b, hb31, rfl⟩ := J_of c1
  by_cases c2 : b < 8
  · have h1 := hasBackup_D hd hb c2
    have h2 := isBackup_M hm hb c2
    by_cases q : (bs b).length = 0
    · right
      rw [h1, h2, q]
      exact ⟨rfl, rfl⟩
    · left
      rw [h1, h2, show min 1 (bs b).length = 1 by omega]
      exact ⟨b, c2, rfl, by omega, rfl, rfl⟩
  · right
    unfold F_X1_hasBackup F_X9_isBackup F_X9_in
    constructor
    · simp (disch := omega) only [J_add, J_mul, J_sub, J_dec, J_nat, J_lt, J_le, J_eq, gd_J, gz_J, gb_J, J_div, J_mod, md_back, JN, J_neN, J_Nne, J_ltN, J_Nlt, J_leN, J_Nle, N_refl, J01, J_addN, J_pred, F_X9_at, F_X9_backupAt, F_X9_fails, F_X9_thrown, Option.bind_some, if_true, if_false, Nat.add_zero, Nat.zero_add, Nat.mul_zero, Nat.zero_mul, Nat.reduceAdd, Nat.reduceMul, Nat.reduceSub, Nat.reduceEqDiff, Nat.reduceLeDiff, Nat.reduceLT, Nat.reducePow, Nat.not_lt_zero, Nat.zero_le, eq_self, not_true_eq_false, not_false_eq_true, reduceIte, L_0, L_1, L_2, L_3, L_4, L_5, L_6, L_7, L_8, L_9, L_10, L_11, L_12, L_14, L_15, L_16, L_24, L_30, L_31, L_32, L_34, L_40, L_44, L_90, L_96, L_97, L_100, L_120, L_121, L_192, L_997, L_998, L_1000, L_1270, L_10000, L_17780, L_2540, L_32768, L_16510]
      rw [if_pos (by omega)]
    · simp (disch := omega) only [J_add, J_mul, J_sub, J_dec, J_nat, J_lt, J_le, J_eq, gd_J, gz_J, gb_J, J_div, J_mod, md_back, JN, J_neN, J_Nne, J_ltN, J_Nlt, J_leN, J_Nle, N_refl, J01, J_addN, J_pred, F_X9_at, F_X9_backupAt, F_X9_fails, F_X9_thrown, Option.bind_some, if_true, if_false, Nat.add_zero, Nat.zero_add, Nat.mul_zero, Nat.zero_mul, Nat.reduceAdd, Nat.reduceMul, Nat.reduceSub, Nat.reduceEqDiff, Nat.reduceLeDiff, Nat.reduceLT, Nat.reducePow, Nat.not_lt_zero, Nat.zero_le, eq_self, not_true_eq_false, not_false_eq_true, reduceIte, L_0, L_1, L_2, L_3, L_4, L_5, L_6, L_7, L_8, L_9, L_10, L_11, L_12, L_14, L_15, L_16, L_24, L_30, L_31, L_32, L_34, L_40, L_44, L_90, L_96, L_97, L_100, L_120, L_121, L_192, L_997, L_998, L_1000, L_1270, L_10000, L_17780, L_2540, L_32768, L_16510]
      rw [if_pos (by omega)]
      simp (disch := omega) only [J_add, J_mul, J_sub, J_dec, J_nat, J_lt, J_le, J_eq, gd_J, gz_J, gb_J, J_div, J_mod, md_back, JN, J_neN, J_Nne, J_ltN, J_Nlt, J_leN, J_Nle, N_refl, J01, J_addN, J_pred, F_X9_at, F_X9_backupAt, F_X9_fails, F_X9_thrown, Option.bind_some, if_true, if_false, Nat.add_zero, Nat.zero_add, Nat.mul_zero, Nat.zero_mul, Nat.reduceAdd, Nat.reduceMul, Nat.reduceSub, Nat.reduceEqDiff, Nat.reduceLeDiff, Nat.reduceLT, Nat.reducePow, Nat.not_lt_zero, Nat.zero_le, eq_self, not_true_eq_false, not_false_eq_true, reduceIte, L_0, L_1, L_2, L_3, L_4, L_5, L_6, L_7, L_8, L_9, L_10, L_11, L_12, L_14, L_15, L_16, L_24, L_30, L_31, L_32, L_34, L_40, L_44, L_90, L_96, L_97, L_100, L_120, L_121, L_192, L_997, L_998, L_1000, L_1270, L_10000, L_17780, L_2540, L_32768, L_16510]
theorem chunksOf_D {d : DKT} {cs : List Ct} {bs : Nat → List (Nat × Nat)} (hd : RDb d cs bs) (hb : Wb cs bs) {b : Nat} (h8 : b < 8) : F_X1_chunksOf d (J b) = some (J (bs b).length) := by
  obtain ⟨g1, g2⟩ := hd b h8
  obtain ⟨v1, v2⟩ := hb b h8
  unfold F_X1_chunksOf
  rw [hasBackup_D hd hb h8]
  simp (disch := omega) only [g1, J_add, J_mul, J_sub, J_dec, J_nat, J_lt, J_le, J_eq, gd_J, gz_J, gb_J, J_div, J_mod, md_back, JN, J_neN, J_Nne, J_ltN, J_Nlt, J_leN, J_Nle, N_refl, J01, J_addN, J_pred, F_X9_at, F_X9_backupAt, F_X9_fails, F_X9_thrown, Option.bind_some, if_true, if_false, Nat.add_zero, Nat.zero_add, Nat.mul_zero, Nat.zero_mul, Nat.reduceAdd, Nat.reduceMul, Nat.reduceSub, Nat.reduceEqDiff, Nat.reduceLeDiff, Nat.reduceLT, Nat.reducePow, Nat.not_lt_zero, Nat.zero_le, eq_self, not_true_eq_false, not_false_eq_true, reduceIte, L_0, L_1, L_2, L_3, L_4, L_5, L_6, L_7, L_8, L_9, L_10, L_11, L_12, L_14, L_15, L_16, L_24, L_30, L_31, L_32, L_34, L_40, L_44, L_90, L_96, L_97, L_100, L_120, L_121, L_192, L_997, L_998, L_1000, L_1270, L_10000, L_17780, L_2540, L_32768, L_16510]
  by_cases q : (bs b).length = 0
  · rw [if_pos (by omega), q]
  · rw [if_neg (by omega)]
theorem entryReferred_D {d : DKT} {cs : List Ct} {bs : Nat → List (Nat × Nat)} (hd : RDb d cs bs) (hb : Wb cs bs) {b i : Nat} (h8 : b < 8) (hi : i < (bs b).length) : F_X1_entryReferred d (J b) (J i) = some (J (ex cs (rf (bs b) i))) := by
  obtain ⟨g1, g2⟩ := hd b h8
  obtain ⟨v1, v2⟩ := hb b h8
  unfold F_X1_entryReferred
  simp (disch := omega) only [chunksOf_D hd hb h8, g2 i hi, J_add, J_mul, J_sub, J_dec, J_nat, J_lt, J_le, J_eq, gd_J, gz_J, gb_J, J_div, J_mod, md_back, JN, J_neN, J_Nne, J_ltN, J_Nlt, J_leN, J_Nle, N_refl, J01, J_addN, J_pred, F_X9_at, F_X9_backupAt, F_X9_fails, F_X9_thrown, Option.bind_some, if_true, if_false, Nat.add_zero, Nat.zero_add, Nat.mul_zero, Nat.zero_mul, Nat.reduceAdd, Nat.reduceMul, Nat.reduceSub, Nat.reduceEqDiff, Nat.reduceLeDiff, Nat.reduceLT, Nat.reducePow, Nat.not_lt_zero, Nat.zero_le, eq_self, not_true_eq_false, not_false_eq_true, reduceIte, L_0, L_1, L_2, L_3, L_4, L_5, L_6, L_7, L_8, L_9, L_10, L_11, L_12, L_14, L_15, L_16, L_24, L_30, L_31, L_32, L_34, L_40, L_44, L_90, L_96, L_97, L_100, L_120, L_121, L_192, L_997, L_998, L_1000, L_1270, L_10000, L_17780, L_2540, L_32768, L_16510]
  rw [if_pos hi]
theorem backups_D {d : DKT} {cs : List Ct} {bs : Nat → List (Nat × Nat)} (hd : RDb d cs bs) (hb : Wb cs bs) : F_X1_backups d = some (J (sm (fun b => min 1 (bs b).length) 8)) := by
  unfold F_X1_backups
  refine lp_run (fun b => (J (sm (fun b => min 1 (bs b).length) b), J b)) 8 (fun self b h8 => ?_) (fun self => ?_) (by unfold FU; omega)
  · obtain ⟨g1, g2⟩ := hd b h8
    obtain ⟨v1, v2⟩ := hb b h8
    rw [sm_step]
    unfold B_X1_backups_4
    simp (disch := omega) only [g1, J_add, J_mul, J_sub, J_dec, J_nat, J_lt, J_le, J_eq, gd_J, gz_J, gb_J, J_div, J_mod, md_back, JN, J_neN, J_Nne, J_ltN, J_Nlt, J_leN, J_Nle, N_refl, J01, J_addN, J_pred, F_X9_at, F_X9_backupAt, F_X9_fails, F_X9_thrown, Option.bind_some, if_true, if_false, Nat.add_zero, Nat.zero_add, Nat.mul_zero, Nat.zero_mul, Nat.reduceAdd, Nat.reduceMul, Nat.reduceSub, Nat.reduceEqDiff, Nat.reduceLeDiff, Nat.reduceLT, Nat.reducePow, Nat.not_lt_zero, Nat.zero_le, eq_self, not_true_eq_false, not_false_eq_true, reduceIte, L_0, L_1, L_2, L_3, L_4, L_5, L_6, L_7, L_8, L_9, L_10, L_11, L_12, L_14, L_15, L_16, L_24, L_30, L_31, L_32, L_34, L_40, L_44, L_90, L_96, L_97, L_100, L_120, L_121, L_192, L_997, L_998, L_1000, L_1270, L_10000, L_17780, L_2540, L_32768, L_16510]
    rw [if_neg (by omega)]
    by_cases q : (bs b).length = 0
    · rw [if_pos (by omega), q]; rfl
    · rw [if_neg (by omega), show min 1 (bs b).length = 1 by omega]
  · unfold B_X1_backups_4
    simp (disch := omega) only [Nat.le_refl, J_add, J_mul, J_sub, J_dec, J_nat, J_lt, J_le, J_eq, gd_J, gz_J, gb_J, J_div, J_mod, md_back, JN, J_neN, J_Nne, J_ltN, J_Nlt, J_leN, J_Nle, N_refl, J01, J_addN, J_pred, F_X9_at, F_X9_backupAt, F_X9_fails, F_X9_thrown, Option.bind_some, if_true, if_false, Nat.add_zero, Nat.zero_add, Nat.mul_zero, Nat.zero_mul, Nat.reduceAdd, Nat.reduceMul, Nat.reduceSub, Nat.reduceEqDiff, Nat.reduceLeDiff, Nat.reduceLT, Nat.reducePow, Nat.not_lt_zero, Nat.zero_le, eq_self, not_true_eq_false, not_false_eq_true, reduceIte, L_0, L_1, L_2, L_3, L_4, L_5, L_6, L_7, L_8, L_9, L_10, L_11, L_12, L_14, L_15, L_16, L_24, L_30, L_31, L_32, L_34, L_40, L_44, L_90, L_96, L_97, L_100, L_120, L_121, L_192, L_997, L_998, L_1000, L_1270, L_10000, L_17780, L_2540, L_32768, L_16510]
theorem backups_M {s : Nat → Int32} {bs : Nat → List (Nat × Nat)} (hm : RMb s bs) : F_X9_backups s = some (J (sm (fun b => min 1 (bs b).length) 8)) := by
  unfold F_X9_backups
  refine lp_run (fun b => (J (sm (fun b => min 1 (bs b).length) b), J b)) 8 (fun self b h8 => ?_) (fun self => ?_) (by unfold FU; omega)
  · obtain ⟨g1, g2, g3⟩ := hm b h8
    rw [sm_step]
    unfold B_X9_backups_4
    simp (disch := omega) only [g1, J_add, J_mul, J_sub, J_dec, J_nat, J_lt, J_le, J_eq, gd_J, gz_J, gb_J, J_div, J_mod, md_back, JN, J_neN, J_Nne, J_ltN, J_Nlt, J_leN, J_Nle, N_refl, J01, J_addN, J_pred, F_X9_at, F_X9_backupAt, F_X9_fails, F_X9_thrown, Option.bind_some, if_true, if_false, Nat.add_zero, Nat.zero_add, Nat.mul_zero, Nat.zero_mul, Nat.reduceAdd, Nat.reduceMul, Nat.reduceSub, Nat.reduceEqDiff, Nat.reduceLeDiff, Nat.reduceLT, Nat.reducePow, Nat.not_lt_zero, Nat.zero_le, eq_self, not_true_eq_false, not_false_eq_true, reduceIte, L_0, L_1, L_2, L_3, L_4, L_5, L_6, L_7, L_8, L_9, L_10, L_11, L_12, L_14, L_15, L_16, L_24, L_30, L_31, L_32, L_34, L_40, L_44, L_90, L_96, L_97, L_100, L_120, L_121, L_192, L_997, L_998, L_1000, L_1270, L_10000, L_17780, L_2540, L_32768, L_16510]
    rw [if_neg (by omega)]
  · unfold B_X9_backups_4
    simp (disch := omega) only [Nat.le_refl, J_add, J_mul, J_sub, J_dec, J_nat, J_lt, J_le, J_eq, gd_J, gz_J, gb_J, J_div, J_mod, md_back, JN, J_neN, J_Nne, J_ltN, J_Nlt, J_leN, J_Nle, N_refl, J01, J_addN, J_pred, F_X9_at, F_X9_backupAt, F_X9_fails, F_X9_thrown, Option.bind_some, if_true, if_false, Nat.add_zero, Nat.zero_add, Nat.mul_zero, Nat.zero_mul, Nat.reduceAdd, Nat.reduceMul, Nat.reduceSub, Nat.reduceEqDiff, Nat.reduceLeDiff, Nat.reduceLT, Nat.reducePow, Nat.not_lt_zero, Nat.zero_le, eq_self, not_true_eq_false, not_false_eq_true, reduceIte, L_0, L_1, L_2, L_3, L_4, L_5, L_6, L_7, L_8, L_9, L_10, L_11, L_12, L_14, L_15, L_16, L_24, L_30, L_31, L_32, L_34, L_40, L_44, L_90, L_96, L_97, L_100, L_120, L_121, L_192, L_997, L_998, L_1000, L_1270, L_10000, L_17780, L_2540, L_32768, L_16510]
theorem allRefs_D {d : DKT} {cs : List Ct} {bs : Nat → List (Nat × Nat)} (hd : RDb d cs bs) (hb : Wb cs bs) : F_X1_allReferences d = some (J (sm (fun b => (bs b).length) 8)) := by
  unfold F_X1_allReferences
  refine lp_run (fun b => (J (sm (fun b => (bs b).length) b), J b)) 8 (fun self b h8 => ?_) (fun self => ?_) (by unfold FU; omega)
  · obtain ⟨g1, g2⟩ := hd b h8
    rw [sm_step]
    unfold B_X1_allReferences_4
    simp (disch := omega) only [g1, J_add, J_mul, J_sub, J_dec, J_nat, J_lt, J_le, J_eq, gd_J, gz_J, gb_J, J_div, J_mod, md_back, JN, J_neN, J_Nne, J_ltN, J_Nlt, J_leN, J_Nle, N_refl, J01, J_addN, J_pred, F_X9_at, F_X9_backupAt, F_X9_fails, F_X9_thrown, Option.bind_some, if_true, if_false, Nat.add_zero, Nat.zero_add, Nat.mul_zero, Nat.zero_mul, Nat.reduceAdd, Nat.reduceMul, Nat.reduceSub, Nat.reduceEqDiff, Nat.reduceLeDiff, Nat.reduceLT, Nat.reducePow, Nat.not_lt_zero, Nat.zero_le, eq_self, not_true_eq_false, not_false_eq_true, reduceIte, L_0, L_1, L_2, L_3, L_4, L_5, L_6, L_7, L_8, L_9, L_10, L_11, L_12, L_14, L_15, L_16, L_24, L_30, L_31, L_32, L_34, L_40, L_44, L_90, L_96, L_97, L_100, L_120, L_121, L_192, L_997, L_998, L_1000, L_1270, L_10000, L_17780, L_2540, L_32768, L_16510]
    rw [if_neg (by omega)]
  · unfold B_X1_allReferences_4
    simp (disch := omega) only [Nat.le_refl, J_add, J_mul, J_sub, J_dec, J_nat, J_lt, J_le, J_eq, gd_J, gz_J, gb_J, J_div, J_mod, md_back, JN, J_neN, J_Nne, J_ltN, J_Nlt, J_leN, J_Nle, N_refl, J01, J_addN, J_pred, F_X9_at, F_X9_backupAt, F_X9_fails, F_X9_thrown, Option.bind_some, if_true, if_false, Nat.add_zero, Nat.zero_add, Nat.mul_zero, Nat.zero_mul, Nat.reduceAdd, Nat.reduceMul, Nat.reduceSub, Nat.reduceEqDiff, Nat.reduceLeDiff, Nat.reduceLT, Nat.reducePow, Nat.not_lt_zero, Nat.zero_le, eq_self, not_true_eq_false, not_false_eq_true, reduceIte, L_0, L_1, L_2, L_3, L_4, L_5, L_6, L_7, L_8, L_9, L_10, L_11, L_12, L_14, L_15, L_16, L_24, L_30, L_31, L_32, L_34, L_40, L_44, L_90, L_96, L_97, L_100, L_120, L_121, L_192, L_997, L_998, L_1000, L_1270, L_10000, L_17780, L_2540, L_32768, L_16510]
/-- the chunk of a reference -/
def cr (cs : List Ct) (r : Nat × Nat) : List Nat := ch cs (pl cs r.1) r.2
theorem cr_v {cs : List Ct} {nx : Nat} {r : Nat × Nat} (hW : Wc cs nx) (h : RV cs r) : vch (cr cs r) := (ex_in hW h).2.2.2
theorem codeRef_D {d : DKT} {se : Nat → Nat} {nx : Nat} {cs : List Ct} (hd : RDc d se nx cs) (hn : Wn cs) (hW : Wc cs nx) {r : Nat × Nat} (h : RV cs r) : F_X1_codeOfEntry d (J (ex cs r)) = some (J (c8 (cr cs r))) := by
  obtain ⟨h1, h2, h3, h4⟩ := ex_in hW h
  rw [codeOf_D hd hn h1, h3]
  rfl
theorem placeRef_D {d : DKT} {se : Nat → Nat} {nx : Nat} {cs : List Ct} (hd : RDc d se nx cs) (hn : Wn cs) (hW : Wc cs nx) {r : Nat × Nat} (h : RV cs r) : F_X1_placeOfEntry d (J (ex cs r)) = some (J (pl cs r.1)) := by
  obtain ⟨h1, h2, h3, h4⟩ := ex_in hW h
  rw [placeOf_D hd hn h1, h2]
theorem referred_M {s : Nat → Int32} {se : Nat → Nat} {nx : Nat} {cs : List Ct} {bs : Nat → List (Nat × Nat)} (hR : RMc s se nx cs) (hm : RMb s bs) (hW : Wc cs nx) (hb : Wb cs bs) (hl : cs.length ≤ 92) {b i : Nat} (h8 : b < 8) (hi : i < (bs b).length) : F_X9_referred s (J b) (J i) = some (J (c9 (cr cs (rf (bs b) i)))) := by
  obtain ⟨g1, g2, g3⟩ := hm b h8
  obtain ⟨v1, v2⟩ := hb b h8
  obtain ⟨k1, k2⟩ := g3 i hi
  obtain ⟨p1, p2, p3⟩ := pl_RV hW (v2 i hi)
  obtain ⟨w1, w2, w3, w4, w5, w6⟩ := hW.2.1 _ p1
  have hs := slot_M hR hW hl p1
  rw [p2] at hs
  obtain ⟨m1, m2, m3, m4⟩ := hR.2.2.2 _ p1
  unfold F_X9_referred
  simp (disch := omega) only [k1, k2, hs, m4 _ p3, J_add, J_mul, J_sub, J_dec, J_nat, J_lt, J_le, J_eq, gd_J, gz_J, gb_J, J_div, J_mod, md_back, JN, J_neN, J_Nne, J_ltN, J_Nlt, J_leN, J_Nle, N_refl, J01, J_addN, J_pred, F_X9_at, F_X9_backupAt, F_X9_fails, F_X9_thrown, Option.bind_some, if_true, if_false, Nat.add_zero, Nat.zero_add, Nat.mul_zero, Nat.zero_mul, Nat.reduceAdd, Nat.reduceMul, Nat.reduceSub, Nat.reduceEqDiff, Nat.reduceLeDiff, Nat.reduceLT, Nat.reducePow, Nat.not_lt_zero, Nat.zero_le, eq_self, not_true_eq_false, not_false_eq_true, reduceIte, L_0, L_1, L_2, L_3, L_4, L_5, L_6, L_7, L_8, L_9, L_10, L_11, L_12, L_14, L_15, L_16, L_24, L_30, L_31, L_32, L_34, L_40, L_44, L_90, L_96, L_97, L_100, L_120, L_121, L_192, L_997, L_998, L_1000, L_1270, L_10000, L_17780, L_2540, L_32768, L_16510]
  rfl
theorem lettersOf_D {d : DKT} {se : Nat → Nat} {nx : Nat} {cs : List Ct} {bs : Nat → List (Nat × Nat)} (hd : RDc d se nx cs) (hD : RDb d cs bs) (hn : Wn cs) (hW : Wc cs nx) (hb : Wb cs bs) {b : Nat} (h8 : b < 8) : F_X1_lettersOf d (J b) = some (J (sm (fun i => (cr cs (rf (bs b) i)).length) (bs b).length)) := by
  obtain ⟨v1, v2⟩ := hb b h8
  unfold F_X1_lettersOf
  refine lp_run (fun i => (J (sm (fun i => (cr cs (rf (bs b) i)).length) i), J i)) (bs b).length (fun self i hi => ?_) (fun self => ?_) (by unfold FU; omega)
  · rw [sm_step]
    unfold B_X1_lettersOf_4
    simp (disch := omega) only [chunksOf_D hD hb h8, entryReferred_D hD hb h8 hi, codeRef_D hd hn hW (v2 i hi), count_J (cr_v hW (v2 i hi)), J_add, J_mul, J_sub, J_dec, J_nat, J_lt, J_le, J_eq, gd_J, gz_J, gb_J, J_div, J_mod, md_back, JN, J_neN, J_Nne, J_ltN, J_Nlt, J_leN, J_Nle, N_refl, J01, J_addN, J_pred, F_X9_at, F_X9_backupAt, F_X9_fails, F_X9_thrown, Option.bind_some, if_true, if_false, Nat.add_zero, Nat.zero_add, Nat.mul_zero, Nat.zero_mul, Nat.reduceAdd, Nat.reduceMul, Nat.reduceSub, Nat.reduceEqDiff, Nat.reduceLeDiff, Nat.reduceLT, Nat.reducePow, Nat.not_lt_zero, Nat.zero_le, eq_self, not_true_eq_false, not_false_eq_true, reduceIte, L_0, L_1, L_2, L_3, L_4, L_5, L_6, L_7, L_8, L_9, L_10, L_11, L_12, L_14, L_15, L_16, L_24, L_30, L_31, L_32, L_34, L_40, L_44, L_90, L_96, L_97, L_100, L_120, L_121, L_192, L_997, L_998, L_1000, L_1270, L_10000, L_17780, L_2540, L_32768, L_16510]
    rw [if_neg (by omega)]
  · unfold B_X1_lettersOf_4
    simp (disch := omega) only [chunksOf_D hD hb h8, Nat.le_refl, J_add, J_mul, J_sub, J_dec, J_nat, J_lt, J_le, J_eq, gd_J, gz_J, gb_J, J_div, J_mod, md_back, JN, J_neN, J_Nne, J_ltN, J_Nlt, J_leN, J_Nle, N_refl, J01, J_addN, J_pred, F_X9_at, F_X9_backupAt, F_X9_fails, F_X9_thrown, Option.bind_some, if_true, if_false, Nat.add_zero, Nat.zero_add, Nat.mul_zero, Nat.zero_mul, Nat.reduceAdd, Nat.reduceMul, Nat.reduceSub, Nat.reduceEqDiff, Nat.reduceLeDiff, Nat.reduceLT, Nat.reducePow, Nat.not_lt_zero, Nat.zero_le, eq_self, not_true_eq_false, not_false_eq_true, reduceIte, L_0, L_1, L_2, L_3, L_4, L_5, L_6, L_7, L_8, L_9, L_10, L_11, L_12, L_14, L_15, L_16, L_24, L_30, L_31, L_32, L_34, L_40, L_44, L_90, L_96, L_97, L_100, L_120, L_121, L_192, L_997, L_998, L_1000, L_1270, L_10000, L_17780, L_2540, L_32768, L_16510]
/-- whether a backup refers to a container -/
def rt (l : List (Nat × Nat)) (n : Nat) : Bool := decide (0 < cp (fun i => decide ((rf l i).1 = n)) l.length)
theorem refersTo_D {d : DKT} {se : Nat → Nat} {nx : Nat} {cs : List Ct} {bs : Nat → List (Nat × Nat)} (hd : RDc d se nx cs) (hD : RDb d cs bs) (hn : Wn cs) (hW : Wc cs nx) (hb : Wb cs bs) {b k : Nat} (h8 : b < 8) (hk : k < cs.length) : F_X1_refersTo d (J b) (J k) = some (J (if rt (bs b) (nu cs k) then 1 else 0)) := by
  obtain ⟨v1, v2⟩ := hb b h8
  have n1 := hn.1
  obtain ⟨f1, f2, f3⟩ := fi_spec (fun i => decide ((rf (bs b) i).1 = nu cs k)) (bs b).length
  have hpl : ∀ i, i < (bs b).length → ((J (pl cs (rf (bs b) i).1) = J k) ↔ (rf (bs b) i).1 = nu cs k) := by
    intro i hi
    obtain ⟨p1, p2, p3⟩ := pl_RV hW (v2 i hi)
    rw [J_eq (by omega) (by omega)]
    exact ⟨fun h => by rw [← p2, h], fun h => by rw [h]; exact pl_at hW hk⟩
  unfold F_X1_refersTo
  refine lp_run (fun i => J i) (fi (fun i => decide ((rf (bs b) i).1 = nu cs k)) (bs b).length) (fun self i hi => ?_) (fun self => ?_) (by unfold FU; omega)
  · have h2 := of_decide_eq_false (f2 i hi)
    unfold B_X1_refersTo_2
    simp (disch := omega) only [chunksOf_D hD hb h8, entryReferred_D hD hb h8 (show i < (bs b).length by omega), placeRef_D hd hn hW (v2 i (by omega)), hpl i (by omega), J_add, J_mul, J_sub, J_dec, J_nat, J_lt, J_le, J_eq, gd_J, gz_J, gb_J, J_div, J_mod, md_back, JN, J_neN, J_Nne, J_ltN, J_Nlt, J_leN, J_Nle, N_refl, J01, J_addN, J_pred, F_X9_at, F_X9_backupAt, F_X9_fails, F_X9_thrown, Option.bind_some, if_true, if_false, Nat.add_zero, Nat.zero_add, Nat.mul_zero, Nat.zero_mul, Nat.reduceAdd, Nat.reduceMul, Nat.reduceSub, Nat.reduceEqDiff, Nat.reduceLeDiff, Nat.reduceLT, Nat.reducePow, Nat.not_lt_zero, Nat.zero_le, eq_self, not_true_eq_false, not_false_eq_true, reduceIte, L_0, L_1, L_2, L_3, L_4, L_5, L_6, L_7, L_8, L_9, L_10, L_11, L_12, L_14, L_15, L_16, L_24, L_30, L_31, L_32, L_34, L_40, L_44, L_90, L_96, L_97, L_100, L_120, L_121, L_192, L_997, L_998, L_1000, L_1270, L_10000, L_17780, L_2540, L_32768, L_16510]
    rw [if_neg (by omega), if_neg h2]
  · unfold rt
    generalize fi (fun i => decide ((rf (bs b) i).1 = nu cs k)) (bs b).length = N at *
    unfold B_X1_refersTo_2
    simp (disch := omega) only [chunksOf_D hD hb h8, J_add, J_mul, J_sub, J_dec, J_nat, J_lt, J_le, J_eq, gd_J, gz_J, gb_J, J_div, J_mod, md_back, JN, J_neN, J_Nne, J_ltN, J_Nlt, J_leN, J_Nle, N_refl, J01, J_addN, J_pred, F_X9_at, F_X9_backupAt, F_X9_fails, F_X9_thrown, Option.bind_some, if_true, if_false, Nat.add_zero, Nat.zero_add, Nat.mul_zero, Nat.zero_mul, Nat.reduceAdd, Nat.reduceMul, Nat.reduceSub, Nat.reduceEqDiff, Nat.reduceLeDiff, Nat.reduceLT, Nat.reducePow, Nat.not_lt_zero, Nat.zero_le, eq_self, not_true_eq_false, not_false_eq_true, reduceIte, L_0, L_1, L_2, L_3, L_4, L_5, L_6, L_7, L_8, L_9, L_10, L_11, L_12, L_14, L_15, L_16, L_24, L_30, L_31, L_32, L_34, L_40, L_44, L_90, L_96, L_97, L_100, L_120, L_121, L_192, L_997, L_998, L_1000, L_1270, L_10000, L_17780, L_2540, L_32768, L_16510]
    by_cases q : N < (bs b).length
    · have h2 := f3 q
      have h3 := cp_pos (p := fun i => decide ((rf (bs b) i).1 = nu cs k)) q h2
      rw [if_neg (by omega), if_pos (decide_eq_true h3)]
      simp (disch := omega) only [entryReferred_D hD hb h8 q, placeRef_D hd hn hW (v2 N q), hpl N q, J_add, J_mul, J_sub, J_dec, J_nat, J_lt, J_le, J_eq, gd_J, gz_J, gb_J, J_div, J_mod, md_back, JN, J_neN, J_Nne, J_ltN, J_Nlt, J_leN, J_Nle, N_refl, J01, J_addN, J_pred, F_X9_at, F_X9_backupAt, F_X9_fails, F_X9_thrown, Option.bind_some, if_true, if_false, Nat.add_zero, Nat.zero_add, Nat.mul_zero, Nat.zero_mul, Nat.reduceAdd, Nat.reduceMul, Nat.reduceSub, Nat.reduceEqDiff, Nat.reduceLeDiff, Nat.reduceLT, Nat.reducePow, Nat.not_lt_zero, Nat.zero_le, eq_self, not_true_eq_false, not_false_eq_true, reduceIte, L_0, L_1, L_2, L_3, L_4, L_5, L_6, L_7, L_8, L_9, L_10, L_11, L_12, L_14, L_15, L_16, L_24, L_30, L_31, L_32, L_34, L_40, L_44, L_90, L_96, L_97, L_100, L_120, L_121, L_192, L_997, L_998, L_1000, L_1270, L_10000, L_17780, L_2540, L_32768, L_16510]
      rw [if_pos (of_decide_eq_true h2)]
    · have h3 := cp_zero (p := fun i => decide ((rf (bs b) i).1 = nu cs k)) (n := (bs b).length) (fun i hi => f2 i (by omega))
      rw [if_pos (by omega), h3, if_neg (by decide)]
theorem refersTo_M {s : Nat → Int32} {nx : Nat} {cs : List Ct} {bs : Nat → List (Nat × Nat)} (hm : RMb s bs) (hW : Wc cs nx) (hb : Wb cs bs) {b n : Nat} (h8 : b < 8) (hn : n < 2 ^ 31) : F_X9_refersTo s (J b) (J n) = some (J (if rt (bs b) n then 1 else 0)) := by
  obtain ⟨g1, g2, g3⟩ := hm b h8
  obtain ⟨v1, v2⟩ := hb b h8
  unfold F_X9_refersTo
  refine lp_run (fun i => (J (min 1 (cp (fun i => decide ((rf (bs b) i).1 = n)) i)), J i)) (bs b).length (fun self i hi => ?_) (fun self => ?_) (by unfold FU; omega)
  · obtain ⟨k1, k2⟩ := g3 i hi
    obtain ⟨z1, z2⟩ := RV_small hW (v2 i hi)
    rw [cp_step]
    generalize cp (fun i => decide ((rf (bs b) i).1 = n)) i = c
    unfold B_X9_refersTo_5
    simp (disch := omega) only [g2, k1, J_add, J_mul, J_sub, J_dec, J_nat, J_lt, J_le, J_eq, gd_J, gz_J, gb_J, J_div, J_mod, md_back, JN, J_neN, J_Nne, J_ltN, J_Nlt, J_leN, J_Nle, N_refl, J01, J_addN, J_pred, F_X9_at, F_X9_backupAt, F_X9_fails, F_X9_thrown, Option.bind_some, if_true, if_false, Nat.add_zero, Nat.zero_add, Nat.mul_zero, Nat.zero_mul, Nat.reduceAdd, Nat.reduceMul, Nat.reduceSub, Nat.reduceEqDiff, Nat.reduceLeDiff, Nat.reduceLT, Nat.reducePow, Nat.not_lt_zero, Nat.zero_le, eq_self, not_true_eq_false, not_false_eq_true, reduceIte, L_0, L_1, L_2, L_3, L_4, L_5, L_6, L_7, L_8, L_9, L_10, L_11, L_12, L_14, L_15, L_16, L_24, L_30, L_31, L_32, L_34, L_40, L_44, L_90, L_96, L_97, L_100, L_120, L_121, L_192, L_997, L_998, L_1000, L_1270, L_10000, L_17780, L_2540, L_32768, L_16510]
    rw [if_neg (by omega)]
    by_cases q : c = 0
    · subst q
      rw [if_pos (by omega)]
      by_cases z : (rf (bs b) i).1 = n
      · rw [if_pos z, if_pos (decide_eq_true z)]
        rfl
      · rw [if_neg z, if_neg (by simpa using z)]
        rfl
    · rw [if_neg (by omega), show min 1 (c + (if decide ((rf (bs b) i).1 = n) = true then 1 else 0)) = 1 by split <;> omega]
  · unfold rt
    generalize cp (fun i => decide ((rf (bs b) i).1 = n)) (bs b).length = c
    unfold B_X9_refersTo_5
    simp (disch := omega) only [g2, Nat.le_refl, J_add, J_mul, J_sub, J_dec, J_nat, J_lt, J_le, J_eq, gd_J, gz_J, gb_J, J_div, J_mod, md_back, JN, J_neN, J_Nne, J_ltN, J_Nlt, J_leN, J_Nle, N_refl, J01, J_addN, J_pred, F_X9_at, F_X9_backupAt, F_X9_fails, F_X9_thrown, Option.bind_some, if_true, if_false, Nat.add_zero, Nat.zero_add, Nat.mul_zero, Nat.zero_mul, Nat.reduceAdd, Nat.reduceMul, Nat.reduceSub, Nat.reduceEqDiff, Nat.reduceLeDiff, Nat.reduceLT, Nat.reducePow, Nat.not_lt_zero, Nat.zero_le, eq_self, not_true_eq_false, not_false_eq_true, reduceIte, L_0, L_1, L_2, L_3, L_4, L_5, L_6, L_7, L_8, L_9, L_10, L_11, L_12, L_14, L_15, L_16, L_24, L_30, L_31, L_32, L_34, L_40, L_44, L_90, L_96, L_97, L_100, L_120, L_121, L_192, L_997, L_998, L_1000, L_1270, L_10000, L_17780, L_2540, L_32768, L_16510]
    by_cases q : c = 0
    · subst q
      rw [if_neg (by decide)]
      rfl
    · rw [if_pos (decide_eq_true (by omega)), show min 1 c = 1 by omega]
theorem containersOf_D {d : DKT} {se : Nat → Nat} {nx : Nat} {cs : List Ct} {bs : Nat → List (Nat × Nat)} (hd : RDc d se nx cs) (hD : RDb d cs bs) (hn : Wn cs) (hW : Wc cs nx) (hb : Wb cs bs) {b : Nat} (h8 : b < 8) : F_X1_containersOf d (J b) = some (J (cp (fun k => rt (bs b) (nu cs k)) cs.length)) := by
  have n1 := hn.1
  unfold F_X1_containersOf
  refine lp_run (fun k => (J (cp (fun k => rt (bs b) (nu cs k)) k), J k)) cs.length (fun self k hk => ?_) (fun self => ?_) (by unfold FU; omega)
  · unfold B_X1_containersOf_4
    simp (disch := omega) only [hd.2.2.1, refersTo_D hd hD hn hW hb h8 hk, J_add, J_mul, J_sub, J_dec, J_nat, J_lt, J_le, J_eq, gd_J, gz_J, gb_J, J_div, J_mod, md_back, JN, J_neN, J_Nne, J_ltN, J_Nlt, J_leN, J_Nle, N_refl, J01, J_addN, J_pred, F_X9_at, F_X9_backupAt, F_X9_fails, F_X9_thrown, Option.bind_some, if_true, if_false, Nat.add_zero, Nat.zero_add, Nat.mul_zero, Nat.zero_mul, Nat.reduceAdd, Nat.reduceMul, Nat.reduceSub, Nat.reduceEqDiff, Nat.reduceLeDiff, Nat.reduceLT, Nat.reducePow, Nat.not_lt_zero, Nat.zero_le, eq_self, not_true_eq_false, not_false_eq_true, reduceIte, L_0, L_1, L_2, L_3, L_4, L_5, L_6, L_7, L_8, L_9, L_10, L_11, L_12, L_14, L_15, L_16, L_24, L_30, L_31, L_32, L_34, L_40, L_44, L_90, L_96, L_97, L_100, L_120, L_121, L_192, L_997, L_998, L_1000, L_1270, L_10000, L_17780, L_2540, L_32768, L_16510]
    rw [if_neg (by omega)]
    by_cases q : rt (bs b) (nu cs k) = true
    · rw [cp_yes (by exact q), if_pos q]
      simp (disch := omega) only [J_add, J_mul, J_sub, J_dec, J_nat, J_lt, J_le, J_eq, gd_J, gz_J, gb_J, J_div, J_mod, md_back, JN, J_neN, J_Nne, J_ltN, J_Nlt, J_leN, J_Nle, N_refl, J01, J_addN, J_pred, F_X9_at, F_X9_backupAt, F_X9_fails, F_X9_thrown, Option.bind_some, if_true, if_false, Nat.add_zero, Nat.zero_add, Nat.mul_zero, Nat.zero_mul, Nat.reduceAdd, Nat.reduceMul, Nat.reduceSub, Nat.reduceEqDiff, Nat.reduceLeDiff, Nat.reduceLT, Nat.reducePow, Nat.not_lt_zero, Nat.zero_le, eq_self, not_true_eq_false, not_false_eq_true, reduceIte, L_0, L_1, L_2, L_3, L_4, L_5, L_6, L_7, L_8, L_9, L_10, L_11, L_12, L_14, L_15, L_16, L_24, L_30, L_31, L_32, L_34, L_40, L_44, L_90, L_96, L_97, L_100, L_120, L_121, L_192, L_997, L_998, L_1000, L_1270, L_10000, L_17780, L_2540, L_32768, L_16510]
    · rw [cp_no (by exact Bool.eq_false_iff.mpr q), if_neg q]
      simp (disch := omega) only [J_add, J_mul, J_sub, J_dec, J_nat, J_lt, J_le, J_eq, gd_J, gz_J, gb_J, J_div, J_mod, md_back, JN, J_neN, J_Nne, J_ltN, J_Nlt, J_leN, J_Nle, N_refl, J01, J_addN, J_pred, F_X9_at, F_X9_backupAt, F_X9_fails, F_X9_thrown, Option.bind_some, if_true, if_false, Nat.add_zero, Nat.zero_add, Nat.mul_zero, Nat.zero_mul, Nat.reduceAdd, Nat.reduceMul, Nat.reduceSub, Nat.reduceEqDiff, Nat.reduceLeDiff, Nat.reduceLT, Nat.reducePow, Nat.not_lt_zero, Nat.zero_le, eq_self, not_true_eq_false, not_false_eq_true, reduceIte, L_0, L_1, L_2, L_3, L_4, L_5, L_6, L_7, L_8, L_9, L_10, L_11, L_12, L_14, L_15, L_16, L_24, L_30, L_31, L_32, L_34, L_40, L_44, L_90, L_96, L_97, L_100, L_120, L_121, L_192, L_997, L_998, L_1000, L_1270, L_10000, L_17780, L_2540, L_32768, L_16510]
  · unfold B_X1_containersOf_4
    simp (disch := omega) only [hd.2.2.1, Nat.le_refl, J_add, J_mul, J_sub, J_dec, J_nat, J_lt, J_le, J_eq, gd_J, gz_J, gb_J, J_div, J_mod, md_back, JN, J_neN, J_Nne, J_ltN, J_Nlt, J_leN, J_Nle, N_refl, J01, J_addN, J_pred, F_X9_at, F_X9_backupAt, F_X9_fails, F_X9_thrown, Option.bind_some, if_true, if_false, Nat.add_zero, Nat.zero_add, Nat.mul_zero, Nat.zero_mul, Nat.reduceAdd, Nat.reduceMul, Nat.reduceSub, Nat.reduceEqDiff, Nat.reduceLeDiff, Nat.reduceLT, Nat.reducePow, Nat.not_lt_zero, Nat.zero_le, eq_self, not_true_eq_false, not_false_eq_true, reduceIte, L_0, L_1, L_2, L_3, L_4, L_5, L_6, L_7, L_8, L_9, L_10, L_11, L_12, L_14, L_15, L_16, L_24, L_30, L_31, L_32, L_34, L_40, L_44, L_90, L_96, L_97, L_100, L_120, L_121, L_192, L_997, L_998, L_1000, L_1270, L_10000, L_17780, L_2540, L_32768, L_16510]
theorem containersOf_M {s : Nat → Int32} {se : Nat → Nat} {nx : Nat} {cs : List Ct} {bs : Nat → List (Nat × Nat)} (hR : RMc s se nx cs) (hm : RMb s bs) (hW : Wc cs nx) (hb : Wb cs bs) (hl : cs.length ≤ 92) {b : Nat} (h8 : b < 8) : F_X9_containersOf s (J b) = some (J (cp (fun k => rt (bs b) (nu cs k)) cs.length)) := by
  unfold F_X9_containersOf
  refine lp_run (fun k => (J (cp (fun k => rt (bs b) (nu cs k)) k), J k)) cs.length (fun self k hk => ?_) (fun self => ?_) (by unfold FU; omega)
  · obtain ⟨g1, g2, g3, g4⟩ := hR.2.2.2 k hk
    have h1 := Wc_nu hW hk
    unfold B_X9_containersOf_4
    simp (disch := omega) only [hR.2.2.1, g1, refersTo_M hm hW hb h8 (show nu cs k < 2 ^ 31 by omega), J_add, J_mul, J_sub, J_dec, J_nat, J_lt, J_le, J_eq, gd_J, gz_J, gb_J, J_div, J_mod, md_back, JN, J_neN, J_Nne, J_ltN, J_Nlt, J_leN, J_Nle, N_refl, J01, J_addN, J_pred, F_X9_at, F_X9_backupAt, F_X9_fails, F_X9_thrown, Option.bind_some, if_true, if_false, Nat.add_zero, Nat.zero_add, Nat.mul_zero, Nat.zero_mul, Nat.reduceAdd, Nat.reduceMul, Nat.reduceSub, Nat.reduceEqDiff, Nat.reduceLeDiff, Nat.reduceLT, Nat.reducePow, Nat.not_lt_zero, Nat.zero_le, eq_self, not_true_eq_false, not_false_eq_true, reduceIte, L_0, L_1, L_2, L_3, L_4, L_5, L_6, L_7, L_8, L_9, L_10, L_11, L_12, L_14, L_15, L_16, L_24, L_30, L_31, L_32, L_34, L_40, L_44, L_90, L_96, L_97, L_100, L_120, L_121, L_192, L_997, L_998, L_1000, L_1270, L_10000, L_17780, L_2540, L_32768, L_16510]
    rw [if_neg (by omega)]
    by_cases q : rt (bs b) (nu cs k) = true
    · rw [cp_yes (by exact q), if_pos q]
      simp (disch := omega) only [J_add, J_mul, J_sub, J_dec, J_nat, J_lt, J_le, J_eq, gd_J, gz_J, gb_J, J_div, J_mod, md_back, JN, J_neN, J_Nne, J_ltN, J_Nlt, J_leN, J_Nle, N_refl, J01, J_addN, J_pred, F_X9_at, F_X9_backupAt, F_X9_fails, F_X9_thrown, Option.bind_some, if_true, if_false, Nat.add_zero, Nat.zero_add, Nat.mul_zero, Nat.zero_mul, Nat.reduceAdd, Nat.reduceMul, Nat.reduceSub, Nat.reduceEqDiff, Nat.reduceLeDiff, Nat.reduceLT, Nat.reducePow, Nat.not_lt_zero, Nat.zero_le, eq_self, not_true_eq_false, not_false_eq_true, reduceIte, L_0, L_1, L_2, L_3, L_4, L_5, L_6, L_7, L_8, L_9, L_10, L_11, L_12, L_14, L_15, L_16, L_24, L_30, L_31, L_32, L_34, L_40, L_44, L_90, L_96, L_97, L_100, L_120, L_121, L_192, L_997, L_998, L_1000, L_1270, L_10000, L_17780, L_2540, L_32768, L_16510]
    · rw [cp_no (by exact Bool.eq_false_iff.mpr q), if_neg q]
      simp (disch := omega) only [J_add, J_mul, J_sub, J_dec, J_nat, J_lt, J_le, J_eq, gd_J, gz_J, gb_J, J_div, J_mod, md_back, JN, J_neN, J_Nne, J_ltN, J_Nlt, J_leN, J_Nle, N_refl, J01, J_addN, J_pred, F_X9_at, F_X9_backupAt, F_X9_fails, F_X9_thrown, Option.bind_some, if_true, if_false, Nat.add_zero, Nat.zero_add, Nat.mul_zero, Nat.zero_mul, Nat.reduceAdd, Nat.reduceMul, Nat.reduceSub, Nat.reduceEqDiff, Nat.reduceLeDiff, Nat.reduceLT, Nat.reducePow, Nat.not_lt_zero, Nat.zero_le, eq_self, not_true_eq_false, not_false_eq_true, reduceIte, L_0, L_1, L_2, L_3, L_4, L_5, L_6, L_7, L_8, L_9, L_10, L_11, L_12, L_14, L_15, L_16, L_24, L_30, L_31, L_32, L_34, L_40, L_44, L_90, L_96, L_97, L_100, L_120, L_121, L_192, L_997, L_998, L_1000, L_1270, L_10000, L_17780, L_2540, L_32768, L_16510]
  · unfold B_X9_containersOf_4
    simp (disch := omega) only [hR.2.2.1, Nat.le_refl, J_add, J_mul, J_sub, J_dec, J_nat, J_lt, J_le, J_eq, gd_J, gz_J, gb_J, J_div, J_mod, md_back, JN, J_neN, J_Nne, J_ltN, J_Nlt, J_leN, J_Nle, N_refl, J01, J_addN, J_pred, F_X9_at, F_X9_backupAt, F_X9_fails, F_X9_thrown, Option.bind_some, if_true, if_false, Nat.add_zero, Nat.zero_add, Nat.mul_zero, Nat.zero_mul, Nat.reduceAdd, Nat.reduceMul, Nat.reduceSub, Nat.reduceEqDiff, Nat.reduceLeDiff, Nat.reduceLT, Nat.reducePow, Nat.not_lt_zero, Nat.zero_le, eq_self, not_true_eq_false, not_false_eq_true, reduceIte, L_0, L_1, L_2, L_3, L_4, L_5, L_6, L_7, L_8, L_9, L_10, L_11, L_12, L_14, L_15, L_16, L_24, L_30, L_31, L_32, L_34, L_40, L_44, L_90, L_96, L_97, L_100, L_120, L_121, L_192, L_997, L_998, L_1000, L_1270, L_10000, L_17780, L_2540, L_32768, L_16510]
theorem backupsRef_D {d : DKT} {se : Nat → Nat} {nx : Nat} {cs : List Ct} {bs : Nat → List (Nat × Nat)} (hd : RDc d se nx cs) (hD : RDb d cs bs) (hn : Wn cs) (hW : Wc cs nx) (hb : Wb cs bs) {k : Nat} (hk : k < cs.length) : F_X1_backupsReferringTo d (J k) = some (J (cp (fun b => rt (bs b) (nu cs k)) 8)) := by
  unfold F_X1_backupsReferringTo
  refine lp_run (fun b => (J (cp (fun b => rt (bs b) (nu cs k)) b), J b)) 8 (fun self b h8 => ?_) (fun self => ?_) (by unfold FU; omega)
  · unfold B_X1_backupsReferringTo_4
    simp (disch := omega) only [refersTo_D hd hD hn hW hb h8 hk, J_add, J_mul, J_sub, J_dec, J_nat, J_lt, J_le, J_eq, gd_J, gz_J, gb_J, J_div, J_mod, md_back, JN, J_neN, J_Nne, J_ltN, J_Nlt, J_leN, J_Nle, N_refl, J01, J_addN, J_pred, F_X9_at, F_X9_backupAt, F_X9_fails, F_X9_thrown, Option.bind_some, if_true, if_false, Nat.add_zero, Nat.zero_add, Nat.mul_zero, Nat.zero_mul, Nat.reduceAdd, Nat.reduceMul, Nat.reduceSub, Nat.reduceEqDiff, Nat.reduceLeDiff, Nat.reduceLT, Nat.reducePow, Nat.not_lt_zero, Nat.zero_le, eq_self, not_true_eq_false, not_false_eq_true, reduceIte, L_0, L_1, L_2, L_3, L_4, L_5, L_6, L_7, L_8, L_9, L_10, L_11, L_12, L_14, L_15, L_16, L_24, L_30, L_31, L_32, L_34, L_40, L_44, L_90, L_96, L_97, L_100, L_120, L_121, L_192, L_997, L_998, L_1000, L_1270, L_10000, L_17780, L_2540, L_32768, L_16510]
    rw [if_neg (by omega)]
    by_cases q : rt (bs b) (nu cs k) = true
    · rw [cp_yes (by exact q), if_pos q]
      simp (disch := omega) only [J_add, J_mul, J_sub, J_dec, J_nat, J_lt, J_le, J_eq, gd_J, gz_J, gb_J, J_div, J_mod, md_back, JN, J_neN, J_Nne, J_ltN, J_Nlt, J_leN, J_Nle, N_refl, J01, J_addN, J_pred, F_X9_at, F_X9_backupAt, F_X9_fails, F_X9_thrown, Option.bind_some, if_true, if_false, Nat.add_zero, Nat.zero_add, Nat.mul_zero, Nat.zero_mul, Nat.reduceAdd, Nat.reduceMul, Nat.reduceSub, Nat.reduceEqDiff, Nat.reduceLeDiff, Nat.reduceLT, Nat.reducePow, Nat.not_lt_zero, Nat.zero_le, eq_self, not_true_eq_false, not_false_eq_true, reduceIte, L_0, L_1, L_2, L_3, L_4, L_5, L_6, L_7, L_8, L_9, L_10, L_11, L_12, L_14, L_15, L_16, L_24, L_30, L_31, L_32, L_34, L_40, L_44, L_90, L_96, L_97, L_100, L_120, L_121, L_192, L_997, L_998, L_1000, L_1270, L_10000, L_17780, L_2540, L_32768, L_16510]
    · rw [cp_no (by exact Bool.eq_false_iff.mpr q), if_neg q]
      simp (disch := omega) only [J_add, J_mul, J_sub, J_dec, J_nat, J_lt, J_le, J_eq, gd_J, gz_J, gb_J, J_div, J_mod, md_back, JN, J_neN, J_Nne, J_ltN, J_Nlt, J_leN, J_Nle, N_refl, J01, J_addN, J_pred, F_X9_at, F_X9_backupAt, F_X9_fails, F_X9_thrown, Option.bind_some, if_true, if_false, Nat.add_zero, Nat.zero_add, Nat.mul_zero, Nat.zero_mul, Nat.reduceAdd, Nat.reduceMul, Nat.reduceSub, Nat.reduceEqDiff, Nat.reduceLeDiff, Nat.reduceLT, Nat.reducePow, Nat.not_lt_zero, Nat.zero_le, eq_self, not_true_eq_false, not_false_eq_true, reduceIte, L_0, L_1, L_2, L_3, L_4, L_5, L_6, L_7, L_8, L_9, L_10, L_11, L_12, L_14, L_15, L_16, L_24, L_30, L_31, L_32, L_34, L_40, L_44, L_90, L_96, L_97, L_100, L_120, L_121, L_192, L_997, L_998, L_1000, L_1270, L_10000, L_17780, L_2540, L_32768, L_16510]
  · unfold B_X1_backupsReferringTo_4
    simp (disch := omega) only [Nat.le_refl, J_add, J_mul, J_sub, J_dec, J_nat, J_lt, J_le, J_eq, gd_J, gz_J, gb_J, J_div, J_mod, md_back, JN, J_neN, J_Nne, J_ltN, J_Nlt, J_leN, J_Nle, N_refl, J01, J_addN, J_pred, F_X9_at, F_X9_backupAt, F_X9_fails, F_X9_thrown, Option.bind_some, if_true, if_false, Nat.add_zero, Nat.zero_add, Nat.mul_zero, Nat.zero_mul, Nat.reduceAdd, Nat.reduceMul, Nat.reduceSub, Nat.reduceEqDiff, Nat.reduceLeDiff, Nat.reduceLT, Nat.reducePow, Nat.not_lt_zero, Nat.zero_le, eq_self, not_true_eq_false, not_false_eq_true, reduceIte, L_0, L_1, L_2, L_3, L_4, L_5, L_6, L_7, L_8, L_9, L_10, L_11, L_12, L_14, L_15, L_16, L_24, L_30, L_31, L_32, L_34, L_40, L_44, L_90, L_96, L_97, L_100, L_120, L_121, L_192, L_997, L_998, L_1000, L_1270, L_10000, L_17780, L_2540, L_32768, L_16510]
