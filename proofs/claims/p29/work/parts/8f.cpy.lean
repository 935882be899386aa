/-! THE PURE SIDE: copies of states; remember, undo, save, restore -/
theorem gc_J {α : Type} {n a b : Nat} {x : Option α} (hn : n < 2 ^ 31) (ha : n ≤ a) (hb : n ≤ b) : gc 0 0 (J n) a b x = x := by
  unfold gc
  have z : Int32.toNatClampNeg 0 = 0 := by decide
  rw [if_neg]
  rw [J_nat hn, z]
  intro h
  rcases h with h | h | h | h | h
  · exact absurd h (by decide)
  · exact absurd h (by decide)
  · exact J_neg hn h
  · omega
  · omega
theorem cpyJ {f g : Nat → Int32} {n j : Nat} (hn : n < 2 ^ 31) (h : j < n) : va_cpy f g (Int32.toNatClampNeg 0) (Int32.toNatClampNeg 0) (Int32.toNatClampNeg (J n)) j = f j := by
  have z : Int32.toNatClampNeg 0 = 0 := by decide
  rw [J_nat hn, z]
  exact sb_cpy0 h
theorem copy_D {d0 d1 : DKT} {A : AT} {n : Nat} (hd : DR d1 A) (hW : WF A n) : ∃ d', F_X1_copyFrom d0 d1 = some d' ∧ DR d' A := by
  obtain ⟨n1, n2⟩ := WF_Wn hW
  obtain ⟨w1, w2, w3, w4, w5, w6⟩ := hW
  obtain ⟨⟨c1, c2, c3, c4, c5, c6⟩, d2, d3, d4⟩ := hd
  have g5 : ∀ (x : Option DKT), gc 0 0 5 5 5 x = x := fun x => gc_J (n := 5) (by omega) (by omega) (by omega)
  have g120 : ∀ (x : Option DKT), gc 0 0 120 120 120 x = x := fun x => gc_J (n := 120) (by omega) (by omega) (by omega)
  have g8 : ∀ (x : Option DKT), gc 0 0 8 8 8 x = x := fun x => gc_J (n := 8) (by omega) (by omega) (by omega)
  have gk : ∀ (x : Option DKT), gc 0 0 (J (a_cs A).length) 121 121 x = x := fun x => gc_J (by omega) (by omega) (by omega)
  have ge : ∀ (x : Option DKT), gc 0 0 (J (st (a_cs A) (a_cs A).length)) 192 192 x = x := fun x => gc_J (by omega) (by omega) (by omega)
  unfold F_X1_copyFrom
  rw [c3, c4, g5, gk, gk, gk, ge, ge, ge, g120, g8]
  refine ⟨_, rfl, ⟨fun i hi => ?_, c2, rfl, rfl, fun k hk => ?_, fun e he => ?_⟩, fun b hb => ?_, fun k hk i hi => ?_, d4⟩
  · rw [← c1 i hi]
    exact cpyJ (n := 5) (by omega) hi
  · obtain ⟨k1, k2, k3⟩ := c5 k hk
    refine ⟨?_, ?_, ?_⟩
    · rw [← k1]; exact cpyJ (by omega) hk
    · rw [← k2]; exact cpyJ (by omega) hk
    · rw [← k3]; exact cpyJ (by omega) hk
  · obtain ⟨k1, k2⟩ := c6 e he
    refine ⟨?_, ?_⟩
    · rw [← k1]; exact cpyJ (by omega) he
    · rw [← k2]; exact cpyJ (by omega) he
  · obtain ⟨k1, k2⟩ := d2 b hb
    obtain ⟨v1, v2⟩ := w2 b hb
    refine ⟨?_, fun i hi => ?_⟩
    · rw [← k1]; exact cpyJ (n := 8) (by omega) hb
    · rw [← k2 i hi]; exact cpyJ (n := 120) (by omega) (by omega)
  · have hin := st_in (a_cs A) hk
    rw [← d3 k hk i hi]
    exact cpyJ (by omega) (by omega)
/-- the Model's copies -/
theorem putAside_M (s a : Nat → Int32) : F_X9_putAside s a = some (fil a s 1270) := by
  unfold F_X9_putAside
  refine lp_run (fun j => (J j, fil a s j)) 1270 (fun self j hj => ?_) (fun self => ?_) (by unfold FU; omega)
  · unfold B_X9_putAside_2
    simp (disch := omega) only [J_add, J_mul, J_sub, J_dec, J_nat, J_lt, J_le, J_eq, gd_J, gz_J, gb_J, J_div, J_mod, md_back, JN, J_neN, J_Nne, J_ltN, J_Nlt, J_leN, J_Nle, N_refl, J01, J_addN, J_pred, F_X9_at, F_X9_backupAt, F_X9_fails, F_X9_thrown, Option.bind_some, if_true, if_false, Nat.add_zero, Nat.zero_add, Nat.mul_zero, Nat.zero_mul, Nat.reduceAdd, Nat.reduceMul, Nat.reduceSub, Nat.reduceEqDiff, Nat.reduceLeDiff, Nat.reduceLT, Nat.reducePow, Nat.not_lt_zero, Nat.zero_le, eq_self, not_true_eq_false, not_false_eq_true, reduceIte, L_0, L_1, L_2, L_3, L_4, L_5, L_6, L_7, L_8, L_9, L_10, L_11, L_12, L_14, L_15, L_16, L_24, L_30, L_31, L_32, L_34, L_40, L_44, L_90, L_96, L_97, L_100, L_120, L_121, L_192, L_997, L_998, L_1000, L_1270, L_10000, L_17780, L_2540, L_32768, L_16510]
    rw [if_neg (by omega)]
    rfl
  · unfold B_X9_putAside_2
    simp (disch := omega) only [Nat.le_refl, J_add, J_mul, J_sub, J_dec, J_nat, J_lt, J_le, J_eq, gd_J, gz_J, gb_J, J_div, J_mod, md_back, JN, J_neN, J_Nne, J_ltN, J_Nlt, J_leN, J_Nle, N_refl, J01, J_addN, J_pred, F_X9_at, F_X9_backupAt, F_X9_fails, F_X9_thrown, Option.bind_some, if_true, if_false, Nat.add_zero, Nat.zero_add, Nat.mul_zero, Nat.zero_mul, Nat.reduceAdd, Nat.reduceMul, Nat.reduceSub, Nat.reduceEqDiff, Nat.reduceLeDiff, Nat.reduceLT, Nat.reducePow, Nat.not_lt_zero, Nat.zero_le, eq_self, not_true_eq_false, not_false_eq_true, reduceIte, L_0, L_1, L_2, L_3, L_4, L_5, L_6, L_7, L_8, L_9, L_10, L_11, L_12, L_14, L_15, L_16, L_24, L_30, L_31, L_32, L_34, L_40, L_44, L_90, L_96, L_97, L_100, L_120, L_121, L_192, L_997, L_998, L_1000, L_1270, L_10000, L_17780, L_2540, L_32768, L_16510]
theorem takeBack_M (s a : Nat → Int32) : F_X9_takeBack s a = some (fil s a 1270) := by
  unfold F_X9_takeBack
  refine lp_run (fun j => (J j, fil s a j)) 1270 (fun self j hj => ?_) (fun self => ?_) (by unfold FU; omega)
  · unfold B_X9_takeBack_2
    simp (disch := omega) only [J_add, J_mul, J_sub, J_dec, J_nat, J_lt, J_le, J_eq, gd_J, gz_J, gb_J, J_div, J_mod, md_back, JN, J_neN, J_Nne, J_ltN, J_Nlt, J_leN, J_Nle, N_refl, J01, J_addN, J_pred, F_X9_at, F_X9_backupAt, F_X9_fails, F_X9_thrown, Option.bind_some, if_true, if_false, Nat.add_zero, Nat.zero_add, Nat.mul_zero, Nat.zero_mul, Nat.reduceAdd, Nat.reduceMul, Nat.reduceSub, Nat.reduceEqDiff, Nat.reduceLeDiff, Nat.reduceLT, Nat.reducePow, Nat.not_lt_zero, Nat.zero_le, eq_self, not_true_eq_false, not_false_eq_true, reduceIte, L_0, L_1, L_2, L_3, L_4, L_5, L_6, L_7, L_8, L_9, L_10, L_11, L_12, L_14, L_15, L_16, L_24, L_30, L_31, L_32, L_34, L_40, L_44, L_90, L_96, L_97, L_100, L_120, L_121, L_192, L_997, L_998, L_1000, L_1270, L_10000, L_17780, L_2540, L_32768, L_16510]
    rw [if_neg (by omega)]
    rfl
  · unfold B_X9_takeBack_2
    simp (disch := omega) only [Nat.le_refl, J_add, J_mul, J_sub, J_dec, J_nat, J_lt, J_le, J_eq, gd_J, gz_J, gb_J, J_div, J_mod, md_back, JN, J_neN, J_Nne, J_ltN, J_Nlt, J_leN, J_Nle, N_refl, J01, J_addN, J_pred, F_X9_at, F_X9_backupAt, F_X9_fails, F_X9_thrown, Option.bind_some, if_true, if_false, Nat.add_zero, Nat.zero_add, Nat.mul_zero, Nat.zero_mul, Nat.reduceAdd, Nat.reduceMul, Nat.reduceSub, Nat.reduceEqDiff, Nat.reduceLeDiff, Nat.reduceLT, Nat.reducePow, Nat.not_lt_zero, Nat.zero_le, eq_self, not_true_eq_false, not_false_eq_true, reduceIte, L_0, L_1, L_2, L_3, L_4, L_5, L_6, L_7, L_8, L_9, L_10, L_11, L_12, L_14, L_15, L_16, L_24, L_30, L_31, L_32, L_34, L_40, L_44, L_90, L_96, L_97, L_100, L_120, L_121, L_192, L_997, L_998, L_1000, L_1270, L_10000, L_17780, L_2540, L_32768, L_16510]
theorem keepsBase_M (s a : Nat → Int32) : F_X9_keepsBase s a = some (fil a s 1270) := by
  unfold F_X9_keepsBase
  refine lp_run (fun j => (J j, fil a s j)) 1270 (fun self j hj => ?_) (fun self => ?_) (by unfold FU; omega)
  · unfold B_X9_keepsBase_2
    simp (disch := omega) only [J_add, J_mul, J_sub, J_dec, J_nat, J_lt, J_le, J_eq, gd_J, gz_J, gb_J, J_div, J_mod, md_back, JN, J_neN, J_Nne, J_ltN, J_Nlt, J_leN, J_Nle, N_refl, J01, J_addN, J_pred, F_X9_at, F_X9_backupAt, F_X9_fails, F_X9_thrown, Option.bind_some, if_true, if_false, Nat.add_zero, Nat.zero_add, Nat.mul_zero, Nat.zero_mul, Nat.reduceAdd, Nat.reduceMul, Nat.reduceSub, Nat.reduceEqDiff, Nat.reduceLeDiff, Nat.reduceLT, Nat.reducePow, Nat.not_lt_zero, Nat.zero_le, eq_self, not_true_eq_false, not_false_eq_true, reduceIte, L_0, L_1, L_2, L_3, L_4, L_5, L_6, L_7, L_8, L_9, L_10, L_11, L_12, L_14, L_15, L_16, L_24, L_30, L_31, L_32, L_34, L_40, L_44, L_90, L_96, L_97, L_100, L_120, L_121, L_192, L_997, L_998, L_1000, L_1270, L_10000, L_17780, L_2540, L_32768, L_16510]
    rw [if_neg (by omega)]
    rfl
  · unfold B_X9_keepsBase_2
    simp (disch := omega) only [Nat.le_refl, J_add, J_mul, J_sub, J_dec, J_nat, J_lt, J_le, J_eq, gd_J, gz_J, gb_J, J_div, J_mod, md_back, JN, J_neN, J_Nne, J_ltN, J_Nlt, J_leN, J_Nle, N_refl, J01, J_addN, J_pred, F_X9_at, F_X9_backupAt, F_X9_fails, F_X9_thrown, Option.bind_some, if_true, if_false, Nat.add_zero, Nat.zero_add, Nat.mul_zero, Nat.zero_mul, Nat.reduceAdd, Nat.reduceMul, Nat.reduceSub, Nat.reduceEqDiff, Nat.reduceLeDiff, Nat.reduceLT, Nat.reducePow, Nat.not_lt_zero, Nat.zero_le, eq_self, not_true_eq_false, not_false_eq_true, reduceIte, L_0, L_1, L_2, L_3, L_4, L_5, L_6, L_7, L_8, L_9, L_10, L_11, L_12, L_14, L_15, L_16, L_24, L_30, L_31, L_32, L_34, L_40, L_44, L_90, L_96, L_97, L_100, L_120, L_121, L_192, L_997, L_998, L_1000, L_1270, L_10000, L_17780, L_2540, L_32768, L_16510]
theorem backToBase_M (s a : Nat → Int32) : F_X9_backToBase s a = some (fil s a 1270) := by
  unfold F_X9_backToBase
  refine lp_run (fun j => (J j, fil s a j)) 1270 (fun self j hj => ?_) (fun self => ?_) (by unfold FU; omega)
  · unfold B_X9_backToBase_2
    simp (disch := omega) only [J_add, J_mul, J_sub, J_dec, J_nat, J_lt, J_le, J_eq, gd_J, gz_J, gb_J, J_div, J_mod, md_back, JN, J_neN, J_Nne, J_ltN, J_Nlt, J_leN, J_Nle, N_refl, J01, J_addN, J_pred, F_X9_at, F_X9_backupAt, F_X9_fails, F_X9_thrown, Option.bind_some, if_true, if_false, Nat.add_zero, Nat.zero_add, Nat.mul_zero, Nat.zero_mul, Nat.reduceAdd, Nat.reduceMul, Nat.reduceSub, Nat.reduceEqDiff, Nat.reduceLeDiff, Nat.reduceLT, Nat.reducePow, Nat.not_lt_zero, Nat.zero_le, eq_self, not_true_eq_false, not_false_eq_true, reduceIte, L_0, L_1, L_2, L_3, L_4, L_5, L_6, L_7, L_8, L_9, L_10, L_11, L_12, L_14, L_15, L_16, L_24, L_30, L_31, L_32, L_34, L_40, L_44, L_90, L_96, L_97, L_100, L_120, L_121, L_192, L_997, L_998, L_1000, L_1270, L_10000, L_17780, L_2540, L_32768, L_16510]
    rw [if_neg (by omega)]
    rfl
  · unfold B_X9_backToBase_2
    simp (disch := omega) only [Nat.le_refl, J_add, J_mul, J_sub, J_dec, J_nat, J_lt, J_le, J_eq, gd_J, gz_J, gb_J, J_div, J_mod, md_back, JN, J_neN, J_Nne, J_ltN, J_Nlt, J_leN, J_Nle, N_refl, J01, J_addN, J_pred, F_X9_at, F_X9_backupAt, F_X9_fails, F_X9_thrown, Option.bind_some, if_true, if_false, Nat.add_zero, Nat.zero_add, Nat.mul_zero, Nat.zero_mul, Nat.reduceAdd, Nat.reduceMul, Nat.reduceSub, Nat.reduceEqDiff, Nat.reduceLeDiff, Nat.reduceLT, Nat.reducePow, Nat.not_lt_zero, Nat.zero_le, eq_self, not_true_eq_false, not_false_eq_true, reduceIte, L_0, L_1, L_2, L_3, L_4, L_5, L_6, L_7, L_8, L_9, L_10, L_11, L_12, L_14, L_15, L_16, L_24, L_30, L_31, L_32, L_34, L_40, L_44, L_90, L_96, L_97, L_100, L_120, L_121, L_192, L_997, L_998, L_1000, L_1270, L_10000, L_17780, L_2540, L_32768, L_16510]
/-- a copy behind an offset -/
def cpo (b s : Nat → Int32) (o n : Nat) : Nat → Int32 := fun x => if o ≤ x ∧ x < o + n then s (x - o) else b x
theorem cpo_0 (b s : Nat → Int32) (o : Nat) : cpo b s o 0 = b := by
  funext x
  unfold cpo
  rw [if_neg (by omega)]
theorem cpo_step (b s : Nat → Int32) (o j : Nat) : upd (cpo b s o j) (o + j) (s j) = cpo b s o (j + 1) := by
  funext x
  by_cases q : x = o + j
  · subst q
    rw [upd_self]
    unfold cpo
    rw [if_pos (by omega), Nat.add_sub_cancel_left]
  · rw [upd_ne _ _ q]
    unfold cpo
    by_cases z : o ≤ x ∧ x < o + j
    · rw [if_pos z, if_pos (by omega)]
    · rw [if_neg z, if_neg (by omega)]
theorem rem52_M {sv a : Nat → Int32} {k : Nat} (hk : k < 14) : J_X9_remember_50 a (sv, J k) = some (cpo sv a (1270 * k) 1270, J (k + 1)) := by
  unfold J_X9_remember_50
  have e0 : ((0 : Int32), sv) = (fun j => (J j, cpo sv a (1270 * k) j)) 0 := by
    show _ = (J 0, cpo sv a (1270 * k) 0)
    rw [cpo_0]
    rfl
  show lp _ FU (0, sv) = _
  rw [e0]
  refine lp_run (fun j => (J j, cpo sv a (1270 * k) j)) 1270 (fun self j hj => ?_) (fun self => ?_) (by unfold FU; omega)
  · unfold B_X9_remember_52
    simp (disch := omega) only [cpo_step, J_add, J_mul, J_sub, J_dec, J_nat, J_lt, J_le, J_eq, gd_J, gz_J, gb_J, J_div, J_mod, md_back, JN, J_neN, J_Nne, J_ltN, J_Nlt, J_leN, J_Nle, N_refl, J01, J_addN, J_pred, F_X9_at, F_X9_backupAt, F_X9_fails, F_X9_thrown, Option.bind_some, if_true, if_false, Nat.add_zero, Nat.zero_add, Nat.mul_zero, Nat.zero_mul, Nat.reduceAdd, Nat.reduceMul, Nat.reduceSub, Nat.reduceEqDiff, Nat.reduceLeDiff, Nat.reduceLT, Nat.reducePow, Nat.not_lt_zero, Nat.zero_le, eq_self, not_true_eq_false, not_false_eq_true, reduceIte, L_0, L_1, L_2, L_3, L_4, L_5, L_6, L_7, L_8, L_9, L_10, L_11, L_12, L_14, L_15, L_16, L_24, L_30, L_31, L_32, L_34, L_40, L_44, L_90, L_96, L_97, L_100, L_120, L_121, L_192, L_997, L_998, L_1000, L_1270, L_10000, L_17780, L_2540, L_32768, L_16510]
    rw [if_neg (by omega)]
  · unfold B_X9_remember_52
    simp (disch := omega) only [Nat.le_refl, J_add, J_mul, J_sub, J_dec, J_nat, J_lt, J_le, J_eq, gd_J, gz_J, gb_J, J_div, J_mod, md_back, JN, J_neN, J_Nne, J_ltN, J_Nlt, J_leN, J_Nle, N_refl, J01, J_addN, J_pred, F_X9_at, F_X9_backupAt, F_X9_fails, F_X9_thrown, Option.bind_some, if_true, if_false, Nat.add_zero, Nat.zero_add, Nat.mul_zero, Nat.zero_mul, Nat.reduceAdd, Nat.reduceMul, Nat.reduceSub, Nat.reduceEqDiff, Nat.reduceLeDiff, Nat.reduceLT, Nat.reducePow, Nat.not_lt_zero, Nat.zero_le, eq_self, not_true_eq_false, not_false_eq_true, reduceIte, L_0, L_1, L_2, L_3, L_4, L_5, L_6, L_7, L_8, L_9, L_10, L_11, L_12, L_14, L_15, L_16, L_24, L_30, L_31, L_32, L_34, L_40, L_44, L_90, L_96, L_97, L_100, L_120, L_121, L_192, L_997, L_998, L_1000, L_1270, L_10000, L_17780, L_2540, L_32768, L_16510]
theorem remember_M {sv a : Nat → Int32} {k : Nat} (hk : k ≤ 14) : F_X9_remember a sv (J k) = some (cpo (if k = 14 then (fun x => if x < 16510 then sv (x + 1270) else sv x) else sv) a (1270 * (if k = 14 then 13 else k)) 1270, J ((if k = 14 then 13 else k) + 1)) := by
  unfold F_X9_remember
  by_cases q : k = 14
  · subst q
    simp only [if_true]
    rw [if_pos (by rfl)]
    have e0 : ((0 : Int32), sv) = (fun j => (J j, fun x => if x < j then sv (x + 1270) else sv x)) 0 := by
      show _ = (J 0, fun x => if x < 0 then sv (x + 1270) else sv x)
      congr 1
    rw [e0]
    refine lp_run (fun j => (J j, fun x => if x < j then sv (x + 1270) else sv x)) 16510 (fun self j hj => ?_) (fun self => ?_) (by unfold FU; omega)
    · unfold B_X9_remember_11
      simp (disch := omega) only [J_add, J_mul, J_sub, J_dec, J_nat, J_lt, J_le, J_eq, gd_J, gz_J, gb_J, J_div, J_mod, md_back, JN, J_neN, J_Nne, J_ltN, J_Nlt, J_leN, J_Nle, N_refl, J01, J_addN, J_pred, F_X9_at, F_X9_backupAt, F_X9_fails, F_X9_thrown, Option.bind_some, if_true, if_false, Nat.add_zero, Nat.zero_add, Nat.mul_zero, Nat.zero_mul, Nat.reduceAdd, Nat.reduceMul, Nat.reduceSub, Nat.reduceEqDiff, Nat.reduceLeDiff, Nat.reduceLT, Nat.reducePow, Nat.not_lt_zero, Nat.zero_le, eq_self, not_true_eq_false, not_false_eq_true, reduceIte, L_0, L_1, L_2, L_3, L_4, L_5, L_6, L_7, L_8, L_9, L_10, L_11, L_12, L_14, L_15, L_16, L_24, L_30, L_31, L_32, L_34, L_40, L_44, L_90, L_96, L_97, L_100, L_120, L_121, L_192, L_997, L_998, L_1000, L_1270, L_10000, L_17780, L_2540, L_32768, L_16510]
      rw [if_neg (by omega)]
      congr 2
      funext x
      by_cases z : x = j
      · subst z
        rw [upd_self, if_neg (by omega), if_pos (by omega)]
      · rw [upd_ne _ _ z]
        by_cases w : x < j
        · rw [if_pos w, if_pos (by omega)]
        · rw [if_neg w, if_neg (by omega)]
    · unfold B_X9_remember_11 K_X9_remember_40
      rw [if_pos (show (16510 : Int32) ≤ J 16510 from (J_le (a := 16510) (b := 16510) (by omega) (by omega)).mpr (Nat.le_refl _)), show J 14 - 1 = J 13 from rfl]
      exact rem52_M (by omega)
  · simp only [if_neg q]
    rw [if_neg (show ¬ J k = 14 from fun z => q ((J_eq (b := 14) (by omega) (by omega)).mp z))]
    exact rem52_M (by omega)
/-- one more state is remembered -/
def psh (H : List AT) (A : AT) : List AT := if H.length = 14 then H.drop 1 ++ [A] else H ++ [A]
theorem psh_mem {H : List AT} {A h : AT} (hh : h ∈ psh H A) : h ∈ H ∨ h = A := by
  unfold psh at hh
  split at hh
  · rcases List.mem_append.mp hh with q | q
    · exact Or.inl (List.mem_of_mem_drop q)
    · exact Or.inr (List.mem_singleton.mp q)
  · rcases List.mem_append.mp hh with q | q
    · exact Or.inl q
    · exact Or.inr (List.mem_singleton.mp q)
theorem irm_J {a : Nat} (h : a < 2 ^ 31) : irm (J a) 14 = J (a % 14) := by
  unfold irm
  simp (disch := omega) only [J_add, J_mul, J_sub, J_dec, J_nat, J_lt, J_le, J_eq, gd_J, gz_J, gb_J, J_div, J_mod, md_back, JN, J_neN, J_Nne, J_ltN, J_Nlt, J_leN, J_Nle, N_refl, J01, J_addN, J_pred, F_X9_at, F_X9_backupAt, F_X9_fails, F_X9_thrown, Option.bind_some, if_true, if_false, Nat.add_zero, Nat.zero_add, Nat.mul_zero, Nat.zero_mul, Nat.reduceAdd, Nat.reduceMul, Nat.reduceSub, Nat.reduceEqDiff, Nat.reduceLeDiff, Nat.reduceLT, Nat.reducePow, Nat.not_lt_zero, Nat.zero_le, eq_self, not_true_eq_false, not_false_eq_true, reduceIte, L_0, L_1, L_2, L_3, L_4, L_5, L_6, L_7, L_8, L_9, L_10, L_11, L_12, L_14, L_15, L_16, L_24, L_30, L_31, L_32, L_34, L_40, L_44, L_90, L_96, L_97, L_100, L_120, L_121, L_192, L_997, L_998, L_1000, L_1270, L_10000, L_17780, L_2540, L_32768, L_16510]
theorem snoc_at {α : Type} {l : List α} {a x : α} {i : Nat} (h : (l ++ [a])[i]? = some x) : (i < l.length ∧ l[i]? = some x) ∨ (i = l.length ∧ x = a) := by
  rw [List.getElem?_append] at h
  by_cases q : i < l.length
  · rw [if_pos q] at h
    exact Or.inl ⟨q, h⟩
  · rw [if_neg q] at h
    right
    have : i - l.length = 0 := by
      rcases Nat.lt_or_ge 0 (i - l.length) with z | z
      · rw [List.getElem?_eq_none (by simp; omega)] at h; cases h
      · omega
    rw [this] at h
    exact ⟨by omega, by simpa using h.symm⟩
theorem MR_ext {s s' : Nat → Int32} {A : AT} {n : Nat} (hW : WF A n) (h : MR s A) (he : ∀ k, k < 1270 → s' k = s k) : MR s' A := MR_congr hW h he
theorem remember_A {pa : PAT} {sv as : Nat → Int32} {k : Int32} {H : List AT} {d : DKT} {A : AT} {n : Nat} (hP : PR pa sv k H) (hH : ∀ h ∈ H, WF h n) (hd : DR d A) (hm : MR as A) (hW : WF A n) : ∃ pa' sv' k', F_X3_remember pa d = some pa' ∧ F_X9_remember as sv k = some (sv', k') ∧ PR pa' sv' k' (psh H A) := by
  obtain ⟨p1, p2, p3, ⟨o, o1, o2, o3⟩, p4⟩ := hP
  subst p3
  obtain ⟨v, v1, v2⟩ := copy_D (d0 := if pa_has pa ((o + H.length) % 14) then pa_ds pa ((o + H.length) % 14) else DK0) hd hW
  have hm14 : (o + H.length) % 14 < 14 := Nat.mod_lt _ (by omega)
  have e1 : irm (pa_oldest pa + pa_count pa) 14 = J ((o + H.length) % 14) := by rw [o2, p2, J_add, irm_J (by omega)]
  have e2 : irm (pa_oldest pa + 1) 14 = J ((o + 1) % 14) := by rw [o2, show (1 : Int32) = J 1 from rfl, J_add, irm_J (by omega)]
  have hgd : ∀ (x : Option PAT), gd (J ((o + H.length) % 14)) 14 x = x := fun x => gd_J hm14 (by omega)
  rw [remember_M p1]
  unfold F_X3_remember
  rw [e1, e2, hgd, J_nat (by omega), v1]
  simp only [Option.bind_some]
  by_cases q : H.length = 14
  · rw [if_pos (show 14 ≤ pa_count pa by rw [p2]; exact (J_le (a := 14) (by omega) (by omega)).mpr (by omega)), if_pos q, if_pos q]
    refine ⟨_, _, _, rfl, rfl, ?_⟩
    have hl : (psh H A).length = 14 := by unfold psh; rw [if_pos q]; simp; omega
    have hat : ∀ i B, (psh H A)[i]? = some B → (i < 13 ∧ H[i + 1]? = some B) ∨ (i = 13 ∧ B = A) := by
      intro i B hB
      unfold psh at hB
      rw [if_pos q] at hB
      rcases snoc_at hB with ⟨z1, z2⟩ | ⟨z1, z2⟩
      · rw [List.getElem?_drop, Nat.add_comm] at z2
        rw [List.length_drop] at z1
        exact Or.inl ⟨by omega, z2⟩
      · rw [List.length_drop] at z1
        exact Or.inr ⟨by omega, z2⟩
    refine ⟨by omega, ?_, by rw [hl], ⟨(o + 1) % 14, Nat.mod_lt _ (by omega), rfl, fun i B hB => ?_⟩, fun i B hB => ?_⟩
    · show pa_count pa = _
      rw [p2, hl, q]
    · rcases hat i B hB with ⟨z1, z2⟩ | ⟨z1, z2⟩
      · obtain ⟨y1, y2⟩ := o3 (i + 1) B z2
        have ne : ¬ ((o + 1) % 14 + i) % 14 = (o + H.length) % 14 := by omega
        have eq : ((o + 1) % 14 + i) % 14 = (o + (i + 1)) % 14 := by omega
        refine ⟨?_, ?_⟩
        · show (if ((o + 1) % 14 + i) % 14 = (o + H.length) % 14 then true else pa_has pa (((o + 1) % 14 + i) % 14)) = true
          rw [if_neg ne, eq]; exact y1
        · show DR (if ((o + 1) % 14 + i) % 14 = (o + H.length) % 14 then v else pa_ds pa (((o + 1) % 14 + i) % 14)) B
          rw [if_neg ne, eq]; exact y2
      · have eq : ((o + 1) % 14 + i) % 14 = (o + H.length) % 14 := by omega
        subst z2
        refine ⟨?_, ?_⟩
        · show (if ((o + 1) % 14 + i) % 14 = (o + H.length) % 14 then true else pa_has pa (((o + 1) % 14 + i) % 14)) = true
          rw [if_pos eq]
        · show DR (if ((o + 1) % 14 + i) % 14 = (o + H.length) % 14 then v else pa_ds pa (((o + 1) % 14 + i) % 14)) B
          rw [if_pos eq]; exact v2
    · rcases hat i B hB with ⟨z1, z2⟩ | ⟨z1, z2⟩
      · refine MR_ext (hH B (List.mem_of_getElem? z2)) (p4 (i + 1) B z2) fun k hk => ?_
        show cpo _ _ _ _ (1270 * i + k) = _
        unfold cpo
        rw [if_neg (by omega)]
        show (if 1270 * i + k < 16510 then sv (1270 * i + k + 1270) else sv (1270 * i + k)) = sv (1270 * (i + 1) + k)
        rw [if_pos (by omega), show 1270 * i + k + 1270 = 1270 * (i + 1) + k by omega]
      · subst z2
        refine MR_ext hW hm fun k hk => ?_
        show cpo _ _ _ _ (1270 * i + k) = _
        unfold cpo
        rw [if_pos (by omega), show 1270 * i + k - 1270 * 13 = k by omega]
  · rw [if_neg (show ¬ 14 ≤ pa_count pa by rw [p2]; exact fun z => q (by have := (J_le (a := 14) (by omega) (by omega)).mp z; omega)), if_neg q, if_neg q]
    refine ⟨_, _, _, rfl, rfl, ?_⟩
    have hl : (psh H A).length = H.length + 1 := by unfold psh; rw [if_neg q]; simp
    have hat : ∀ i B, (psh H A)[i]? = some B → (i < H.length ∧ H[i]? = some B) ∨ (i = H.length ∧ B = A) := by
      intro i B hB
      unfold psh at hB
      rw [if_neg q] at hB
      exact snoc_at hB
    refine ⟨by omega, ?_, by rw [hl], ⟨o, o1, o2, fun i B hB => ?_⟩, fun i B hB => ?_⟩
    · show pa_count pa + 1 = _
      rw [p2, hl]
      exact J_add _ 1
    · rcases hat i B hB with ⟨z1, z2⟩ | ⟨z1, z2⟩
      · obtain ⟨y1, y2⟩ := o3 i B z2
        have ne : ¬ (o + i) % 14 = (o + H.length) % 14 := by omega
        refine ⟨?_, ?_⟩
        · show (if (o + i) % 14 = (o + H.length) % 14 then true else pa_has pa ((o + i) % 14)) = true
          rw [if_neg ne]; exact y1
        · show DR (if (o + i) % 14 = (o + H.length) % 14 then v else pa_ds pa ((o + i) % 14)) B
          rw [if_neg ne]; exact y2
      · subst z1 z2
        refine ⟨?_, ?_⟩
        · show (if (o + H.length) % 14 = (o + H.length) % 14 then true else pa_has pa ((o + H.length) % 14)) = true
          rw [if_pos rfl]
        · show DR (if (o + H.length) % 14 = (o + H.length) % 14 then v else pa_ds pa ((o + H.length) % 14)) B
          rw [if_pos rfl]; exact v2
    · rcases hat i B hB with ⟨z1, z2⟩ | ⟨z1, z2⟩
      · refine MR_ext (hH B (List.mem_of_getElem? z2)) (p4 i B z2) fun k hk => ?_
        show cpo _ _ _ _ (1270 * i + k) = _
        unfold cpo
        rw [if_neg (by omega)]
      · subst z1 z2
        refine MR_ext hW hm fun k hk => ?_
        show cpo _ _ _ _ (1270 * H.length + k) = _
        unfold cpo
        rw [if_pos (by omega), show 1270 * H.length + k - 1270 * H.length = k by omega]
theorem MR_fil {s a : Nat → Int32} {A : AT} {n : Nat} (hW : WF A n) (h : MR s A) : MR (fil a s 1270) A := MR_congr hW h fun k hk => by rw [fil_at, if_pos hk]
theorem i_undo {n : Nat} {st : STT} {q1 q2 q3 : Int32} (h : Inv n st) : ∃ st', F_T_undo st q1 q2 q3 = some st' ∧ Inv (n + 1) st' := by
  obtain ⟨A, H, Sl, h1, h2, h3, h4, h5, h6, h7, h8⟩ := id h
  obtain ⟨p1, p2, p3, ⟨o, o1, o2, o3⟩, p4⟩ := h5
  unfold F_T_undo F_X9_thrown F_X8_undo F_X9_undo F_X3_takeBack
  rcases List.eq_nil_or_concat H with q | ⟨H', B, q⟩
  · subst q
    rw [p2, p3, if_pos (show J ([] : List AT).length = 0 from rfl), if_pos (show J ([] : List AT).length = 0 from rfl)]
    simp only [Option.bind_some, F_X9_fails]
    rw [if_pos (by decide), if_pos (by rfl), if_neg (by decide)]
    refine ⟨_, rfl, Inv_SE h ⟨rfl, rfl, rfl, rfl, fun _ _ => rfl, rfl, ?_, rfl, rfl, rfl, rfl⟩⟩
    exact p3.symm
  · rw [List.concat_eq_append] at q
    have hl : H.length = H'.length + 1 := by rw [q]; simp
    have hB : H[H'.length]? = some B := by rw [q]; simp
    have hBm : B ∈ H := List.mem_of_getElem? hB
    obtain ⟨y1, y2⟩ := o3 _ B hB
    have hWB := h6 B hBm
    obtain ⟨v, v1, v2⟩ := copy_D (d0 := S_desk st) y2 hWB
    have hne : ¬ J H.length = 0 := fun z => by have := (J_eq (b := 0) (by omega) (by omega)).mp z; omega
    have hm1 : J H.length - 1 = J H'.length := by rw [hl]; exact J_pred _ 1
    have hmo : (o + H'.length) % 14 < 14 := Nat.mod_lt _ (by omega)
    have e1 : irm (J o + J H'.length) 14 = J ((o + H'.length) % 14) := by rw [J_add, irm_J (by omega)]
    have hgd : ∀ (x : Option (PAT × DKT)), gd (J ((o + H'.length) % 14)) 14 x = x := fun x => gd_J hmo (by omega)
    have hloop : lp (B_X9_undo_30 (J H.length) (md_saved (S_md st))) FU (0, md_s (S_md st)) = some (J H'.length, 0, fil (md_s (S_md st)) (fun k => md_saved (S_md st) (1270 * H'.length + k)) 1270, J H'.length) := by
      refine lp_run (fun j => (J j, fil (md_s (S_md st)) (fun k => md_saved (S_md st) (1270 * H'.length + k)) j)) 1270 (fun self j hj => ?_) (fun self => ?_) (by unfold FU; omega)
      · unfold B_X9_undo_30
        rw [hm1]
        simp (disch := omega) only [J_add, J_mul, J_sub, J_dec, J_nat, J_lt, J_le, J_eq, gd_J, gz_J, gb_J, J_div, J_mod, md_back, JN, J_neN, J_Nne, J_ltN, J_Nlt, J_leN, J_Nle, N_refl, J01, J_addN, J_pred, F_X9_at, F_X9_backupAt, F_X9_fails, F_X9_thrown, Option.bind_some, if_true, if_false, Nat.add_zero, Nat.zero_add, Nat.mul_zero, Nat.zero_mul, Nat.reduceAdd, Nat.reduceMul, Nat.reduceSub, Nat.reduceEqDiff, Nat.reduceLeDiff, Nat.reduceLT, Nat.reducePow, Nat.not_lt_zero, Nat.zero_le, eq_self, not_true_eq_false, not_false_eq_true, reduceIte, L_0, L_1, L_2, L_3, L_4, L_5, L_6, L_7, L_8, L_9, L_10, L_11, L_12, L_14, L_15, L_16, L_24, L_30, L_31, L_32, L_34, L_40, L_44, L_90, L_96, L_97, L_100, L_120, L_121, L_192, L_997, L_998, L_1000, L_1270, L_10000, L_17780, L_2540, L_32768, L_16510]
        rw [if_neg (by omega)]
        rfl
      · unfold B_X9_undo_30
        rw [hm1]
        simp (disch := omega) only [Nat.le_refl, J_add, J_mul, J_sub, J_dec, J_nat, J_lt, J_le, J_eq, gd_J, gz_J, gb_J, J_div, J_mod, md_back, JN, J_neN, J_Nne, J_ltN, J_Nlt, J_leN, J_Nle, N_refl, J01, J_addN, J_pred, F_X9_at, F_X9_backupAt, F_X9_fails, F_X9_thrown, Option.bind_some, if_true, if_false, Nat.add_zero, Nat.zero_add, Nat.mul_zero, Nat.zero_mul, Nat.reduceAdd, Nat.reduceMul, Nat.reduceSub, Nat.reduceEqDiff, Nat.reduceLeDiff, Nat.reduceLT, Nat.reducePow, Nat.not_lt_zero, Nat.zero_le, eq_self, not_true_eq_false, not_false_eq_true, reduceIte, L_0, L_1, L_2, L_3, L_4, L_5, L_6, L_7, L_8, L_9, L_10, L_11, L_12, L_14, L_15, L_16, L_24, L_30, L_31, L_32, L_34, L_40, L_44, L_90, L_96, L_97, L_100, L_120, L_121, L_192, L_997, L_998, L_1000, L_1270, L_10000, L_17780, L_2540, L_32768, L_16510]
    rw [p2, p3, o2, if_neg hne, if_neg hne, if_neg hne, hm1, e1, hgd, J_nat (by omega), if_pos y1, v1, hloop]
    simp only [Option.bind_some]
    rw [if_pos (by decide), if_pos (by rfl), if_pos (by rfl), if_pos (by rfl)]
    refine ⟨_, rfl, B, H', Sl, h1, v2, ?_, WF_mono hWB (by omega), ⟨by omega, rfl, rfl, ⟨o, o1, rfl, fun i C hC => ?_⟩, fun i C hC => ?_⟩, fun h hh => WF_mono (h6 h (by rw [q]; exact List.mem_append_left _ hh)) (by omega), h7, fun i h hi hh => WF_mono (h8 i h hi hh) (by omega)⟩
    · exact MR_fil hWB (p4 _ B hB)
    · refine o3 i C ?_
      rw [q, List.getElem?_append, if_pos (List.getElem?_eq_some_iff.mp hC).1]
      exact hC
    · refine p4 i C ?_
      rw [q, List.getElem?_append, if_pos (List.getElem?_eq_some_iff.mp hC).1]
      exact hC
