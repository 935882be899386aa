/-! THE PURE SIDE: homes, the Model's loops -/
theorem OJ_nu {cs : List Ct} {nx : Nat} (hW : Wc cs nx) {a b : Option Nat} (ha : ∀ q, a = some q → q < cs.length) (hb : ∀ q, b = some q → q < cs.length) : (OJ (nu cs) a = OJ (nu cs) b) ↔ a = b := by
  cases a with
  | none =>
    cases b with
    | none => exact ⟨fun _ => rfl, fun _ => rfl⟩
    | some q =>
      have := Wc_nu hW (hb q rfl)
      have e : (OJ (nu cs) none = OJ (nu cs) (some q)) = False := J_Nne (by omega)
      rw [e]
      exact ⟨fun h => h.elim, fun h => (by cases h)⟩
  | some p =>
    have h1 := Wc_nu hW (ha p rfl)
    cases b with
    | none =>
      have e : (OJ (nu cs) (some p) = OJ (nu cs) none) = False := J_neN (by omega)
      rw [e]
      exact ⟨fun h => h.elim, fun h => (by cases h)⟩
    | some q =>
      have h2 := Wc_nu hW (hb q rfl)
      show (J (nu cs p) = J (nu cs q)) ↔ _
      rw [J_eq (by omega) (by omega)]
      exact ⟨fun h => by rw [Wc_inj hW (ha p rfl) (hb q rfl) h], fun h => by rw [Option.some.inj h]⟩
theorem J_sgn : ∀ a b : Fin 16, ((0 < J a.1 - J b.1) ↔ b.1 < a.1) ∧ ((J a.1 - J b.1 = 0) ↔ a.1 = b.1) := by decide
theorem livesAt_M {f : Nat → Int32} {cs : List Ct} {nx n p : Nat} {h : Nat → Option Nat} (hW : Wc cs nx) (h15 : n ≤ 15) (hb : ∀ j q, j < n → h j = some q → q < cs.length) (hf : ∀ j, j < n → f j = OJ (nu cs) (h j)) (hp : p < cs.length) : F_X9_livesAt (J n) f (J (nu cs p)) = some (J (vt h n p)) := by
  unfold F_X9_livesAt
  refine lp_run (fun i => (J (vt h i p), J i)) n (fun self i hi => ?_) (fun self => ?_) (by unfold FU; omega)
  · have e : (OJ (nu cs) (h i) = J (nu cs p)) ↔ h i = some p := OJ_nu hW (b := some p) (fun q hq => hb i q hi hq) (fun q hq => by cases hq; exact hp)
    rw [vt_step]
    unfold B_X9_livesAt_4
    simp (disch := omega) only [hf i hi, J_add, J_mul, J_sub, J_dec, J_nat, J_lt, J_le, J_eq, gd_J, gz_J, gb_J, J_div, J_mod, md_back, JN, J_neN, J_Nne, J_ltN, J_Nlt, J_leN, J_Nle, N_refl, J01, J_addN, J_pred, F_X9_at, F_X9_backupAt, F_X9_fails, F_X9_thrown, Option.bind_some, if_true, if_false, Nat.add_zero, Nat.zero_add, Nat.mul_zero, Nat.zero_mul, Nat.reduceAdd, Nat.reduceMul, Nat.reduceSub, Nat.reduceEqDiff, Nat.reduceLeDiff, Nat.reduceLT, Nat.reducePow, Nat.not_lt_zero, Nat.zero_le, eq_self, not_true_eq_false, not_false_eq_true, reduceIte, L_0, L_1, L_2, L_3, L_4, L_5, L_6, L_7, L_8, L_9, L_10, L_11, L_12, L_14, L_15, L_16, L_24, L_30, L_31, L_32, L_34, L_40, L_44, L_90, L_96, L_97, L_100, L_120, L_121, L_192, L_997, L_998, L_1000, L_1270, L_10000, L_17780, L_2540, L_32768, L_16510]
    rw [if_neg (by omega)]
    by_cases q : h i = some p
    · rw [if_pos (e.mpr q), if_pos q]
    · rw [if_neg (fun z => q (e.mp z)), if_neg q]
      rfl
  · unfold B_X9_livesAt_4
    simp (disch := omega) only [Nat.le_refl, J_add, J_mul, J_sub, J_dec, J_nat, J_lt, J_le, J_eq, gd_J, gz_J, gb_J, J_div, J_mod, md_back, JN, J_neN, J_Nne, J_ltN, J_Nlt, J_leN, J_Nle, N_refl, J01, J_addN, J_pred, F_X9_at, F_X9_backupAt, F_X9_fails, F_X9_thrown, Option.bind_some, if_true, if_false, Nat.add_zero, Nat.zero_add, Nat.mul_zero, Nat.zero_mul, Nat.reduceAdd, Nat.reduceMul, Nat.reduceSub, Nat.reduceEqDiff, Nat.reduceLeDiff, Nat.reduceLT, Nat.reducePow, Nat.not_lt_zero, Nat.zero_le, eq_self, not_true_eq_false, not_false_eq_true, reduceIte, L_0, L_1, L_2, L_3, L_4, L_5, L_6, L_7, L_8, L_9, L_10, L_11, L_12, L_14, L_15, L_16, L_24, L_30, L_31, L_32, L_34, L_40, L_44, L_90, L_96, L_97, L_100, L_120, L_121, L_192, L_997, L_998, L_1000, L_1270, L_10000, L_17780, L_2540, L_32768, L_16510]
theorem aheadOf_M {f : Nat → Int32} {cs : List Ct} {nx n p : Nat} {h : Nat → Option Nat} (hW : Wc cs nx) (h15 : n ≤ 15) (hb : ∀ j q, j < n → h j = some q → q < cs.length) (hf : ∀ j, j < n → f j = OJ (nu cs) (h j)) (hp : p < cs.length) : F_X9_aheadOf (J n) f (J (nu cs p)) = some (J (ah h n p)) := by
  have hlp := livesAt_M hW h15 hb hf hp
  unfold F_X9_aheadOf
  refine lp_run (fun i => (J (cp (fun i => ifs h i && ahd h n ((h i).getD 0) p) i), J i)) n (fun self i hi => ?_) (fun self => ?_) (by unfold FU; omega)
  · rw [cp_step]
    generalize cp (fun i => ifs h i && ahd h n ((h i).getD 0) p) i = a
    have hcmp : ∀ j, j < n → ((OJ (nu cs) (h j) = OJ (nu cs) (h i)) ↔ h j = h i) := fun j hj => OJ_nu hW (fun q hq => hb j q hj hq) (fun q hq => hb i q hi hq)
    have flag : ∀ b : Nat, b ≤ 1 → lp (B_X9_aheadOf_32 (J a, J i) f (K_X9_aheadOf_72 self (J a, J i) f (J (nu cs p)) (J n))) FU (J b, 0) = K_X9_aheadOf_72 self (J a, J i) f (J (nu cs p)) (J n) (J (if b = 1 ∧ cp (fun j => decide (h j = h i)) i = 0 then 1 else 0)) := by
      intro b hb1
      have e0 : (J b, (0 : Int32)) = (fun j => (J (if b = 1 ∧ cp (fun j => decide (h j = h i)) j = 0 then 1 else 0), J j)) 0 := by
        show _ = (J (if b = 1 ∧ cp (fun j => decide (h j = h i)) 0 = 0 then 1 else 0), J 0)
        have z0 : cp (fun j => decide (h j = h i)) 0 = 0 := rfl
        by_cases q : b = 1
        · rw [if_pos (And.intro q z0), q]; rfl
        · rw [if_neg (fun z => q z.1), show b = 0 by omega]; rfl
      rw [e0]
      refine lp_run (fun j => (J (if b = 1 ∧ cp (fun j => decide (h j = h i)) j = 0 then 1 else 0), J j)) i (fun self3 j hj => ?_) (fun self3 => ?_) (by unfold FU; omega)
      · rw [cp_step]
        generalize hc : cp (fun j => decide (h j = h i)) j = c
        unfold B_X9_aheadOf_32
        simp (disch := omega) only [hf i hi, hf j (show j < n by omega), J_add, J_mul, J_sub, J_dec, J_nat, J_lt, J_le, J_eq, gd_J, gz_J, gb_J, J_div, J_mod, md_back, JN, J_neN, J_Nne, J_ltN, J_Nlt, J_leN, J_Nle, N_refl, J01, J_addN, J_pred, F_X9_at, F_X9_backupAt, F_X9_fails, F_X9_thrown, Option.bind_some, if_true, if_false, Nat.add_zero, Nat.zero_add, Nat.mul_zero, Nat.zero_mul, Nat.reduceAdd, Nat.reduceMul, Nat.reduceSub, Nat.reduceEqDiff, Nat.reduceLeDiff, Nat.reduceLT, Nat.reducePow, Nat.not_lt_zero, Nat.zero_le, eq_self, not_true_eq_false, not_false_eq_true, reduceIte, L_0, L_1, L_2, L_3, L_4, L_5, L_6, L_7, L_8, L_9, L_10, L_11, L_12, L_14, L_15, L_16, L_24, L_30, L_31, L_32, L_34, L_40, L_44, L_90, L_96, L_97, L_100, L_120, L_121, L_192, L_997, L_998, L_1000, L_1270, L_10000, L_17780, L_2540, L_32768, L_16510]
        rw [if_neg (by omega)]
        by_cases q : b = 1 ∧ c = 0
        · rw [if_pos q, if_neg (show ¬ J 1 = J 0 by decide)]
          by_cases z : h j = h i
          · rw [if_pos ((hcmp j (by omega)).mpr z), if_pos (decide_eq_true z), if_neg (show ¬ (b = 1 ∧ c + 1 = 0) by omega)]
          · rw [if_neg (fun w => z ((hcmp j (by omega)).mp w)), if_neg (show ¬ (decide (h j = h i) = true) by simpa using z), if_pos (show b = 1 ∧ c + 0 = 0 by omega)]
        · rw [if_neg q, if_neg (show ¬ (b = 1 ∧ c + (if decide (h j = h i) = true then 1 else 0) = 0) by split <;> omega), if_pos (show J 0 = J 0 from rfl)]
      · unfold B_X9_aheadOf_32
        simp (disch := omega) only [Nat.le_refl, J_add, J_mul, J_sub, J_dec, J_nat, J_lt, J_le, J_eq, gd_J, gz_J, gb_J, J_div, J_mod, md_back, JN, J_neN, J_Nne, J_ltN, J_Nlt, J_leN, J_Nle, N_refl, J01, J_addN, J_pred, F_X9_at, F_X9_backupAt, F_X9_fails, F_X9_thrown, Option.bind_some, if_true, if_false, Nat.add_zero, Nat.zero_add, Nat.mul_zero, Nat.zero_mul, Nat.reduceAdd, Nat.reduceMul, Nat.reduceSub, Nat.reduceEqDiff, Nat.reduceLeDiff, Nat.reduceLT, Nat.reducePow, Nat.not_lt_zero, Nat.zero_le, eq_self, not_true_eq_false, not_false_eq_true, reduceIte, L_0, L_1, L_2, L_3, L_4, L_5, L_6, L_7, L_8, L_9, L_10, L_11, L_12, L_14, L_15, L_16, L_24, L_30, L_31, L_32, L_34, L_40, L_44, L_90, L_96, L_97, L_100, L_120, L_121, L_192, L_997, L_998, L_1000, L_1270, L_10000, L_17780, L_2540, L_32768, L_16510]
    have e4 : (-1 : Int32) = NN := rfl
    unfold B_X9_aheadOf_4 J_X9_aheadOf_27
    simp (disch := omega) only [hf i hi, J_add, J_mul, J_sub, J_dec, J_nat, J_lt, J_le, J_eq, gd_J, gz_J, gb_J, J_div, J_mod, md_back, JN, J_neN, J_Nne, J_ltN, J_Nlt, J_leN, J_Nle, N_refl, J01, J_addN, J_pred, F_X9_at, F_X9_backupAt, F_X9_fails, F_X9_thrown, Option.bind_some, if_true, if_false, Nat.add_zero, Nat.zero_add, Nat.mul_zero, Nat.zero_mul, Nat.reduceAdd, Nat.reduceMul, Nat.reduceSub, Nat.reduceEqDiff, Nat.reduceLeDiff, Nat.reduceLT, Nat.reducePow, Nat.not_lt_zero, Nat.zero_le, eq_self, not_true_eq_false, not_false_eq_true, reduceIte, L_0, L_1, L_2, L_3, L_4, L_5, L_6, L_7, L_8, L_9, L_10, L_11, L_12, L_14, L_15, L_16, L_24, L_30, L_31, L_32, L_34, L_40, L_44, L_90, L_96, L_97, L_100, L_120, L_121, L_192, L_997, L_998, L_1000, L_1270, L_10000, L_17780, L_2540, L_32768, L_16510]
    rw [if_neg (by omega)]
    cases hh : h i with
    | none =>
      have hz : OJ (nu cs) (h i) = NN := by rw [hh]; rfl
      have f0 := flag 0 (by omega)
      rw [hh] at f0
      rw [if_neg (show ¬ (0 = 1 ∧ cp (fun j => decide (h j = none)) i = 0) by omega)] at f0
      have hn : (OJ (nu cs) none = NN) := rfl
      rw [if_pos hn]
      refine Eq.trans f0 ?_
      unfold K_X9_aheadOf_72 J_X9_aheadOf_97
      have hif : ifs h i = false := decide_eq_false (fun z => z.1 hh)
      rw [hif]
      simp (disch := omega) only [J_add, J_mul, J_sub, J_dec, J_nat, J_lt, J_le, J_eq, gd_J, gz_J, gb_J, J_div, J_mod, md_back, JN, J_neN, J_Nne, J_ltN, J_Nlt, J_leN, J_Nle, N_refl, J01, J_addN, J_pred, F_X9_at, F_X9_backupAt, F_X9_fails, F_X9_thrown, Option.bind_some, if_true, if_false, Nat.add_zero, Nat.zero_add, Nat.mul_zero, Nat.zero_mul, Nat.reduceAdd, Nat.reduceMul, Nat.reduceSub, Nat.reduceEqDiff, Nat.reduceLeDiff, Nat.reduceLT, Nat.reducePow, Nat.not_lt_zero, Nat.zero_le, eq_self, not_true_eq_false, not_false_eq_true, reduceIte, L_0, L_1, L_2, L_3, L_4, L_5, L_6, L_7, L_8, L_9, L_10, L_11, L_12, L_14, L_15, L_16, L_24, L_30, L_31, L_32, L_34, L_40, L_44, L_90, L_96, L_97, L_100, L_120, L_121, L_192, L_997, L_998, L_1000, L_1270, L_10000, L_17780, L_2540, L_32768, L_16510]
      rfl
    | some q =>
      have hq := hb i q hi hh
      have hn31 := Wc_nu hW hq
      have hnp := Wc_nu hW hp
      have hz : ¬ OJ (nu cs) (some q) = NN := by
        show ¬ J (nu cs q) = NN
        rw [J_neN (by omega)]
        exact id
      rw [if_neg hz]
      have f1 := flag 1 (by omega)
      rw [hh] at f1
      refine Eq.trans f1 ?_
      have hlq := livesAt_M hW h15 hb hf hq
      have v1 := vt_le h n q
      have v2 := vt_le h n p
      obtain ⟨s1, s2⟩ := J_sgn ⟨vt h n q, by omega⟩ ⟨vt h n p, by omega⟩
      have s1' : (J 0 < J (vt h n q) - J (vt h n p)) ↔ vt h n p < vt h n q := s1
      have s2' : (J (vt h n q) - J (vt h n p) = J 0) ↔ vt h n q = vt h n p := s2
      have hfi : f i = J (nu cs q) := by rw [hf i hi, hh]; rfl
      have hnl : nu cs q ≤ nu cs p ↔ q ≤ p := by
        have := Wc_lt hW hp hq
        omega
      by_cases w : cp (fun j => decide (h j = some q)) i = 0
      · have hif : ifs h i = true := decide_eq_true ⟨by rw [hh]; exact fun z => (by cases z), by rw [hh]; exact w⟩
        rw [if_pos ⟨rfl, w⟩, hif]
        unfold K_X9_aheadOf_72 J_X9_aheadOf_97
        have hg : ∀ (x : Option Int32), gd (J i) 16 x = x := fun x => gd_J (by omega) (by omega)
        rw [if_neg (show ¬ J 1 = 0 by decide)]
        dsimp only
        rw [hg, J_nat (by omega), hfi, hlq, hlp]
        simp only [Option.bind_some]
        rw [if_neg (show ¬ J 1 = 0 by decide), hg, show J i + 1 = J (i + 1) from J_add i 1, show J a + 1 = J (a + 1) from J_add a 1, show J a + 0 = J (a + 0) from J_add a 0]
        show _ = self (J (a + if (true && ahd h n q p) = true then 1 else 0), J (i + 1))
        rw [Bool.true_and]
        unfold ahd
        by_cases y1 : vt h n p < vt h n q
        · rw [if_pos (show 0 < J (vt h n q) - J (vt h n p) from s1.mpr y1), if_pos (decide_eq_true (Or.inl y1))]
        · rw [if_neg (show ¬ 0 < J (vt h n q) - J (vt h n p) from fun z => y1 (s1.mp z))]
          by_cases y2 : vt h n q = vt h n p
          · rw [if_pos (show J (vt h n q) - J (vt h n p) = 0 from s2.mpr y2)]
            by_cases y3 : q ≤ p
            · rw [if_pos (show J (nu cs q) ≤ J (nu cs p) by rw [J_le (by omega) (by omega)]; exact hnl.mpr y3), if_neg (by simp; omega)]
            · rw [if_neg (show ¬ J (nu cs q) ≤ J (nu cs p) by rw [J_le (by omega) (by omega)]; exact fun z => y3 (hnl.mp z)), if_pos (decide_eq_true (by omega))]
          · rw [if_neg (show ¬ J (vt h n q) - J (vt h n p) = 0 from fun z => y2 (s2.mp z)), if_neg (by simp; omega)]
      · have hif : ifs h i = false := decide_eq_false (fun z => by rw [hh] at z; exact w z.2)
        rw [if_neg (fun z => w z.2), hif]
        unfold K_X9_aheadOf_72 J_X9_aheadOf_97
        simp (disch := omega) only [J_add, J_mul, J_sub, J_dec, J_nat, J_lt, J_le, J_eq, gd_J, gz_J, gb_J, J_div, J_mod, md_back, JN, J_neN, J_Nne, J_ltN, J_Nlt, J_leN, J_Nle, N_refl, J01, J_addN, J_pred, F_X9_at, F_X9_backupAt, F_X9_fails, F_X9_thrown, Option.bind_some, if_true, if_false, Nat.add_zero, Nat.zero_add, Nat.mul_zero, Nat.zero_mul, Nat.reduceAdd, Nat.reduceMul, Nat.reduceSub, Nat.reduceEqDiff, Nat.reduceLeDiff, Nat.reduceLT, Nat.reducePow, Nat.not_lt_zero, Nat.zero_le, eq_self, not_true_eq_false, not_false_eq_true, reduceIte, L_0, L_1, L_2, L_3, L_4, L_5, L_6, L_7, L_8, L_9, L_10, L_11, L_12, L_14, L_15, L_16, L_24, L_30, L_31, L_32, L_34, L_40, L_44, L_90, L_96, L_97, L_100, L_120, L_121, L_192, L_997, L_998, L_1000, L_1270, L_10000, L_17780, L_2540, L_32768, L_16510]
        rfl
  · unfold B_X9_aheadOf_4
    simp (disch := omega) only [Nat.le_refl, J_add, J_mul, J_sub, J_dec, J_nat, J_lt, J_le, J_eq, gd_J, gz_J, gb_J, J_div, J_mod, md_back, JN, J_neN, J_Nne, J_ltN, J_Nlt, J_leN, J_Nle, N_refl, J01, J_addN, J_pred, F_X9_at, F_X9_backupAt, F_X9_fails, F_X9_thrown, Option.bind_some, if_true, if_false, Nat.add_zero, Nat.zero_add, Nat.mul_zero, Nat.zero_mul, Nat.reduceAdd, Nat.reduceMul, Nat.reduceSub, Nat.reduceEqDiff, Nat.reduceLeDiff, Nat.reduceLT, Nat.reducePow, Nat.not_lt_zero, Nat.zero_le, eq_self, not_true_eq_false, not_false_eq_true, reduceIte, L_0, L_1, L_2, L_3, L_4, L_5, L_6, L_7, L_8, L_9, L_10, L_11, L_12, L_14, L_15, L_16, L_24, L_30, L_31, L_32, L_34, L_40, L_44, L_90, L_96, L_97, L_100, L_120, L_121, L_192, L_997, L_998, L_1000, L_1270, L_10000, L_17780, L_2540, L_32768, L_16510]
    rfl
theorem ah_le (h : Nat → Option Nat) (n p : Nat) : ah h n p ≤ n := cp_le _ _
theorem findsHomes_M {s ck hm0 dr0 : Nat → Int32} {se : Nat → Nat} {nx n lim : Nat} {cs : List Ct} {ks : Nat → List Nat} (hR : RMc s se nx cs) (hW : Wc cs nx) (hl : cs.length ≤ 92) (h15 : n ≤ 15) (hk : ∀ j, j < n → ck j = J (c9 (ks j)) ∧ vch (ks j)) (hlim9 : lim ≤ 9) : ∃ f g, F_X9_findsHomes s ck (J n) hm0 dr0 (J lim) = some (f, g) ∧ ∀ j, j < n → f j = OJ (nu cs) (kh (fun j => hm cs (ks j)) n lim j) := by
  generalize hh : (fun j => hm cs (ks j)) = h
  have hhe : ∀ j, hm cs (ks j) = h j := fun j => by rw [← hh]
  have hb : ∀ j q, j < n → h j = some q → q < cs.length := fun j q _ hq => by rw [← hhe] at hq; exact (lastP_some hq).1
  have e4 : (-1 : Int32) = NN := rfl
  have step1 : F_X9_findsHomes s ck (J n) hm0 dr0 (J lim) = K_X9_findsHomes_32 (J n) (J lim) dr0 (fil hm0 (fun j => OJ (nu cs) (h j)) n) := by
    unfold F_X9_findsHomes
    refine lp_run (fun i => (J i, fil hm0 (fun j => OJ (nu cs) (h j)) i)) n (fun self i hi => ?_) (fun self => ?_) (by unfold FU; omega)
    · unfold B_X9_findsHomes_2
      simp (disch := omega) only [(hk i hi).1, homeOf_M hR hW hl (hk i hi).2, hhe, J_add, J_mul, J_sub, J_dec, J_nat, J_lt, J_le, J_eq, gd_J, gz_J, gb_J, J_div, J_mod, md_back, JN, J_neN, J_Nne, J_ltN, J_Nlt, J_leN, J_Nle, N_refl, J01, J_addN, J_pred, F_X9_at, F_X9_backupAt, F_X9_fails, F_X9_thrown, Option.bind_some, if_true, if_false, Nat.add_zero, Nat.zero_add, Nat.mul_zero, Nat.zero_mul, Nat.reduceAdd, Nat.reduceMul, Nat.reduceSub, Nat.reduceEqDiff, Nat.reduceLeDiff, Nat.reduceLT, Nat.reducePow, Nat.not_lt_zero, Nat.zero_le, eq_self, not_true_eq_false, not_false_eq_true, reduceIte, L_0, L_1, L_2, L_3, L_4, L_5, L_6, L_7, L_8, L_9, L_10, L_11, L_12, L_14, L_15, L_16, L_24, L_30, L_31, L_32, L_34, L_40, L_44, L_90, L_96, L_97, L_100, L_120, L_121, L_192, L_997, L_998, L_1000, L_1270, L_10000, L_17780, L_2540, L_32768, L_16510]
      rw [if_neg (by omega)]
      rfl
    · unfold B_X9_findsHomes_2
      simp (disch := omega) only [Nat.le_refl, J_add, J_mul, J_sub, J_dec, J_nat, J_lt, J_le, J_eq, gd_J, gz_J, gb_J, J_div, J_mod, md_back, JN, J_neN, J_Nne, J_ltN, J_Nlt, J_leN, J_Nle, N_refl, J01, J_addN, J_pred, F_X9_at, F_X9_backupAt, F_X9_fails, F_X9_thrown, Option.bind_some, if_true, if_false, Nat.add_zero, Nat.zero_add, Nat.mul_zero, Nat.zero_mul, Nat.reduceAdd, Nat.reduceMul, Nat.reduceSub, Nat.reduceEqDiff, Nat.reduceLeDiff, Nat.reduceLT, Nat.reducePow, Nat.not_lt_zero, Nat.zero_le, eq_self, not_true_eq_false, not_false_eq_true, reduceIte, L_0, L_1, L_2, L_3, L_4, L_5, L_6, L_7, L_8, L_9, L_10, L_11, L_12, L_14, L_15, L_16, L_24, L_30, L_31, L_32, L_34, L_40, L_44, L_90, L_96, L_97, L_100, L_120, L_121, L_192, L_997, L_998, L_1000, L_1270, L_10000, L_17780, L_2540, L_32768, L_16510]
  generalize hf0 : fil hm0 (fun j => OJ (nu cs) (h j)) n = f0 at step1
  have hf : ∀ j, j < n → f0 j = OJ (nu cs) (h j) := fun j hj => by rw [← hf0, fil_at, if_pos hj]
  have step2 : K_X9_findsHomes_32 (J n) (J lim) dr0 f0 = K_X9_findsHomes_83 (J n) f0 (fil dr0 (fun j => J (if (h j).isSome = true ∧ lim ≤ ah h n ((h j).getD 0) then 1 else 0)) n) := by
    unfold K_X9_findsHomes_32
    refine lp_run (fun i => (J i, fil dr0 (fun j => J (if (h j).isSome = true ∧ lim ≤ ah h n ((h j).getD 0) then 1 else 0)) i)) n (fun self i hi => ?_) (fun self => ?_) (by unfold FU; omega)
    · have hfi := hf i hi
      show _ = self (J (i + 1), upd (fil dr0 (fun j => J (if (h j).isSome = true ∧ lim ≤ ah h n ((h j).getD 0) then 1 else 0)) i) i (J (if (h i).isSome = true ∧ lim ≤ ah h n ((h i).getD 0) then 1 else 0)))
      unfold B_X9_findsHomes_34
      cases hi2 : h i with
      | none =>
        rw [hi2] at hfi
        have hfi' : f0 i = NN := hfi
        rw [if_neg (show ¬ ((none : Option Nat).isSome = true ∧ lim ≤ ah h n ((none : Option Nat).getD 0)) from fun z => (by cases z.1))]
        simp (disch := omega) only [hfi', J_add, J_mul, J_sub, J_dec, J_nat, J_lt, J_le, J_eq, gd_J, gz_J, gb_J, J_div, J_mod, md_back, JN, J_neN, J_Nne, J_ltN, J_Nlt, J_leN, J_Nle, N_refl, J01, J_addN, J_pred, F_X9_at, F_X9_backupAt, F_X9_fails, F_X9_thrown, Option.bind_some, if_true, if_false, Nat.add_zero, Nat.zero_add, Nat.mul_zero, Nat.zero_mul, Nat.reduceAdd, Nat.reduceMul, Nat.reduceSub, Nat.reduceEqDiff, Nat.reduceLeDiff, Nat.reduceLT, Nat.reducePow, Nat.not_lt_zero, Nat.zero_le, eq_self, not_true_eq_false, not_false_eq_true, reduceIte, L_0, L_1, L_2, L_3, L_4, L_5, L_6, L_7, L_8, L_9, L_10, L_11, L_12, L_14, L_15, L_16, L_24, L_30, L_31, L_32, L_34, L_40, L_44, L_90, L_96, L_97, L_100, L_120, L_121, L_192, L_997, L_998, L_1000, L_1270, L_10000, L_17780, L_2540, L_32768, L_16510]
        rw [if_neg (by omega)]
      | some p =>
        have hp := hb i p hi hi2
        have hnp := Wc_nu hW hp
        rw [hi2] at hfi
        have hfi' : f0 i = J (nu cs p) := hfi
        have hah := aheadOf_M hW h15 hb hf hp
        have hal := ah_le h n p
        show _ = self (J (i + 1), upd _ i (J (if (some p).isSome = true ∧ lim ≤ ah h n p then 1 else 0)))
        simp (disch := omega) only [hfi', hah, J_add, J_mul, J_sub, J_dec, J_nat, J_lt, J_le, J_eq, gd_J, gz_J, gb_J, J_div, J_mod, md_back, JN, J_neN, J_Nne, J_ltN, J_Nlt, J_leN, J_Nle, N_refl, J01, J_addN, J_pred, F_X9_at, F_X9_backupAt, F_X9_fails, F_X9_thrown, Option.bind_some, if_true, if_false, Nat.add_zero, Nat.zero_add, Nat.mul_zero, Nat.zero_mul, Nat.reduceAdd, Nat.reduceMul, Nat.reduceSub, Nat.reduceEqDiff, Nat.reduceLeDiff, Nat.reduceLT, Nat.reducePow, Nat.not_lt_zero, Nat.zero_le, eq_self, not_true_eq_false, not_false_eq_true, reduceIte, L_0, L_1, L_2, L_3, L_4, L_5, L_6, L_7, L_8, L_9, L_10, L_11, L_12, L_14, L_15, L_16, L_24, L_30, L_31, L_32, L_34, L_40, L_44, L_90, L_96, L_97, L_100, L_120, L_121, L_192, L_997, L_998, L_1000, L_1270, L_10000, L_17780, L_2540, L_32768, L_16510]
        rw [if_neg (by omega)]
        by_cases q : lim ≤ ah h n p
        · rw [if_neg (by omega), if_pos ⟨rfl, q⟩]
        · rw [if_pos (by omega), if_neg (fun z => q z.2)]
    · unfold B_X9_findsHomes_34
      simp (disch := omega) only [Nat.le_refl, J_add, J_mul, J_sub, J_dec, J_nat, J_lt, J_le, J_eq, gd_J, gz_J, gb_J, J_div, J_mod, md_back, JN, J_neN, J_Nne, J_ltN, J_Nlt, J_leN, J_Nle, N_refl, J01, J_addN, J_pred, F_X9_at, F_X9_backupAt, F_X9_fails, F_X9_thrown, Option.bind_some, if_true, if_false, Nat.add_zero, Nat.zero_add, Nat.mul_zero, Nat.zero_mul, Nat.reduceAdd, Nat.reduceMul, Nat.reduceSub, Nat.reduceEqDiff, Nat.reduceLeDiff, Nat.reduceLT, Nat.reducePow, Nat.not_lt_zero, Nat.zero_le, eq_self, not_true_eq_false, not_false_eq_true, reduceIte, L_0, L_1, L_2, L_3, L_4, L_5, L_6, L_7, L_8, L_9, L_10, L_11, L_12, L_14, L_15, L_16, L_24, L_30, L_31, L_32, L_34, L_40, L_44, L_90, L_96, L_97, L_100, L_120, L_121, L_192, L_997, L_998, L_1000, L_1270, L_10000, L_17780, L_2540, L_32768, L_16510]
  generalize hg0 : fil dr0 (fun j => J (if (h j).isSome = true ∧ lim ≤ ah h n ((h j).getD 0) then 1 else 0)) n = g0 at step2
  have hg : ∀ j, j < n → g0 j = J (if (h j).isSome = true ∧ lim ≤ ah h n ((h j).getD 0) then 1 else 0) := fun j hj => by rw [← hg0, fil_at, if_pos hj]
  have hkh : ∀ j, OJ (nu cs) (kh h n lim j) = if (h j).isSome = true ∧ lim ≤ ah h n ((h j).getD 0) then NN else OJ (nu cs) (h j) := by
    intro j
    unfold kh
    cases hj : h j with
    | none =>
      rw [if_neg (show ¬ ((none : Option Nat).isSome = true ∧ lim ≤ ah h n ((none : Option Nat).getD 0)) from fun z => (by cases z.1))]
      split <;> rfl
    | some p =>
      by_cases q : lim ≤ ah h n ((some p).getD 0)
      · rw [if_pos q, if_pos ⟨rfl, q⟩]; rfl
      · rw [if_neg q, if_neg (fun z => q z.2)]
  refine ⟨fun j => if j < n then OJ (nu cs) (kh h n lim j) else f0 j, g0, ?_, fun j hj => if_pos hj⟩
  rw [step1, step2]
  unfold K_X9_findsHomes_83
  have e0 : ((0 : Int32), f0) = (fun i => (J i, fun j => if j < i then OJ (nu cs) (kh h n lim j) else f0 j)) 0 := by
    show _ = (J 0, fun j => if j < 0 then OJ (nu cs) (kh h n lim j) else f0 j)
    congr 1
  rw [e0]
  refine lp_run (fun i => (J i, fun j => if j < i then OJ (nu cs) (kh h n lim j) else f0 j)) n (fun self i hi => ?_) (fun self => ?_) (by unfold FU; omega)
  · have hgi := hg i hi
    have key : ∀ v, v = OJ (nu cs) (kh h n lim i) → upd (fun j => if j < i then OJ (nu cs) (kh h n lim j) else f0 j) i v = fun j => if j < i + 1 then OJ (nu cs) (kh h n lim j) else f0 j := by
      intro v hv
      funext j
      by_cases q : j = i
      · subst q
        rw [upd_self, if_pos (by omega)]
        exact hv
      · rw [upd_ne _ _ q]
        by_cases z : j < i
        · rw [if_pos z, if_pos (by omega)]
        · rw [if_neg z, if_neg (by omega)]
    have hki := hkh i
    unfold B_X9_findsHomes_85
    by_cases q : (h i).isSome = true ∧ lim ≤ ah h n ((h i).getD 0)
    · rw [if_pos q] at hgi hki
      simp (disch := omega) only [hgi, J_add, J_mul, J_sub, J_dec, J_nat, J_lt, J_le, J_eq, gd_J, gz_J, gb_J, J_div, J_mod, md_back, JN, J_neN, J_Nne, J_ltN, J_Nlt, J_leN, J_Nle, N_refl, J01, J_addN, J_pred, F_X9_at, F_X9_backupAt, F_X9_fails, F_X9_thrown, Option.bind_some, if_true, if_false, Nat.add_zero, Nat.zero_add, Nat.mul_zero, Nat.zero_mul, Nat.reduceAdd, Nat.reduceMul, Nat.reduceSub, Nat.reduceEqDiff, Nat.reduceLeDiff, Nat.reduceLT, Nat.reducePow, Nat.not_lt_zero, Nat.zero_le, eq_self, not_true_eq_false, not_false_eq_true, reduceIte, L_0, L_1, L_2, L_3, L_4, L_5, L_6, L_7, L_8, L_9, L_10, L_11, L_12, L_14, L_15, L_16, L_24, L_30, L_31, L_32, L_34, L_40, L_44, L_90, L_96, L_97, L_100, L_120, L_121, L_192, L_997, L_998, L_1000, L_1270, L_10000, L_17780, L_2540, L_32768, L_16510]
      rw [if_neg (by omega), key NN hki.symm]
    · rw [if_neg q] at hgi hki
      simp (disch := omega) only [hgi, J_add, J_mul, J_sub, J_dec, J_nat, J_lt, J_le, J_eq, gd_J, gz_J, gb_J, J_div, J_mod, md_back, JN, J_neN, J_Nne, J_ltN, J_Nlt, J_leN, J_Nle, N_refl, J01, J_addN, J_pred, F_X9_at, F_X9_backupAt, F_X9_fails, F_X9_thrown, Option.bind_some, if_true, if_false, Nat.add_zero, Nat.zero_add, Nat.mul_zero, Nat.zero_mul, Nat.reduceAdd, Nat.reduceMul, Nat.reduceSub, Nat.reduceEqDiff, Nat.reduceLeDiff, Nat.reduceLT, Nat.reducePow, Nat.not_lt_zero, Nat.zero_le, eq_self, not_true_eq_false, not_false_eq_true, reduceIte, L_0, L_1, L_2, L_3, L_4, L_5, L_6, L_7, L_8, L_9, L_10, L_11, L_12, L_14, L_15, L_16, L_24, L_30, L_31, L_32, L_34, L_40, L_44, L_90, L_96, L_97, L_100, L_120, L_121, L_192, L_997, L_998, L_1000, L_1270, L_10000, L_17780, L_2540, L_32768, L_16510]
      have hlt : ¬ i < i := Nat.lt_irrefl i
      simp only [hlt, if_false]
      rw [if_neg (by omega), key (f0 i) (by rw [hki]; exact hf i hi)]
  · unfold B_X9_findsHomes_85
    simp (disch := omega) only [Nat.le_refl, J_add, J_mul, J_sub, J_dec, J_nat, J_lt, J_le, J_eq, gd_J, gz_J, gb_J, J_div, J_mod, md_back, JN, J_neN, J_Nne, J_ltN, J_Nlt, J_leN, J_Nle, N_refl, J01, J_addN, J_pred, F_X9_at, F_X9_backupAt, F_X9_fails, F_X9_thrown, Option.bind_some, if_true, if_false, Nat.add_zero, Nat.zero_add, Nat.mul_zero, Nat.zero_mul, Nat.reduceAdd, Nat.reduceMul, Nat.reduceSub, Nat.reduceEqDiff, Nat.reduceLeDiff, Nat.reduceLT, Nat.reducePow, Nat.not_lt_zero, Nat.zero_le, eq_self, not_true_eq_false, not_false_eq_true, reduceIte, L_0, L_1, L_2, L_3, L_4, L_5, L_6, L_7, L_8, L_9, L_10, L_11, L_12, L_14, L_15, L_16, L_24, L_30, L_31, L_32, L_34, L_40, L_44, L_90, L_96, L_97, L_100, L_120, L_121, L_192, L_997, L_998, L_1000, L_1270, L_10000, L_17780, L_2540, L_32768, L_16510]
