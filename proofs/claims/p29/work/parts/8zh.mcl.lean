/-! THE PURE SIDE: the Model carries forward: its loops -/
theorem wtg_thin {A : AT} {k i : Nat} (hk : k < (a_cs A).length) (hi : i < si (a_cs A) k) (hT : TH A k = true) : wtg (TH A) (a_cs A) (a_bs A) (st (a_cs A) k + i) = decide (0 < cnt (a_bs A) 8 (nu (a_cs A) k, i)) := by
  unfold wtg
  rw [kpl_at hk hi, pr_at hk hi, hT, Bool.true_and]
theorem wtg_keep {A : AT} {k : Nat} (hk : k < (a_cs A).length) (hT : TH A k = false) : cp (wtg (TH A) (a_cs A) (a_bs A)) (st (a_cs A) (k + 1)) = cp (wtg (TH A) (a_cs A) (a_bs A)) (st (a_cs A) k) := by
  rw [st_step, cp_add]
  have : cp (fun i => wtg (TH A) (a_cs A) (a_bs A) (st (a_cs A) k + i)) (si (a_cs A) k) = 0 := by
    refine cp_zero fun i hi => ?_
    show wtg (TH A) (a_cs A) (a_bs A) (st (a_cs A) k + i) = false
    unfold wtg
    rw [kpl_at hk hi, hT, Bool.false_and]
  omega
theorem mthin_b {A : AT} {N k : Nat} (hW : WF A N) (hN : N ≤ 600) (hk : k + 1 < (a_cs A).length) (hT : TH A k = true) (K : (Int32 × (Nat → Int32)) → Option (Int32 × (Nat → Int32) × (Nat → Int32))) {k50 : Int32 × (Nat → Int32)} {s54 : Int32 × Int32 × (Nat → Int32)} (h50 : k50.2 (Int32.toNatClampNeg s54.2.1) = J (nu (a_cs A) k)) : ∀ (m i fuel : Nat) (s : Nat → Int32), i + m = si (a_cs A) k → m < fuel → MW s A k (cp (wtg (TH A) (a_cs A) (a_bs A)) (st (a_cs A) k + i)) → ∃ s', lp (B_X9_carries_78 (J (kl (TH A) (a_cs A) k).length) k50 s54 K) fuel (J (cp (wtg (TH A) (a_cs A) (a_bs A)) (st (a_cs A) k + i)), J i, s) = K (J (cp (wtg (TH A) (a_cs A) (a_bs A)) (st (a_cs A) (k + 1))), s') ∧ MW s' A k (cp (wtg (TH A) (a_cs A) (a_bs A)) (st (a_cs A) (k + 1))) := by
  have hk2 : k < (a_cs A).length := by omega
  have h0 : 0 < (a_cs A).length := by omega
  have hin := st_in (a_cs A) hk2
  have hwk := hW.1.2.1 k hk2
  have hsi : si (a_cs A) k ≤ 8 := by have := hwk.2.1; have := hwk.2.2.2.1; omega
  have hnu := hwk.2.2.2.2.1
  have hx := hW.1.1
  have hm192 : st (a_cs A) (a_cs A).length ≤ 192 := hW.2.2.2.2.1
  have hwm : wm (TH A) A ≤ 192 := Nat.le_trans (cp_le _ _) hm192
  have hP : (kl (TH A) (a_cs A) k).length ≤ 88 := by
    have h1 := (ms_all (k := k) (w := cp (wtg (TH A) (a_cs A) (a_bs A)) (st (a_cs A) k)) hW hN hk2 (cp_mono _ (by omega))).2 (by omega)
    have h2 := (ms_at (T := TH A) (w := cp (wtg (TH A) (a_cs A) (a_bs A)) (st (a_cs A) k)) hk).1
    omega
  have hcpi : ∀ i, i ≤ si (a_cs A) k → cp (wtg (TH A) (a_cs A) (a_bs A)) (st (a_cs A) k + i) ≤ wm (TH A) A := fun i hi => cp_mono _ (by omega)
  have hmsf := fun w => ms_f (w := w) hk
  have hlt := fun w => (ms_at (T := TH A) (w := w) hk).1
  have hst : st (a_cs A) (k + 1) = st (a_cs A) k + si (a_cs A) k := st_step _ _
  rw [hst]
  intro m
  induction m with
  | zero =>
    intro i fuel s hi hf hM
    obtain ⟨fuel, rfl⟩ : ∃ q, fuel = q + 1 := ⟨fuel - 1, by omega⟩
    obtain rfl : i = si (a_cs A) k := by omega
    refine ⟨s, ?_, hM⟩
    show B_X9_carries_78 _ _ _ _ _ _ = _
    obtain ⟨r1, r2, r3, r4⟩ := hM.1.2.2.2 _ (hlt _)
    rw [(hmsf _).2.1] at r3
    generalize (kl (TH A) (a_cs A) k).length = P at *
    unfold B_X9_carries_78
    simp (disch := omega) only [r3, Nat.le_refl, J_add, J_mul, J_sub, J_dec, J_nat, J_lt, J_le, J_eq, gd_J, gz_J, gb_J, J_div, J_mod, md_back, JN, J_neN, J_Nne, J_ltN, J_Nlt, J_leN, J_Nle, N_refl, J01, J_addN, J_pred, F_X9_at, F_X9_backupAt, F_X9_fails, F_X9_thrown, Option.bind_some, if_true, if_false, Nat.add_zero, Nat.zero_add, Nat.mul_zero, Nat.zero_mul, Nat.reduceAdd, Nat.reduceMul, Nat.reduceSub, Nat.reduceEqDiff, Nat.reduceLeDiff, Nat.reduceLT, Nat.reducePow, Nat.not_lt_zero, Nat.zero_le, eq_self, not_true_eq_false, not_false_eq_true, reduceIte, L_0, L_1, L_2, L_3, L_4, L_5, L_6, L_7, L_8, L_9, L_10, L_11, L_12, L_14, L_15, L_16, L_24, L_30, L_31, L_32, L_34, L_40, L_44, L_90, L_96, L_97, L_100, L_120, L_121, L_192, L_997, L_998, L_1000, L_1270, L_10000, L_17780, L_2540, L_32768, L_16510]
  | succ m ih =>
    intro i fuel s hi hf hM
    obtain ⟨fuel, rfl⟩ : ∃ q, fuel = q + 1 := ⟨fuel - 1, by omega⟩
    have hi2 : i < si (a_cs A) k := by omega
    have ihx := fun s => ih (i + 1) fuel s (by omega) (by omega)
    clear ih
    have hci := hcpi i (by omega)
    have hw := wtg_thin hk2 hi2 hT
    have hcnt := crw_cnt (i := i) hW hk
    have hc8 := cnt_le hW.2.1 8 (nu (a_cs A) k, i)
    have hrb := refsBut_M hM.2.1 (ms_all (k := 0) (w := cp (wtg (TH A) (a_cs A) (a_bs A)) (st (a_cs A) k + i)) hW hN h0 hci).1 (ms_Wb hW hN h0 hci) (n := nu (a_cs A) k) (o := i) (by omega) (by omega) but_8
    rw [hcnt] at hrb
    have hcs : cp (wtg (TH A) (a_cs A) (a_bs A)) (st (a_cs A) k + (i + 1)) = cp (wtg (TH A) (a_cs A) (a_bs A)) (st (a_cs A) k + i) + (if wtg (TH A) (a_cs A) (a_bs A) (st (a_cs A) k + i) then 1 else 0) := cp_step _
    rw [hcs] at ihx
    obtain ⟨r1, r2, r3, r4⟩ := hM.1.2.2.2 _ (hlt _)
    rw [(hmsf _).2.1] at r3
    have r4i := r4 i (by rw [(hmsf _).2.1]; exact hi2)
    rw [(hmsf _).2.2] at r4i
    show ∃ s', B_X9_carries_78 _ _ _ _ (lp _ fuel) _ = _ ∧ _
    generalize lp (B_X9_carries_78 (J (kl (TH A) (a_cs A) k).length) k50 s54 K) fuel = self at ihx ⊢
    by_cases q : 0 < cnt (a_bs A) 8 (nu (a_cs A) k, i)
    · rw [decide_eq_true q] at hw
      rw [hw, if_pos rfl] at ihx
      obtain ⟨s1, s2, L, y1, y2, y3, y4, y5, y6, y7, y8⟩ := mput_M hW hN hk hi2 hw hM
      obtain ⟨s', z1, z2⟩ := ihx s2 y8
      refine ⟨s', ?_, z2⟩
      rw [← z1]
      generalize cp (wtg (TH A) (a_cs A) (a_bs A)) (st (a_cs A) k + i) = v at *
      generalize (kl (TH A) (a_cs A) k).length = P at *
      generalize nrf (lw (TH A) A (v + 1)).1 = R at *
      unfold B_X9_carries_78
      have eN : (-1 : Int32) = NN := rfl
      simp (disch := omega) only [h50, r3, r4i, hrb, y1, y2, y5, y6, y7, eN, Nat.add_sub_cancel, J_add, J_mul, J_sub, J_dec, J_nat, J_lt, J_le, J_eq, gd_J, gz_J, gb_J, J_div, J_mod, md_back, JN, J_neN, J_Nne, J_ltN, J_Nlt, J_leN, J_Nle, N_refl, J01, J_addN, J_pred, F_X9_at, F_X9_backupAt, F_X9_fails, F_X9_thrown, Option.bind_some, if_true, if_false, Nat.add_zero, Nat.zero_add, Nat.mul_zero, Nat.zero_mul, Nat.reduceAdd, Nat.reduceMul, Nat.reduceSub, Nat.reduceEqDiff, Nat.reduceLeDiff, Nat.reduceLT, Nat.reducePow, Nat.not_lt_zero, Nat.zero_le, eq_self, not_true_eq_false, not_false_eq_true, reduceIte, L_0, L_1, L_2, L_3, L_4, L_5, L_6, L_7, L_8, L_9, L_10, L_11, L_12, L_14, L_15, L_16, L_24, L_30, L_31, L_32, L_34, L_40, L_44, L_90, L_96, L_97, L_100, L_120, L_121, L_192, L_997, L_998, L_1000, L_1270, L_10000, L_17780, L_2540, L_32768, L_16510]
      rw [if_neg (by omega), if_neg (by omega)]
    · rw [decide_eq_false q] at hw
      rw [hw, if_neg (by decide)] at ihx
      obtain ⟨s', z1, z2⟩ := ihx s hM
      refine ⟨s', ?_, z2⟩
      rw [← z1]
      generalize cp (wtg (TH A) (a_cs A) (a_bs A)) (st (a_cs A) k + i) = v at *
      generalize (kl (TH A) (a_cs A) k).length = P at *
      unfold B_X9_carries_78
      have eN : (-1 : Int32) = NN := rfl
      simp (disch := omega) only [h50, r3, hrb, eN, J_add, J_mul, J_sub, J_dec, J_nat, J_lt, J_le, J_eq, gd_J, gz_J, gb_J, J_div, J_mod, md_back, JN, J_neN, J_Nne, J_ltN, J_Nlt, J_leN, J_Nle, N_refl, J01, J_addN, J_pred, F_X9_at, F_X9_backupAt, F_X9_fails, F_X9_thrown, Option.bind_some, if_true, if_false, Nat.add_zero, Nat.zero_add, Nat.mul_zero, Nat.zero_mul, Nat.reduceAdd, Nat.reduceMul, Nat.reduceSub, Nat.reduceEqDiff, Nat.reduceLeDiff, Nat.reduceLT, Nat.reducePow, Nat.not_lt_zero, Nat.zero_le, eq_self, not_true_eq_false, not_false_eq_true, reduceIte, L_0, L_1, L_2, L_3, L_4, L_5, L_6, L_7, L_8, L_9, L_10, L_11, L_12, L_14, L_15, L_16, L_24, L_30, L_31, L_32, L_34, L_40, L_44, L_90, L_96, L_97, L_100, L_120, L_121, L_192, L_997, L_998, L_1000, L_1270, L_10000, L_17780, L_2540, L_32768, L_16510]
      rw [if_neg (by omega), if_pos (by omega)]
