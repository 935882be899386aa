/-! THE PURE SIDE: what the Model reads of its row -/
theorem slotx_M {s : Nat → Int32} {se : Nat → Nat} {nx : Nat} {cs : List Ct} (hm : RMc s se nx cs) (hl : cs.length ≤ 92) (x : Int32) : F_X9_slotOf s x = some (RJ (fi (fun j => decide (J (nu cs j) = x)) cs.length) cs.length) := by
  obtain ⟨f1, f2, f3⟩ := fi_spec (fun j => decide (J (nu cs j) = x)) cs.length
  unfold F_X9_slotOf
  refine lp_run (fun j => J j) (fi (fun j => decide (J (nu cs j) = x)) cs.length) (fun self j hj => ?_) (fun self => ?_) (by unfold FU; omega)
  · have g := hm.2.2.2 j (by omega)
    have g2 := of_decide_eq_false (f2 j hj)
    unfold B_X9_slotOf_2
    simp (disch := omega) only [hm.2.2.1, g.1, J_add, J_mul, J_sub, J_dec, J_nat, J_lt, J_le, J_eq, gd_J, gz_J, gb_J, J_div, J_mod, md_back, JN, J_neN, J_Nne, J_ltN, J_Nlt, J_leN, J_Nle, N_refl, J01, J_addN, J_pred, F_X9_at, F_X9_backupAt, F_X9_fails, F_X9_thrown, Option.bind_some, if_true, if_false, Nat.add_zero, Nat.zero_add, Nat.mul_zero, Nat.zero_mul, Nat.reduceAdd, Nat.reduceMul, Nat.reduceSub, Nat.reduceEqDiff, Nat.reduceLeDiff, Nat.reduceLT, Nat.reducePow, Nat.not_lt_zero, Nat.zero_le, eq_self, not_true_eq_false, not_false_eq_true, reduceIte, L_0, L_1, L_2, L_3, L_4, L_5, L_6, L_7, L_8, L_9, L_10, L_11, L_12, L_14, L_15, L_16, L_24, L_30, L_31, L_32, L_34, L_40, L_44, L_90, L_96, L_97, L_100, L_120, L_121, L_192, L_997, L_998, L_1000, L_1270, L_10000, L_17780, L_2540, L_32768, L_16510]
    rw [if_neg (by omega), if_neg g2]
  · generalize fi (fun j => decide (J (nu cs j) = x)) cs.length = k at *
    unfold B_X9_slotOf_2 RJ
    simp (disch := omega) only [hm.2.2.1, J_add, J_mul, J_sub, J_dec, J_nat, J_lt, J_le, J_eq, gd_J, gz_J, gb_J, J_div, J_mod, md_back, JN, J_neN, J_Nne, J_ltN, J_Nlt, J_leN, J_Nle, N_refl, J01, J_addN, J_pred, F_X9_at, F_X9_backupAt, F_X9_fails, F_X9_thrown, Option.bind_some, if_true, if_false, Nat.add_zero, Nat.zero_add, Nat.mul_zero, Nat.zero_mul, Nat.reduceAdd, Nat.reduceMul, Nat.reduceSub, Nat.reduceEqDiff, Nat.reduceLeDiff, Nat.reduceLT, Nat.reducePow, Nat.not_lt_zero, Nat.zero_le, eq_self, not_true_eq_false, not_false_eq_true, reduceIte, L_0, L_1, L_2, L_3, L_4, L_5, L_6, L_7, L_8, L_9, L_10, L_11, L_12, L_14, L_15, L_16, L_24, L_30, L_31, L_32, L_34, L_40, L_44, L_90, L_96, L_97, L_100, L_120, L_121, L_192, L_997, L_998, L_1000, L_1270, L_10000, L_17780, L_2540, L_32768, L_16510]
    by_cases q : k < cs.length
    · have g := hm.2.2.2 k q
      have g2 := of_decide_eq_true (f3 q)
      rw [if_neg (by omega), if_pos q]
      simp (disch := omega) only [g.1, J_add, J_mul, J_sub, J_dec, J_nat, J_lt, J_le, J_eq, gd_J, gz_J, gb_J, J_div, J_mod, md_back, JN, J_neN, J_Nne, J_ltN, J_Nlt, J_leN, J_Nle, N_refl, J01, J_addN, J_pred, F_X9_at, F_X9_backupAt, F_X9_fails, F_X9_thrown, Option.bind_some, if_true, if_false, Nat.add_zero, Nat.zero_add, Nat.mul_zero, Nat.zero_mul, Nat.reduceAdd, Nat.reduceMul, Nat.reduceSub, Nat.reduceEqDiff, Nat.reduceLeDiff, Nat.reduceLT, Nat.reducePow, Nat.not_lt_zero, Nat.zero_le, eq_self, not_true_eq_false, not_false_eq_true, reduceIte, L_0, L_1, L_2, L_3, L_4, L_5, L_6, L_7, L_8, L_9, L_10, L_11, L_12, L_14, L_15, L_16, L_24, L_30, L_31, L_32, L_34, L_40, L_44, L_90, L_96, L_97, L_100, L_120, L_121, L_192, L_997, L_998, L_1000, L_1270, L_10000, L_17780, L_2540, L_32768, L_16510]
      rw [if_pos g2]
    · rw [if_pos (by omega), if_neg q]
theorem slot_M {s : Nat → Int32} {se : Nat → Nat} {nx : Nat} {cs : List Ct} (hm : RMc s se nx cs) (hW : Wc cs nx) (hl : cs.length ≤ 92) {k : Nat} (hk : k < cs.length) : F_X9_slotOf s (J (nu cs k)) = some (J k) := by
  rw [slotx_M hm hl, fi_eq (k := k) (by omega)]
  · unfold RJ; rw [if_pos hk]
  · intro j hj
    apply decide_eq_false
    have h1 := Wc_nu hW hk
    have h2 := Wc_nu hW (k := j) (by omega)
    rw [J_eq (by omega) (by omega)]
    intro q
    have := Wc_inj hW (by omega) hk q
    omega
  · intro _; exact decide_eq_true rfl
theorem entryOf_M {s : Nat → Int32} {se : Nat → Nat} {nx : Nat} {cs : List Ct} (hm : RMc s se nx cs) (hW : Wc cs nx) (hl : cs.length ≤ 92) {k : Nat} (hk : k < cs.length) {l : List Nat} (hv : vch l) : F_X9_entryOf s (J k) (J (c9 l)) = some (RJ (fe cs k l) (si cs k)) := by
  unfold fe
  obtain ⟨f1, f2, f3⟩ := fi_spec (fun e => decide (ch cs k e = l)) (si cs k)
  obtain ⟨w1, w2, w3, w4, w5, w6⟩ := hW.2.1 k hk
  obtain ⟨g1, g2, g3, g4⟩ := hm.2.2.2 k hk
  unfold F_X9_entryOf
  refine lp_run (fun j => J j) (fi (fun e => decide (ch cs k e = l)) (si cs k)) (fun self j hj => ?_) (fun self => ?_) (by unfold FU; omega)
  · have h2 := of_decide_eq_false (f2 j hj)
    have h3 := c9_eq (w6 j (by omega)) hv
    unfold B_X9_entryOf_2
    simp (disch := omega) only [g3, g4 j (by omega), h3, J_add, J_mul, J_sub, J_dec, J_nat, J_lt, J_le, J_eq, gd_J, gz_J, gb_J, J_div, J_mod, md_back, JN, J_neN, J_Nne, J_ltN, J_Nlt, J_leN, J_Nle, N_refl, J01, J_addN, J_pred, F_X9_at, F_X9_backupAt, F_X9_fails, F_X9_thrown, Option.bind_some, if_true, if_false, Nat.add_zero, Nat.zero_add, Nat.mul_zero, Nat.zero_mul, Nat.reduceAdd, Nat.reduceMul, Nat.reduceSub, Nat.reduceEqDiff, Nat.reduceLeDiff, Nat.reduceLT, Nat.reducePow, Nat.not_lt_zero, Nat.zero_le, eq_self, not_true_eq_false, not_false_eq_true, reduceIte, L_0, L_1, L_2, L_3, L_4, L_5, L_6, L_7, L_8, L_9, L_10, L_11, L_12, L_14, L_15, L_16, L_24, L_30, L_31, L_32, L_34, L_40, L_44, L_90, L_96, L_97, L_100, L_120, L_121, L_192, L_997, L_998, L_1000, L_1270, L_10000, L_17780, L_2540, L_32768, L_16510]
    rw [if_neg (by omega), if_neg h2]
  · generalize fi (fun e => decide (ch cs k e = l)) (si cs k) = i at *
    unfold B_X9_entryOf_2 RJ
    simp (disch := omega) only [g3, J_add, J_mul, J_sub, J_dec, J_nat, J_lt, J_le, J_eq, gd_J, gz_J, gb_J, J_div, J_mod, md_back, JN, J_neN, J_Nne, J_ltN, J_Nlt, J_leN, J_Nle, N_refl, J01, J_addN, J_pred, F_X9_at, F_X9_backupAt, F_X9_fails, F_X9_thrown, Option.bind_some, if_true, if_false, Nat.add_zero, Nat.zero_add, Nat.mul_zero, Nat.zero_mul, Nat.reduceAdd, Nat.reduceMul, Nat.reduceSub, Nat.reduceEqDiff, Nat.reduceLeDiff, Nat.reduceLT, Nat.reducePow, Nat.not_lt_zero, Nat.zero_le, eq_self, not_true_eq_false, not_false_eq_true, reduceIte, L_0, L_1, L_2, L_3, L_4, L_5, L_6, L_7, L_8, L_9, L_10, L_11, L_12, L_14, L_15, L_16, L_24, L_30, L_31, L_32, L_34, L_40, L_44, L_90, L_96, L_97, L_100, L_120, L_121, L_192, L_997, L_998, L_1000, L_1270, L_10000, L_17780, L_2540, L_32768, L_16510]
    by_cases q : i < si cs k
    · have h2 := of_decide_eq_true (f3 q)
      have h3 := c9_eq (w6 i q) hv
      rw [if_neg (by omega), if_pos q]
      simp (disch := omega) only [g4 i q, h3, J_add, J_mul, J_sub, J_dec, J_nat, J_lt, J_le, J_eq, gd_J, gz_J, gb_J, J_div, J_mod, md_back, JN, J_neN, J_Nne, J_ltN, J_Nlt, J_leN, J_Nle, N_refl, J01, J_addN, J_pred, F_X9_at, F_X9_backupAt, F_X9_fails, F_X9_thrown, Option.bind_some, if_true, if_false, Nat.add_zero, Nat.zero_add, Nat.mul_zero, Nat.zero_mul, Nat.reduceAdd, Nat.reduceMul, Nat.reduceSub, Nat.reduceEqDiff, Nat.reduceLeDiff, Nat.reduceLT, Nat.reducePow, Nat.not_lt_zero, Nat.zero_le, eq_self, not_true_eq_false, not_false_eq_true, reduceIte, L_0, L_1, L_2, L_3, L_4, L_5, L_6, L_7, L_8, L_9, L_10, L_11, L_12, L_14, L_15, L_16, L_24, L_30, L_31, L_32, L_34, L_40, L_44, L_90, L_96, L_97, L_100, L_120, L_121, L_192, L_997, L_998, L_1000, L_1270, L_10000, L_17780, L_2540, L_32768, L_16510]
      rw [if_pos h2]
    · rw [if_pos (by omega), if_neg q]
theorem homeOf_M {s : Nat → Int32} {se : Nat → Nat} {nx : Nat} {cs : List Ct} (hR : RMc s se nx cs) (hW : Wc cs nx) (hl : cs.length ≤ 92) {l : List Nat} (hv : vch l) : F_X9_homeOf s (J (c9 l)) = some (OJ (nu cs) (hm cs l)) := by
  unfold F_X9_homeOf
  have e0 : s 7 - J 1 = dn cs.length := by rw [hR.2.2.1, dn_sub]
  simp (disch := omega) only [e0, J_add, J_mul, J_sub, J_dec, J_nat, J_lt, J_le, J_eq, gd_J, gz_J, gb_J, J_div, J_mod, md_back, JN, J_neN, J_Nne, J_ltN, J_Nlt, J_leN, J_Nle, N_refl, J01, J_addN, J_pred, F_X9_at, F_X9_backupAt, F_X9_fails, F_X9_thrown, Option.bind_some, if_true, if_false, Nat.add_zero, Nat.zero_add, Nat.mul_zero, Nat.zero_mul, Nat.reduceAdd, Nat.reduceMul, Nat.reduceSub, Nat.reduceEqDiff, Nat.reduceLeDiff, Nat.reduceLT, Nat.reducePow, Nat.not_lt_zero, Nat.zero_le, eq_self, not_true_eq_false, not_false_eq_true, reduceIte, L_0, L_1, L_2, L_3, L_4, L_5, L_6, L_7, L_8, L_9, L_10, L_11, L_12, L_14, L_15, L_16, L_24, L_30, L_31, L_32, L_34, L_40, L_44, L_90, L_96, L_97, L_100, L_120, L_121, L_192, L_997, L_998, L_1000, L_1270, L_10000, L_17780, L_2540, L_32768, L_16510]
  refine lp_dn dn (fun k => decide (fe cs k l < si cs k)) (fun z => some (OJ (nu cs) z)) (fun self => ?_) cs.length FU (fun self j hj => ?_) (by unfold FU; omega)
  · rfl
  · obtain ⟨g1, g2, g3, g4⟩ := hR.2.2.2 j hj
    obtain ⟨w1, w2, w3, w4, w5, w6⟩ := hW.2.1 j hj
    rw [dn_succ]
    unfold B_X9_homeOf_10 K_X9_homeOf_24
    have e3 : ¬ J j < 0 := J_neg (by omega)
    have e4 : (-1 : Int32) = NN := rfl
    rw [if_neg e3, entryOf_M hR hW hl hj hv, e4, dn_add]
    have hfi := (fi_spec (fun e => decide (ch cs j e = l)) (si cs j)).1
    have hfi : fe cs j l ≤ si cs j := hfi
    unfold RJ
    by_cases q : fe cs j l < si cs j
    · rw [if_pos q, if_pos (decide_eq_true q)]
      simp (disch := omega) only [g1, J_add, J_mul, J_sub, J_dec, J_nat, J_lt, J_le, J_eq, gd_J, gz_J, gb_J, J_div, J_mod, md_back, JN, J_neN, J_Nne, J_ltN, J_Nlt, J_leN, J_Nle, N_refl, J01, J_addN, J_pred, F_X9_at, F_X9_backupAt, F_X9_fails, F_X9_thrown, Option.bind_some, if_true, if_false, Nat.add_zero, Nat.zero_add, Nat.mul_zero, Nat.zero_mul, Nat.reduceAdd, Nat.reduceMul, Nat.reduceSub, Nat.reduceEqDiff, Nat.reduceLeDiff, Nat.reduceLT, Nat.reducePow, Nat.not_lt_zero, Nat.zero_le, eq_self, not_true_eq_false, not_false_eq_true, reduceIte, L_0, L_1, L_2, L_3, L_4, L_5, L_6, L_7, L_8, L_9, L_10, L_11, L_12, L_14, L_15, L_16, L_24, L_30, L_31, L_32, L_34, L_40, L_44, L_90, L_96, L_97, L_100, L_120, L_121, L_192, L_997, L_998, L_1000, L_1270, L_10000, L_17780, L_2540, L_32768, L_16510]
      rfl
    · rw [if_neg q, if_neg (by simpa using q)]
      simp (disch := omega) only [J_add, J_mul, J_sub, J_dec, J_nat, J_lt, J_le, J_eq, gd_J, gz_J, gb_J, J_div, J_mod, md_back, JN, J_neN, J_Nne, J_ltN, J_Nlt, J_leN, J_Nle, N_refl, J01, J_addN, J_pred, F_X9_at, F_X9_backupAt, F_X9_fails, F_X9_thrown, Option.bind_some, if_true, if_false, Nat.add_zero, Nat.zero_add, Nat.mul_zero, Nat.zero_mul, Nat.reduceAdd, Nat.reduceMul, Nat.reduceSub, Nat.reduceEqDiff, Nat.reduceLeDiff, Nat.reduceLT, Nat.reducePow, Nat.not_lt_zero, Nat.zero_le, eq_self, not_true_eq_false, not_false_eq_true, reduceIte, L_0, L_1, L_2, L_3, L_4, L_5, L_6, L_7, L_8, L_9, L_10, L_11, L_12, L_14, L_15, L_16, L_24, L_30, L_31, L_32, L_34, L_40, L_44, L_90, L_96, L_97, L_100, L_120, L_121, L_192, L_997, L_998, L_1000, L_1270, L_10000, L_17780, L_2540, L_32768, L_16510]
theorem count_take {l : List (Nat × Nat)} {i : Nat} (h : i < l.length) (r : Nat × Nat) : (l.take (i + 1)).count r = (l.take i).count r + (if rf l i = r then 1 else 0) := by
  rw [tk_succ (rf_at h), List.count_append]
  congr 1
  rw [List.count_singleton]
  by_cases q : rf l i = r
  · rw [q]; simp
  · rw [if_neg q, if_neg (by simpa using q)]
theorem RV_small {cs : List Ct} {nx : Nat} {r : Nat × Nat} (hW : Wc cs nx) (h : RV cs r) : r.1 < 2 ^ 30 ∧ r.2 < 8 := by
  obtain ⟨k, h1, h2, h3⟩ := h
  have := Wc_nu hW h1
  obtain ⟨w1, w2, w3, w4, w5, w6⟩ := hW.2.1 k h1
  omega
/-- the parameter of 'but' -/
def but (p : Int32) (u : Nat) : Prop := ∀ b, b < 8 → (J b = p ↔ b = u)
theorem but_8 : but NN 8 := by
  intro b hb
  rw [J_neN (by omega)]
  exact ⟨fun h => h.elim, fun h => absurd h (by omega)⟩
theorem but_b {u : Nat} (h : u < 8) : but (J u) u := fun b hb => J_eq (by omega) (by omega)
theorem refsBut_M {s : Nat → Int32} {nx : Nat} {cs : List Ct} {bs : Nat → List (Nat × Nat)} (hm : RMb s bs) (hW : Wc cs nx) (hb : Wb cs bs) {n o u : Nat} {p : Int32} (hn : n < 2 ^ 31) (ho : o < 2 ^ 31) (hp : but p u) : F_X9_referencesBut s (J n) (J o) p = some (J (cnt bs u (n, o))) := by
  unfold F_X9_referencesBut
  refine lp_run (fun b => (J (sm (fun b => if b = u then 0 else (bs b).count (n, o)) b), J b)) 8 (fun self b hb8 => ?_) (fun self => ?_) (by unfold FU; omega)
  · obtain ⟨g1, g2, g3⟩ := hm b hb8
    obtain ⟨v1, v2⟩ := hb b hb8
    generalize ha : sm (fun b => if b = u then 0 else (bs b).count (n, o)) b = a
    have ha2 : sm (fun b => if b = u then 0 else (bs b).count (n, o)) (b + 1) = a + (if b = u then 0 else (bs b).count (n, o)) := by rw [sm_step, ha]
    unfold B_X9_referencesBut_6
    simp (disch := omega) only [J_add, J_mul, J_sub, J_dec, J_nat, J_lt, J_le, J_eq, gd_J, gz_J, gb_J, J_div, J_mod, md_back, JN, J_neN, J_Nne, J_ltN, J_Nlt, J_leN, J_Nle, N_refl, J01, J_addN, J_pred, F_X9_at, F_X9_backupAt, F_X9_fails, F_X9_thrown, Option.bind_some, if_true, if_false, Nat.add_zero, Nat.zero_add, Nat.mul_zero, Nat.zero_mul, Nat.reduceAdd, Nat.reduceMul, Nat.reduceSub, Nat.reduceEqDiff, Nat.reduceLeDiff, Nat.reduceLT, Nat.reducePow, Nat.not_lt_zero, Nat.zero_le, eq_self, not_true_eq_false, not_false_eq_true, reduceIte, L_0, L_1, L_2, L_3, L_4, L_5, L_6, L_7, L_8, L_9, L_10, L_11, L_12, L_14, L_15, L_16, L_24, L_30, L_31, L_32, L_34, L_40, L_44, L_90, L_96, L_97, L_100, L_120, L_121, L_192, L_997, L_998, L_1000, L_1270, L_10000, L_17780, L_2540, L_32768, L_16510]
    rw [if_neg (by omega), ha2]
    by_cases z : 1 ≤ (bs b).length
    · by_cases hbu : b = u
      · rw [if_pos hbu]
        refine lp_run (fun i => (J a, J 0)) 0 (fun self i hi => absurd hi (by omega)) (fun self2 => ?_) (by unfold FU; omega)
        unfold B_X9_referencesBut_24
        have e1 : (J b = p) = True := eq_true ((hp b hb8).mpr hbu)
        simp (disch := omega) only [g1, g2, e1, J_add, J_mul, J_sub, J_dec, J_nat, J_lt, J_le, J_eq, gd_J, gz_J, gb_J, J_div, J_mod, md_back, JN, J_neN, J_Nne, J_ltN, J_Nlt, J_leN, J_Nle, N_refl, J01, J_addN, J_pred, F_X9_at, F_X9_backupAt, F_X9_fails, F_X9_thrown, Option.bind_some, if_true, if_false, Nat.add_zero, Nat.zero_add, Nat.mul_zero, Nat.zero_mul, Nat.reduceAdd, Nat.reduceMul, Nat.reduceSub, Nat.reduceEqDiff, Nat.reduceLeDiff, Nat.reduceLT, Nat.reducePow, Nat.not_lt_zero, Nat.zero_le, eq_self, not_true_eq_false, not_false_eq_true, reduceIte, L_0, L_1, L_2, L_3, L_4, L_5, L_6, L_7, L_8, L_9, L_10, L_11, L_12, L_14, L_15, L_16, L_24, L_30, L_31, L_32, L_34, L_40, L_44, L_90, L_96, L_97, L_100, L_120, L_121, L_192, L_997, L_998, L_1000, L_1270, L_10000, L_17780, L_2540, L_32768, L_16510]
        rw [if_neg (by omega), if_pos (by omega)]
      · rw [if_neg hbu]
        have e1 : (J b = p) = False := eq_false fun q => hbu ((hp b hb8).mp q)
        refine lp_run (fun i => (J (a + ((bs b).take i).count (n, o)), J i)) (bs b).length (fun self2 i hi => ?_) (fun self2 => ?_) (by unfold FU; omega)
        · obtain ⟨k1, k2⟩ := g3 i hi
          obtain ⟨z1, z2⟩ := RV_small hW (v2 i hi)
          unfold B_X9_referencesBut_24
          rw [count_take hi, ← Nat.add_assoc]
          simp (disch := omega) only [g1, g2, k1, k2, e1, J_add, J_mul, J_sub, J_dec, J_nat, J_lt, J_le, J_eq, gd_J, gz_J, gb_J, J_div, J_mod, md_back, JN, J_neN, J_Nne, J_ltN, J_Nlt, J_leN, J_Nle, N_refl, J01, J_addN, J_pred, F_X9_at, F_X9_backupAt, F_X9_fails, F_X9_thrown, Option.bind_some, if_true, if_false, Nat.add_zero, Nat.zero_add, Nat.mul_zero, Nat.zero_mul, Nat.reduceAdd, Nat.reduceMul, Nat.reduceSub, Nat.reduceEqDiff, Nat.reduceLeDiff, Nat.reduceLT, Nat.reducePow, Nat.not_lt_zero, Nat.zero_le, eq_self, not_true_eq_false, not_false_eq_true, reduceIte, L_0, L_1, L_2, L_3, L_4, L_5, L_6, L_7, L_8, L_9, L_10, L_11, L_12, L_14, L_15, L_16, L_24, L_30, L_31, L_32, L_34, L_40, L_44, L_90, L_96, L_97, L_100, L_120, L_121, L_192, L_997, L_998, L_1000, L_1270, L_10000, L_17780, L_2540, L_32768, L_16510]
          rw [if_neg (by omega), if_pos (by omega)]
          by_cases q1 : (rf (bs b) i).1 = n
          · rw [if_pos q1]
            by_cases q2 : (rf (bs b) i).2 = o
            · rw [if_pos q2, if_pos (Prod.ext q1 q2)]
            · rw [if_neg q2, if_neg (fun q => q2 (congrArg Prod.snd q))]
              rfl
          · rw [if_neg q1, if_neg (fun q => q1 (congrArg Prod.fst q))]
            rfl
        · unfold B_X9_referencesBut_24
          simp (disch := omega) only [g2, Nat.le_refl, tk_all, J_add, J_mul, J_sub, J_dec, J_nat, J_lt, J_le, J_eq, gd_J, gz_J, gb_J, J_div, J_mod, md_back, JN, J_neN, J_Nne, J_ltN, J_Nlt, J_leN, J_Nle, N_refl, J01, J_addN, J_pred, F_X9_at, F_X9_backupAt, F_X9_fails, F_X9_thrown, Option.bind_some, if_true, if_false, Nat.add_zero, Nat.zero_add, Nat.mul_zero, Nat.zero_mul, Nat.reduceAdd, Nat.reduceMul, Nat.reduceSub, Nat.reduceEqDiff, Nat.reduceLeDiff, Nat.reduceLT, Nat.reducePow, Nat.not_lt_zero, Nat.zero_le, eq_self, not_true_eq_false, not_false_eq_true, reduceIte, L_0, L_1, L_2, L_3, L_4, L_5, L_6, L_7, L_8, L_9, L_10, L_11, L_12, L_14, L_15, L_16, L_24, L_30, L_31, L_32, L_34, L_40, L_44, L_90, L_96, L_97, L_100, L_120, L_121, L_192, L_997, L_998, L_1000, L_1270, L_10000, L_17780, L_2540, L_32768, L_16510]
    · have z0 : (bs b).length = 0 := by omega
      have z1 : bs b = [] := List.length_eq_zero_iff.mp z0
      refine lp_run (fun i => (J a, J 0)) 0 (fun self i hi => absurd hi (by omega)) (fun self2 => ?_) (by unfold FU; omega)
      unfold B_X9_referencesBut_24
      rw [z1] at g2 ⊢
      simp (disch := omega) only [g2, List.length_nil, List.count_nil, J_add, J_mul, J_sub, J_dec, J_nat, J_lt, J_le, J_eq, gd_J, gz_J, gb_J, J_div, J_mod, md_back, JN, J_neN, J_Nne, J_ltN, J_Nlt, J_leN, J_Nle, N_refl, J01, J_addN, J_pred, F_X9_at, F_X9_backupAt, F_X9_fails, F_X9_thrown, Option.bind_some, if_true, if_false, Nat.add_zero, Nat.zero_add, Nat.mul_zero, Nat.zero_mul, Nat.reduceAdd, Nat.reduceMul, Nat.reduceSub, Nat.reduceEqDiff, Nat.reduceLeDiff, Nat.reduceLT, Nat.reducePow, Nat.not_lt_zero, Nat.zero_le, eq_self, not_true_eq_false, not_false_eq_true, reduceIte, L_0, L_1, L_2, L_3, L_4, L_5, L_6, L_7, L_8, L_9, L_10, L_11, L_12, L_14, L_15, L_16, L_24, L_30, L_31, L_32, L_34, L_40, L_44, L_90, L_96, L_97, L_100, L_120, L_121, L_192, L_997, L_998, L_1000, L_1270, L_10000, L_17780, L_2540, L_32768, L_16510]
      split <;> rfl
  · unfold B_X9_referencesBut_6
    simp (disch := omega) only [J_add, J_mul, J_sub, J_dec, J_nat, J_lt, J_le, J_eq, gd_J, gz_J, gb_J, J_div, J_mod, md_back, JN, J_neN, J_Nne, J_ltN, J_Nlt, J_leN, J_Nle, N_refl, J01, J_addN, J_pred, F_X9_at, F_X9_backupAt, F_X9_fails, F_X9_thrown, Option.bind_some, if_true, if_false, Nat.add_zero, Nat.zero_add, Nat.mul_zero, Nat.zero_mul, Nat.reduceAdd, Nat.reduceMul, Nat.reduceSub, Nat.reduceEqDiff, Nat.reduceLeDiff, Nat.reduceLT, Nat.reducePow, Nat.not_lt_zero, Nat.zero_le, eq_self, not_true_eq_false, not_false_eq_true, reduceIte, L_0, L_1, L_2, L_3, L_4, L_5, L_6, L_7, L_8, L_9, L_10, L_11, L_12, L_14, L_15, L_16, L_24, L_30, L_31, L_32, L_34, L_40, L_44, L_90, L_96, L_97, L_100, L_120, L_121, L_192, L_997, L_998, L_1000, L_1270, L_10000, L_17780, L_2540, L_32768, L_16510]
    rfl
theorem livingIn_M {s : Nat → Int32} {se : Nat → Nat} {nx : Nat} {cs : List Ct} {bs : Nat → List (Nat × Nat)} (hm : RMc s se nx cs) (hB : RMb s bs) (hW : Wc cs nx) (hb : Wb cs bs) (hl : cs.length ≤ 92) {k u : Nat} {p : Int32} (hk : k < cs.length) (hp : but p u) : F_X9_livingIn s (J k) p = some (J (lv cs bs u k)) := by
  obtain ⟨w1, w2, w3, w4, w5, w6⟩ := hW.2.1 k hk
  obtain ⟨g1, g2, g3, g4⟩ := hm.2.2.2 k hk
  have g5 := Wc_nu hW hk
  unfold F_X9_livingIn
  refine lp_run (fun i => (J (cp (fun i => decide (0 < cnt bs u (nu cs k, i))) i), J i)) (si cs k) (fun self i hi => ?_) (fun self => ?_) (by unfold FU; omega)
  · have hr := refsBut_M hB hW hb (n := nu cs k) (o := i) (by omega) (by omega) hp
    have hc := cnt_le hb u (nu cs k, i)
    unfold B_X9_livingIn_5
    simp (disch := omega) only [g3, g1, hr, J_add, J_mul, J_sub, J_dec, J_nat, J_lt, J_le, J_eq, gd_J, gz_J, gb_J, J_div, J_mod, md_back, JN, J_neN, J_Nne, J_ltN, J_Nlt, J_leN, J_Nle, N_refl, J01, J_addN, J_pred, F_X9_at, F_X9_backupAt, F_X9_fails, F_X9_thrown, Option.bind_some, if_true, if_false, Nat.add_zero, Nat.zero_add, Nat.mul_zero, Nat.zero_mul, Nat.reduceAdd, Nat.reduceMul, Nat.reduceSub, Nat.reduceEqDiff, Nat.reduceLeDiff, Nat.reduceLT, Nat.reducePow, Nat.not_lt_zero, Nat.zero_le, eq_self, not_true_eq_false, not_false_eq_true, reduceIte, L_0, L_1, L_2, L_3, L_4, L_5, L_6, L_7, L_8, L_9, L_10, L_11, L_12, L_14, L_15, L_16, L_24, L_30, L_31, L_32, L_34, L_40, L_44, L_90, L_96, L_97, L_100, L_120, L_121, L_192, L_997, L_998, L_1000, L_1270, L_10000, L_17780, L_2540, L_32768, L_16510]
    rw [if_neg (by omega)]
    by_cases q : 0 < cnt bs u (nu cs k, i)
    · rw [cp_yes (by exact decide_eq_true q), if_neg (by omega)]
    · rw [cp_no (by exact decide_eq_false q), if_pos (by omega)]
  · unfold B_X9_livingIn_5
    simp (disch := omega) only [g3, Nat.le_refl, J_add, J_mul, J_sub, J_dec, J_nat, J_lt, J_le, J_eq, gd_J, gz_J, gb_J, J_div, J_mod, md_back, JN, J_neN, J_Nne, J_ltN, J_Nlt, J_leN, J_Nle, N_refl, J01, J_addN, J_pred, F_X9_at, F_X9_backupAt, F_X9_fails, F_X9_thrown, Option.bind_some, if_true, if_false, Nat.add_zero, Nat.zero_add, Nat.mul_zero, Nat.zero_mul, Nat.reduceAdd, Nat.reduceMul, Nat.reduceSub, Nat.reduceEqDiff, Nat.reduceLeDiff, Nat.reduceLT, Nat.reducePow, Nat.not_lt_zero, Nat.zero_le, eq_self, not_true_eq_false, not_false_eq_true, reduceIte, L_0, L_1, L_2, L_3, L_4, L_5, L_6, L_7, L_8, L_9, L_10, L_11, L_12, L_14, L_15, L_16, L_24, L_30, L_31, L_32, L_34, L_40, L_44, L_90, L_96, L_97, L_100, L_120, L_121, L_192, L_997, L_998, L_1000, L_1270, L_10000, L_17780, L_2540, L_32768, L_16510]
    rfl
theorem livingBut_M {s : Nat → Int32} {se : Nat → Nat} {nx : Nat} {cs : List Ct} {bs : Nat → List (Nat × Nat)} (hm : RMc s se nx cs) (hB : RMb s bs) (hW : Wc cs nx) (hb : Wb cs bs) (hl : cs.length ≤ 92) {u : Nat} {p : Int32} (hp : but p u) : F_X9_livingBut s p = some (J (sm (lv cs bs u) cs.length)) := by
  unfold F_X9_livingBut
  refine lp_run (fun i => (J (sm (lv cs bs u) i), J i)) cs.length (fun self i hi => ?_) (fun self => ?_) (by unfold FU; omega)
  · unfold B_X9_livingBut_4
    simp (disch := omega) only [hm.2.2.1, livingIn_M hm hB hW hb hl hi hp, J_add, J_mul, J_sub, J_dec, J_nat, J_lt, J_le, J_eq, gd_J, gz_J, gb_J, J_div, J_mod, md_back, JN, J_neN, J_Nne, J_ltN, J_Nlt, J_leN, J_Nle, N_refl, J01, J_addN, J_pred, F_X9_at, F_X9_backupAt, F_X9_fails, F_X9_thrown, Option.bind_some, if_true, if_false, Nat.add_zero, Nat.zero_add, Nat.mul_zero, Nat.zero_mul, Nat.reduceAdd, Nat.reduceMul, Nat.reduceSub, Nat.reduceEqDiff, Nat.reduceLeDiff, Nat.reduceLT, Nat.reducePow, Nat.not_lt_zero, Nat.zero_le, eq_self, not_true_eq_false, not_false_eq_true, reduceIte, L_0, L_1, L_2, L_3, L_4, L_5, L_6, L_7, L_8, L_9, L_10, L_11, L_12, L_14, L_15, L_16, L_24, L_30, L_31, L_32, L_34, L_40, L_44, L_90, L_96, L_97, L_100, L_120, L_121, L_192, L_997, L_998, L_1000, L_1270, L_10000, L_17780, L_2540, L_32768, L_16510]
    rw [if_neg (by omega)]
    rfl
  · unfold B_X9_livingBut_4
    simp (disch := omega) only [hm.2.2.1, Nat.le_refl, J_add, J_mul, J_sub, J_dec, J_nat, J_lt, J_le, J_eq, gd_J, gz_J, gb_J, J_div, J_mod, md_back, JN, J_neN, J_Nne, J_ltN, J_Nlt, J_leN, J_Nle, N_refl, J01, J_addN, J_pred, F_X9_at, F_X9_backupAt, F_X9_fails, F_X9_thrown, Option.bind_some, if_true, if_false, Nat.add_zero, Nat.zero_add, Nat.mul_zero, Nat.zero_mul, Nat.reduceAdd, Nat.reduceMul, Nat.reduceSub, Nat.reduceEqDiff, Nat.reduceLeDiff, Nat.reduceLT, Nat.reducePow, Nat.not_lt_zero, Nat.zero_le, eq_self, not_true_eq_false, not_false_eq_true, reduceIte, L_0, L_1, L_2, L_3, L_4, L_5, L_6, L_7, L_8, L_9, L_10, L_11, L_12, L_14, L_15, L_16, L_24, L_30, L_31, L_32, L_34, L_40, L_44, L_90, L_96, L_97, L_100, L_120, L_121, L_192, L_997, L_998, L_1000, L_1270, L_10000, L_17780, L_2540, L_32768, L_16510]
theorem entries_M {s : Nat → Int32} {se : Nat → Nat} {nx : Nat} {cs : List Ct} (hm : RMc s se nx cs) (hl : cs.length ≤ 92) : F_X9_entries s = some (J (st cs cs.length)) := by
  unfold F_X9_entries
  refine lp_run (fun i => (J (sm (si cs) i), J i)) cs.length (fun self i hi => ?_) (fun self => ?_) (by unfold FU; omega)
  · obtain ⟨g1, g2, g3, g4⟩ := hm.2.2.2 i hi
    unfold B_X9_entries_4
    simp (disch := omega) only [hm.2.2.1, g3, J_add, J_mul, J_sub, J_dec, J_nat, J_lt, J_le, J_eq, gd_J, gz_J, gb_J, J_div, J_mod, md_back, JN, J_neN, J_Nne, J_ltN, J_Nlt, J_leN, J_Nle, N_refl, J01, J_addN, J_pred, F_X9_at, F_X9_backupAt, F_X9_fails, F_X9_thrown, Option.bind_some, if_true, if_false, Nat.add_zero, Nat.zero_add, Nat.mul_zero, Nat.zero_mul, Nat.reduceAdd, Nat.reduceMul, Nat.reduceSub, Nat.reduceEqDiff, Nat.reduceLeDiff, Nat.reduceLT, Nat.reducePow, Nat.not_lt_zero, Nat.zero_le, eq_self, not_true_eq_false, not_false_eq_true, reduceIte, L_0, L_1, L_2, L_3, L_4, L_5, L_6, L_7, L_8, L_9, L_10, L_11, L_12, L_14, L_15, L_16, L_24, L_30, L_31, L_32, L_34, L_40, L_44, L_90, L_96, L_97, L_100, L_120, L_121, L_192, L_997, L_998, L_1000, L_1270, L_10000, L_17780, L_2540, L_32768, L_16510]
    rw [if_neg (by omega)]
    rfl
  · unfold B_X9_entries_4
    simp (disch := omega) only [hm.2.2.1, Nat.le_refl, J_add, J_mul, J_sub, J_dec, J_nat, J_lt, J_le, J_eq, gd_J, gz_J, gb_J, J_div, J_mod, md_back, JN, J_neN, J_Nne, J_ltN, J_Nlt, J_leN, J_Nle, N_refl, J01, J_addN, J_pred, F_X9_at, F_X9_backupAt, F_X9_fails, F_X9_thrown, Option.bind_some, if_true, if_false, Nat.add_zero, Nat.zero_add, Nat.mul_zero, Nat.zero_mul, Nat.reduceAdd, Nat.reduceMul, Nat.reduceSub, Nat.reduceEqDiff, Nat.reduceLeDiff, Nat.reduceLT, Nat.reducePow, Nat.not_lt_zero, Nat.zero_le, eq_self, not_true_eq_false, not_false_eq_true, reduceIte, L_0, L_1, L_2, L_3, L_4, L_5, L_6, L_7, L_8, L_9, L_10, L_11, L_12, L_14, L_15, L_16, L_24, L_30, L_31, L_32, L_34, L_40, L_44, L_90, L_96, L_97, L_100, L_120, L_121, L_192, L_997, L_998, L_1000, L_1270, L_10000, L_17780, L_2540, L_32768, L_16510]
    rfl
theorem isThin_M {s : Nat → Int32} {se : Nat → Nat} {nx : Nat} {cs : List Ct} {bs : Nat → List (Nat × Nat)} (hm : RMc s se nx cs) (hB : RMb s bs) (hW : Wc cs nx) (hS : Ws se) (hb : Wb cs bs) (hl : cs.length ≤ 92) {k : Nat} (hk : k < cs.length) : F_X9_isThin s (J k) = some (J (if thn se cs bs k then 1 else 0)) := by
  obtain ⟨w1, w2, w3, w4, w5, w6⟩ := hW.2.1 k hk
  obtain ⟨g1, g2, g3, g4⟩ := hm.2.2.2 k hk
  have h1 := livingIn_M hm hB hW hb hl hk but_8
  have h2 := lv_le cs bs 8 k
  have h3 := hm.1 3 (by omega)
  obtain ⟨-, -, -, -, -, -, s3, s4, -⟩ := hS
  have h4 : se 3 * si cs k ≤ 100 * 8 := Nat.mul_le_mul s4 (by omega)
  unfold F_X9_isThin thn
  simp (disch := omega) only [hm.2.2.1, h1, h3, g3, J_add, J_mul, J_sub, J_dec, J_nat, J_lt, J_le, J_eq, gd_J, gz_J, gb_J, J_div, J_mod, md_back, JN, J_neN, J_Nne, J_ltN, J_Nlt, J_leN, J_Nle, N_refl, J01, J_addN, J_pred, F_X9_at, F_X9_backupAt, F_X9_fails, F_X9_thrown, Option.bind_some, if_true, if_false, Nat.add_zero, Nat.zero_add, Nat.mul_zero, Nat.zero_mul, Nat.reduceAdd, Nat.reduceMul, Nat.reduceSub, Nat.reduceEqDiff, Nat.reduceLeDiff, Nat.reduceLT, Nat.reducePow, Nat.not_lt_zero, Nat.zero_le, eq_self, not_true_eq_false, not_false_eq_true, reduceIte, L_0, L_1, L_2, L_3, L_4, L_5, L_6, L_7, L_8, L_9, L_10, L_11, L_12, L_14, L_15, L_16, L_24, L_30, L_31, L_32, L_34, L_40, L_44, L_90, L_96, L_97, L_100, L_120, L_121, L_192, L_997, L_998, L_1000, L_1270, L_10000, L_17780, L_2540, L_32768, L_16510]
  by_cases q1 : k + 1 < cs.length
  · rw [if_neg (by omega)]
    by_cases q2 : 100 * lv cs bs 8 k < se 3 * si cs k
    · rw [if_neg (by omega), if_pos (decide_eq_true ⟨q1, q2⟩)]
    · rw [if_pos (by omega), if_neg (by simp; omega)]
  · rw [if_pos (by omega), if_neg (by simp; omega)]
theorem thin_M {s : Nat → Int32} {se : Nat → Nat} {nx : Nat} {cs : List Ct} {bs : Nat → List (Nat × Nat)} (hm : RMc s se nx cs) (hB : RMb s bs) (hW : Wc cs nx) (hS : Ws se) (hb : Wb cs bs) (hl : cs.length ≤ 92) : F_X9_thin s = some (J (cp (thn se cs bs) cs.length)) := by
  unfold F_X9_thin
  refine lp_run (fun i => (J (cp (thn se cs bs) i), J i)) cs.length (fun self i hi => ?_) (fun self => ?_) (by unfold FU; omega)
  · unfold B_X9_thin_4
    simp (disch := omega) only [hm.2.2.1, isThin_M hm hB hW hS hb hl hi, J_add, J_mul, J_sub, J_dec, J_nat, J_lt, J_le, J_eq, gd_J, gz_J, gb_J, J_div, J_mod, md_back, JN, J_neN, J_Nne, J_ltN, J_Nlt, J_leN, J_Nle, N_refl, J01, J_addN, J_pred, F_X9_at, F_X9_backupAt, F_X9_fails, F_X9_thrown, Option.bind_some, if_true, if_false, Nat.add_zero, Nat.zero_add, Nat.mul_zero, Nat.zero_mul, Nat.reduceAdd, Nat.reduceMul, Nat.reduceSub, Nat.reduceEqDiff, Nat.reduceLeDiff, Nat.reduceLT, Nat.reducePow, Nat.not_lt_zero, Nat.zero_le, eq_self, not_true_eq_false, not_false_eq_true, reduceIte, L_0, L_1, L_2, L_3, L_4, L_5, L_6, L_7, L_8, L_9, L_10, L_11, L_12, L_14, L_15, L_16, L_24, L_30, L_31, L_32, L_34, L_40, L_44, L_90, L_96, L_97, L_100, L_120, L_121, L_192, L_997, L_998, L_1000, L_1270, L_10000, L_17780, L_2540, L_32768, L_16510]
    rw [if_neg (by omega)]
    by_cases q : thn se cs bs i = true
    · rw [cp_yes q, if_pos q]
      simp (disch := omega) only [J_add, J_mul, J_sub, J_dec, J_nat, J_lt, J_le, J_eq, gd_J, gz_J, gb_J, J_div, J_mod, md_back, JN, J_neN, J_Nne, J_ltN, J_Nlt, J_leN, J_Nle, N_refl, J01, J_addN, J_pred, F_X9_at, F_X9_backupAt, F_X9_fails, F_X9_thrown, Option.bind_some, if_true, if_false, Nat.add_zero, Nat.zero_add, Nat.mul_zero, Nat.zero_mul, Nat.reduceAdd, Nat.reduceMul, Nat.reduceSub, Nat.reduceEqDiff, Nat.reduceLeDiff, Nat.reduceLT, Nat.reducePow, Nat.not_lt_zero, Nat.zero_le, eq_self, not_true_eq_false, not_false_eq_true, reduceIte, L_0, L_1, L_2, L_3, L_4, L_5, L_6, L_7, L_8, L_9, L_10, L_11, L_12, L_14, L_15, L_16, L_24, L_30, L_31, L_32, L_34, L_40, L_44, L_90, L_96, L_97, L_100, L_120, L_121, L_192, L_997, L_998, L_1000, L_1270, L_10000, L_17780, L_2540, L_32768, L_16510]
    · rw [cp_no (Bool.eq_false_iff.mpr q), if_neg q]
      simp (disch := omega) only [J_add, J_mul, J_sub, J_dec, J_nat, J_lt, J_le, J_eq, gd_J, gz_J, gb_J, J_div, J_mod, md_back, JN, J_neN, J_Nne, J_ltN, J_Nlt, J_leN, J_Nle, N_refl, J01, J_addN, J_pred, F_X9_at, F_X9_backupAt, F_X9_fails, F_X9_thrown, Option.bind_some, if_true, if_false, Nat.add_zero, Nat.zero_add, Nat.mul_zero, Nat.zero_mul, Nat.reduceAdd, Nat.reduceMul, Nat.reduceSub, Nat.reduceEqDiff, Nat.reduceLeDiff, Nat.reduceLT, Nat.reducePow, Nat.not_lt_zero, Nat.zero_le, eq_self, not_true_eq_false, not_false_eq_true, reduceIte, L_0, L_1, L_2, L_3, L_4, L_5, L_6, L_7, L_8, L_9, L_10, L_11, L_12, L_14, L_15, L_16, L_24, L_30, L_31, L_32, L_34, L_40, L_44, L_90, L_96, L_97, L_100, L_120, L_121, L_192, L_997, L_998, L_1000, L_1270, L_10000, L_17780, L_2540, L_32768, L_16510]
  · unfold B_X9_thin_4
    simp (disch := omega) only [hm.2.2.1, Nat.le_refl, J_add, J_mul, J_sub, J_dec, J_nat, J_lt, J_le, J_eq, gd_J, gz_J, gb_J, J_div, J_mod, md_back, JN, J_neN, J_Nne, J_ltN, J_Nlt, J_leN, J_Nle, N_refl, J01, J_addN, J_pred, F_X9_at, F_X9_backupAt, F_X9_fails, F_X9_thrown, Option.bind_some, if_true, if_false, Nat.add_zero, Nat.zero_add, Nat.mul_zero, Nat.zero_mul, Nat.reduceAdd, Nat.reduceMul, Nat.reduceSub, Nat.reduceEqDiff, Nat.reduceLeDiff, Nat.reduceLT, Nat.reducePow, Nat.not_lt_zero, Nat.zero_le, eq_self, not_true_eq_false, not_false_eq_true, reduceIte, L_0, L_1, L_2, L_3, L_4, L_5, L_6, L_7, L_8, L_9, L_10, L_11, L_12, L_14, L_15, L_16, L_24, L_30, L_31, L_32, L_34, L_40, L_44, L_90, L_96, L_97, L_100, L_120, L_121, L_192, L_997, L_998, L_1000, L_1270, L_10000, L_17780, L_2540, L_32768, L_16510]
