/-! THE PURE SIDE: the Model drops a container -/
theorem er_cn (cs : List Ct) (k j : Nat) : cn (cs.eraseIdx k) j = if j < k then cn cs j else cn cs (j + 1) := by
  unfold cn
  rw [List.getElem?_eraseIdx]
  by_cases q : j < k
  · rw [if_pos q, if_pos q]
  · rw [if_neg q, if_neg q]
theorem er_f (cs : List Ct) (k j : Nat) : nu (cs.eraseIdx k) j = nu cs (if j < k then j else j + 1) ∧ ca (cs.eraseIdx k) j = ca cs (if j < k then j else j + 1) ∧ si (cs.eraseIdx k) j = si cs (if j < k then j else j + 1) ∧ ∀ i, ch (cs.eraseIdx k) j i = ch cs (if j < k then j else j + 1) i := by
  unfold nu ca si ch
  rw [er_cn]
  by_cases q : j < k
  · rw [if_pos q, if_pos q]; exact ⟨rfl, rfl, rfl, fun _ => rfl⟩
  · rw [if_neg q, if_neg q]; exact ⟨rfl, rfl, rfl, fun _ => rfl⟩
/-- what stands there when i numbers have moved down -/
def sft (s : Nat → Int32) (k i : Nat) : Nat → Int32 := fun x => if 8 + 11 * k ≤ x ∧ x < 8 + 11 * k + i then s (x + 11) else s x
theorem sft_step (s : Nat → Int32) (k i : Nat) : upd (sft s k i) (8 + 11 * k + i) (sft s k i (8 + 11 * k + i + 11)) = sft s k (i + 1) := by
  funext x
  unfold sft
  rw [if_neg (show ¬ (8 + 11 * k ≤ 8 + 11 * k + i + 11 ∧ 8 + 11 * k + i + 11 < 8 + 11 * k + i) by omega)]
  by_cases q : x = 8 + 11 * k + i
  · rw [q, upd_self, if_pos (by omega)]
  · rw [upd_ne _ _ q]
    by_cases z : 8 + 11 * k ≤ x ∧ x < 8 + 11 * k + i
    · rw [if_pos z, if_pos (by omega)]
    · rw [if_neg z, if_neg (by omega)]
theorem sft_0 (s : Nat → Int32) (k : Nat) : sft s k 0 = s := by
  funext x
  unfold sft
  rw [if_neg (by omega)]
theorem sft_7 (s : Nat → Int32) (k i : Nat) : sft s k i 7 = s 7 := by
  unfold sft
  rw [if_neg (by omega)]
theorem drop57_M (S : Nat → Int32) {L : Nat} (hl : L ≤ 90) (h1 : 1 ≤ L) (h7 : S 7 = J L) : K_X9_drops_44 S = some (cpo (upd S 7 (J (L - 1))) (fun _ => J 0) (8 + 11 * (L - 1)) 11) := by
  unfold K_X9_drops_44
  simp (disch := omega) only [h7, J_add, J_mul, J_sub, J_dec, J_nat, J_lt, J_le, J_eq, gd_J, gz_J, gb_J, J_div, J_mod, md_back, JN, J_neN, J_Nne, J_ltN, J_Nlt, J_leN, J_Nle, N_refl, J01, J_addN, J_pred, F_X9_at, F_X9_backupAt, F_X9_fails, F_X9_thrown, Option.bind_some, if_true, if_false, Nat.add_zero, Nat.zero_add, Nat.mul_zero, Nat.zero_mul, Nat.reduceAdd, Nat.reduceMul, Nat.reduceSub, Nat.reduceEqDiff, Nat.reduceLeDiff, Nat.reduceLT, Nat.reducePow, Nat.not_lt_zero, Nat.zero_le, eq_self, not_true_eq_false, not_false_eq_true, reduceIte, L_0, L_1, L_2, L_3, L_4, L_5, L_6, L_7, L_8, L_9, L_10, L_11, L_12, L_14, L_15, L_16, L_24, L_30, L_31, L_32, L_34, L_40, L_44, L_90, L_96, L_97, L_100, L_120, L_121, L_192, L_997, L_998, L_1000, L_1270, L_10000, L_17780, L_2540, L_32768, L_16510]
  have e1 : (J 0, upd S 7 (J (L - 1))) = (fun j => (J j, cpo (upd S 7 (J (L - 1))) (fun _ => J 0) (8 + 11 * (L - 1)) j)) 0 := by
    show _ = (J 0, cpo _ _ _ 0)
    rw [cpo_0]
  rw [e1]
  refine lp_run (fun j => (J j, cpo (upd S 7 (J (L - 1))) (fun _ => J 0) (8 + 11 * (L - 1)) j)) 11 (fun self j hj => ?_) (fun self => ?_) (by unfold FU; omega)
  · have hst := cpo_step (upd S 7 (J (L - 1))) (fun _ => J 0) (8 + 11 * (L - 1)) j
    have h7 : cpo (upd S 7 (J (L - 1))) (fun _ => J 0) (8 + 11 * (L - 1)) j 7 = J (L - 1) := by
      unfold cpo
      rw [if_neg (by omega), upd_self]
    unfold B_X9_drops_57
    simp (disch := omega) only [h7, hst, J_add, J_mul, J_sub, J_dec, J_nat, J_lt, J_le, J_eq, gd_J, gz_J, gb_J, J_div, J_mod, md_back, JN, J_neN, J_Nne, J_ltN, J_Nlt, J_leN, J_Nle, N_refl, J01, J_addN, J_pred, F_X9_at, F_X9_backupAt, F_X9_fails, F_X9_thrown, Option.bind_some, if_true, if_false, Nat.add_zero, Nat.zero_add, Nat.mul_zero, Nat.zero_mul, Nat.reduceAdd, Nat.reduceMul, Nat.reduceSub, Nat.reduceEqDiff, Nat.reduceLeDiff, Nat.reduceLT, Nat.reducePow, Nat.not_lt_zero, Nat.zero_le, eq_self, not_true_eq_false, not_false_eq_true, reduceIte, L_0, L_1, L_2, L_3, L_4, L_5, L_6, L_7, L_8, L_9, L_10, L_11, L_12, L_14, L_15, L_16, L_24, L_30, L_31, L_32, L_34, L_40, L_44, L_90, L_96, L_97, L_100, L_120, L_121, L_192, L_997, L_998, L_1000, L_1270, L_10000, L_17780, L_2540, L_32768, L_16510]
    rw [if_neg (by omega)]
  · unfold B_X9_drops_57
    simp (disch := omega) only [Nat.le_refl, J_add, J_mul, J_sub, J_dec, J_nat, J_lt, J_le, J_eq, gd_J, gz_J, gb_J, J_div, J_mod, md_back, JN, J_neN, J_Nne, J_ltN, J_Nlt, J_leN, J_Nle, N_refl, J01, J_addN, J_pred, F_X9_at, F_X9_backupAt, F_X9_fails, F_X9_thrown, Option.bind_some, if_true, if_false, Nat.add_zero, Nat.zero_add, Nat.mul_zero, Nat.zero_mul, Nat.reduceAdd, Nat.reduceMul, Nat.reduceSub, Nat.reduceEqDiff, Nat.reduceLeDiff, Nat.reduceLT, Nat.reducePow, Nat.not_lt_zero, Nat.zero_le, eq_self, not_true_eq_false, not_false_eq_true, reduceIte, L_0, L_1, L_2, L_3, L_4, L_5, L_6, L_7, L_8, L_9, L_10, L_11, L_12, L_14, L_15, L_16, L_24, L_30, L_31, L_32, L_34, L_40, L_44, L_90, L_96, L_97, L_100, L_120, L_121, L_192, L_997, L_998, L_1000, L_1270, L_10000, L_17780, L_2540, L_32768, L_16510]
theorem drop_b {s : Nat → Int32} {L k : Nat} (K : (Nat → Int32) → Option (Nat → Int32)) (r3 : s 7 = J L) (hl : L ≤ 90) (hk : k < L) : lp (B_X9_drops_6 K) FU (J (8 + 11 * k), s) = K (sft s k (11 * (L - 1 - k))) := by
  have h7 : ∀ i, sft s k i 7 = J L := fun i => (sft_7 s k i).trans r3
  have h := lp_run (f := B_X9_drops_6 K) (r := K (sft s k (11 * (L - 1 - k)))) (fun i => (J (8 + 11 * k + i), sft s k i)) (11 * (L - 1 - k)) (fun self i hi => by
    have hst := sft_step s k i
    generalize hp : 8 + 11 * k + i = p at *
    have hp1 : 8 + 11 * k + (i + 1) = p + 1 := by omega
    rw [hp1]
    unfold B_X9_drops_6
    simp (disch := omega) only [h7, hst, J_add, J_mul, J_sub, J_dec, J_nat, J_lt, J_le, J_eq, gd_J, gz_J, gb_J, J_div, J_mod, md_back, JN, J_neN, J_Nne, J_ltN, J_Nlt, J_leN, J_Nle, N_refl, J01, J_addN, J_pred, F_X9_at, F_X9_backupAt, F_X9_fails, F_X9_thrown, Option.bind_some, if_true, if_false, Nat.add_zero, Nat.zero_add, Nat.mul_zero, Nat.zero_mul, Nat.reduceAdd, Nat.reduceMul, Nat.reduceSub, Nat.reduceEqDiff, Nat.reduceLeDiff, Nat.reduceLT, Nat.reducePow, Nat.not_lt_zero, Nat.zero_le, eq_self, not_true_eq_false, not_false_eq_true, reduceIte, L_0, L_1, L_2, L_3, L_4, L_5, L_6, L_7, L_8, L_9, L_10, L_11, L_12, L_14, L_15, L_16, L_24, L_30, L_31, L_32, L_34, L_40, L_44, L_90, L_96, L_97, L_100, L_120, L_121, L_192, L_997, L_998, L_1000, L_1270, L_10000, L_17780, L_2540, L_32768, L_16510]
    rw [if_neg (by omega)]) (fun self => by
    have hz : 8 + 11 * k + 11 * (L - 1 - k) = 8 + 11 * (L - 1) := by omega
    rw [hz]
    unfold B_X9_drops_6
    simp (disch := omega) only [h7, Nat.le_refl, J_add, J_mul, J_sub, J_dec, J_nat, J_lt, J_le, J_eq, gd_J, gz_J, gb_J, J_div, J_mod, md_back, JN, J_neN, J_Nne, J_ltN, J_Nlt, J_leN, J_Nle, N_refl, J01, J_addN, J_pred, F_X9_at, F_X9_backupAt, F_X9_fails, F_X9_thrown, Option.bind_some, if_true, if_false, Nat.add_zero, Nat.zero_add, Nat.mul_zero, Nat.zero_mul, Nat.reduceAdd, Nat.reduceMul, Nat.reduceSub, Nat.reduceEqDiff, Nat.reduceLeDiff, Nat.reduceLT, Nat.reducePow, Nat.not_lt_zero, Nat.zero_le, eq_self, not_true_eq_false, not_false_eq_true, reduceIte, L_0, L_1, L_2, L_3, L_4, L_5, L_6, L_7, L_8, L_9, L_10, L_11, L_12, L_14, L_15, L_16, L_24, L_30, L_31, L_32, L_34, L_40, L_44, L_90, L_96, L_97, L_100, L_120, L_121, L_192, L_997, L_998, L_1000, L_1270, L_10000, L_17780, L_2540, L_32768, L_16510]) (by unfold FU; omega)
  have e : (J (8 + 11 * k + 0), sft s k 0) = (J (8 + 11 * k), s) := by rw [sft_0, Nat.add_zero]
  rw [← e]
  exact h
theorem drop_a (s : Nat → Int32) {k : Nat} (hk : k < 90) : F_X9_at (J k) = some (J (8 + 11 * k)) := by
  simp (disch := omega) only [J_add, J_mul, J_sub, J_dec, J_nat, J_lt, J_le, J_eq, gd_J, gz_J, gb_J, J_div, J_mod, md_back, JN, J_neN, J_Nne, J_ltN, J_Nlt, J_leN, J_Nle, N_refl, J01, J_addN, J_pred, F_X9_at, F_X9_backupAt, F_X9_fails, F_X9_thrown, Option.bind_some, if_true, if_false, Nat.add_zero, Nat.zero_add, Nat.mul_zero, Nat.zero_mul, Nat.reduceAdd, Nat.reduceMul, Nat.reduceSub, Nat.reduceEqDiff, Nat.reduceLeDiff, Nat.reduceLT, Nat.reducePow, Nat.not_lt_zero, Nat.zero_le, eq_self, not_true_eq_false, not_false_eq_true, reduceIte, L_0, L_1, L_2, L_3, L_4, L_5, L_6, L_7, L_8, L_9, L_10, L_11, L_12, L_14, L_15, L_16, L_24, L_30, L_31, L_32, L_34, L_40, L_44, L_90, L_96, L_97, L_100, L_120, L_121, L_192, L_997, L_998, L_1000, L_1270, L_10000, L_17780, L_2540, L_32768, L_16510]
theorem drop6_M {s : Nat → Int32} {L k : Nat} (r3 : s 7 = J L) (hl : L ≤ 90) (hk : k < L) : F_X9_drops s (J k) = some (cpo (upd (sft s k (11 * (L - 1 - k))) 7 (J (L - 1))) (fun _ => J 0) (8 + 11 * (L - 1)) 11) := by
  unfold F_X9_drops
  rw [drop_a s (by omega), Option.bind_some, drop_b _ r3 hl hk]
  exact drop57_M _ hl (by omega) ((sft_7 s k _).trans r3)
theorem drops_M {s : Nat → Int32} {se : Nat → Nat} {nx : Nat} {cs : List Ct} (hR : RMc s se nx cs) (hW : Wc cs nx) (hl : cs.length ≤ 90) {k : Nat} (hk : k < cs.length) : ∃ s', F_X9_drops s (J k) = some s' ∧ RMc s' se nx (cs.eraseIdx k) ∧ s' 6 = s 6 ∧ ∀ x, 998 ≤ x → s' x = s x := by
  obtain ⟨r1, r2, r3, r4⟩ := hR
  have hlen : (cs.eraseIdx k).length = cs.length - 1 := List.length_eraseIdx_of_lt hk
  refine ⟨_, drop6_M r3 hl hk, ?_⟩
  generalize hL : cs.length = L at *
  have hlow : ∀ x, x < 7 → cpo (upd (sft s k (11 * (L - 1 - k))) 7 (J (L - 1))) (fun _ => J 0) (8 + 11 * (L - 1)) 11 x = s x := fun x hx => by
    unfold cpo sft
    rw [if_neg (by omega), upd_ne _ _ (by omega), if_neg (by omega)]
  have h7 : cpo (upd (sft s k (11 * (L - 1 - k))) 7 (J (L - 1))) (fun _ => J 0) (8 + 11 * (L - 1)) 11 7 = J (L - 1) := by
    unfold cpo
    rw [if_neg (by omega), upd_self]
  have hhigh : ∀ x, 998 ≤ x → cpo (upd (sft s k (11 * (L - 1 - k))) 7 (J (L - 1))) (fun _ => J 0) (8 + 11 * (L - 1)) 11 x = s x := fun x hx => by
    unfold cpo sft
    rw [if_neg (by omega), upd_ne _ _ (by omega), if_neg (by omega)]
  have hcp : ∀ j t, j < L - 1 → t < 11 → cpo (upd (sft s k (11 * (L - 1 - k))) 7 (J (L - 1))) (fun _ => J 0) (8 + 11 * (L - 1)) 11 (8 + 11 * j + t) = s (8 + 11 * (if j < k then j else j + 1) + t) := fun j t hj ht => by
    unfold cpo sft
    rw [if_neg (by omega), upd_ne _ _ (by omega)]
    by_cases q : j < k
    · rw [if_pos q, if_neg (by omega)]
    · rw [if_neg q, if_pos (by omega), show 8 + 11 * j + t + 11 = 8 + 11 * (j + 1) + t by omega]
  generalize cpo (upd (sft s k (11 * (L - 1 - k))) 7 (J (L - 1))) (fun _ => J 0) (8 + 11 * (L - 1)) 11 = F at *
  refine ⟨⟨fun i hi => (hlow i (by omega)).trans (r1 i hi), (hlow 5 (by omega)).trans r2, by rw [h7, hlen], fun j hj => ?_⟩, hlow 6 (by omega), hhigh⟩
  rw [hlen] at hj
  obtain ⟨f1, f2, f3, f4⟩ := er_f cs k j
  have hc := fun t => hcp j t hj
  have hj2 : (if j < k then j else j + 1) < L := by split <;> omega
  generalize (if j < k then j else j + 1) = j' at *
  obtain ⟨g1, g2, g3, g4⟩ := r4 j' hj2
  obtain ⟨w1, w2, w3, w4, w5, w6⟩ := hW.2.1 j' (by rw [hL]; exact hj2)
  unfold RMk
  rw [f1, f2, f3]
  have h0 := hc 0 (by omega)
  rw [Nat.add_zero, Nat.add_zero] at h0
  refine ⟨h0.trans g1, (hc 1 (by omega)).trans g2, (hc 2 (by omega)).trans g3, fun i hi => ?_⟩
  have h3 := hc (3 + i) (by omega)
  rw [← Nat.add_assoc, ← Nat.add_assoc] at h3
  rw [f4]
  exact h3.trans (g4 i hi)
