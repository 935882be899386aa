/-! THE PURE SIDE: homes, the class's loops -/
theorem OJ_id {a : Option Nat} {p : Nat} (ha : ∀ q, a = some q → q < 2 ^ 30) (hp : p < 2 ^ 30) : (OJ id a = J p) ↔ a = some p := by
  cases a with
  | none =>
    have : (OJ id none = J p) = False := J_Nne (by omega)
    rw [this]
    exact ⟨fun h => h.elim, fun h => by cases h⟩
  | some q =>
    have := ha q rfl
    show (J q = J p) ↔ _
    rw [J_eq (by omega) (by omega)]
    exact ⟨fun h => by rw [h], fun h => Option.some.inj h⟩
theorem OJ_NN {a : Option Nat} (ha : ∀ q, a = some q → q < 2 ^ 30) : (OJ id a = NN) ↔ a = none := by
  cases a with
  | none => exact ⟨fun _ => rfl, fun _ => rfl⟩
  | some q =>
    have := ha q rfl
    have e : (OJ id (some q) = NN) = False := J_neN (by show q < _; omega)
    rw [e]
    exact ⟨fun h => h.elim, fun h => by cases h⟩
/-- a stream that was cut -/
def SMc (d : SMT) (ks : Nat → List Nat) (n : Nat) : Prop := n ≤ 15 ∧ sm_chunks d = J n ∧ ∀ i, i < n → sm_codes d i = J (c8 (ks i)) ∧ vch (ks i)
theorem codeAt_S {d : SMT} {ks : Nat → List Nat} {n i : Nat} (hs : SMc d ks n) (hi : i < n) : F_X6_codeAt d (J i) = some (J (c8 (ks i))) := by
  obtain ⟨s1, s2, s3⟩ := hs
  unfold F_X6_codeAt
  simp (disch := omega) only [s2, (s3 i hi).1, J_add, J_mul, J_sub, J_dec, J_nat, J_lt, J_le, J_eq, gd_J, gz_J, gb_J, J_div, J_mod, md_back, JN, J_neN, J_Nne, J_ltN, J_Nlt, J_leN, J_Nle, N_refl, J01, J_addN, J_pred, F_X9_at, F_X9_backupAt, F_X9_fails, F_X9_thrown, Option.bind_some, if_true, if_false, Nat.add_zero, Nat.zero_add, Nat.mul_zero, Nat.zero_mul, Nat.reduceAdd, Nat.reduceMul, Nat.reduceSub, Nat.reduceEqDiff, Nat.reduceLeDiff, Nat.reduceLT, Nat.reducePow, Nat.not_lt_zero, Nat.zero_le, eq_self, not_true_eq_false, not_false_eq_true, reduceIte, L_0, L_1, L_2, L_3, L_4, L_5, L_6, L_7, L_8, L_9, L_10, L_11, L_12, L_14, L_15, L_16, L_24, L_30, L_31, L_32, L_34, L_40, L_44, L_90, L_96, L_97, L_100, L_120, L_121, L_192, L_997, L_998, L_1000, L_1270, L_10000, L_17780, L_2540, L_32768, L_16510]
  rw [if_neg (by omega)]
theorem findHomes_P {p0 : PLT} {d : DKT} {sm : SMT} {se : Nat → Nat} {nx n : Nat} {cs : List Ct} {ks : Nat → List Nat} (hd : RDc d se nx cs) (hn : Wn cs) (hW : Wc cs nx) (hs : SMc sm ks n) (hc : pl_chunks p0 = J n) : F_X4_findHomes p0 d sm = some (fil (pl_places p0) (fun j => OJ id (hm cs (ks j))) n, pl_entries p0, pl_chunks p0, pl_puts p0, pl_newContainers p0, pl_rivals p0, pl_votes p0, pl_rivalCount p0) := by
  have h15 := hs.1
  unfold F_X4_findHomes
  refine lp_run (fun i => (J i, fil (pl_places p0) (fun j => OJ id (hm cs (ks j))) i)) n (fun self i hi => ?_) (fun self => ?_) (by unfold FU; omega)
  · unfold B_X4_findHomes_2
    simp (disch := omega) only [hc, codeAt_S hs hi, homeOf_D hd hn hW (hs.2.2 i hi).2, J_add, J_mul, J_sub, J_dec, J_nat, J_lt, J_le, J_eq, gd_J, gz_J, gb_J, J_div, J_mod, md_back, JN, J_neN, J_Nne, J_ltN, J_Nlt, J_leN, J_Nle, N_refl, J01, J_addN, J_pred, F_X9_at, F_X9_backupAt, F_X9_fails, F_X9_thrown, Option.bind_some, if_true, if_false, Nat.add_zero, Nat.zero_add, Nat.mul_zero, Nat.zero_mul, Nat.reduceAdd, Nat.reduceMul, Nat.reduceSub, Nat.reduceEqDiff, Nat.reduceLeDiff, Nat.reduceLT, Nat.reducePow, Nat.not_lt_zero, Nat.zero_le, eq_self, not_true_eq_false, not_false_eq_true, reduceIte, L_0, L_1, L_2, L_3, L_4, L_5, L_6, L_7, L_8, L_9, L_10, L_11, L_12, L_14, L_15, L_16, L_24, L_30, L_31, L_32, L_34, L_40, L_44, L_90, L_96, L_97, L_100, L_120, L_121, L_192, L_997, L_998, L_1000, L_1270, L_10000, L_17780, L_2540, L_32768, L_16510]
    rw [if_neg (by omega)]
    rfl
  · unfold B_X4_findHomes_2
    simp (disch := omega) only [hc, Nat.le_refl, J_add, J_mul, J_sub, J_dec, J_nat, J_lt, J_le, J_eq, gd_J, gz_J, gb_J, J_div, J_mod, md_back, JN, J_neN, J_Nne, J_ltN, J_Nlt, J_leN, J_Nle, N_refl, J01, J_addN, J_pred, F_X9_at, F_X9_backupAt, F_X9_fails, F_X9_thrown, Option.bind_some, if_true, if_false, Nat.add_zero, Nat.zero_add, Nat.mul_zero, Nat.zero_mul, Nat.reduceAdd, Nat.reduceMul, Nat.reduceSub, Nat.reduceEqDiff, Nat.reduceLeDiff, Nat.reduceLT, Nat.reducePow, Nat.not_lt_zero, Nat.zero_le, eq_self, not_true_eq_false, not_false_eq_true, reduceIte, L_0, L_1, L_2, L_3, L_4, L_5, L_6, L_7, L_8, L_9, L_10, L_11, L_12, L_14, L_15, L_16, L_24, L_30, L_31, L_32, L_34, L_40, L_44, L_90, L_96, L_97, L_100, L_120, L_121, L_192, L_997, L_998, L_1000, L_1270, L_10000, L_17780, L_2540, L_32768, L_16510]
theorem rivalAt_P {p0 : PLT} {R : Nat → Nat} {m p : Nat} (hm : m ≤ 15) (hc : pl_rivalCount p0 = J m) (hR : ∀ k, k < m → pl_rivals p0 k = J (R k) ∧ R k < 2 ^ 30) (hp : p < 2 ^ 30) : F_X4_rivalAt p0 (J p) = some (J (fi (fun k => decide (R k = p)) m)) := by
  obtain ⟨f1, f2, f3⟩ := fi_spec (fun k => decide (R k = p)) m
  unfold F_X4_rivalAt
  refine lp_run (fun i => J i) (fi (fun k => decide (R k = p)) m) (fun self i hi => ?_) (fun self => ?_) (by unfold FU; omega)
  · have h2 := of_decide_eq_false (f2 i hi)
    obtain ⟨r1, r2⟩ := hR i (by omega)
    unfold B_X4_rivalAt_2
    simp (disch := omega) only [hc, r1, J_add, J_mul, J_sub, J_dec, J_nat, J_lt, J_le, J_eq, gd_J, gz_J, gb_J, J_div, J_mod, md_back, JN, J_neN, J_Nne, J_ltN, J_Nlt, J_leN, J_Nle, N_refl, J01, J_addN, J_pred, F_X9_at, F_X9_backupAt, F_X9_fails, F_X9_thrown, Option.bind_some, if_true, if_false, Nat.add_zero, Nat.zero_add, Nat.mul_zero, Nat.zero_mul, Nat.reduceAdd, Nat.reduceMul, Nat.reduceSub, Nat.reduceEqDiff, Nat.reduceLeDiff, Nat.reduceLT, Nat.reducePow, Nat.not_lt_zero, Nat.zero_le, eq_self, not_true_eq_false, not_false_eq_true, reduceIte, L_0, L_1, L_2, L_3, L_4, L_5, L_6, L_7, L_8, L_9, L_10, L_11, L_12, L_14, L_15, L_16, L_24, L_30, L_31, L_32, L_34, L_40, L_44, L_90, L_96, L_97, L_100, L_120, L_121, L_192, L_997, L_998, L_1000, L_1270, L_10000, L_17780, L_2540, L_32768, L_16510]
    rw [if_neg (by omega), if_neg h2]
  · generalize fi (fun k => decide (R k = p)) m = N at *
    unfold B_X4_rivalAt_2
    simp (disch := omega) only [hc, J_add, J_mul, J_sub, J_dec, J_nat, J_lt, J_le, J_eq, gd_J, gz_J, gb_J, J_div, J_mod, md_back, JN, J_neN, J_Nne, J_ltN, J_Nlt, J_leN, J_Nle, N_refl, J01, J_addN, J_pred, F_X9_at, F_X9_backupAt, F_X9_fails, F_X9_thrown, Option.bind_some, if_true, if_false, Nat.add_zero, Nat.zero_add, Nat.mul_zero, Nat.zero_mul, Nat.reduceAdd, Nat.reduceMul, Nat.reduceSub, Nat.reduceEqDiff, Nat.reduceLeDiff, Nat.reduceLT, Nat.reducePow, Nat.not_lt_zero, Nat.zero_le, eq_self, not_true_eq_false, not_false_eq_true, reduceIte, L_0, L_1, L_2, L_3, L_4, L_5, L_6, L_7, L_8, L_9, L_10, L_11, L_12, L_14, L_15, L_16, L_24, L_30, L_31, L_32, L_34, L_40, L_44, L_90, L_96, L_97, L_100, L_120, L_121, L_192, L_997, L_998, L_1000, L_1270, L_10000, L_17780, L_2540, L_32768, L_16510]
    by_cases q : N < m
    · have h2 := of_decide_eq_true (f3 q)
      obtain ⟨r1, r2⟩ := hR N q
      rw [if_neg (by omega)]
      simp (disch := omega) only [r1, J_add, J_mul, J_sub, J_dec, J_nat, J_lt, J_le, J_eq, gd_J, gz_J, gb_J, J_div, J_mod, md_back, JN, J_neN, J_Nne, J_ltN, J_Nlt, J_leN, J_Nle, N_refl, J01, J_addN, J_pred, F_X9_at, F_X9_backupAt, F_X9_fails, F_X9_thrown, Option.bind_some, if_true, if_false, Nat.add_zero, Nat.zero_add, Nat.mul_zero, Nat.zero_mul, Nat.reduceAdd, Nat.reduceMul, Nat.reduceSub, Nat.reduceEqDiff, Nat.reduceLeDiff, Nat.reduceLT, Nat.reducePow, Nat.not_lt_zero, Nat.zero_le, eq_self, not_true_eq_false, not_false_eq_true, reduceIte, L_0, L_1, L_2, L_3, L_4, L_5, L_6, L_7, L_8, L_9, L_10, L_11, L_12, L_14, L_15, L_16, L_24, L_30, L_31, L_32, L_34, L_40, L_44, L_90, L_96, L_97, L_100, L_120, L_121, L_192, L_997, L_998, L_1000, L_1270, L_10000, L_17780, L_2540, L_32768, L_16510]
      rw [if_pos h2]
    · rw [if_pos (by omega), show m = N by omega]
theorem vt_step (h : Nat → Option Nat) (i p : Nat) : vt h (i + 1) p = vt h i p + (if h i = some p then 1 else 0) := by
  unfold vt
  rw [cp_step]
  by_cases q : h i = some p
  · rw [if_pos q, if_pos (decide_eq_true q)]
  · rw [if_neg q, if_neg (by simpa using q)]
theorem vt_new {h : Nat → Option Nat} {i p : Nat} (hp : p ∉ rv h i) : vt h i p = 0 := cp_zero fun j hj => decide_eq_false fun q => hp (rv_mem.mpr ⟨j, hj, q⟩)
theorem countVotes_P {p0 : PLT} {h : Nat → Option Nat} {n : Nat} (h15 : n ≤ 15) (hb : ∀ j p, j < n → h j = some p → p < 2 ^ 30) (hc : pl_chunks p0 = J n) (hp : ∀ j, j < n → pl_places p0 j = OJ id (h j)) : ∃ R V, F_X4_countVotes p0 = some (pl_places p0, pl_entries p0, J n, pl_puts p0, pl_newContainers p0, R, V, J (rv h n).length) ∧ ∀ k, k < (rv h n).length → R k = J (rvf h n k) ∧ V k = J (vt h n (rvf h n k)) := by
  have hbr : ∀ i, i ≤ n → ∀ k, k < (rv h i).length → rvf h i k < 2 ^ 30 := by
    intro i hi k hk
    obtain ⟨j, j1, j2⟩ := rv_mem.mp (List.mem_of_getElem? (rvf_at hk))
    exact hb j _ (by omega) j2
  have go : ∀ (x i fuel : Nat) (R V : Nat → Int32), i + x = n → (∀ k, k < (rv h i).length → R k = J (rvf h i k) ∧ V k = J (vt h i (rvf h i k))) → x < fuel → ∃ R' V', lp (B_X4_countVotes_7 p0) fuel (J i, R, V, J (rv h i).length) = some (pl_places p0, pl_entries p0, J n, pl_puts p0, pl_newContainers p0, R', V', J (rv h n).length) ∧ ∀ k, k < (rv h n).length → R' k = J (rvf h n k) ∧ V' k = J (vt h n (rvf h n k)) := by
    intro x
    induction x with
    | zero =>
      intro i fuel R V hi hRV hf
      obtain ⟨fuel, rfl⟩ : ∃ q, fuel = q + 1 := ⟨fuel - 1, by omega⟩
      obtain rfl : i = n := by omega
      refine ⟨R, V, ?_, hRV⟩
      show B_X4_countVotes_7 _ _ _ = _
      unfold B_X4_countVotes_7
      simp (disch := omega) only [hc, Nat.le_refl, J_add, J_mul, J_sub, J_dec, J_nat, J_lt, J_le, J_eq, gd_J, gz_J, gb_J, J_div, J_mod, md_back, JN, J_neN, J_Nne, J_ltN, J_Nlt, J_leN, J_Nle, N_refl, J01, J_addN, J_pred, F_X9_at, F_X9_backupAt, F_X9_fails, F_X9_thrown, Option.bind_some, if_true, if_false, Nat.add_zero, Nat.zero_add, Nat.mul_zero, Nat.zero_mul, Nat.reduceAdd, Nat.reduceMul, Nat.reduceSub, Nat.reduceEqDiff, Nat.reduceLeDiff, Nat.reduceLT, Nat.reducePow, Nat.not_lt_zero, Nat.zero_le, eq_self, not_true_eq_false, not_false_eq_true, reduceIte, L_0, L_1, L_2, L_3, L_4, L_5, L_6, L_7, L_8, L_9, L_10, L_11, L_12, L_14, L_15, L_16, L_24, L_30, L_31, L_32, L_34, L_40, L_44, L_90, L_96, L_97, L_100, L_120, L_121, L_192, L_997, L_998, L_1000, L_1270, L_10000, L_17780, L_2540, L_32768, L_16510]
    | succ x ih =>
      intro i fuel R V hi hRV hf
      obtain ⟨fuel, rfl⟩ : ∃ q, fuel = q + 1 := ⟨fuel - 1, by omega⟩
      have hin : i < n := by omega
      have hpi := hp i hin
      have hlen := rv_len (h := h) i
      have e4 : (-1 : Int32) = NN := rfl
      show ∃ R' V', B_X4_countVotes_7 _ (lp _ fuel) _ = _ ∧ _
      cases hh : h i with
      | none =>
        have e1 : rv h (i + 1) = rv h i := by rw [rv_step, hh]
        have e2 : ∀ k, rvf h (i + 1) k = rvf h i k := fun k => by unfold rvf; rw [e1]
        obtain ⟨R', V', y1, y2⟩ := ih (i + 1) fuel R V (by omega) (fun k hk => by
          rw [e1] at hk
          rw [e2, vt_step, hh, if_neg (fun z => by cases z)]
          exact hRV k hk) (by omega)
        refine ⟨R', V', ?_, y2⟩
        rw [e1] at y1
        generalize lp (B_X4_countVotes_7 p0) fuel = self at y1 ⊢
        rw [hh] at hpi
        have hpi' : pl_places p0 i = NN := hpi
        unfold B_X4_countVotes_7
        simp (disch := omega) only [hc, hpi', J_add, J_mul, J_sub, J_dec, J_nat, J_lt, J_le, J_eq, gd_J, gz_J, gb_J, J_div, J_mod, md_back, JN, J_neN, J_Nne, J_ltN, J_Nlt, J_leN, J_Nle, N_refl, J01, J_addN, J_pred, F_X9_at, F_X9_backupAt, F_X9_fails, F_X9_thrown, Option.bind_some, if_true, if_false, Nat.add_zero, Nat.zero_add, Nat.mul_zero, Nat.zero_mul, Nat.reduceAdd, Nat.reduceMul, Nat.reduceSub, Nat.reduceEqDiff, Nat.reduceLeDiff, Nat.reduceLT, Nat.reducePow, Nat.not_lt_zero, Nat.zero_le, eq_self, not_true_eq_false, not_false_eq_true, reduceIte, L_0, L_1, L_2, L_3, L_4, L_5, L_6, L_7, L_8, L_9, L_10, L_11, L_12, L_14, L_15, L_16, L_24, L_30, L_31, L_32, L_34, L_40, L_44, L_90, L_96, L_97, L_100, L_120, L_121, L_192, L_997, L_998, L_1000, L_1270, L_10000, L_17780, L_2540, L_32768, L_16510]
        rw [if_neg (by omega)]
        exact y1
      | some p =>
        have hp30 := hb i p hin hh
        have hpi' : pl_places p0 i = J p := by rw [hpi, hh]; rfl
        have hra := rivalAt_P (p0 := ((pl_places p0), (pl_entries p0), J n, (pl_puts p0), (pl_newContainers p0), R, V, J (rv h i).length)) (R := rvf h i) (m := (rv h i).length) (p := p) (by omega) rfl (fun k hk => ⟨(hRV k hk).1, hbr i (by omega) k hk⟩) hp30
        obtain ⟨f1, f2, f3⟩ := fi_spec (fun k => decide (rvf h i k = p)) (rv h i).length
        by_cases w : p ∈ rv h i
        · have e1 : rv h (i + 1) = rv h i := by rw [rv_step, hh]; exact if_pos w
          have e2 : ∀ k, rvf h (i + 1) k = rvf h i k := fun k => by unfold rvf; rw [e1]
          have hlt : fi (fun k => decide (rvf h i k = p)) (rv h i).length < (rv h i).length := by
            obtain ⟨k, hk⟩ := List.getElem?_of_mem w
            have h1 := (List.getElem?_eq_some_iff.mp hk).1
            have h2 := rvf_at h1
            rw [hk] at h2
            rcases Nat.lt_or_ge (fi (fun k => decide (rvf h i k = p)) (rv h i).length) (rv h i).length with z | z
            · exact z
            · exact absurd (Option.some.inj h2).symm (of_decide_eq_false (f2 k (by omega)))
          have heq := of_decide_eq_true (f3 hlt)
          generalize fi (fun k => decide (rvf h i k = p)) (rv h i).length = a at *
          have hva : V a = J (vt h i p) := by rw [(hRV a hlt).2, heq]
          obtain ⟨R', V', y1, y2⟩ := ih (i + 1) fuel R (upd V a (J (vt h i p + 1))) (by omega) (fun k hk => by
            rw [e1] at hk
            rw [e2, vt_step, hh]
            refine ⟨(hRV k hk).1, ?_⟩
            by_cases q : k = a
            · subst q
              rw [upd_self, heq, if_pos rfl]
            · have hne : rvf h i k ≠ p := fun z => q ((Rv_begin h i 0).1 k a hk hlt (z.trans heq.symm))
              rw [upd_ne _ _ q, if_neg (fun z => hne (Option.some.inj z).symm)]
              exact (hRV k hk).2) (by omega)
          refine ⟨R', V', ?_, y2⟩
          rw [e1] at y1
          generalize lp (B_X4_countVotes_7 p0) fuel = self at y1 ⊢
          unfold B_X4_countVotes_7 J_X4_countVotes_76
          simp (disch := omega) only [hc, hpi', hra, hva, J_add, J_mul, J_sub, J_dec, J_nat, J_lt, J_le, J_eq, gd_J, gz_J, gb_J, J_div, J_mod, md_back, JN, J_neN, J_Nne, J_ltN, J_Nlt, J_leN, J_Nle, N_refl, J01, J_addN, J_pred, F_X9_at, F_X9_backupAt, F_X9_fails, F_X9_thrown, Option.bind_some, if_true, if_false, Nat.add_zero, Nat.zero_add, Nat.mul_zero, Nat.zero_mul, Nat.reduceAdd, Nat.reduceMul, Nat.reduceSub, Nat.reduceEqDiff, Nat.reduceLeDiff, Nat.reduceLT, Nat.reducePow, Nat.not_lt_zero, Nat.zero_le, eq_self, not_true_eq_false, not_false_eq_true, reduceIte, L_0, L_1, L_2, L_3, L_4, L_5, L_6, L_7, L_8, L_9, L_10, L_11, L_12, L_14, L_15, L_16, L_24, L_30, L_31, L_32, L_34, L_40, L_44, L_90, L_96, L_97, L_100, L_120, L_121, L_192, L_997, L_998, L_1000, L_1270, L_10000, L_17780, L_2540, L_32768, L_16510]
          rw [if_neg (by omega), if_neg (by omega)]
          exact y1
        · have e1 : rv h (i + 1) = rv h i ++ [p] := by rw [rv_step, hh]; exact if_neg w
          have hl1 : (rv h (i + 1)).length = (rv h i).length + 1 := by rw [e1, List.length_append]; rfl
          have e2 : ∀ k, k < (rv h i).length → rvf h (i + 1) k = rvf h i k := fun k hk => by unfold rvf; rw [e1, List.getElem?_append, if_pos hk]
          have e3 : rvf h (i + 1) (rv h i).length = p := by unfold rvf; rw [e1, List.getElem?_append, if_neg (by omega), Nat.sub_self]; rfl
          have heq : fi (fun k => decide (rvf h i k = p)) (rv h i).length = (rv h i).length := by
            rcases Nat.lt_or_ge (fi (fun k => decide (rvf h i k = p)) (rv h i).length) (rv h i).length with z | z
            · have := of_decide_eq_true (f3 z)
              have h2 := List.mem_of_getElem? (rvf_at z)
              rw [this] at h2
              exact absurd h2 w
            · omega
          rw [heq] at hra
          have hv0 := vt_new w
          obtain ⟨R', V', y1, y2⟩ := ih (i + 1) fuel (upd R (rv h i).length (J p)) (upd (upd V (rv h i).length (J 0)) (rv h i).length (J (0 + 1))) (by omega) (fun k hk => by
            rw [hl1] at hk
            by_cases q : k = (rv h i).length
            · subst q
              rw [upd_self, upd_self, e3, vt_step, hv0, if_pos hh]
              exact ⟨rfl, rfl⟩
            · have hk2 : k < (rv h i).length := by omega
              rw [upd_ne _ _ q, upd_ne _ _ q, upd_ne _ _ q, e2 k hk2, vt_step, if_neg]
              · exact hRV k hk2
              · intro z
                rw [hh] at z
                have h2 := List.mem_of_getElem? (rvf_at hk2)
                rw [← Option.some.inj z] at h2
                exact w h2) (by omega)
          refine ⟨R', V', ?_, y2⟩
          rw [hl1] at y1
          generalize lp (B_X4_countVotes_7 p0) fuel = self at y1 ⊢
          have hlt15 : (rv h i).length < 15 := by omega
          unfold B_X4_countVotes_7 J_X4_countVotes_76
          simp (disch := omega) only [hc, hpi', hra, upd_self, J_add, J_mul, J_sub, J_dec, J_nat, J_lt, J_le, J_eq, gd_J, gz_J, gb_J, J_div, J_mod, md_back, JN, J_neN, J_Nne, J_ltN, J_Nlt, J_leN, J_Nle, N_refl, J01, J_addN, J_pred, F_X9_at, F_X9_backupAt, F_X9_fails, F_X9_thrown, Option.bind_some, if_true, if_false, Nat.add_zero, Nat.zero_add, Nat.mul_zero, Nat.zero_mul, Nat.reduceAdd, Nat.reduceMul, Nat.reduceSub, Nat.reduceEqDiff, Nat.reduceLeDiff, Nat.reduceLT, Nat.reducePow, Nat.not_lt_zero, Nat.zero_le, eq_self, not_true_eq_false, not_false_eq_true, reduceIte, L_0, L_1, L_2, L_3, L_4, L_5, L_6, L_7, L_8, L_9, L_10, L_11, L_12, L_14, L_15, L_16, L_24, L_30, L_31, L_32, L_34, L_40, L_44, L_90, L_96, L_97, L_100, L_120, L_121, L_192, L_997, L_998, L_1000, L_1270, L_10000, L_17780, L_2540, L_32768, L_16510]
          rw [if_neg (by omega)]
          exact y1
  exact go n 0 FU (pl_rivals p0) (pl_votes p0) (by omega) (fun k hk => absurd hk (Nat.not_lt_zero _)) (by unfold FU; omega)
theorem ahd_trans {h : Nat → Option Nat} {n a b c : Nat} (h1 : ahd h n a b = true) (h2 : ahd h n b c = true) : ahd h n a c = true := by
  have x := of_decide_eq_true h1
  have y := of_decide_eq_true h2
  exact decide_eq_true (by omega)
/-- a plan while rivals are dropped -/
def PLr (p0 : PLT) (h : Nat → Option Nat) (n : Nat) (R : Nat → Nat) (m : Nat) (hc : Nat → Option Nat) : Prop :=
  pl_chunks p0 = J n ∧ pl_rivalCount p0 = J m ∧ (∀ k, k < m → pl_rivals p0 k = J (R k) ∧ pl_votes p0 k = J (vt h n (R k)) ∧ R k < 2 ^ 30) ∧ (∀ j, j < n → pl_places p0 j = OJ id (hc j)) ∧ ∀ j, j < n → (∀ p, hc j = some p → h j = some p ∧ ina R m p ∧ p < 2 ^ 30) ∧ ∀ p, h j = some p → ina R m p → hc j = some p
theorem drop_P {p0 : PLT} {h : Nat → Option Nat} {n m lim : Nat} {R : Nat → Nat} {hc : Nat → Option Nat} (h15 : n ≤ 15) (hm : m ≤ 15) (hlim : 1 ≤ lim) (hml : lim < m) (hP : PLr p0 h n R m hc) (hR : Rv h n lim R m) : ∃ p1 R' hc', F_X4_dropWeakest p0 = some p1 ∧ PLr p1 h n R' (m - 1) hc' ∧ Rv h n lim R' (m - 1) := by
  obtain ⟨a1, a2, a3, a4, a5⟩ := hP
  have hweak : ∀ i w, i < m → w < m → F_X4_isWeaker p0 (J i) (J w) = some (J (if ahd h n (R w) (R i) then 1 else 0)) := by
    intro i w hi hw
    obtain ⟨b1, b2, b3⟩ := a3 i hi
    obtain ⟨c1, c2, c3⟩ := a3 w hw
    have v1 := vt_le h n (R i)
    have v2 := vt_le h n (R w)
    unfold F_X4_isWeaker ahd
    simp (disch := omega) only [b1, b2, c1, c2, J_add, J_mul, J_sub, J_dec, J_nat, J_lt, J_le, J_eq, gd_J, gz_J, gb_J, J_div, J_mod, md_back, JN, J_neN, J_Nne, J_ltN, J_Nlt, J_leN, J_Nle, N_refl, J01, J_addN, J_pred, F_X9_at, F_X9_backupAt, F_X9_fails, F_X9_thrown, Option.bind_some, if_true, if_false, Nat.add_zero, Nat.zero_add, Nat.mul_zero, Nat.zero_mul, Nat.reduceAdd, Nat.reduceMul, Nat.reduceSub, Nat.reduceEqDiff, Nat.reduceLeDiff, Nat.reduceLT, Nat.reducePow, Nat.not_lt_zero, Nat.zero_le, eq_self, not_true_eq_false, not_false_eq_true, reduceIte, L_0, L_1, L_2, L_3, L_4, L_5, L_6, L_7, L_8, L_9, L_10, L_11, L_12, L_14, L_15, L_16, L_24, L_30, L_31, L_32, L_34, L_40, L_44, L_90, L_96, L_97, L_100, L_120, L_121, L_192, L_997, L_998, L_1000, L_1270, L_10000, L_17780, L_2540, L_32768, L_16510]
    by_cases q1 : vt h n (R i) < vt h n (R w)
    · rw [if_pos q1, if_pos (decide_eq_true (Or.inl q1))]
    · rw [if_neg q1]
      by_cases q2 : vt h n (R i) = vt h n (R w)
      · rw [if_pos q2]
        by_cases q3 : R w ≤ R i
        · rw [if_pos q3, if_neg (by simp; omega)]
        · rw [if_neg q3, if_pos (decide_eq_true (by omega))]
      · rw [if_neg q2, if_neg (by simp; omega)]
  have find : ∀ (x i w fuel : Nat), i + x = m → w < i → (∀ k, k < i → k ≠ w → ahd h n (R k) (R w) = true) → x < fuel → ∃ w', w' < m ∧ (∀ k, k < m → k ≠ w' → ahd h n (R k) (R w') = true) ∧ lp (B_X4_dropWeakest_4 p0 (K_X4_dropWeakest_29 p0)) fuel (J w, J i) = K_X4_dropWeakest_29 p0 (J w') := by
    intro x
    induction x with
    | zero =>
      intro i w fuel hi hw hmin hf
      obtain ⟨fuel, rfl⟩ : ∃ q, fuel = q + 1 := ⟨fuel - 1, by omega⟩
      obtain rfl : i = m := by omega
      refine ⟨w, hw, hmin, ?_⟩
      show B_X4_dropWeakest_4 _ _ _ _ = _
      unfold B_X4_dropWeakest_4
      simp (disch := omega) only [a2, Nat.le_refl, J_add, J_mul, J_sub, J_dec, J_nat, J_lt, J_le, J_eq, gd_J, gz_J, gb_J, J_div, J_mod, md_back, JN, J_neN, J_Nne, J_ltN, J_Nlt, J_leN, J_Nle, N_refl, J01, J_addN, J_pred, F_X9_at, F_X9_backupAt, F_X9_fails, F_X9_thrown, Option.bind_some, if_true, if_false, Nat.add_zero, Nat.zero_add, Nat.mul_zero, Nat.zero_mul, Nat.reduceAdd, Nat.reduceMul, Nat.reduceSub, Nat.reduceEqDiff, Nat.reduceLeDiff, Nat.reduceLT, Nat.reducePow, Nat.not_lt_zero, Nat.zero_le, eq_self, not_true_eq_false, not_false_eq_true, reduceIte, L_0, L_1, L_2, L_3, L_4, L_5, L_6, L_7, L_8, L_9, L_10, L_11, L_12, L_14, L_15, L_16, L_24, L_30, L_31, L_32, L_34, L_40, L_44, L_90, L_96, L_97, L_100, L_120, L_121, L_192, L_997, L_998, L_1000, L_1270, L_10000, L_17780, L_2540, L_32768, L_16510]
    | succ x ih =>
      intro i w fuel hi hw hmin hf
      obtain ⟨fuel, rfl⟩ : ∃ q, fuel = q + 1 := ⟨fuel - 1, by omega⟩
      have hi2 : i < m := by omega
      have hne : R i ≠ R w := fun z => by have := hR.1 i w hi2 (by omega) z; omega
      by_cases q : ahd h n (R w) (R i) = true
      · obtain ⟨w', y1, y2, y3⟩ := ih (i + 1) i fuel (by omega) (by omega) (fun k hk hkn => by
          by_cases z : k = w
          · rw [z]; exact q
          · exact ahd_trans (hmin k (by omega) z) q) (by omega)
        refine ⟨w', y1, y2, ?_⟩
        show B_X4_dropWeakest_4 _ _ (lp _ fuel) _ = _
        generalize lp (B_X4_dropWeakest_4 p0 (K_X4_dropWeakest_29 p0)) fuel = self at y3 ⊢
        unfold B_X4_dropWeakest_4
        have hwk := hweak i w hi2 (by omega)
        rw [if_pos q] at hwk
        simp (disch := omega) only [a2, hwk, J_add, J_mul, J_sub, J_dec, J_nat, J_lt, J_le, J_eq, gd_J, gz_J, gb_J, J_div, J_mod, md_back, JN, J_neN, J_Nne, J_ltN, J_Nlt, J_leN, J_Nle, N_refl, J01, J_addN, J_pred, F_X9_at, F_X9_backupAt, F_X9_fails, F_X9_thrown, Option.bind_some, if_true, if_false, Nat.add_zero, Nat.zero_add, Nat.mul_zero, Nat.zero_mul, Nat.reduceAdd, Nat.reduceMul, Nat.reduceSub, Nat.reduceEqDiff, Nat.reduceLeDiff, Nat.reduceLT, Nat.reducePow, Nat.not_lt_zero, Nat.zero_le, eq_self, not_true_eq_false, not_false_eq_true, reduceIte, L_0, L_1, L_2, L_3, L_4, L_5, L_6, L_7, L_8, L_9, L_10, L_11, L_12, L_14, L_15, L_16, L_24, L_30, L_31, L_32, L_34, L_40, L_44, L_90, L_96, L_97, L_100, L_120, L_121, L_192, L_997, L_998, L_1000, L_1270, L_10000, L_17780, L_2540, L_32768, L_16510]
        rw [if_neg (by omega)]
        exact y3
      · have q2 := (ahd_total (h := h) (n := n) (q := R w) (p := R i) (fun z => hne z.symm)).resolve_left q
        obtain ⟨w', y1, y2, y3⟩ := ih (i + 1) w fuel (by omega) (by omega) (fun k hk hkn => by
          by_cases z : k = i
          · rw [z]; exact q2
          · exact hmin k (by omega) hkn) (by omega)
        refine ⟨w', y1, y2, ?_⟩
        show B_X4_dropWeakest_4 _ _ (lp _ fuel) _ = _
        generalize lp (B_X4_dropWeakest_4 p0 (K_X4_dropWeakest_29 p0)) fuel = self at y3 ⊢
        unfold B_X4_dropWeakest_4
        have hwk := hweak i w hi2 (by omega)
        rw [if_neg q] at hwk
        simp (disch := omega) only [a2, hwk, J_add, J_mul, J_sub, J_dec, J_nat, J_lt, J_le, J_eq, gd_J, gz_J, gb_J, J_div, J_mod, md_back, JN, J_neN, J_Nne, J_ltN, J_Nlt, J_leN, J_Nle, N_refl, J01, J_addN, J_pred, F_X9_at, F_X9_backupAt, F_X9_fails, F_X9_thrown, Option.bind_some, if_true, if_false, Nat.add_zero, Nat.zero_add, Nat.mul_zero, Nat.zero_mul, Nat.reduceAdd, Nat.reduceMul, Nat.reduceSub, Nat.reduceEqDiff, Nat.reduceLeDiff, Nat.reduceLT, Nat.reducePow, Nat.not_lt_zero, Nat.zero_le, eq_self, not_true_eq_false, not_false_eq_true, reduceIte, L_0, L_1, L_2, L_3, L_4, L_5, L_6, L_7, L_8, L_9, L_10, L_11, L_12, L_14, L_15, L_16, L_24, L_30, L_31, L_32, L_34, L_40, L_44, L_90, L_96, L_97, L_100, L_120, L_121, L_192, L_997, L_998, L_1000, L_1270, L_10000, L_17780, L_2540, L_32768, L_16510]
        rw [if_neg (by omega)]
        exact y3
  obtain ⟨w, w1, w2, w3⟩ := find (m - 1) 1 0 FU (by omega) (by omega) (fun k hk hkn => absurd hk (by omega)) (by unfold FU; omega)
  obtain ⟨c1, c2, c3⟩ := a3 w w1
  obtain ⟨l1, l2, l3⟩ := a3 (m - 1) (by omega)
  have hcmp : ∀ j, j < n → ((OJ id (hc j) = J (R w)) ↔ hc j = some (R w)) := fun j hj => OJ_id (fun q hq => ((a5 j hj).1 q hq).2.2) c3
  have loop : ∃ f, K_X4_dropWeakest_29 p0 (J w) = K_X4_dropWeakest_67 p0 (J w) f ∧ ∀ j, j < n → f j = OJ id (if hc j = some (R w) then none else hc j) := by
    have go : ∀ (x j fuel : Nat) (f : Nat → Int32), j + x = n → (∀ i, i < n → f i = OJ id (if i < j ∧ hc i = some (R w) then none else hc i)) → x < fuel → ∃ f', lp (B_X4_dropWeakest_31 p0 (J w) (K_X4_dropWeakest_67 p0 (J w))) fuel (J j, f) = K_X4_dropWeakest_67 p0 (J w) f' ∧ ∀ i, i < n → f' i = OJ id (if hc i = some (R w) then none else hc i) := by
      intro x
      induction x with
      | zero =>
        intro j fuel f hj hf0 hf
        obtain ⟨fuel, rfl⟩ : ∃ q, fuel = q + 1 := ⟨fuel - 1, by omega⟩
        obtain rfl : j = n := by omega
        refine ⟨f, ?_, fun i hi => ?_⟩
        · show B_X4_dropWeakest_31 _ _ _ _ _ = _
          unfold B_X4_dropWeakest_31
          simp (disch := omega) only [a1, Nat.le_refl, J_add, J_mul, J_sub, J_dec, J_nat, J_lt, J_le, J_eq, gd_J, gz_J, gb_J, J_div, J_mod, md_back, JN, J_neN, J_Nne, J_ltN, J_Nlt, J_leN, J_Nle, N_refl, J01, J_addN, J_pred, F_X9_at, F_X9_backupAt, F_X9_fails, F_X9_thrown, Option.bind_some, if_true, if_false, Nat.add_zero, Nat.zero_add, Nat.mul_zero, Nat.zero_mul, Nat.reduceAdd, Nat.reduceMul, Nat.reduceSub, Nat.reduceEqDiff, Nat.reduceLeDiff, Nat.reduceLT, Nat.reducePow, Nat.not_lt_zero, Nat.zero_le, eq_self, not_true_eq_false, not_false_eq_true, reduceIte, L_0, L_1, L_2, L_3, L_4, L_5, L_6, L_7, L_8, L_9, L_10, L_11, L_12, L_14, L_15, L_16, L_24, L_30, L_31, L_32, L_34, L_40, L_44, L_90, L_96, L_97, L_100, L_120, L_121, L_192, L_997, L_998, L_1000, L_1270, L_10000, L_17780, L_2540, L_32768, L_16510]
        · rw [hf0 i hi]
          by_cases q : hc i = some (R w)
          · rw [if_pos ⟨hi, q⟩, if_pos q]
          · rw [if_neg (fun z => q z.2), if_neg q]
      | succ x ih =>
        intro j fuel f hj hf0 hf
        obtain ⟨fuel, rfl⟩ : ∃ q, fuel = q + 1 := ⟨fuel - 1, by omega⟩
        have hj2 : j < n := by omega
        have hfj : f j = OJ id (hc j) := by rw [hf0 j hj2, if_neg (by omega)]
        by_cases q : hc j = some (R w)
        · obtain ⟨f', y1, y2⟩ := ih (j + 1) fuel (upd f j NN) (by omega) (fun i hi => by
            by_cases z : i = j
            · subst z
              rw [upd_self, if_pos ⟨by omega, q⟩]
              rfl
            · rw [upd_ne _ _ z, hf0 i hi]
              by_cases y : i < j ∧ hc i = some (R w)
              · rw [if_pos y, if_pos ⟨by omega, y.2⟩]
              · rw [if_neg y, if_neg (fun v => y ⟨by omega, v.2⟩)]) (by omega)
          refine ⟨f', ?_, y2⟩
          show B_X4_dropWeakest_31 _ _ _ (lp _ fuel) _ = _
          generalize lp (B_X4_dropWeakest_31 p0 (J w) (K_X4_dropWeakest_67 p0 (J w))) fuel = self at y1 ⊢
          unfold B_X4_dropWeakest_31
          simp (disch := omega) only [a1, hfj, c1, hcmp j hj2, J_add, J_mul, J_sub, J_dec, J_nat, J_lt, J_le, J_eq, gd_J, gz_J, gb_J, J_div, J_mod, md_back, JN, J_neN, J_Nne, J_ltN, J_Nlt, J_leN, J_Nle, N_refl, J01, J_addN, J_pred, F_X9_at, F_X9_backupAt, F_X9_fails, F_X9_thrown, Option.bind_some, if_true, if_false, Nat.add_zero, Nat.zero_add, Nat.mul_zero, Nat.zero_mul, Nat.reduceAdd, Nat.reduceMul, Nat.reduceSub, Nat.reduceEqDiff, Nat.reduceLeDiff, Nat.reduceLT, Nat.reducePow, Nat.not_lt_zero, Nat.zero_le, eq_self, not_true_eq_false, not_false_eq_true, reduceIte, L_0, L_1, L_2, L_3, L_4, L_5, L_6, L_7, L_8, L_9, L_10, L_11, L_12, L_14, L_15, L_16, L_24, L_30, L_31, L_32, L_34, L_40, L_44, L_90, L_96, L_97, L_100, L_120, L_121, L_192, L_997, L_998, L_1000, L_1270, L_10000, L_17780, L_2540, L_32768, L_16510]
          rw [if_neg (by omega), if_pos q]
          exact y1
        · obtain ⟨f', y1, y2⟩ := ih (j + 1) fuel f (by omega) (fun i hi => by
            rw [hf0 i hi]
            by_cases z : i = j
            · subst z
              rw [if_neg (by omega), if_neg (fun v => q v.2)]
            · by_cases y : i < j ∧ hc i = some (R w)
              · rw [if_pos y, if_pos ⟨by omega, y.2⟩]
              · rw [if_neg y, if_neg (fun v => y ⟨by omega, v.2⟩)]) (by omega)
          refine ⟨f', ?_, y2⟩
          show B_X4_dropWeakest_31 _ _ _ (lp _ fuel) _ = _
          generalize lp (B_X4_dropWeakest_31 p0 (J w) (K_X4_dropWeakest_67 p0 (J w))) fuel = self at y1 ⊢
          unfold B_X4_dropWeakest_31
          simp (disch := omega) only [a1, hfj, c1, hcmp j hj2, J_add, J_mul, J_sub, J_dec, J_nat, J_lt, J_le, J_eq, gd_J, gz_J, gb_J, J_div, J_mod, md_back, JN, J_neN, J_Nne, J_ltN, J_Nlt, J_leN, J_Nle, N_refl, J01, J_addN, J_pred, F_X9_at, F_X9_backupAt, F_X9_fails, F_X9_thrown, Option.bind_some, if_true, if_false, Nat.add_zero, Nat.zero_add, Nat.mul_zero, Nat.zero_mul, Nat.reduceAdd, Nat.reduceMul, Nat.reduceSub, Nat.reduceEqDiff, Nat.reduceLeDiff, Nat.reduceLT, Nat.reducePow, Nat.not_lt_zero, Nat.zero_le, eq_self, not_true_eq_false, not_false_eq_true, reduceIte, L_0, L_1, L_2, L_3, L_4, L_5, L_6, L_7, L_8, L_9, L_10, L_11, L_12, L_14, L_15, L_16, L_24, L_30, L_31, L_32, L_34, L_40, L_44, L_90, L_96, L_97, L_100, L_120, L_121, L_192, L_997, L_998, L_1000, L_1270, L_10000, L_17780, L_2540, L_32768, L_16510]
          rw [if_neg (by omega), if_neg q]
          exact y1
    exact go n 0 FU (pl_places p0) (by omega) (fun i hi => by rw [if_neg (by omega)]; exact a4 i hi) (by unfold FU; omega)
  obtain ⟨f, f1, f2⟩ := loop
  have w3' : lp (B_X4_dropWeakest_4 p0 (K_X4_dropWeakest_29 p0)) FU (0, 1) = K_X4_dropWeakest_29 p0 (J w) := w3
  have hsub : J m - J 1 = J (m - 1) := J_sub (by omega)
  refine ⟨(f, pl_entries p0, pl_chunks p0, pl_puts p0, pl_newContainers p0, upd (pl_rivals p0) w (J (R (m - 1))), upd (pl_votes p0) w (J (vt h n (R (m - 1)))), J (m - 1)), rdr R m w, fun j => if hc j = some (R w) then none else hc j, ?_, ⟨a1, rfl, fun k hk => ?_, f2, fun j hj => ⟨fun p hp => ?_, fun p hp hin => ?_⟩⟩, Rv_drop hR w1 hml w2⟩
  · unfold F_X4_dropWeakest
    rw [w3', f1]
    unfold K_X4_dropWeakest_67
    simp (disch := omega) only [a2, l1, l2, J_add, J_mul, J_sub, J_dec, J_nat, J_lt, J_le, J_eq, gd_J, gz_J, gb_J, J_div, J_mod, md_back, JN, J_neN, J_Nne, J_ltN, J_Nlt, J_leN, J_Nle, N_refl, J01, J_addN, J_pred, F_X9_at, F_X9_backupAt, F_X9_fails, F_X9_thrown, Option.bind_some, if_true, if_false, Nat.add_zero, Nat.zero_add, Nat.mul_zero, Nat.zero_mul, Nat.reduceAdd, Nat.reduceMul, Nat.reduceSub, Nat.reduceEqDiff, Nat.reduceLeDiff, Nat.reduceLT, Nat.reducePow, Nat.not_lt_zero, Nat.zero_le, eq_self, not_true_eq_false, not_false_eq_true, reduceIte, L_0, L_1, L_2, L_3, L_4, L_5, L_6, L_7, L_8, L_9, L_10, L_11, L_12, L_14, L_15, L_16, L_24, L_30, L_31, L_32, L_34, L_40, L_44, L_90, L_96, L_97, L_100, L_120, L_121, L_192, L_997, L_998, L_1000, L_1270, L_10000, L_17780, L_2540, L_32768, L_16510]
  · show upd (pl_rivals p0) w (J (R (m - 1))) k = J (rdr R m w k) ∧ upd (pl_votes p0) w (J (vt h n (R (m - 1)))) k = J (vt h n (rdr R m w k)) ∧ rdr R m w k < 2 ^ 30
    unfold rdr
    by_cases q : k = w
    · rw [if_pos q, q, upd_self, upd_self]
      exact ⟨rfl, rfl, l3⟩
    · rw [if_neg q, upd_ne _ _ q, upd_ne _ _ q]
      exact a3 k (by omega)
  · have hp' : (if hc j = some (R w) then none else hc j) = some p := hp
    by_cases q : hc j = some (R w)
    · rw [if_pos q] at hp'; cases hp'
    · rw [if_neg q] at hp'
      obtain ⟨x1, x2, x3⟩ := (a5 j hj).1 p hp'
      exact ⟨x1, (rdr_in hR.1 w1).mpr ⟨x2, fun z => q (by rw [hp', z])⟩, x3⟩
  · obtain ⟨x1, x2⟩ := (rdr_in hR.1 w1).mp hin
    have x3 := (a5 j hj).2 p hp x1
    show (if hc j = some (R w) then none else hc j) = some p
    rw [if_neg (fun z => x2 (by rw [x3] at z; exact Option.some.inj z))]
    exact x3
theorem homes_go {d : DKT} {sd : SMT} {n lim : Nat} {h : Nat → Option Nat} (h15 : n ≤ 15) (hlim : 1 ≤ lim) (hlim9 : lim ≤ 9) : ∀ (m fuel : Nat) (p1 : PLT) (R : Nat → Nat) (hc : Nat → Option Nat), m ≤ 15 → PLr p1 h n R m hc → Rv h n lim R m → m < fuel → ∃ p2, lp (B_X4_layOut_24 (J lim) (K_X4_layOut_40 d sd)) fuel (J m, p1) = K_X4_layOut_40 d sd p2 ∧ pl_chunks p2 = J n ∧ ∀ j, j < n → pl_places p2 j = OJ id (kh h n lim j) := by
  intro m
  induction m with
  | zero =>
    intro fuel p1 R hc hm hP hR hf
    obtain ⟨fuel, rfl⟩ : ∃ q, fuel = q + 1 := ⟨fuel - 1, by omega⟩
    obtain ⟨a1, a2, a3, a4, a5⟩ := hP
    refine ⟨p1, ?_, a1, fun j hj => ?_⟩
    · show B_X4_layOut_24 _ _ _ _ = _
      unfold B_X4_layOut_24
      rw [if_pos ((J_le (by omega) (by omega)).mpr (Nat.zero_le _))]
    · rw [a4 j hj]
      obtain ⟨x1, x2⟩ := Rv_end hR (Nat.zero_le _) hj
      have hno : ∀ p, ¬ ina R 0 p := fun p ⟨k, hk, _⟩ => absurd hk (Nat.not_lt_zero _)
      rw [x2 fun p _ => hno p]
      cases hh : hc j with
      | none => rfl
      | some p => exact absurd ((a5 j hj).1 p hh).2.1 (hno p)
  | succ m ih =>
    intro fuel p1 R hc hm hP hR hf
    obtain ⟨fuel, rfl⟩ : ∃ q, fuel = q + 1 := ⟨fuel - 1, by omega⟩
    by_cases q : m + 1 ≤ lim
    · obtain ⟨a1, a2, a3, a4, a5⟩ := hP
      refine ⟨p1, ?_, a1, fun j hj => ?_⟩
      · show B_X4_layOut_24 _ _ _ _ = _
        unfold B_X4_layOut_24
        rw [if_pos ((J_le (by omega) (by omega)).mpr q)]
      · rw [a4 j hj]
        obtain ⟨x1, x2⟩ := Rv_end hR q hj
        cases hh : hc j with
        | none => rw [x2 fun p hp hin => by have := (a5 j hj).2 p hp hin; rw [hh] at this; cases this]
        | some p => rw [x1 p ((a5 j hj).1 p hh).1 ((a5 j hj).1 p hh).2.1]
    · obtain ⟨p2, R', hc', y1, y2, y3⟩ := drop_P h15 hm hlim (by omega) hP hR
      obtain ⟨p3, z1, z2⟩ := ih fuel p2 R' hc' (by omega) y2 y3 (by omega)
      refine ⟨p3, ?_, z2⟩
      show B_X4_layOut_24 _ _ (lp _ fuel) _ = _
      generalize lp (B_X4_layOut_24 (J lim) (K_X4_layOut_40 d sd)) fuel = self at z1 ⊢
      unfold B_X4_layOut_24
      have e : J (m + 1) + -1 = J m := by
        show J (m + 1) + NN = J m
        rw [dn_add, dn_succ]
      rw [if_neg (fun w => q ((J_le (by omega) (by omega)).mp w)), y1]
      simp only [Option.bind_some]
      rw [e]
      exact z1
theorem homes_PLr {p0 : PLT} {h : Nat → Option Nat} {n : Nat} {R V : Nat → Int32} {x : Int32} (hb : ∀ j p, j < n → h j = some p → p < 2 ^ 30) (e3 : ∀ k, k < (rv h n).length → R k = J (rvf h n k) ∧ V k = J (vt h n (rvf h n k))) (hx : x = J n) : PLr (fil (pl_places p0) (fun j => OJ id (h j)) n, (pl_entries p0), x, (pl_puts p0), (pl_newContainers p0), R, V, J (rv h n).length) h n (rvf h n) (rv h n).length h := by
  refine ⟨hx, rfl, fun k hk => ⟨(e3 k hk).1, (e3 k hk).2, ?_⟩, fun j hj => ?_, fun j hj => ⟨fun p hp => ⟨hp, ?_, hb j p hj hp⟩, fun p hp _ => hp⟩⟩
  · obtain ⟨j, j1, j2⟩ := rv_mem.mp (List.mem_of_getElem? (rvf_at hk))
    exact hb j _ j1 j2
  · show fil _ _ n j = _
    rw [fil_at, if_pos hj]
  · obtain ⟨k, hk⟩ := List.getElem?_of_mem ((rv_mem (h := h)).mpr ⟨j, hj, hp⟩)
    have h1 := (List.getElem?_eq_some_iff.mp hk).1
    have h2 := rvf_at h1
    rw [hk] at h2
    exact ⟨k, h1, (Option.some.inj h2).symm⟩
/-- the class's plan when the homes are chosen -/
theorem homes_P {p0 : PLT} {d : DKT} {sd : SMT} {se : Nat → Nat} {nx n lim : Nat} {cs : List Ct} {ks : Nat → List Nat} (hd : RDc d se nx cs) (hn : Wn cs) (hW : Wc cs nx) (hs : SMc sd ks n) (hlim : 1 ≤ lim) (hlim9 : lim ≤ 9) : ∃ p1, F_X4_layOut p0 d sd (J lim) = K_X4_layOut_40 d sd p1 ∧ pl_chunks p1 = J n ∧ ∀ j, j < n → pl_places p1 j = OJ id (kh (fun j => hm cs (ks j)) n lim j) := by
  have h15 := hs.1
  have n1 := hn.1
  have hb : ∀ j p, j < n → (fun j => hm cs (ks j)) j = some p → p < 2 ^ 30 := fun j p _ hp => by have := (lastP_some hp).1; omega
  have e1 := findHomes_P (p0 := ((pl_places p0), (pl_entries p0), (sm_chunks sd), (pl_puts p0), (pl_newContainers p0), (pl_rivals p0), (pl_votes p0), (pl_rivalCount p0))) hd hn hW hs hs.2.1
  dsimp only [pl_places, pl_entries, pl_chunks, pl_puts, pl_newContainers, pl_rivals, pl_votes, pl_rivalCount] at e1
  unfold F_X4_layOut
  dsimp only [pl_places, pl_entries, pl_chunks, pl_puts, pl_newContainers, pl_rivals, pl_votes, pl_rivalCount]
  rw [e1]
  simp only [Option.bind_some]
  generalize hh : (fun j => hm cs (ks j)) = h at *
  have hhe : ∀ j, hm cs (ks j) = h j := fun j => by rw [← hh]
  simp only [hhe]
  obtain ⟨R, V, e2, e3⟩ := countVotes_P (p0 := (fil p0.1 (fun j => OJ id (h j)) n, p0.2.1, (sm_chunks sd), p0.2.2.2.1, p0.2.2.2.2.1, p0.2.2.2.2.2.1, p0.2.2.2.2.2.2.1, p0.2.2.2.2.2.2.2)) (h := h) h15 hb hs.2.1 (fun j hj => by
    show fil _ _ n j = _
    rw [fil_at, if_pos hj])
  rw [e2]
  have hlen := rv_len (h := h) n
  have hP := homes_PLr (p0 := p0) (x := J n) hb e3 rfl
  obtain ⟨p2, z1, z2, z3⟩ := homes_go (d := d) (sd := sd) h15 hlim hlim9 (rv h n).length FU _ (rvf h n) h (by omega) hP (Rv_begin h n lim) (by unfold FU; omega)
  refine ⟨p2, ?_, z2, z3⟩
  rw [← z1]
  rfl
