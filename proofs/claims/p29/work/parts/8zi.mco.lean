/-! THE PURE SIDE: the Model carries forward: the whole -/
theorem TH_false {A : AT} : TH A ((a_cs A).length - 1) = false ∨ (a_cs A).length = 0 := by
  cases h : TH A ((a_cs A).length - 1) with
  | false => exact Or.inl rfl
  | true => have := TH_last _ h; right; omega
theorem mcar_b {A : AT} {N m : Nat} (hW : WF A N) (hN : N ≤ 600) (hm : m = cp (TH A) (a_cs A).length) (K : (Int32 × (Nat → Int32)) → Option (Int32 × (Nat → Int32) × (Nat → Int32))) {k50 : Int32 × (Nat → Int32)} (h1 : k50.1 = J m) (h2 : ∀ k, k < (a_cs A).length → TH A k = true → k50.2 (cp (TH A) k) = J (nu (a_cs A) k)) : ∀ (x k fuel : Nat) (s : Nat → Int32), k + x + 1 = (a_cs A).length → x < fuel → MW s A k (cp (wtg (TH A) (a_cs A) (a_bs A)) (st (a_cs A) k)) → ∃ s', lp (B_X9_carries_54 k50 K) fuel (J (cp (wtg (TH A) (a_cs A) (a_bs A)) (st (a_cs A) k)), J (cp (TH A) k), s) = K (J (wm (TH A) A), s') ∧ MW s' A ((a_cs A).length - 1) (wm (TH A) A) := by
  have hl := WF_len hW
  have hm84 : m ≤ 84 := by have := cp_le (TH A) (a_cs A).length; omega
  intro x
  induction x with
  | zero =>
    intro k fuel s hk hf hM
    obtain ⟨fuel, rfl⟩ : ∃ q, fuel = q + 1 := ⟨fuel - 1, by omega⟩
    have hT : TH A k = false := by
      cases h : TH A k with
      | false => rfl
      | true => have := TH_last _ h; omega
    have e1 : cp (TH A) k = m := by rw [hm, ← hk, Nat.add_zero, cp_no hT]
    have e2 : cp (wtg (TH A) (a_cs A) (a_bs A)) (st (a_cs A) k) = wm (TH A) A := by
      rw [← wtg_keep (by omega) hT]
      unfold wm
      rw [← hk]
    rw [e1, e2]
    rw [e2] at hM
    refine ⟨s, ?_, by rw [← hk]; exact hM⟩
    show B_X9_carries_54 _ _ _ _ = _
    unfold B_X9_carries_54
    simp (disch := omega) only [h1, Nat.le_refl, J_add, J_mul, J_sub, J_dec, J_nat, J_lt, J_le, J_eq, gd_J, gz_J, gb_J, J_div, J_mod, md_back, JN, J_neN, J_Nne, J_ltN, J_Nlt, J_leN, J_Nle, N_refl, J01, J_addN, J_pred, F_X9_at, F_X9_backupAt, F_X9_fails, F_X9_thrown, Option.bind_some, if_true, if_false, Nat.add_zero, Nat.zero_add, Nat.mul_zero, Nat.zero_mul, Nat.reduceAdd, Nat.reduceMul, Nat.reduceSub, Nat.reduceEqDiff, Nat.reduceLeDiff, Nat.reduceLT, Nat.reducePow, Nat.not_lt_zero, Nat.zero_le, eq_self, not_true_eq_false, not_false_eq_true, reduceIte, L_0, L_1, L_2, L_3, L_4, L_5, L_6, L_7, L_8, L_9, L_10, L_11, L_12, L_14, L_15, L_16, L_24, L_30, L_31, L_32, L_34, L_40, L_44, L_90, L_96, L_97, L_100, L_120, L_121, L_192, L_997, L_998, L_1000, L_1270, L_10000, L_17780, L_2540, L_32768, L_16510]
  | succ x ih =>
    intro k fuel s hk hf hM
    have hk2 : k + 1 < (a_cs A).length := by omega
    cases hT : TH A k with
    | false =>
      obtain ⟨s', y1, y2⟩ := ih (k + 1) fuel s (by omega) (by omega) (by
        rw [wtg_keep (by omega) hT]
        unfold MW
        rw [ms_keep hk2 hT]
        exact hM)
      rw [wtg_keep (by omega) hT, cp_no hT] at y1
      exact ⟨s', y1, y2⟩
    | true =>
      obtain ⟨fuel, rfl⟩ : ∃ q, fuel = q + 1 := ⟨fuel - 1, by omega⟩
      have hkm : cp (TH A) k < m := by rw [hm]; exact cp_lt (by omega) hT
      have hnu := (hW.1.2.1 k (by omega)).2.2.2.2.1
      have hx := hW.1.1
      have hin := st_in (a_cs A) (show k < (a_cs A).length by omega)
      have hwk := hW.1.2.1 k (by omega)
      have hsi : si (a_cs A) k ≤ 8 := Nat.le_trans hwk.2.1 hwk.2.2.2.1
      have h50 : k50.2 (Int32.toNatClampNeg (J (cp (TH A) k))) = J (nu (a_cs A) k) := by
        rw [J_nat (by omega)]
        exact h2 k (by omega) hT
      obtain ⟨a1, a2⟩ := ms_all (k := k) (w := cp (wtg (TH A) (a_cs A) (a_bs A)) (st (a_cs A) k)) hW hN (by omega) (cp_mono _ (by omega))
      have a3 := a2 (by omega)
      have hsl := slot_M hM.1 a1 (by omega) (ms_at (T := TH A) (w := cp (wtg (TH A) (a_cs A) (a_bs A)) (st (a_cs A) k)) hk2).1
      rw [(ms_f hk2).1] at hsl
      obtain ⟨s1, y1, y2⟩ := mthin_b hW hN hk2 hT (K_X9_carries_180 (J (kl (TH A) (a_cs A) k).length) (lp (B_X9_carries_54 k50 K) fuel) (J (cp (wtg (TH A) (a_cs A) (a_bs A)) (st (a_cs A) k)), J (cp (TH A) k), s)) (k50 := k50) (s54 := (J (cp (wtg (TH A) (a_cs A) (a_bs A)) (st (a_cs A) k)), J (cp (TH A) k), s)) h50 (si (a_cs A) k) 0 FU s (by omega) (by unfold FU; omega) hM
      have hcpk : cp (wtg (TH A) (a_cs A) (a_bs A)) (st (a_cs A) (k + 1)) ≤ cp (wtg (TH A) (a_cs A) (a_bs A)) (st (a_cs A) k) + 8 := by
        rw [st_step, cp_add]
        have := cp_le (fun i => wtg (TH A) (a_cs A) (a_bs A) (st (a_cs A) k + i)) (si (a_cs A) k)
        omega
      obtain ⟨s2, z1, z2⟩ := mdrop_M hW hN hk2 hT (cp_mono _ (by rw [st_step]; omega)) hcpk y2
      obtain ⟨s', u1, u2⟩ := ih (k + 1) fuel s2 (by omega) (by omega) z2
      rw [cp_yes hT] at u1
      refine ⟨s', ?_, u2⟩
      rw [← u1]
      rw [Nat.add_zero] at y1
      show B_X9_carries_54 _ _ (lp _ fuel) _ = _
      generalize lp (B_X9_carries_54 k50 K) fuel = self at y1 ⊢
      unfold B_X9_carries_54
      rw [h1, if_neg (show ¬ J m ≤ J (cp (TH A) k) by rw [J_le (by omega) (by omega)]; omega), gd_J (by omega) (by omega), h50, hsl, Option.bind_some, show (0 : Int32) = J 0 from rfl]
      refine y1.trans ?_
      unfold K_X9_carries_180
      rw [z1]
      simp only [Option.bind_some]
      rw [show J (cp (TH A) k) + 1 = J (cp (TH A) k + 1) from J_add _ 1]
theorem mlist_b {A : AT} {N : Nat} {s : Nat → Int32} (hm : MR s A) (hW : WF A N) (K : (Int32 × (Nat → Int32)) → Option (Int32 × (Nat → Int32) × (Nat → Int32))) : ∀ (x k fuel : Nat) (f : Nat → Int32), k + x = (a_cs A).length → x < fuel → (∀ j, j < k → TH A j = true → f (cp (TH A) j) = J (nu (a_cs A) j)) → ∃ f', lp (B_X9_carries_4 s K) fuel (J (cp (TH A) k), J k, f) = K (J (cp (TH A) (a_cs A).length), f') ∧ ∀ j, j < (a_cs A).length → TH A j = true → f' (cp (TH A) j) = J (nu (a_cs A) j) := by
  have hl := WF_len hW
  obtain ⟨w1, w2, w3, w4, w5, w6⟩ := hW
  obtain ⟨m1, m2, m3⟩ := hm
  intro x
  induction x with
  | zero =>
    intro k fuel f hk hf h
    obtain ⟨fuel, rfl⟩ : ∃ q, fuel = q + 1 := ⟨fuel - 1, by omega⟩
    obtain rfl : k = (a_cs A).length := by omega
    refine ⟨f, ?_, h⟩
    show B_X9_carries_4 _ _ _ _ = _
    unfold B_X9_carries_4
    simp (disch := omega) only [m1.2.2.1, Nat.le_refl, J_add, J_mul, J_sub, J_dec, J_nat, J_lt, J_le, J_eq, gd_J, gz_J, gb_J, J_div, J_mod, md_back, JN, J_neN, J_Nne, J_ltN, J_Nlt, J_leN, J_Nle, N_refl, J01, J_addN, J_pred, F_X9_at, F_X9_backupAt, F_X9_fails, F_X9_thrown, Option.bind_some, if_true, if_false, Nat.add_zero, Nat.zero_add, Nat.mul_zero, Nat.zero_mul, Nat.reduceAdd, Nat.reduceMul, Nat.reduceSub, Nat.reduceEqDiff, Nat.reduceLeDiff, Nat.reduceLT, Nat.reducePow, Nat.not_lt_zero, Nat.zero_le, eq_self, not_true_eq_false, not_false_eq_true, reduceIte, L_0, L_1, L_2, L_3, L_4, L_5, L_6, L_7, L_8, L_9, L_10, L_11, L_12, L_14, L_15, L_16, L_24, L_30, L_31, L_32, L_34, L_40, L_44, L_90, L_96, L_97, L_100, L_120, L_121, L_192, L_997, L_998, L_1000, L_1270, L_10000, L_17780, L_2540, L_32768, L_16510]
  | succ x ih =>
    intro k fuel f hk hf h
    obtain ⟨fuel, rfl⟩ : ∃ q, fuel = q + 1 := ⟨fuel - 1, by omega⟩
    have hk2 : k < (a_cs A).length := by omega
    have hcp := cp_le (TH A) k
    have ht : F_X9_isThin s (J k) = some (J (if TH A k then 1 else 0)) := isThin_M m1 m2 w1 w3 w2 (by omega) hk2
    obtain ⟨r1, r2, r3, r4⟩ := m1.2.2.2 k hk2
    have ihx := fun f => ih (k + 1) fuel f (by omega) (by omega)
    clear ih
    show ∃ f', B_X9_carries_4 _ _ (lp _ fuel) _ = _ ∧ _
    generalize lp (B_X9_carries_4 s K) fuel = self at ihx ⊢
    cases hT : TH A k with
    | false =>
      obtain ⟨f', y1, y2⟩ := ihx f (fun j hj hTj => h j (by
        rcases Nat.lt_or_ge j k with q | q
        · exact q
        · rw [show j = k by omega, hT] at hTj; cases hTj) hTj)
      rw [cp_no hT] at y1
      refine ⟨f', ?_, y2⟩
      rw [← y1]
      rw [hT, if_neg (by decide)] at ht
      unfold B_X9_carries_4
      simp (disch := omega) only [m1.2.2.1, ht, J_add, J_mul, J_sub, J_dec, J_nat, J_lt, J_le, J_eq, gd_J, gz_J, gb_J, J_div, J_mod, md_back, JN, J_neN, J_Nne, J_ltN, J_Nlt, J_leN, J_Nle, N_refl, J01, J_addN, J_pred, F_X9_at, F_X9_backupAt, F_X9_fails, F_X9_thrown, Option.bind_some, if_true, if_false, Nat.add_zero, Nat.zero_add, Nat.mul_zero, Nat.zero_mul, Nat.reduceAdd, Nat.reduceMul, Nat.reduceSub, Nat.reduceEqDiff, Nat.reduceLeDiff, Nat.reduceLT, Nat.reducePow, Nat.not_lt_zero, Nat.zero_le, eq_self, not_true_eq_false, not_false_eq_true, reduceIte, L_0, L_1, L_2, L_3, L_4, L_5, L_6, L_7, L_8, L_9, L_10, L_11, L_12, L_14, L_15, L_16, L_24, L_30, L_31, L_32, L_34, L_40, L_44, L_90, L_96, L_97, L_100, L_120, L_121, L_192, L_997, L_998, L_1000, L_1270, L_10000, L_17780, L_2540, L_32768, L_16510]
      rw [if_neg (by omega)]
    | true =>
      obtain ⟨f', y1, y2⟩ := ihx (upd f (cp (TH A) k) (J (nu (a_cs A) k))) (fun j hj hTj => by
        by_cases q : j = k
        · rw [q, upd_self]
        · have := cp_lt (p := TH A) (show j < k by omega) hTj
          rw [upd_ne _ _ (by omega)]
          exact h j (by omega) hTj)
      rw [cp_yes hT] at y1
      refine ⟨f', ?_, y2⟩
      rw [← y1]
      rw [hT, if_pos rfl] at ht
      unfold B_X9_carries_4
      simp (disch := omega) only [m1.2.2.1, ht, r1, J_add, J_mul, J_sub, J_dec, J_nat, J_lt, J_le, J_eq, gd_J, gz_J, gb_J, J_div, J_mod, md_back, JN, J_neN, J_Nne, J_ltN, J_Nlt, J_leN, J_Nle, N_refl, J01, J_addN, J_pred, F_X9_at, F_X9_backupAt, F_X9_fails, F_X9_thrown, Option.bind_some, if_true, if_false, Nat.add_zero, Nat.zero_add, Nat.mul_zero, Nat.zero_mul, Nat.reduceAdd, Nat.reduceMul, Nat.reduceSub, Nat.reduceEqDiff, Nat.reduceLeDiff, Nat.reduceLT, Nat.reducePow, Nat.not_lt_zero, Nat.zero_le, eq_self, not_true_eq_false, not_false_eq_true, reduceIte, L_0, L_1, L_2, L_3, L_4, L_5, L_6, L_7, L_8, L_9, L_10, L_11, L_12, L_14, L_15, L_16, L_24, L_30, L_31, L_32, L_34, L_40, L_44, L_90, L_96, L_97, L_100, L_120, L_121, L_192, L_997, L_998, L_1000, L_1270, L_10000, L_17780, L_2540, L_32768, L_16510]
      rw [if_neg (by omega)]
theorem upd6_MR {s : Nat → Int32} {A : AT} {v : Int32} (h1 : RMc s (a_se A) (a_nx A) (a_cs A)) (h2 : RMb s (a_bs A)) (h3 : v = a_ca A) : MR (upd s 6 v) A := by
  obtain ⟨r1, r2, r3, r4⟩ := h1
  refine ⟨⟨fun i hi => by rw [upd_ne _ _ (by omega)]; exact r1 i hi, by rw [upd_ne _ _ (by omega)]; exact r2, by rw [upd_ne _ _ (by omega)]; exact r3, fun k hk => ?_⟩, fun b hb => ?_, by rw [upd_self]; exact h3⟩
  · obtain ⟨g1, g2, g3, g4⟩ := r4 k hk
    exact ⟨by rw [upd_ne _ _ (by omega)]; exact g1, by rw [upd_ne _ _ (by omega)]; exact g2, by rw [upd_ne _ _ (by omega)]; exact g3, fun i hi => by rw [upd_ne _ _ (by omega)]; exact g4 i hi⟩
  · obtain ⟨g1, g2, g3⟩ := h2 b hb
    exact ⟨by rw [upd_ne _ _ (by omega)]; exact g1, by rw [upd_ne _ _ (by omega)]; exact g2, fun i hi => by rw [upd_ne _ _ (by omega), upd_ne _ _ (by omega)]; exact g3 i hi⟩
theorem carries_M {s th : Nat → Int32} {A : AT} {N : Nat} (hm : MR s A) (hW : WF A N) (hN : N ≤ 600) : ∃ s' th', F_X9_carries s th = some (J (wm (TH A) A), s', th') ∧ MR s' (acar A) := by
  obtain ⟨f, f1, f2⟩ := mlist_b (s := s) hm hW (K_X9_carries_50 s) (a_cs A).length 0 FU th (by omega) (by have := WF_len hW; unfold FU; omega) (fun j hj => absurd hj (Nat.not_lt_zero _))
  unfold F_X9_carries
  show ∃ s' th', lp (B_X9_carries_4 s (K_X9_carries_50 s)) FU (J (cp (TH A) 0), J 0, th) = _ ∧ _
  rw [f1]
  unfold K_X9_carries_50
  by_cases h0 : (a_cs A).length = 0
  · have hbs : ∀ b, b < 8 → a_bs A b = [] := fun b hb => by
      cases hl : a_bs A b with
      | nil => rfl
      | cons r l =>
        obtain ⟨k, k1, k2⟩ := (hW.2.1 b hb).2 0 (by rw [hl]; exact Nat.succ_pos _)
        omega
    have hcs : a_cs A = [] := List.eq_nil_of_length_eq_zero h0
    have hwm : wm (TH A) A = 0 := by unfold wm; rw [h0]; rfl
    have hwp : wp (TH A) A 0 = ([], a_nx A) := by unfold wp; rw [h0]; rfl
    refine ⟨_, f, ?_, upd6_MR (s := s) (A := acar A) (v := s 6 + J 0) ?_ (fun b hb => ?_) ?_⟩
    · show B_X9_carries_54 _ _ _ (J 0, J 0, s) = _
      rw [hwm, h0]
      unfold B_X9_carries_54 K_X9_carries_192
      simp (disch := omega) only [cp, Nat.le_refl, J_add, J_mul, J_sub, J_dec, J_nat, J_lt, J_le, J_eq, gd_J, gz_J, gb_J, J_div, J_mod, md_back, JN, J_neN, J_Nne, J_ltN, J_Nlt, J_leN, J_Nle, N_refl, J01, J_addN, J_pred, F_X9_at, F_X9_backupAt, F_X9_fails, F_X9_thrown, Option.bind_some, if_true, if_false, Nat.add_zero, Nat.zero_add, Nat.mul_zero, Nat.zero_mul, Nat.reduceAdd, Nat.reduceMul, Nat.reduceSub, Nat.reduceEqDiff, Nat.reduceLeDiff, Nat.reduceLT, Nat.reducePow, Nat.not_lt_zero, Nat.zero_le, eq_self, not_true_eq_false, not_false_eq_true, reduceIte, L_0, L_1, L_2, L_3, L_4, L_5, L_6, L_7, L_8, L_9, L_10, L_11, L_12, L_14, L_15, L_16, L_24, L_30, L_31, L_32, L_34, L_40, L_44, L_90, L_96, L_97, L_100, L_120, L_121, L_192, L_997, L_998, L_1000, L_1270, L_10000, L_17780, L_2540, L_32768, L_16510]
    · show RMc s (a_se A) (wp (TH A) A (wm (TH A) A)).2 (wp (TH A) A (wm (TH A) A)).1
      rw [hwm, hwp]
      have := hm.1
      rw [hcs] at this
      exact this
    · have := hm.2.1 b hb
      rw [show a_bs (acar A) b = a_bs A b by
        show rdb (crf A) (a_bs A) 8 b = _
        rw [rdb8 _ _ hb, hbs b hb]
        rfl]
      exact this
    · show s 6 + J 0 = a_ca A + J (wm (TH A) A)
      rw [hm.2.2, hwm]
  · have hM : MW s A 0 (cp (wtg (TH A) (a_cs A) (a_bs A)) (st (a_cs A) 0)) := by
      show MW s A 0 0
      unfold MW
      rw [ms_0]
      refine ⟨hm.1, fun b hb => ?_, hm.2.2⟩
      have e : (a_bs A b).map (crw A 0) = a_bs A b := by
        have : ∀ r, crw A 0 r = r := fun r => by
          unfold crw
          rw [if_neg fun z => absurd z.2 (Nat.not_lt_zero _)]
        rw [List.map_congr_left fun r _ => this r]
        exact List.map_id _
      show s (998 + 34 * b) = J (min 1 ((a_bs A b).map (crw A 0)).length) ∧ s (998 + 34 * b + 1) = J ((a_bs A b).map (crw A 0)).length ∧ ∀ i, i < ((a_bs A b).map (crw A 0)).length → s (998 + 34 * b + 2 + 2 * i) = J (rf ((a_bs A b).map (crw A 0)) i).1 ∧ s (998 + 34 * b + 2 + 2 * i + 1) = J (rf ((a_bs A b).map (crw A 0)) i).2
      rw [e]
      exact hm.2.1 b hb
    obtain ⟨s', y1, y2⟩ := mcar_b hW hN rfl (K_X9_carries_192 (J (cp (TH A) (a_cs A).length), f)) (k50 := (J (cp (TH A) (a_cs A).length), f)) rfl f2 ((a_cs A).length - 1) 0 FU s (by omega) (by have := WF_len hW; unfold FU; omega) hM
    have hTl : TH A ((a_cs A).length - 1) = false := (TH_false (A := A)).resolve_right h0
    have hme := ms_end (A := A) (T := TH A) (w := wm (TH A) A) (k := (a_cs A).length - 1) (by omega) hTl
    obtain ⟨t1, t2, t3⟩ := y2
    rw [hme] at t1
    refine ⟨_, f, y1.trans ?_, upd6_MR (s := s') (A := acar A) (v := a_ca A + J (wm (TH A) A)) t1 (fun b hb => ?_) rfl⟩
    · unfold K_X9_carries_192
      simp (disch := omega) only [t3, J_add, J_mul, J_sub, J_dec, J_nat, J_lt, J_le, J_eq, gd_J, gz_J, gb_J, J_div, J_mod, md_back, JN, J_neN, J_Nne, J_ltN, J_Nlt, J_leN, J_Nle, N_refl, J01, J_addN, J_pred, F_X9_at, F_X9_backupAt, F_X9_fails, F_X9_thrown, Option.bind_some, if_true, if_false, Nat.add_zero, Nat.zero_add, Nat.mul_zero, Nat.zero_mul, Nat.reduceAdd, Nat.reduceMul, Nat.reduceSub, Nat.reduceEqDiff, Nat.reduceLeDiff, Nat.reduceLT, Nat.reducePow, Nat.not_lt_zero, Nat.zero_le, eq_self, not_true_eq_false, not_false_eq_true, reduceIte, L_0, L_1, L_2, L_3, L_4, L_5, L_6, L_7, L_8, L_9, L_10, L_11, L_12, L_14, L_15, L_16, L_24, L_30, L_31, L_32, L_34, L_40, L_44, L_90, L_96, L_97, L_100, L_120, L_121, L_192, L_997, L_998, L_1000, L_1270, L_10000, L_17780, L_2540, L_32768, L_16510]
    · have := t2 b hb
      have e : a_bs (acar A) b = (a_bs A b).map (crw A (wm (TH A) A)) := by
        show rdb (crf A) (a_bs A) 8 b = _
        rw [rdb8 _ _ hb, crw_all hW hN hb]
      rw [e]
      exact this
