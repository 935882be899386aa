/-! THE PURE SIDE: reading a stream of the text, the class's and the Model's -/
/-- a row filled from its begin -/
def fil (f0 : Nat → Int32) (v : Nat → Int32) : Nat → (Nat → Int32)
  | 0 => f0
  | j + 1 => upd (fil f0 v j) j (v j)
theorem fil_at (f0 v : Nat → Int32) : ∀ (N i : Nat), fil f0 v N i = if i < N then v i else f0 i := by
  intro N
  induction N with
  | zero => intro i; rw [if_neg (by omega)]; rfl
  | succ N ih =>
    intro i
    show upd (fil f0 v N) N (v N) i = _
    by_cases h : i = N
    · subst h; rw [upd_self, if_pos (by omega)]
    · rw [upd_ne _ _ h, ih]
      by_cases q : i < N
      · rw [if_pos q, if_pos (by omega)]
      · rw [if_neg q, if_neg (by omega)]
theorem fil_AH {f0 v : Nat → Int32} {l : List Int32} (h : ∀ i x, l[i]? = some x → v i = x) : AH (fil f0 v l.length) l := by
  intro i x hx
  rw [fil_at, if_pos (List.getElem?_eq_some_iff.mp hx).1]
  exact h i x hx
theorem er_rl (c : Nat → Nat) (n : Nat) : ∀ (k i st le : Nat), er c n k i st le = none → le ≤ 30 → (∀ j, j < rl c k i → 97 ≤ c (i + j) ∧ c (i + j) ≤ 104) ∧ le + rl c k i ≤ 30 ∧ 0 < le + rl c k i := by
  intro k
  induction k with
  | zero =>
    intro i st le h hl
    unfold er at h
    by_cases q : le = 0
    · rw [if_pos q] at h; cases h
    · exact ⟨fun j hj => absurd hj (Nat.not_lt_zero _), hl, by show 0 < le + 0; omega⟩
  | succ k ih =>
    intro i st le h hl
    unfold er at h
    unfold rl
    by_cases a1 : 97 ≤ c i ∧ c i ≤ 104 ∧ le < 30
    · rw [if_pos a1] at h
      rw [if_neg (by omega)]
      obtain ⟨h1, h2, h3⟩ := ih (i + 1) st (le + 1) h (by omega)
      refine ⟨fun j hj => ?_, by omega, by omega⟩
      cases j with
      | zero => exact ⟨a1.1, a1.2.1⟩
      | succ j =>
        have := h1 j (by omega)
        rw [show i + (j + 1) = i + 1 + j by omega]
        exact this
    · rw [if_neg a1] at h
      by_cases a3 : c i = 44 ∧ 0 < le ∧ st < 4
      · rw [if_pos a3.1]
        exact ⟨fun j hj => absurd hj (Nat.not_lt_zero _), by omega, by omega⟩
      · rw [if_neg a3] at h
        cases h
theorem er_sto (c : Nat → Nat) (n p : Nat) : ∀ (k i st le cm s : Nat), er c n k i st le = none → cm < p → sto c p k i cm = some s → ∃ k' st', s + k' = i + k ∧ er c n k' s st' 0 = none := by
  intro k
  induction k with
  | zero => intro i st le cm s _ _ h; cases h
  | succ k ih =>
    intro i st le cm s he hc hs
    unfold er at he
    unfold sto at hs
    by_cases a1 : 97 ≤ c i ∧ c i ≤ 104 ∧ le < 30
    · rw [if_pos a1] at he
      rw [if_neg (show ¬ c i = 44 by omega), if_neg (by omega)] at hs
      obtain ⟨k', st', h1, h2⟩ := ih (i + 1) st (le + 1) cm s he hc hs
      exact ⟨k', st', by omega, h2⟩
    · rw [if_neg a1] at he
      by_cases a3 : c i = 44 ∧ 0 < le ∧ st < 4
      · rw [if_pos a3] at he
        rw [if_pos a3.1] at hs
        by_cases q : cm + 1 = p
        · rw [if_pos q] at hs
          cases hs
          exact ⟨k, st + 1, by omega, he⟩
        · rw [if_neg q] at hs
          obtain ⟨k', st', h1, h2⟩ := ih (i + 1) (st + 1) 0 (cm + 1) s he (by omega) hs
          exact ⟨k', st', by omega, h2⟩
      · rw [if_neg a3] at he
        cases he
theorem rl_end (c : Nat → Nat) : ∀ (k i : Nat), rl c k i ≤ k ∧ (rl c k i = k ∨ c (i + rl c k i) = 44) ∧ ∀ j, j < rl c k i → c (i + j) ≠ 44 := by
  intro k
  induction k with
  | zero => intro i; exact ⟨Nat.le_refl _, Or.inl rfl, fun j hj => absurd hj (Nat.not_lt_zero _)⟩
  | succ k ih =>
    intro i
    unfold rl
    by_cases h : c i = 44
    · rw [if_pos h]
      exact ⟨by omega, Or.inr h, fun j hj => absurd hj (Nat.not_lt_zero _)⟩
    · rw [if_neg h]
      obtain ⟨h1, h2, h3⟩ := ih (i + 1)
      refine ⟨by omega, ?_, fun j hj => ?_⟩
      · rcases h2 with h2 | h2
        · left; omega
        · right
          rw [show i + (rl c k (i + 1) + 1) = i + 1 + rl c k (i + 1) by omega]
          exact h2
      · cases j with
        | zero => exact h
        | succ j =>
          rw [show i + (j + 1) = i + 1 + j by omega]
          exact h3 j (by omega)
theorem rdm_4 (c : Nat → Nat) (n : Nat) : ∀ (k i ss le : Nat) (b l : Nat → Int32), ss ≤ 4 → (le = 0 → ss < 4) → (rdm c n k i ss le b l).2.2.2 ≤ 4 := by
  intro k
  induction k with
  | zero => intro i ss le b l h _; exact h
  | succ k ih =>
    intro i ss le b l h h0
    unfold rdm
    split
    · split
      · exact ih _ _ _ _ _ (by omega) (by omega)
      · exact ih _ _ _ _ _ h (by omega)
    · split
      · exact ih _ _ _ _ _ h (by omega)
      · exact h
/-- what there is to be read: the worths of a stream -/
def wsr (c : Nat → Nat) (s N : Nat) : List Nat := (List.range N).map fun j => c (s + j) - 97 + 1
theorem wsr_len (c : Nat → Nat) (s N : Nat) : (wsr c s N).length = N := by simp [wsr]
theorem wsr_at {c : Nat → Nat} {s N i : Nat} {x : Int32} (h : ((wsr c s N).map J)[i]? = some x) : i < N ∧ J (c (s + i) - 97 + 1) = x := by
  have h1 := (List.getElem?_eq_some_iff.mp h).1
  rw [List.length_map, wsr_len] at h1
  refine ⟨h1, ?_⟩
  simp [wsr, h1] at h
  exact h
theorem rd {x : TXT} {f : Nat → Int32} {kk : Int32} (h : TI x f kk) (d2 : SMT) (b0 l0 : Nat → Int32) (s0 q : Int32) :
    (F_X7_readStream x d2 q = some (0, d2) ∧ ∃ b l ss, F_X9_isStream f kk b0 l0 s0 q = some (0, b, l, ss)) ∨
    ∃ (p : Nat) (ws : List Nat) (wo : Nat → Int32), q = J p ∧ p < 4 ∧ vl ws ∧ 1 ≤ ws.length ∧ ws.length ≤ 30 ∧ F_X7_readStream x d2 q = some (1, (wo, sm_codes d2, J ws.length, 0)) ∧ AH wo (ws.map J) ∧
      ∃ b l ss, F_X9_isStream f kk b0 l0 s0 q = some (1, b, l, ss) ∧ ∀ (s lt cd : Nat → Int32) (lm ch : Int32) (d : Nat), s 0 = J d → 1 ≤ d → d ≤ 9 → ∃ lt' f', F_X9_laysStream s f b l lt lm cd ch q = some (lt', J ws.length, f', J (cutG d [] ws).length) ∧ AH f' ((cutG d [] ws).map fun l => J (c9 l)) := by
  obtain ⟨n, hn, h1, h2, c, h3, h4⟩ := TI_c h
  have r1 : F_X7_firstError x = some (EJ (er c n n 0 1 0)) := by
    unfold F_X7_firstError
    exact firstError_J hn h1 h3 n 0 1 0 FU (by omega) (by omega) (by omega) (by unfold FU; omega)
  have r2 : F_X9_reads f kk b0 l0 s0 = some (EJ (rdm c n n 0 0 0 b0 l0).1, (rdm c n n 0 0 0 b0 l0).2.1, (rdm c n n 0 0 0 b0 l0).2.2.1, J (rdm c n n 0 0 0 b0 l0).2.2.2) := by
    unfold F_X9_reads
    rw [h2]
    exact reads_J hn h4 n 0 0 0 FU _ _ (by omega) (by omega) (by omega) (by omega) (by omega) (by unfold FU; omega)
  have r3 := rdm_er c n n 0 0 0 1 b0 l0 (by omega) (by simp)
  have r4 := rdm_4 c n n 0 0 0 b0 l0 (by omega) (by omega)
  rw [r3] at r2
  unfold F_X7_readStream F_X9_isStream F_X9_in
  rw [r1, r2]
  generalize hS : (rdm c n n 0 0 0 b0 l0).2.2.2 = S at *
  generalize hB : (rdm c n n 0 0 0 b0 l0).2.1 = B at *
  generalize hL : (rdm c n n 0 0 0 b0 l0).2.2.1 = L at *
  cases he : er c n n 0 1 0 with
  | some e =>
    left
    have en : e ≤ n := by
      have : ∀ (k i st le e : Nat), er c n k i st le = some e → i + k = n → e ≤ n := by
        intro k
        induction k with
        | zero => intro i st le e h _; unfold er at h; split at h <;> cases h; exact Nat.le_refl _
        | succ k ih =>
          intro i st le e h hik
          unfold er at h
          split at h
          · exact ih _ _ _ _ h (by omega)
          · split at h
            · exact ih _ _ _ _ h (by omega)
            · cases h; omega
      exact this n 0 1 0 e he (by omega)
    show _ ∧ _
    constructor
    · by_cases c1 : q < 0
      · rw [if_pos c1]
      · rw [if_neg c1]
        simp (disch := omega) only [EJ, J_add, J_mul, J_sub, J_dec, J_nat, J_lt, J_le, J_eq, gd_J, gz_J, gb_J, J_div, J_mod, md_back, JN, J_neN, J_Nne, J_ltN, J_Nlt, J_leN, J_Nle, N_refl, J01, J_addN, J_pred, F_X9_at, F_X9_backupAt, F_X9_fails, F_X9_thrown, Option.bind_some, if_true, if_false, Nat.add_zero, Nat.zero_add, Nat.mul_zero, Nat.zero_mul, Nat.reduceAdd, Nat.reduceMul, Nat.reduceSub, Nat.reduceEqDiff, Nat.reduceLeDiff, Nat.reduceLT, Nat.reducePow, Nat.not_lt_zero, Nat.zero_le, eq_self, not_true_eq_false, not_false_eq_true, reduceIte, L_0, L_1, L_2, L_3, L_4, L_5, L_6, L_7, L_8, L_9, L_10, L_11, L_12, L_14, L_15, L_16, L_24, L_30, L_31, L_32, L_34, L_40, L_44, L_90, L_96, L_97, L_100, L_120, L_121, L_192, L_997, L_998, L_1000, L_1270, L_10000, L_17780, L_2540, L_32768, L_16510]
    · refine ⟨B, L, J S, ?_⟩
      simp (disch := omega) only [EJ, J_add, J_mul, J_sub, J_dec, J_nat, J_lt, J_le, J_eq, gd_J, gz_J, gb_J, J_div, J_mod, md_back, JN, J_neN, J_Nne, J_ltN, J_Nlt, J_leN, J_Nle, N_refl, J01, J_addN, J_pred, F_X9_at, F_X9_backupAt, F_X9_fails, F_X9_thrown, Option.bind_some, if_true, if_false, Nat.add_zero, Nat.zero_add, Nat.mul_zero, Nat.zero_mul, Nat.reduceAdd, Nat.reduceMul, Nat.reduceSub, Nat.reduceEqDiff, Nat.reduceLeDiff, Nat.reduceLT, Nat.reducePow, Nat.not_lt_zero, Nat.zero_le, eq_self, not_true_eq_false, not_false_eq_true, reduceIte, L_0, L_1, L_2, L_3, L_4, L_5, L_6, L_7, L_8, L_9, L_10, L_11, L_12, L_14, L_15, L_16, L_24, L_30, L_31, L_32, L_34, L_40, L_44, L_90, L_96, L_97, L_100, L_120, L_121, L_192, L_997, L_998, L_1000, L_1270, L_10000, L_17780, L_2540, L_32768, L_16510]
  | none =>
    have hall := str_all c n b0 l0 he
    rw [hS, hB, hL] at hall
    obtain ⟨a1, a2, a3⟩ := hall
    by_cases c1 : q < 0
    · left
      have c1' : q < J 0 := c1
      constructor
      · rw [if_pos c1]
      · refine ⟨B, L, J S, ?_⟩
        simp (disch := omega) only [EJ, c1', J_add, J_mul, J_sub, J_dec, J_nat, J_lt, J_le, J_eq, gd_J, gz_J, gb_J, J_div, J_mod, md_back, JN, J_neN, J_Nne, J_ltN, J_Nlt, J_leN, J_Nle, N_refl, J01, J_addN, J_pred, F_X9_at, F_X9_backupAt, F_X9_fails, F_X9_thrown, Option.bind_some, if_true, if_false, Nat.add_zero, Nat.zero_add, Nat.mul_zero, Nat.zero_mul, Nat.reduceAdd, Nat.reduceMul, Nat.reduceSub, Nat.reduceEqDiff, Nat.reduceLeDiff, Nat.reduceLT, Nat.reducePow, Nat.not_lt_zero, Nat.zero_le, eq_self, not_true_eq_false, not_false_eq_true, reduceIte, L_0, L_1, L_2, L_3, L_4, L_5, L_6, L_7, L_8, L_9, L_10, L_11, L_12, L_14, L_15, L_16, L_24, L_30, L_31, L_32, L_34, L_40, L_44, L_90, L_96, L_97, L_100, L_120, L_121, L_192, L_997, L_998, L_1000, L_1270, L_10000, L_17780, L_2540, L_32768, L_16510]
    obtain ⟨p, hp, rfl⟩ := J_of c1
    have hst : ∀ z, 0 < p → sto c p n 0 0 = z → F_X7_startOf x (J p) = some (EJ z) := by
      intro z h0 hz
      unfold F_X7_startOf
      simp (disch := omega) only [J_add, J_mul, J_sub, J_dec, J_nat, J_lt, J_le, J_eq, gd_J, gz_J, gb_J, J_div, J_mod, md_back, JN, J_neN, J_Nne, J_ltN, J_Nlt, J_leN, J_Nle, N_refl, J01, J_addN, J_pred, F_X9_at, F_X9_backupAt, F_X9_fails, F_X9_thrown, Option.bind_some, if_true, if_false, Nat.add_zero, Nat.zero_add, Nat.mul_zero, Nat.zero_mul, Nat.reduceAdd, Nat.reduceMul, Nat.reduceSub, Nat.reduceEqDiff, Nat.reduceLeDiff, Nat.reduceLT, Nat.reducePow, Nat.not_lt_zero, Nat.zero_le, eq_self, not_true_eq_false, not_false_eq_true, reduceIte, L_0, L_1, L_2, L_3, L_4, L_5, L_6, L_7, L_8, L_9, L_10, L_11, L_12, L_14, L_15, L_16, L_24, L_30, L_31, L_32, L_34, L_40, L_44, L_90, L_96, L_97, L_100, L_120, L_121, L_192, L_997, L_998, L_1000, L_1270, L_10000, L_17780, L_2540, L_32768, L_16510]
      rw [if_neg (by omega), ← hz]
      exact startOf_J hn hp h1 h3 n 0 0 FU (by omega) (by omega) (by unfold FU; omega)
    by_cases c2 : p < S
    · right
      obtain ⟨s, k', b1, b2, b3, b4, b5⟩ := a2 p c2
      have her : ∃ k'' st', s + k'' = n ∧ er c n k'' s st' 0 = none := by
        by_cases p0 : p = 0
        · have := b2 p0
          subst this
          exact ⟨n, 1, by omega, he⟩
        · obtain ⟨k'', st', e1, e2⟩ := er_sto c n p n 0 1 0 0 s he (by omega) (b3 (by omega))
          exact ⟨k'', st', by omega, e2⟩
      obtain ⟨k'', st', e1, e2⟩ := her
      obtain rfl : k'' = k' := by omega
      obtain ⟨f1, f2, f3⟩ := er_rl c n k'' s st' 0 e2 (by omega)
      obtain ⟨g1, g2, g3⟩ := rl_end c k'' s
      generalize hN : rl c k'' s = N at *
      have hv : vl (wsr c s N) := by
        intro w hw
        simp only [wsr, List.mem_map, List.mem_range] at hw
        obtain ⟨j, j1, j2⟩ := hw
        have := f1 j j1
        omega
      have hso : F_X7_startOf x (J p) = some (J s) := by
        by_cases p0 : p = 0
        · rw [b2 p0, p0]; rfl
        · rw [hst _ (by omega) (b3 (by omega))]; rfl
      have hfA : ∀ f0, AH (fil f0 (fun j => J (c (s + j) - 97 + 1)) N) ((wsr c s N).map J) := by
        intro f0
        have := fil_AH (f0 := f0) (v := fun j => J (c (s + j) - 97 + 1)) (l := (wsr c s N).map J) (fun i z hz => (wsr_at hz).2)
        rw [List.length_map, wsr_len] at this
        exact this
      refine ⟨p, wsr c s N, fil (sm_worths d2) (fun j => J (c (s + j) - 97 + 1)) N, rfl, by omega, hv, by rw [wsr_len]; omega, by rw [wsr_len]; omega, ?_, hfA _, ?_⟩
      · rw [if_neg c1, hso]
        unfold F_X6_begin
        simp (disch := omega) only [EJ, J_add, J_mul, J_sub, J_dec, J_nat, J_lt, J_le, J_eq, gd_J, gz_J, gb_J, J_div, J_mod, md_back, JN, J_neN, J_Nne, J_ltN, J_Nlt, J_leN, J_Nle, N_refl, J01, J_addN, J_pred, F_X9_at, F_X9_backupAt, F_X9_fails, F_X9_thrown, Option.bind_some, if_true, if_false, Nat.add_zero, Nat.zero_add, Nat.mul_zero, Nat.zero_mul, Nat.reduceAdd, Nat.reduceMul, Nat.reduceSub, Nat.reduceEqDiff, Nat.reduceLeDiff, Nat.reduceLT, Nat.reducePow, Nat.not_lt_zero, Nat.zero_le, eq_self, not_true_eq_false, not_false_eq_true, reduceIte, L_0, L_1, L_2, L_3, L_4, L_5, L_6, L_7, L_8, L_9, L_10, L_11, L_12, L_14, L_15, L_16, L_24, L_30, L_31, L_32, L_34, L_40, L_44, L_90, L_96, L_97, L_100, L_120, L_121, L_192, L_997, L_998, L_1000, L_1270, L_10000, L_17780, L_2540, L_32768, L_16510]
        refine (lp_run (fun j => (J (s + j), (fil (sm_worths d2) (fun j => J (c (s + j) - 97 + 1)) j, sm_codes d2, J j, J 0))) N (fun self j hj => ?_) (fun self => ?_) (by unfold FU; omega))
        · obtain ⟨t1, t2⟩ := h3 (s + j) (by omega)
          have t3 := f1 j hj
          have t4 := g3 j hj
          unfold B_X7_readStream_34 F_X6_take
          simp (disch := omega) only [h1, t1, sm_letters, sm_worths, sm_codes, sm_chunks, J_add, J_mul, J_sub, J_dec, J_nat, J_lt, J_le, J_eq, gd_J, gz_J, gb_J, J_div, J_mod, md_back, JN, J_neN, J_Nne, J_ltN, J_Nlt, J_leN, J_Nle, N_refl, J01, J_addN, J_pred, F_X9_at, F_X9_backupAt, F_X9_fails, F_X9_thrown, Option.bind_some, if_true, if_false, Nat.add_zero, Nat.zero_add, Nat.mul_zero, Nat.zero_mul, Nat.reduceAdd, Nat.reduceMul, Nat.reduceSub, Nat.reduceEqDiff, Nat.reduceLeDiff, Nat.reduceLT, Nat.reducePow, Nat.not_lt_zero, Nat.zero_le, eq_self, not_true_eq_false, not_false_eq_true, reduceIte, L_0, L_1, L_2, L_3, L_4, L_5, L_6, L_7, L_8, L_9, L_10, L_11, L_12, L_14, L_15, L_16, L_24, L_30, L_31, L_32, L_34, L_40, L_44, L_90, L_96, L_97, L_100, L_120, L_121, L_192, L_997, L_998, L_1000, L_1270, L_10000, L_17780, L_2540, L_32768, L_16510]
          rw [if_neg (by omega), if_neg (by omega), if_pos (by omega)]
          rfl
        · unfold B_X7_readStream_34
          simp (disch := omega) only [h1, wsr_len, J_add, J_mul, J_sub, J_dec, J_nat, J_lt, J_le, J_eq, gd_J, gz_J, gb_J, J_div, J_mod, md_back, JN, J_neN, J_Nne, J_ltN, J_Nlt, J_leN, J_Nle, N_refl, J01, J_addN, J_pred, F_X9_at, F_X9_backupAt, F_X9_fails, F_X9_thrown, Option.bind_some, if_true, if_false, Nat.add_zero, Nat.zero_add, Nat.mul_zero, Nat.zero_mul, Nat.reduceAdd, Nat.reduceMul, Nat.reduceSub, Nat.reduceEqDiff, Nat.reduceLeDiff, Nat.reduceLT, Nat.reducePow, Nat.not_lt_zero, Nat.zero_le, eq_self, not_true_eq_false, not_false_eq_true, reduceIte, L_0, L_1, L_2, L_3, L_4, L_5, L_6, L_7, L_8, L_9, L_10, L_11, L_12, L_14, L_15, L_16, L_24, L_30, L_31, L_32, L_34, L_40, L_44, L_90, L_96, L_97, L_100, L_120, L_121, L_192, L_997, L_998, L_1000, L_1270, L_10000, L_17780, L_2540, L_32768, L_16510]
          by_cases t0 : n ≤ s + N
          · rw [if_pos t0]
          · obtain ⟨t1, t2⟩ := h3 (s + N) (by omega)
            rw [if_neg t0]
            simp (disch := omega) only [t1, J_add, J_mul, J_sub, J_dec, J_nat, J_lt, J_le, J_eq, gd_J, gz_J, gb_J, J_div, J_mod, md_back, JN, J_neN, J_Nne, J_ltN, J_Nlt, J_leN, J_Nle, N_refl, J01, J_addN, J_pred, F_X9_at, F_X9_backupAt, F_X9_fails, F_X9_thrown, Option.bind_some, if_true, if_false, Nat.add_zero, Nat.zero_add, Nat.mul_zero, Nat.zero_mul, Nat.reduceAdd, Nat.reduceMul, Nat.reduceSub, Nat.reduceEqDiff, Nat.reduceLeDiff, Nat.reduceLT, Nat.reducePow, Nat.not_lt_zero, Nat.zero_le, eq_self, not_true_eq_false, not_false_eq_true, reduceIte, L_0, L_1, L_2, L_3, L_4, L_5, L_6, L_7, L_8, L_9, L_10, L_11, L_12, L_14, L_15, L_16, L_24, L_30, L_31, L_32, L_34, L_40, L_44, L_90, L_96, L_97, L_100, L_120, L_121, L_192, L_997, L_998, L_1000, L_1270, L_10000, L_17780, L_2540, L_32768, L_16510]
            rcases g2 with g2 | g2
            · omega
            · rw [if_pos g2]
      · refine ⟨B, L, J S, ?_, ?_⟩
        · simp (disch := omega) only [EJ, J_add, J_mul, J_sub, J_dec, J_nat, J_lt, J_le, J_eq, gd_J, gz_J, gb_J, J_div, J_mod, md_back, JN, J_neN, J_Nne, J_ltN, J_Nlt, J_leN, J_Nle, N_refl, J01, J_addN, J_pred, F_X9_at, F_X9_backupAt, F_X9_fails, F_X9_thrown, Option.bind_some, if_true, if_false, Nat.add_zero, Nat.zero_add, Nat.mul_zero, Nat.zero_mul, Nat.reduceAdd, Nat.reduceMul, Nat.reduceSub, Nat.reduceEqDiff, Nat.reduceLeDiff, Nat.reduceLT, Nat.reducePow, Nat.not_lt_zero, Nat.zero_le, eq_self, not_true_eq_false, not_false_eq_true, reduceIte, L_0, L_1, L_2, L_3, L_4, L_5, L_6, L_7, L_8, L_9, L_10, L_11, L_12, L_14, L_15, L_16, L_24, L_30, L_31, L_32, L_34, L_40, L_44, L_90, L_96, L_97, L_100, L_120, L_121, L_192, L_997, L_998, L_1000, L_1270, L_10000, L_17780, L_2540, L_32768, L_16510]
          rw [if_neg (show ¬ S - 1 < p by omega)]
          simp (disch := omega) only [J_add, J_mul, J_sub, J_dec, J_nat, J_lt, J_le, J_eq, gd_J, gz_J, gb_J, J_div, J_mod, md_back, JN, J_neN, J_Nne, J_ltN, J_Nlt, J_leN, J_Nle, N_refl, J01, J_addN, J_pred, F_X9_at, F_X9_backupAt, F_X9_fails, F_X9_thrown, Option.bind_some, if_true, if_false, Nat.add_zero, Nat.zero_add, Nat.mul_zero, Nat.zero_mul, Nat.reduceAdd, Nat.reduceMul, Nat.reduceSub, Nat.reduceEqDiff, Nat.reduceLeDiff, Nat.reduceLT, Nat.reducePow, Nat.not_lt_zero, Nat.zero_le, eq_self, not_true_eq_false, not_false_eq_true, reduceIte, L_0, L_1, L_2, L_3, L_4, L_5, L_6, L_7, L_8, L_9, L_10, L_11, L_12, L_14, L_15, L_16, L_24, L_30, L_31, L_32, L_34, L_40, L_44, L_90, L_96, L_97, L_100, L_120, L_121, L_192, L_997, L_998, L_1000, L_1270, L_10000, L_17780, L_2540, L_32768, L_16510]
        · intro sx lt cd lm ch d hs hd hd9
          obtain ⟨f', z1, z2⟩ := cuts_J (wo := fil lt (fun j => J (c (s + j) - 97 + 1)) N) (s := sx) (cd := cd) (ch := ch) (hfA lt) hv (by rw [wsr_len]; omega) hd hd9 hs
          refine ⟨fil lt (fun j => J (c (s + j) - 97 + 1)) N, f', ?_, z2⟩
          unfold F_X9_laysStream
          simp (disch := omega) only [J_add, J_mul, J_sub, J_dec, J_nat, J_lt, J_le, J_eq, gd_J, gz_J, gb_J, J_div, J_mod, md_back, JN, J_neN, J_Nne, J_ltN, J_Nlt, J_leN, J_Nle, N_refl, J01, J_addN, J_pred, F_X9_at, F_X9_backupAt, F_X9_fails, F_X9_thrown, Option.bind_some, if_true, if_false, Nat.add_zero, Nat.zero_add, Nat.mul_zero, Nat.zero_mul, Nat.reduceAdd, Nat.reduceMul, Nat.reduceSub, Nat.reduceEqDiff, Nat.reduceLeDiff, Nat.reduceLT, Nat.reducePow, Nat.not_lt_zero, Nat.zero_le, eq_self, not_true_eq_false, not_false_eq_true, reduceIte, L_0, L_1, L_2, L_3, L_4, L_5, L_6, L_7, L_8, L_9, L_10, L_11, L_12, L_14, L_15, L_16, L_24, L_30, L_31, L_32, L_34, L_40, L_44, L_90, L_96, L_97, L_100, L_120, L_121, L_192, L_997, L_998, L_1000, L_1270, L_10000, L_17780, L_2540, L_32768, L_16510]
          refine (lp_run (fun j => (J j, fil lt (fun j => J (c (s + j) - 97 + 1)) j)) N (fun self j hj => ?_) (fun self => ?_) (by unfold FU; omega))
          · obtain ⟨t1, t2⟩ := h4 (s + j) (by omega)
            have t3 := f1 j hj
            unfold B_X9_laysStream_12
            simp (disch := omega) only [b4, b5, t1, J_add, J_mul, J_sub, J_dec, J_nat, J_lt, J_le, J_eq, gd_J, gz_J, gb_J, J_div, J_mod, md_back, JN, J_neN, J_Nne, J_ltN, J_Nlt, J_leN, J_Nle, N_refl, J01, J_addN, J_pred, F_X9_at, F_X9_backupAt, F_X9_fails, F_X9_thrown, Option.bind_some, if_true, if_false, Nat.add_zero, Nat.zero_add, Nat.mul_zero, Nat.zero_mul, Nat.reduceAdd, Nat.reduceMul, Nat.reduceSub, Nat.reduceEqDiff, Nat.reduceLeDiff, Nat.reduceLT, Nat.reducePow, Nat.not_lt_zero, Nat.zero_le, eq_self, not_true_eq_false, not_false_eq_true, reduceIte, L_0, L_1, L_2, L_3, L_4, L_5, L_6, L_7, L_8, L_9, L_10, L_11, L_12, L_14, L_15, L_16, L_24, L_30, L_31, L_32, L_34, L_40, L_44, L_90, L_96, L_97, L_100, L_120, L_121, L_192, L_997, L_998, L_1000, L_1270, L_10000, L_17780, L_2540, L_32768, L_16510]
            rw [if_neg (by omega)]
            rfl
          · unfold B_X9_laysStream_12 K_X9_laysStream_50
            simp (disch := omega) only [b4, b5, Nat.le_refl, J_add, J_mul, J_sub, J_dec, J_nat, J_lt, J_le, J_eq, gd_J, gz_J, gb_J, J_div, J_mod, md_back, JN, J_neN, J_Nne, J_ltN, J_Nlt, J_leN, J_Nle, N_refl, J01, J_addN, J_pred, F_X9_at, F_X9_backupAt, F_X9_fails, F_X9_thrown, Option.bind_some, if_true, if_false, Nat.add_zero, Nat.zero_add, Nat.mul_zero, Nat.zero_mul, Nat.reduceAdd, Nat.reduceMul, Nat.reduceSub, Nat.reduceEqDiff, Nat.reduceLeDiff, Nat.reduceLT, Nat.reducePow, Nat.not_lt_zero, Nat.zero_le, eq_self, not_true_eq_false, not_false_eq_true, reduceIte, L_0, L_1, L_2, L_3, L_4, L_5, L_6, L_7, L_8, L_9, L_10, L_11, L_12, L_14, L_15, L_16, L_24, L_30, L_31, L_32, L_34, L_40, L_44, L_90, L_96, L_97, L_100, L_120, L_121, L_192, L_997, L_998, L_1000, L_1270, L_10000, L_17780, L_2540, L_32768, L_16510]
            rw [wsr_len] at z1
            rw [wsr_len, z1]
            rfl
    · left
      have hp0 : 0 < p := by omega
      constructor
      · rw [if_neg c1, hst _ hp0 (a3 p hp0 (by omega))]
        simp (disch := omega) only [EJ, J_add, J_mul, J_sub, J_dec, J_nat, J_lt, J_le, J_eq, gd_J, gz_J, gb_J, J_div, J_mod, md_back, JN, J_neN, J_Nne, J_ltN, J_Nlt, J_leN, J_Nle, N_refl, J01, J_addN, J_pred, F_X9_at, F_X9_backupAt, F_X9_fails, F_X9_thrown, Option.bind_some, if_true, if_false, Nat.add_zero, Nat.zero_add, Nat.mul_zero, Nat.zero_mul, Nat.reduceAdd, Nat.reduceMul, Nat.reduceSub, Nat.reduceEqDiff, Nat.reduceLeDiff, Nat.reduceLT, Nat.reducePow, Nat.not_lt_zero, Nat.zero_le, eq_self, not_true_eq_false, not_false_eq_true, reduceIte, L_0, L_1, L_2, L_3, L_4, L_5, L_6, L_7, L_8, L_9, L_10, L_11, L_12, L_14, L_15, L_16, L_24, L_30, L_31, L_32, L_34, L_40, L_44, L_90, L_96, L_97, L_100, L_120, L_121, L_192, L_997, L_998, L_1000, L_1270, L_10000, L_17780, L_2540, L_32768, L_16510]
      · refine ⟨B, L, J S, ?_⟩
        simp (disch := omega) only [EJ, J_add, J_mul, J_sub, J_dec, J_nat, J_lt, J_le, J_eq, gd_J, gz_J, gb_J, J_div, J_mod, md_back, JN, J_neN, J_Nne, J_ltN, J_Nlt, J_leN, J_Nle, N_refl, J01, J_addN, J_pred, F_X9_at, F_X9_backupAt, F_X9_fails, F_X9_thrown, Option.bind_some, if_true, if_false, Nat.add_zero, Nat.zero_add, Nat.mul_zero, Nat.zero_mul, Nat.reduceAdd, Nat.reduceMul, Nat.reduceSub, Nat.reduceEqDiff, Nat.reduceLeDiff, Nat.reduceLT, Nat.reducePow, Nat.not_lt_zero, Nat.zero_le, eq_self, not_true_eq_false, not_false_eq_true, reduceIte, L_0, L_1, L_2, L_3, L_4, L_5, L_6, L_7, L_8, L_9, L_10, L_11, L_12, L_14, L_15, L_16, L_24, L_30, L_31, L_32, L_34, L_40, L_44, L_90, L_96, L_97, L_100, L_120, L_121, L_192, L_997, L_998, L_1000, L_1270, L_10000, L_17780, L_2540, L_32768, L_16510]
        rw [if_pos (show S - 1 < p by omega)]
        simp (disch := omega) only [J_add, J_mul, J_sub, J_dec, J_nat, J_lt, J_le, J_eq, gd_J, gz_J, gb_J, J_div, J_mod, md_back, JN, J_neN, J_Nne, J_ltN, J_Nlt, J_leN, J_Nle, N_refl, J01, J_addN, J_pred, F_X9_at, F_X9_backupAt, F_X9_fails, F_X9_thrown, Option.bind_some, if_true, if_false, Nat.add_zero, Nat.zero_add, Nat.mul_zero, Nat.zero_mul, Nat.reduceAdd, Nat.reduceMul, Nat.reduceSub, Nat.reduceEqDiff, Nat.reduceLeDiff, Nat.reduceLT, Nat.reducePow, Nat.not_lt_zero, Nat.zero_le, eq_self, not_true_eq_false, not_false_eq_true, reduceIte, L_0, L_1, L_2, L_3, L_4, L_5, L_6, L_7, L_8, L_9, L_10, L_11, L_12, L_14, L_15, L_16, L_24, L_30, L_31, L_32, L_34, L_40, L_44, L_90, L_96, L_97, L_100, L_120, L_121, L_192, L_997, L_998, L_1000, L_1270, L_10000, L_17780, L_2540, L_32768, L_16510]
