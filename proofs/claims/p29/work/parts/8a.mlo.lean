/-! THE PURE SIDE: the Model's store -/
theorem lastP_step (p : Nat → Bool) (n : Nat) : lastP p (n + 1) = if p n then some n else lastP p n := rfl
theorem find_M (S : LT) (p : Nat) : lastP (fun k => decide (S.2.1 (S.1 - 1 - k) = p)) S.1 = if ua S p < S.1 then some (S.1 - 1 - ua S p) else none := by
  obtain ⟨f1, f2, f3⟩ := fi_spec (fun i => decide (S.2.1 i = p)) S.1
  have fu : ua S p = fi (fun i => decide (S.2.1 i = p)) S.1 := rfl
  rw [← fu] at f1 f2 f3
  by_cases q : ua S p < S.1
  · rw [if_pos q]
    refine lastP_eq_some (by omega) ?_ (fun j h1 h2 => ?_)
    · show decide (S.2.1 (S.1 - 1 - (S.1 - 1 - ua S p)) = p) = true
      rw [show S.1 - 1 - (S.1 - 1 - ua S p) = ua S p by omega]
      exact f3 q
    · exact f2 (S.1 - 1 - j) (by omega)
  · rw [if_neg q]
    exact lastP_eq_none fun j hj => f2 (S.1 - 1 - j) (by omega)
theorem shift_M {n l pc i : Nat} {s7 : Int32 × Int32 × Int32 × (Nat → Int32)} {self : (Int32 × Int32 × Int32 × (Nat → Int32)) → Option (Int32 × (Nat → Int32))} {path : Nat → Int32} (h1 : 1 ≤ n) (h4 : n ≤ 4) (hp : pc ≤ n - 1) (hi : i < 16) (h7 : s7.2.2.1 = J i) : J_X9_loadsBy_101 s7 self path (J n, J l, J pc) = self (J n, J l, J (i + 1), (fun k => if k = n - 1 then path i else if pc ≤ k ∧ k < n - 1 then s7.2.2.2 (k + 1) else s7.2.2.2 k)) := by
  unfold J_X9_loadsBy_101
  have e0 : ((J n, J l, J pc).2.2, s7.2.2.2) = (fun j => (J (pc + j), (fun k => if pc ≤ k ∧ k < pc + j then s7.2.2.2 (k + 1) else s7.2.2.2 k))) 0 := by
    show (J pc, s7.2.2.2) = (J pc, (fun k => if pc ≤ k ∧ k < pc + 0 then s7.2.2.2 (k + 1) else s7.2.2.2 k))
    congr 1
    funext k
    rw [if_neg (by omega)]
  rw [e0]
  refine lp_run (fun j => (J (pc + j), (fun k => if pc ≤ k ∧ k < pc + j then s7.2.2.2 (k + 1) else s7.2.2.2 k))) (n - 1 - pc) (fun self2 j hj => ?_) (fun self2 => ?_) (by unfold FU; omega)
  · unfold B_X9_loadsBy_105
    simp (disch := omega) only [J_add, J_mul, J_sub, J_dec, J_nat, J_lt, J_le, J_eq, gd_J, gz_J, gb_J, J_div, J_mod, md_back, JN, J_neN, J_Nne, J_ltN, J_Nlt, J_leN, J_Nle, N_refl, J01, J_addN, J_pred, F_X9_at, F_X9_backupAt, F_X9_fails, F_X9_thrown, Option.bind_some, if_true, if_false, Nat.add_zero, Nat.zero_add, Nat.mul_zero, Nat.zero_mul, Nat.reduceAdd, Nat.reduceMul, Nat.reduceSub, Nat.reduceEqDiff, Nat.reduceLeDiff, Nat.reduceLT, Nat.reducePow, Nat.not_lt_zero, Nat.zero_le, eq_self, not_true_eq_false, not_false_eq_true, reduceIte, L_0, L_1, L_2, L_3, L_4, L_5, L_6, L_7, L_8, L_9, L_10, L_11, L_12, L_14, L_15, L_16, L_24, L_30, L_31, L_32, L_34, L_40, L_44, L_90, L_96, L_97, L_100, L_120, L_121, L_192, L_997, L_998, L_1000, L_1270, L_10000, L_17780, L_2540, L_32768, L_16510]
    rw [if_neg (by omega), ← Nat.add_assoc]
    congr 2
    funext k
    by_cases q : k = pc + j
    · subst q
      rw [upd_self, if_neg (by omega), if_pos (by omega)]
    · rw [upd_ne _ _ q]
      by_cases z : pc ≤ k ∧ k < pc + j
      · rw [if_pos z, if_pos (by omega)]
      · rw [if_neg z, if_neg (by omega)]
  · have e1 : pc + (n - 1 - pc) = n - 1 := by omega
    unfold B_X9_loadsBy_105 K_X9_loadsBy_135
    simp (disch := omega) only [e1, Nat.le_refl, h7, J_add, J_mul, J_sub, J_dec, J_nat, J_lt, J_le, J_eq, gd_J, gz_J, gb_J, J_div, J_mod, md_back, JN, J_neN, J_Nne, J_ltN, J_Nlt, J_leN, J_Nle, N_refl, J01, J_addN, J_pred, F_X9_at, F_X9_backupAt, F_X9_fails, F_X9_thrown, Option.bind_some, if_true, if_false, Nat.add_zero, Nat.zero_add, Nat.mul_zero, Nat.zero_mul, Nat.reduceAdd, Nat.reduceMul, Nat.reduceSub, Nat.reduceEqDiff, Nat.reduceLeDiff, Nat.reduceLT, Nat.reducePow, Nat.not_lt_zero, Nat.zero_le, eq_self, not_true_eq_false, not_false_eq_true, reduceIte, L_0, L_1, L_2, L_3, L_4, L_5, L_6, L_7, L_8, L_9, L_10, L_11, L_12, L_14, L_15, L_16, L_24, L_30, L_31, L_32, L_34, L_40, L_44, L_90, L_96, L_97, L_100, L_120, L_121, L_192, L_997, L_998, L_1000, L_1270, L_10000, L_17780, L_2540, L_32768, L_16510]
    refine congrArg (fun z => self (J n, J l, J (i + 1), z)) (funext fun k => ?_)
    by_cases q : k = n - 1
    · subst q; rw [upd_self, if_pos rfl]
    · rw [upd_ne _ _ q, if_neg q]
def MSr (sto : Nat → Int32) (S : LT) : Prop := ∀ k, k < S.1 → sto k = J (S.2.1 (S.1 - 1 - k))
theorem lb_step {s path sto : Nat → Int32} {self : (Int32 × Int32 × Int32 × (Nat → Int32)) → Option (Int32 × (Nat → Int32))} {S : LT} {rm N i p : Nat} (h1 : 1 ≤ rm) (h4 : rm ≤ 4) (hs : s 4 = J rm) (hn : S.1 ≤ rm) (hv : ∀ i, i < S.1 → S.2.1 i < 2 ^ 30) (hp : p < 2 ^ 30) (hi : i < N) (hN : N ≤ 16) (hpa : path i = J p) (hM : MSr sto S) : ∃ sto', MSr sto' (us rm S p) ∧ B_X9_loadsBy_7 (J N) path s self (J S.1, J S.2.2, J i, sto) = self (J (us rm S p).1, J (us rm S p).2.2, J (i + 1), sto') := by
  have u1 : (us rm S p).1 = if ua S p < S.1 then S.1 else if S.1 < rm then S.1 + 1 else S.1 := rfl
  have u2 : (us rm S p).2.2 = S.2.2 + (if ua S p < S.1 then 0 else 1) := rfl
  have u3 : ub rm S p = if ua S p < S.1 then ua S p else if S.1 < rm then S.1 else S.1 - 1 := rfl
  have fin : ∀ (n l pc : Nat), n = (us rm S p).1 → l = (us rm S p).2.2 → pc ≤ n - 1 → (∀ k, k < n - 1 → ((n - 1 - k ≤ ub rm S p ↔ (pc ≤ k ∧ n = S.1) ∨ n = S.1 + 1) ∧ (n = S.1 + 1 → pc = n - 1))) → (n = S.1 ∨ n = S.1 + 1) → ∃ sto', MSr sto' (us rm S p) ∧ J_X9_loadsBy_101 (J S.1, J S.2.2, J i, sto) self path (J n, J l, J pc) = self (J (us rm S p).1, J (us rm S p).2.2, J (i + 1), sto') := by
    intro n l pc e1 e2 e3 e4 e5
    have hn2 := us_n (rm := rm) (S := S) (p := p) h1 hn
    rw [← e1] at hn2
    refine ⟨_, ?_, by rw [shift_M (by omega) (by omega) e3 (by omega) rfl, e1, e2]⟩
    intro k hk
    rw [← e1] at hk ⊢
    show (if k = n - 1 then path i else if pc ≤ k ∧ k < n - 1 then sto (k + 1) else sto k) = J (if n - 1 - k = 0 then p else if n - 1 - k ≤ ub rm S p then S.2.1 (n - 1 - k - 1) else S.2.1 (n - 1 - k))
    by_cases q : k = n - 1
    · rw [if_pos q, if_pos (by omega), hpa]
    · obtain ⟨e6, e7⟩ := e4 k (by omega)
      rw [if_neg q, if_neg (show ¬ n - 1 - k = 0 by omega)]
      rcases e5 with e5 | e5
      · by_cases z : pc ≤ k
        · rw [if_pos (show pc ≤ k ∧ k < n - 1 by omega), if_pos (show n - 1 - k ≤ ub rm S p from e6.mpr (Or.inl ⟨z, e5⟩)), hM (k + 1) (by omega), show S.1 - 1 - (k + 1) = n - 1 - k - 1 by omega]
        · rw [if_neg (show ¬ (pc ≤ k ∧ k < n - 1) by omega), if_neg (show ¬ n - 1 - k ≤ ub rm S p from fun w => by have := e6.mp w; omega), hM k (by omega), show S.1 - 1 - k = n - 1 - k by omega]
      · have := e7 e5
        rw [if_neg (show ¬ (pc ≤ k ∧ k < n - 1) by omega), if_pos (show n - 1 - k ≤ ub rm S p from e6.mpr (Or.inr e5)), hM k (by omega), show S.1 - 1 - k = n - 1 - k - 1 by omega]
  unfold B_X9_loadsBy_7
  have e4 : (-1 : Int32) = NN := rfl
  have hcond : ¬ J N ≤ (J S.1, J S.2.2, J i, sto).2.2.1 := by
    show ¬ J N ≤ J i
    rw [J_le (by omega) (by omega)]; omega
  rw [if_neg hcond, e4]
  have hfind := find_M S p
  have loop : lp (B_X9_loadsBy_19 (J S.1, J S.2.2, J i, sto) path (K_X9_loadsBy_57 (J S.1, J S.2.2, J i, sto) s self path)) FU (NN, 0) = K_X9_loadsBy_57 (J S.1, J S.2.2, J i, sto) s self path (OJ id (lastP (fun k => decide (S.2.1 (S.1 - 1 - k) = p)) S.1)) := by
    refine lp_run (fun k => (OJ id (lastP (fun k => decide (S.2.1 (S.1 - 1 - k) = p)) k), J k)) S.1 (fun self2 k hk => ?_) (fun self2 => ?_) (by unfold FU; omega)
    · have hv2 := hv (S.1 - 1 - k) (by omega)
      unfold B_X9_loadsBy_19
      simp (disch := omega) only [hM k hk, hpa, J_add, J_mul, J_sub, J_dec, J_nat, J_lt, J_le, J_eq, gd_J, gz_J, gb_J, J_div, J_mod, md_back, JN, J_neN, J_Nne, J_ltN, J_Nlt, J_leN, J_Nle, N_refl, J01, J_addN, J_pred, F_X9_at, F_X9_backupAt, F_X9_fails, F_X9_thrown, Option.bind_some, if_true, if_false, Nat.add_zero, Nat.zero_add, Nat.mul_zero, Nat.zero_mul, Nat.reduceAdd, Nat.reduceMul, Nat.reduceSub, Nat.reduceEqDiff, Nat.reduceLeDiff, Nat.reduceLT, Nat.reducePow, Nat.not_lt_zero, Nat.zero_le, eq_self, not_true_eq_false, not_false_eq_true, reduceIte, L_0, L_1, L_2, L_3, L_4, L_5, L_6, L_7, L_8, L_9, L_10, L_11, L_12, L_14, L_15, L_16, L_24, L_30, L_31, L_32, L_34, L_40, L_44, L_90, L_96, L_97, L_100, L_120, L_121, L_192, L_997, L_998, L_1000, L_1270, L_10000, L_17780, L_2540, L_32768, L_16510]
      rw [if_neg (by omega)]
      rw [lastP_step]
      by_cases q : S.2.1 (S.1 - 1 - k) = p
      · rw [if_pos q, if_pos (decide_eq_true q)]
        rfl
      · rw [if_neg q, if_neg (by simpa using q)]
    · unfold B_X9_loadsBy_19
      simp (disch := omega) only [Nat.le_refl, J_add, J_mul, J_sub, J_dec, J_nat, J_lt, J_le, J_eq, gd_J, gz_J, gb_J, J_div, J_mod, md_back, JN, J_neN, J_Nne, J_ltN, J_Nlt, J_leN, J_Nle, N_refl, J01, J_addN, J_pred, F_X9_at, F_X9_backupAt, F_X9_fails, F_X9_thrown, Option.bind_some, if_true, if_false, Nat.add_zero, Nat.zero_add, Nat.mul_zero, Nat.zero_mul, Nat.reduceAdd, Nat.reduceMul, Nat.reduceSub, Nat.reduceEqDiff, Nat.reduceLeDiff, Nat.reduceLT, Nat.reducePow, Nat.not_lt_zero, Nat.zero_le, eq_self, not_true_eq_false, not_false_eq_true, reduceIte, L_0, L_1, L_2, L_3, L_4, L_5, L_6, L_7, L_8, L_9, L_10, L_11, L_12, L_14, L_15, L_16, L_24, L_30, L_31, L_32, L_34, L_40, L_44, L_90, L_96, L_97, L_100, L_120, L_121, L_192, L_997, L_998, L_1000, L_1270, L_10000, L_17780, L_2540, L_32768, L_16510]
  rw [loop, hfind]
  by_cases w : ua S p < S.1
  · rw [if_pos w] at u1 u2 u3
    rw [if_pos w]
    unfold K_X9_loadsBy_57 OJ
    have : ¬ J (id (S.1 - 1 - ua S p)) = -1 := by rw [e4, J_neN (by show S.1 - 1 - ua S p < _; omega)]; exact id
    rw [if_neg this]
    exact fin S.1 S.2.2 (S.1 - 1 - ua S p) u1.symm u2.symm (by omega) (fun k hk => ⟨by rw [u3]; omega, by omega⟩) (Or.inl rfl)
  · rw [if_neg w] at u1 u2 u3
    rw [if_neg w]
    unfold K_X9_loadsBy_57 OJ J_X9_loadsBy_81 J_X9_loadsBy_100
    simp (disch := omega) only [hs, J_add, J_mul, J_sub, J_dec, J_nat, J_lt, J_le, J_eq, gd_J, gz_J, gb_J, J_div, J_mod, md_back, JN, J_neN, J_Nne, J_ltN, J_Nlt, J_leN, J_Nle, N_refl, J01, J_addN, J_pred, F_X9_at, F_X9_backupAt, F_X9_fails, F_X9_thrown, Option.bind_some, if_true, if_false, Nat.add_zero, Nat.zero_add, Nat.mul_zero, Nat.zero_mul, Nat.reduceAdd, Nat.reduceMul, Nat.reduceSub, Nat.reduceEqDiff, Nat.reduceLeDiff, Nat.reduceLT, Nat.reducePow, Nat.not_lt_zero, Nat.zero_le, eq_self, not_true_eq_false, not_false_eq_true, reduceIte, L_0, L_1, L_2, L_3, L_4, L_5, L_6, L_7, L_8, L_9, L_10, L_11, L_12, L_14, L_15, L_16, L_24, L_30, L_31, L_32, L_34, L_40, L_44, L_90, L_96, L_97, L_100, L_120, L_121, L_192, L_997, L_998, L_1000, L_1270, L_10000, L_17780, L_2540, L_32768, L_16510]
    by_cases x : S.1 < rm
    · rw [if_pos x] at u1 u3
      rw [if_neg (by omega), if_neg (by omega)]
      exact fin (S.1 + 1) (S.2.2 + 1) S.1 u1.symm u2.symm (by omega) (fun k hk => ⟨by rw [u3]; omega, by omega⟩) (Or.inr rfl)
    · rw [if_neg x] at u1 u3
      rw [if_pos (by omega), if_pos (by omega)]
      exact fin S.1 (S.2.2 + 1) 0 u1.symm u2.symm (by omega) (fun k hk => ⟨by rw [u3]; omega, by omega⟩) (Or.inl rfl)
theorem loadsBy_M {s pa sto : Nat → Int32} {rm N : Nat} {path : Nat → Nat} (h1 : 1 ≤ rm) (h4 : rm ≤ 4) (hs : s 4 = J rm) (hN : N ≤ 16) (hp : ∀ i, i < N → pa i = J (path i) ∧ path i < 2 ^ 30) : ∃ sto', F_X9_loadsBy s pa sto (J N) = some (J (ur rm path N).2.2, sto') := by
  have go : ∀ (m k fuel : Nat) (sto : Nat → Int32), k + m = N → MSr sto (ur rm path k) → m < fuel → ∃ sto', lp (B_X9_loadsBy_7 (J N) pa s) fuel (J (ur rm path k).1, J (ur rm path k).2.2, J k, sto) = some (J (ur rm path N).2.2, sto') := by
    intro m
    induction m with
    | zero =>
      intro k fuel sto hk hM hf
      obtain ⟨fuel, rfl⟩ : ∃ q, fuel = q + 1 := ⟨fuel - 1, by omega⟩
      obtain rfl : k = N := by omega
      refine ⟨sto, ?_⟩
      show B_X9_loadsBy_7 _ _ _ _ _ = _
      unfold B_X9_loadsBy_7
      simp (disch := omega) only [Nat.le_refl, J_add, J_mul, J_sub, J_dec, J_nat, J_lt, J_le, J_eq, gd_J, gz_J, gb_J, J_div, J_mod, md_back, JN, J_neN, J_Nne, J_ltN, J_Nlt, J_leN, J_Nle, N_refl, J01, J_addN, J_pred, F_X9_at, F_X9_backupAt, F_X9_fails, F_X9_thrown, Option.bind_some, if_true, if_false, Nat.add_zero, Nat.zero_add, Nat.mul_zero, Nat.zero_mul, Nat.reduceAdd, Nat.reduceMul, Nat.reduceSub, Nat.reduceEqDiff, Nat.reduceLeDiff, Nat.reduceLT, Nat.reducePow, Nat.not_lt_zero, Nat.zero_le, eq_self, not_true_eq_false, not_false_eq_true, reduceIte, L_0, L_1, L_2, L_3, L_4, L_5, L_6, L_7, L_8, L_9, L_10, L_11, L_12, L_14, L_15, L_16, L_24, L_30, L_31, L_32, L_34, L_40, L_44, L_90, L_96, L_97, L_100, L_120, L_121, L_192, L_997, L_998, L_1000, L_1270, L_10000, L_17780, L_2540, L_32768, L_16510]
    | succ m ih =>
      intro k fuel sto hk hM hf
      obtain ⟨fuel, rfl⟩ : ∃ q, fuel = q + 1 := ⟨fuel - 1, by omega⟩
      obtain ⟨sto2, z1, z2⟩ := lb_step (self := lp (B_X9_loadsBy_7 (J N) pa s) fuel) h1 h4 hs (ur_n path h1 k) (ur_v (rm := rm) (B := 2 ^ 30) (path := path) (k := k) (fun i hi => (hp i (by omega)).2)) (hp k (by omega)).2 (show k < N by omega) hN (hp k (by omega)).1 hM
      obtain ⟨sto', y⟩ := ih (k + 1) fuel sto2 (by omega) z1 (by omega)
      exact ⟨sto', by rw [← y]; exact z2⟩
  exact go N 0 FU sto (by omega) (fun k hk => absurd hk (Nat.not_lt_zero _)) (by unfold FU; omega)
theorem loadsOf_M {s pa sto : Nat → Int32} {se : Nat → Nat} {nx : Nat} {cs : List Ct} {bs : Nat → List (Nat × Nat)} (hR : RMc s se nx cs) (hm : RMb s bs) (hW : Wc cs nx) (hb : Wb cs bs) (hs : Ws se) {b : Nat} (h8 : b < 8) : ∃ pa' sto', F_X9_loadsOf s pa sto (J b) = some (J (ur (se 4) (fun i => (rf (bs b) i).1) (bs b).length).2.2, pa', sto') := by
  obtain ⟨g1, g2, g3⟩ := hm b h8
  obtain ⟨v1, v2⟩ := hb b h8
  have hst : 1 ≤ se 4 ∧ se 4 ≤ 4 := ⟨hs.2.2.2.2.2.2.2.2.1, hs.2.2.2.2.2.2.2.2.2⟩
  have hp : ∀ i, i < (bs b).length → fil pa (fun i => J (rf (bs b) i).1) (bs b).length i = J (rf (bs b) i).1 ∧ (rf (bs b) i).1 < 2 ^ 30 := fun i hi => ⟨by rw [fil_at, if_pos hi], (RV_small hW (v2 i hi)).1⟩
  obtain ⟨sto', z⟩ := loadsBy_M (sto := sto) hst.1 hst.2 (hR.1 4 (by omega)) (show (bs b).length ≤ 16 by omega) (path := fun i => (rf (bs b) i).1) hp
  refine ⟨fil pa (fun i => J (rf (bs b) i).1) (bs b).length, sto', ?_⟩
  unfold F_X9_loadsOf
  simp (disch := omega) only [J_add, J_mul, J_sub, J_dec, J_nat, J_lt, J_le, J_eq, gd_J, gz_J, gb_J, J_div, J_mod, md_back, JN, J_neN, J_Nne, J_ltN, J_Nlt, J_leN, J_Nle, N_refl, J01, J_addN, J_pred, F_X9_at, F_X9_backupAt, F_X9_fails, F_X9_thrown, Option.bind_some, if_true, if_false, Nat.add_zero, Nat.zero_add, Nat.mul_zero, Nat.zero_mul, Nat.reduceAdd, Nat.reduceMul, Nat.reduceSub, Nat.reduceEqDiff, Nat.reduceLeDiff, Nat.reduceLT, Nat.reducePow, Nat.not_lt_zero, Nat.zero_le, eq_self, not_true_eq_false, not_false_eq_true, reduceIte, L_0, L_1, L_2, L_3, L_4, L_5, L_6, L_7, L_8, L_9, L_10, L_11, L_12, L_14, L_15, L_16, L_24, L_30, L_31, L_32, L_34, L_40, L_44, L_90, L_96, L_97, L_100, L_120, L_121, L_192, L_997, L_998, L_1000, L_1270, L_10000, L_17780, L_2540, L_32768, L_16510]
  refine lp_run (fun i => (J i, fil pa (fun i => J (rf (bs b) i).1) i)) (bs b).length (fun self i hi => ?_) (fun self => ?_) (by unfold FU; omega)
  · obtain ⟨k1, k2⟩ := g3 i hi
    unfold B_X9_loadsOf_8
    simp (disch := omega) only [g2, k1, J_add, J_mul, J_sub, J_dec, J_nat, J_lt, J_le, J_eq, gd_J, gz_J, gb_J, J_div, J_mod, md_back, JN, J_neN, J_Nne, J_ltN, J_Nlt, J_leN, J_Nle, N_refl, J01, J_addN, J_pred, F_X9_at, F_X9_backupAt, F_X9_fails, F_X9_thrown, Option.bind_some, if_true, if_false, Nat.add_zero, Nat.zero_add, Nat.mul_zero, Nat.zero_mul, Nat.reduceAdd, Nat.reduceMul, Nat.reduceSub, Nat.reduceEqDiff, Nat.reduceLeDiff, Nat.reduceLT, Nat.reducePow, Nat.not_lt_zero, Nat.zero_le, eq_self, not_true_eq_false, not_false_eq_true, reduceIte, L_0, L_1, L_2, L_3, L_4, L_5, L_6, L_7, L_8, L_9, L_10, L_11, L_12, L_14, L_15, L_16, L_24, L_30, L_31, L_32, L_34, L_40, L_44, L_90, L_96, L_97, L_100, L_120, L_121, L_192, L_997, L_998, L_1000, L_1270, L_10000, L_17780, L_2540, L_32768, L_16510]
    rw [if_neg (by omega)]
    rfl
  · unfold B_X9_loadsOf_8 K_X9_loadsOf_44
    simp (disch := omega) only [g2, Nat.le_refl, z, J_add, J_mul, J_sub, J_dec, J_nat, J_lt, J_le, J_eq, gd_J, gz_J, gb_J, J_div, J_mod, md_back, JN, J_neN, J_Nne, J_ltN, J_Nlt, J_leN, J_Nle, N_refl, J01, J_addN, J_pred, F_X9_at, F_X9_backupAt, F_X9_fails, F_X9_thrown, Option.bind_some, if_true, if_false, Nat.add_zero, Nat.zero_add, Nat.mul_zero, Nat.zero_mul, Nat.reduceAdd, Nat.reduceMul, Nat.reduceSub, Nat.reduceEqDiff, Nat.reduceLeDiff, Nat.reduceLT, Nat.reducePow, Nat.not_lt_zero, Nat.zero_le, eq_self, not_true_eq_false, not_false_eq_true, reduceIte, L_0, L_1, L_2, L_3, L_4, L_5, L_6, L_7, L_8, L_9, L_10, L_11, L_12, L_14, L_15, L_16, L_24, L_30, L_31, L_32, L_34, L_40, L_44, L_90, L_96, L_97, L_100, L_120, L_121, L_192, L_997, L_998, L_1000, L_1270, L_10000, L_17780, L_2540, L_32768, L_16510]
theorem allLoads_M {s pa sto : Nat → Int32} {se : Nat → Nat} {nx : Nat} {cs : List Ct} {bs : Nat → List (Nat × Nat)} (hR : RMc s se nx cs) (hm : RMb s bs) (hW : Wc cs nx) (hb : Wb cs bs) (hs : Ws se) : ∃ pa' sto', F_X9_allLoads s pa sto = some (J (sm (fun b => (ur (se 4) (fun i => (rf (bs b) i).1) (bs b).length).2.2) 8), pa', sto') := by
  have go : ∀ (m b fuel : Nat) (pa sto : Nat → Int32), b + m = 8 → m < fuel → ∃ pa' sto', lp (B_X9_allLoads_4 s) fuel (J (sm (fun b => (ur (se 4) (fun i => (rf (bs b) i).1) (bs b).length).2.2) b), J b, pa, sto) = some (J (sm (fun b => (ur (se 4) (fun i => (rf (bs b) i).1) (bs b).length).2.2) 8), pa', sto') := by
    intro m
    induction m with
    | zero =>
      intro b fuel pa sto hb2 hf
      obtain ⟨fuel, rfl⟩ : ∃ q, fuel = q + 1 := ⟨fuel - 1, by omega⟩
      obtain rfl : b = 8 := by omega
      refine ⟨pa, sto, ?_⟩
      show B_X9_allLoads_4 _ _ _ = _
      unfold B_X9_allLoads_4
      simp (disch := omega) only [Nat.le_refl, J_add, J_mul, J_sub, J_dec, J_nat, J_lt, J_le, J_eq, gd_J, gz_J, gb_J, J_div, J_mod, md_back, JN, J_neN, J_Nne, J_ltN, J_Nlt, J_leN, J_Nle, N_refl, J01, J_addN, J_pred, F_X9_at, F_X9_backupAt, F_X9_fails, F_X9_thrown, Option.bind_some, if_true, if_false, Nat.add_zero, Nat.zero_add, Nat.mul_zero, Nat.zero_mul, Nat.reduceAdd, Nat.reduceMul, Nat.reduceSub, Nat.reduceEqDiff, Nat.reduceLeDiff, Nat.reduceLT, Nat.reducePow, Nat.not_lt_zero, Nat.zero_le, eq_self, not_true_eq_false, not_false_eq_true, reduceIte, L_0, L_1, L_2, L_3, L_4, L_5, L_6, L_7, L_8, L_9, L_10, L_11, L_12, L_14, L_15, L_16, L_24, L_30, L_31, L_32, L_34, L_40, L_44, L_90, L_96, L_97, L_100, L_120, L_121, L_192, L_997, L_998, L_1000, L_1270, L_10000, L_17780, L_2540, L_32768, L_16510]
    | succ m ih =>
      intro b fuel pa sto hb2 hf
      obtain ⟨fuel, rfl⟩ : ∃ q, fuel = q + 1 := ⟨fuel - 1, by omega⟩
      obtain ⟨g1, g2, g3⟩ := hm b (by omega)
      obtain ⟨pa2, sto2, z⟩ := loadsOf_M (pa := pa) (sto := sto) hR hm hW hb hs (show b < 8 by omega)
      by_cases q : (bs b).length = 0
      · obtain ⟨pa', sto', y⟩ := ih (b + 1) fuel pa sto (by omega) (by omega)
        refine ⟨pa', sto', ?_⟩
        rw [sm_step, q] at y
        show B_X9_allLoads_4 _ (lp _ fuel) _ = _
        generalize lp (B_X9_allLoads_4 s) fuel = self at y ⊢
        unfold B_X9_allLoads_4
        simp (disch := omega) only [g1, q, Nat.min_zero, J_add, J_mul, J_sub, J_dec, J_nat, J_lt, J_le, J_eq, gd_J, gz_J, gb_J, J_div, J_mod, md_back, JN, J_neN, J_Nne, J_ltN, J_Nlt, J_leN, J_Nle, N_refl, J01, J_addN, J_pred, F_X9_at, F_X9_backupAt, F_X9_fails, F_X9_thrown, Option.bind_some, if_true, if_false, Nat.add_zero, Nat.zero_add, Nat.mul_zero, Nat.zero_mul, Nat.reduceAdd, Nat.reduceMul, Nat.reduceSub, Nat.reduceEqDiff, Nat.reduceLeDiff, Nat.reduceLT, Nat.reducePow, Nat.not_lt_zero, Nat.zero_le, eq_self, not_true_eq_false, not_false_eq_true, reduceIte, L_0, L_1, L_2, L_3, L_4, L_5, L_6, L_7, L_8, L_9, L_10, L_11, L_12, L_14, L_15, L_16, L_24, L_30, L_31, L_32, L_34, L_40, L_44, L_90, L_96, L_97, L_100, L_120, L_121, L_192, L_997, L_998, L_1000, L_1270, L_10000, L_17780, L_2540, L_32768, L_16510]
        rw [if_neg (by omega)]
        exact y
      · obtain ⟨pa', sto', y⟩ := ih (b + 1) fuel pa2 sto2 (by omega) (by omega)
        refine ⟨pa', sto', ?_⟩
        rw [sm_step] at y
        show B_X9_allLoads_4 _ (lp _ fuel) _ = _
        generalize lp (B_X9_allLoads_4 s) fuel = self at y ⊢
        unfold B_X9_allLoads_4
        have e1 : min 1 (bs b).length = 1 := by omega
        simp (disch := omega) only [g1, e1, z, J_add, J_mul, J_sub, J_dec, J_nat, J_lt, J_le, J_eq, gd_J, gz_J, gb_J, J_div, J_mod, md_back, JN, J_neN, J_Nne, J_ltN, J_Nlt, J_leN, J_Nle, N_refl, J01, J_addN, J_pred, F_X9_at, F_X9_backupAt, F_X9_fails, F_X9_thrown, Option.bind_some, if_true, if_false, Nat.add_zero, Nat.zero_add, Nat.mul_zero, Nat.zero_mul, Nat.reduceAdd, Nat.reduceMul, Nat.reduceSub, Nat.reduceEqDiff, Nat.reduceLeDiff, Nat.reduceLT, Nat.reducePow, Nat.not_lt_zero, Nat.zero_le, eq_self, not_true_eq_false, not_false_eq_true, reduceIte, L_0, L_1, L_2, L_3, L_4, L_5, L_6, L_7, L_8, L_9, L_10, L_11, L_12, L_14, L_15, L_16, L_24, L_30, L_31, L_32, L_34, L_40, L_44, L_90, L_96, L_97, L_100, L_120, L_121, L_192, L_997, L_998, L_1000, L_1270, L_10000, L_17780, L_2540, L_32768, L_16510]
        rw [if_neg (by omega)]
        exact y
  exact go 8 0 FU pa sto (by omega) (by unfold FU; omega)
theorem allLoads_D {d : DKT} {s : SOT} {se : Nat → Nat} {nx : Nat} {cs : List Ct} {bs : Nat → List (Nat × Nat)} (hd : RDc d se nx cs) (hD : RDb d cs bs) (hn : Wn cs) (hW : Wc cs nx) (hb : Wb cs bs) (hs : Ws se) : ∃ s', F_X8_allLoads s d = some (J (sm (fun b => (ur (se 4) (fun i => pl cs (rf (bs b) i).1) (bs b).length).2.2) 8), s') := by
  have go : ∀ (m b fuel : Nat) (s : SOT), b + m = 8 → m < fuel → ∃ s', lp (B_X8_allLoads_4 d) fuel (J (sm (fun b => (ur (se 4) (fun i => pl cs (rf (bs b) i).1) (bs b).length).2.2) b), J b, s) = some (J (sm (fun b => (ur (se 4) (fun i => pl cs (rf (bs b) i).1) (bs b).length).2.2) 8), s') := by
    intro m
    induction m with
    | zero =>
      intro b fuel s hb2 hf
      obtain ⟨fuel, rfl⟩ : ∃ q, fuel = q + 1 := ⟨fuel - 1, by omega⟩
      obtain rfl : b = 8 := by omega
      refine ⟨s, ?_⟩
      show B_X8_allLoads_4 _ _ _ = _
      unfold B_X8_allLoads_4
      simp (disch := omega) only [Nat.le_refl, J_add, J_mul, J_sub, J_dec, J_nat, J_lt, J_le, J_eq, gd_J, gz_J, gb_J, J_div, J_mod, md_back, JN, J_neN, J_Nne, J_ltN, J_Nlt, J_leN, J_Nle, N_refl, J01, J_addN, J_pred, F_X9_at, F_X9_backupAt, F_X9_fails, F_X9_thrown, Option.bind_some, if_true, if_false, Nat.add_zero, Nat.zero_add, Nat.mul_zero, Nat.zero_mul, Nat.reduceAdd, Nat.reduceMul, Nat.reduceSub, Nat.reduceEqDiff, Nat.reduceLeDiff, Nat.reduceLT, Nat.reducePow, Nat.not_lt_zero, Nat.zero_le, eq_self, not_true_eq_false, not_false_eq_true, reduceIte, L_0, L_1, L_2, L_3, L_4, L_5, L_6, L_7, L_8, L_9, L_10, L_11, L_12, L_14, L_15, L_16, L_24, L_30, L_31, L_32, L_34, L_40, L_44, L_90, L_96, L_97, L_100, L_120, L_121, L_192, L_997, L_998, L_1000, L_1270, L_10000, L_17780, L_2540, L_32768, L_16510]
    | succ m ih =>
      intro b fuel s hb2 hf
      obtain ⟨fuel, rfl⟩ : ∃ q, fuel = q + 1 := ⟨fuel - 1, by omega⟩
      obtain ⟨s2, z, -⟩ := loads_D (s := s) hd hD hn hW hb hs (show b < 8 by omega)
      obtain ⟨s', y⟩ := ih (b + 1) fuel s2 (by omega) (by omega)
      refine ⟨s', ?_⟩
      rw [sm_step] at y
      show B_X8_allLoads_4 _ (lp _ fuel) _ = _
      generalize lp (B_X8_allLoads_4 d) fuel = self at y ⊢
      unfold B_X8_allLoads_4
      simp (disch := omega) only [z, J_add, J_mul, J_sub, J_dec, J_nat, J_lt, J_le, J_eq, gd_J, gz_J, gb_J, J_div, J_mod, md_back, JN, J_neN, J_Nne, J_ltN, J_Nlt, J_leN, J_Nle, N_refl, J01, J_addN, J_pred, F_X9_at, F_X9_backupAt, F_X9_fails, F_X9_thrown, Option.bind_some, if_true, if_false, Nat.add_zero, Nat.zero_add, Nat.mul_zero, Nat.zero_mul, Nat.reduceAdd, Nat.reduceMul, Nat.reduceSub, Nat.reduceEqDiff, Nat.reduceLeDiff, Nat.reduceLT, Nat.reducePow, Nat.not_lt_zero, Nat.zero_le, eq_self, not_true_eq_false, not_false_eq_true, reduceIte, L_0, L_1, L_2, L_3, L_4, L_5, L_6, L_7, L_8, L_9, L_10, L_11, L_12, L_14, L_15, L_16, L_24, L_30, L_31, L_32, L_34, L_40, L_44, L_90, L_96, L_97, L_100, L_120, L_121, L_192, L_997, L_998, L_1000, L_1270, L_10000, L_17780, L_2540, L_32768, L_16510]
      rw [if_neg (by omega)]
      exact y
  exact go 8 0 FU s (by omega) (by unfold FU; omega)
/-- other names for the containers change nothing -/
theorem us_P {P : Nat → Prop} {rm : Nat} {S : LT} {p : Nat} (h : ∀ i, i < S.1 → P (S.2.1 i)) (hp : P p) : ∀ i, i < (us rm S p).1 → P ((us rm S p).2.1 i) := by
  intro i hi
  show P (if i = 0 then p else if i ≤ ub rm S p then S.2.1 (i - 1) else S.2.1 i)
  have hi2 : i < (if ua S p < S.1 then S.1 else if S.1 < rm then S.1 + 1 else S.1) := hi
  split
  · exact hp
  · next h0 =>
    by_cases q : ua S p < S.1
    · rw [if_pos q] at hi2
      split
      · exact h _ (by omega)
      · exact h _ hi2
    · rw [if_neg q] at hi2
      by_cases z : S.1 < rm
      · rw [if_pos z] at hi2
        split
        · exact h _ (by omega)
        · next hn => exact absurd (show i ≤ ub rm S p by unfold ub; rw [if_neg q, if_pos z]; omega) hn
      · rw [if_neg z] at hi2
        split
        · exact h _ (by omega)
        · exact h _ hi2
theorem us_map {rm : Nat} {S T : LT} {g : Nat → Nat} {p : Nat} (h1 : T.1 = S.1) (h2 : ∀ i, i < S.1 → T.2.1 i = g (S.2.1 i)) (h3 : T.2.2 = S.2.2) (hi : ∀ i, i < S.1 → g (S.2.1 i) = g p → S.2.1 i = p) : (us rm T (g p)).1 = (us rm S p).1 ∧ (∀ i, i < (us rm S p).1 → (us rm T (g p)).2.1 i = g ((us rm S p).2.1 i)) ∧ (us rm T (g p)).2.2 = (us rm S p).2.2 := by
  have ea : ua T (g p) = ua S p := by
    unfold ua
    rw [h1]
    refine fi_ext fun i hi2 => decide_eq_decide.mpr ?_
    rw [h2 i hi2]
    exact ⟨hi i hi2, fun h => by rw [h]⟩
  have eb : ub rm T (g p) = ub rm S p := by unfold ub; rw [ea, h1]
  refine ⟨?_, fun i hi2 => ?_, ?_⟩
  · show (if ua T (g p) < T.1 then T.1 else if T.1 < rm then T.1 + 1 else T.1) = (if ua S p < S.1 then S.1 else if S.1 < rm then S.1 + 1 else S.1)
    rw [ea, h1]
  · show (if i = 0 then g p else if i ≤ ub rm T (g p) then T.2.1 (i - 1) else T.2.1 i) = g (if i = 0 then p else if i ≤ ub rm S p then S.2.1 (i - 1) else S.2.1 i)
    have hi3 : i < (if ua S p < S.1 then S.1 else if S.1 < rm then S.1 + 1 else S.1) := hi2
    rw [eb]
    by_cases q : i = 0
    · rw [if_pos q, if_pos q]
    · rw [if_neg q, if_neg q]
      by_cases z : i ≤ ub rm S p
      · rw [if_pos z, if_pos z]
        refine h2 _ ?_
        split at hi3
        · omega
        · split at hi3 <;> omega
      · rw [if_neg z, if_neg z]
        refine h2 _ ?_
        unfold ub at z
        split at hi3
        · omega
        · next a1 =>
          rw [if_neg a1] at z
          split at hi3
          · next a2 => rw [if_pos a2] at z; omega
          · omega
  · show T.2.2 + (if ua T (g p) < T.1 then 0 else 1) = S.2.2 + (if ua S p < S.1 then 0 else 1)
    rw [ea, h1, h3]
theorem ur_P {P : Nat → Prop} {rm : Nat} {path : Nat → Nat} : ∀ {k : Nat}, (∀ i, i < k → P (path i)) → ∀ i, i < (ur rm path k).1 → P ((ur rm path k).2.1 i) := by
  intro k
  induction k with
  | zero => intro _ i hi; exact absurd hi (Nat.not_lt_zero _)
  | succ k ih => exact fun h => us_P (ih fun i hi => h i (by omega)) (h k (by omega))
theorem ur_map {rm : Nat} {path path2 : Nat → Nat} {g : Nat → Nat} : ∀ {N : Nat}, (∀ i, i < N → path2 i = g (path i)) → (∀ i j, i < N → j < N → g (path i) = g (path j) → path i = path j) → (ur rm path2 N).1 = (ur rm path N).1 ∧ (∀ i, i < (ur rm path N).1 → (ur rm path2 N).2.1 i = g ((ur rm path N).2.1 i)) ∧ (ur rm path2 N).2.2 = (ur rm path N).2.2 := by
  intro N
  induction N with
  | zero => intro _ _; exact ⟨rfl, fun i hi => absurd hi (Nat.not_lt_zero _), rfl⟩
  | succ N ih =>
    intro h1 h2
    obtain ⟨a1, a2, a3⟩ := ih (fun i hi => h1 i (by omega)) (fun i j hi hj => h2 i j (by omega) (by omega))
    have hP := ur_P (P := fun v => ∃ j, j < N ∧ v = path j) (rm := rm) (path := path) (k := N) (fun i hi => ⟨i, hi, rfl⟩)
    have h4 := us_map (rm := rm) (g := g) (p := path N) a1 a2 a3 fun i hi hg => by
      obtain ⟨j, j1, j2⟩ := hP i hi
      rw [j2] at hg ⊢
      exact h2 j N (by omega) (by omega) hg
    rw [← h1 N (by omega)] at h4
    exact h4
theorem jp_map {path path2 : Nat → Nat} {g : Nat → Nat} {N : Nat} (h1 : ∀ i, i < N → path2 i = g (path i)) (h2 : ∀ i j, i < N → j < N → g (path i) = g (path j) → path i = path j) : jp path2 N = jp path N := by
  refine cp_ext fun i hi => decide_eq_decide.mpr ?_
  by_cases q : 0 < i
  · rw [h1 i hi, h1 (i - 1) (by omega)]
    exact ⟨fun h => ⟨q, fun e => h.2 (by rw [e])⟩, fun h => ⟨q, fun e => h.2 (h2 i (i - 1) hi (by omega) e)⟩⟩
  · exact ⟨fun h => absurd h.1 q, fun h => absurd h.1 q⟩
theorem pl_inj {cs : List Ct} {nx : Nat} {r r2 : Nat × Nat} (hW : Wc cs nx) (h : RV cs r) (h2 : RV cs r2) (he : pl cs r.1 = pl cs r2.1) : r.1 = r2.1 := by
  have a := (pl_RV hW h).2.1
  have b := (pl_RV hW h2).2.1
  rw [he] at a
  exact a.symm.trans b
/-- loads and jumps of a backup: by places as by numbers -/
theorem ur_bk {cs : List Ct} {nx : Nat} {bs : Nat → List (Nat × Nat)} (hW : Wc cs nx) (hb : Wb cs bs) {b : Nat} (h8 : b < 8) (rm : Nat) : (ur rm (fun i => pl cs (rf (bs b) i).1) (bs b).length).2.2 = (ur rm (fun i => (rf (bs b) i).1) (bs b).length).2.2 ∧ jp (fun i => pl cs (rf (bs b) i).1) (bs b).length = jp (fun i => (rf (bs b) i).1) (bs b).length := by
  have h2 : ∀ i j, i < (bs b).length → j < (bs b).length → pl cs (rf (bs b) i).1 = pl cs (rf (bs b) j).1 → (rf (bs b) i).1 = (rf (bs b) j).1 := fun i j hi hj he => pl_inj hW ((hb b h8).2 i hi) ((hb b h8).2 j hj) he
  exact ⟨(ur_map (path := fun i => (rf (bs b) i).1) (path2 := fun i => pl cs (rf (bs b) i).1) (g := pl cs) (fun i _ => rfl) h2).2.2, jp_map (path := fun i => (rf (bs b) i).1) (path2 := fun i => pl cs (rf (bs b) i).1) (g := pl cs) (fun i _ => rfl) h2⟩
