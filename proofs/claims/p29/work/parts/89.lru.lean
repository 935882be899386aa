/-! THE PURE SIDE: what a restore loads -/
/-- the store: how many it holds, which (the one used last in front), the loads -/
abbrev LT : Type := Nat × (Nat → Nat) × Nat
def ua (S : LT) (p : Nat) : Nat := fi (fun i => decide (S.2.1 i = p)) S.1
def ub (rm : Nat) (S : LT) (p : Nat) : Nat := if ua S p < S.1 then ua S p else if S.1 < rm then S.1 else S.1 - 1
def us (rm : Nat) (S : LT) (p : Nat) : LT := (if ua S p < S.1 then S.1 else if S.1 < rm then S.1 + 1 else S.1, (fun i => if i = 0 then p else if i ≤ ub rm S p then S.2.1 (i - 1) else S.2.1 i), S.2.2 + (if ua S p < S.1 then 0 else 1))
def ur (rm : Nat) (path : Nat → Nat) : Nat → LT
  | 0 => (0, fun _ => 0, 0)
  | k + 1 => us rm (ur rm path k) (path k)
theorem us_n {rm : Nat} {S : LT} {p : Nat} (h1 : 1 ≤ rm) (h : S.1 ≤ rm) : (us rm S p).1 ≤ rm ∧ 1 ≤ (us rm S p).1 := by
  show (if ua S p < S.1 then S.1 else if S.1 < rm then S.1 + 1 else S.1) ≤ rm ∧ 1 ≤ (if ua S p < S.1 then S.1 else if S.1 < rm then S.1 + 1 else S.1)
  split
  · omega
  · split <;> omega
theorem ur_n {rm : Nat} (path : Nat → Nat) (h1 : 1 ≤ rm) : ∀ k, (ur rm path k).1 ≤ rm := by
  intro k
  induction k with
  | zero => exact Nat.zero_le _
  | succ k ih => exact (us_n h1 ih).1
theorem us_v {rm B : Nat} {S : LT} {p : Nat} (h : ∀ i, i < S.1 → S.2.1 i < B) (hp : p < B) : ∀ i, i < (us rm S p).1 → (us rm S p).2.1 i < B := by
  intro i hi
  show (if i = 0 then p else if i ≤ ub rm S p then S.2.1 (i - 1) else S.2.1 i) < B
  have hi2 : i < (if ua S p < S.1 then S.1 else if S.1 < rm then S.1 + 1 else S.1) := hi
  split
  · exact hp
  · next h0 =>
    by_cases q : ua S p < S.1
    · rw [if_pos q] at hi2
      split
      · exact h _ (by omega)
      · exact h _ hi2
    · rw [if_neg q] at hi2
      by_cases z : S.1 < rm
      · rw [if_pos z] at hi2
        split
        · exact h _ (by omega)
        · next hn => exact absurd (show i ≤ ub rm S p by unfold ub; rw [if_neg q, if_pos z]; omega) hn
      · rw [if_neg z] at hi2
        split
        · exact h _ (by omega)
        · exact h _ hi2
/-- the store of the class -/
def SOr (d : SOT) (rm : Nat) (S : LT) (jm : Nat) (bf : Int32) : Prop := so_room d = J rm ∧ so_held d = J S.1 ∧ so_loads d = J S.2.2 ∧ so_jumps d = J jm ∧ so_before d = bf ∧ ∀ i, i < S.1 → so_loaded d i = J (S.2.1 i)
theorem find_S {d : SOT} {rm : Nat} {S : LT} {jm p : Nat} {bf : Int32} (h4 : rm ≤ 4) (hS : SOr d rm S jm bf) (hn : S.1 ≤ rm) (hv : ∀ i, i < S.1 → S.2.1 i < 2 ^ 31) (hp : p < 2 ^ 31) : F_X5_find d (J p) = some (J (ua S p)) := by
  obtain ⟨s1, s2, s3, s4, s5, s6⟩ := hS
  obtain ⟨f1, f2, f3⟩ := fi_spec (fun i => decide (S.2.1 i = p)) S.1
  unfold F_X5_find
  refine lp_run (fun i => J i) (ua S p) (fun self i hi => ?_) (fun self => ?_) (by unfold FU ua; omega)
  · unfold ua at hi
    have h2 := of_decide_eq_false (f2 i hi)
    have h3 := hv i (by omega)
    unfold B_X5_find_2
    simp (disch := omega) only [s2, s6 i (by omega), J_add, J_mul, J_sub, J_dec, J_nat, J_lt, J_le, J_eq, gd_J, gz_J, gb_J, J_div, J_mod, md_back, JN, J_neN, J_Nne, J_ltN, J_Nlt, J_leN, J_Nle, N_refl, J01, J_addN, J_pred, F_X9_at, F_X9_backupAt, F_X9_fails, F_X9_thrown, Option.bind_some, if_true, if_false, Nat.add_zero, Nat.zero_add, Nat.mul_zero, Nat.zero_mul, Nat.reduceAdd, Nat.reduceMul, Nat.reduceSub, Nat.reduceEqDiff, Nat.reduceLeDiff, Nat.reduceLT, Nat.reducePow, Nat.not_lt_zero, Nat.zero_le, eq_self, not_true_eq_false, not_false_eq_true, reduceIte, L_0, L_1, L_2, L_3, L_4, L_5, L_6, L_7, L_8, L_9, L_10, L_11, L_12, L_14, L_15, L_16, L_24, L_30, L_31, L_32, L_34, L_40, L_44, L_90, L_96, L_97, L_100, L_120, L_121, L_192, L_997, L_998, L_1000, L_1270, L_10000, L_17780, L_2540, L_32768, L_16510]
    rw [if_neg (by omega), if_neg h2]
  · unfold ua
    generalize fi (fun i => decide (S.2.1 i = p)) S.1 = a at *
    unfold B_X5_find_2
    simp (disch := omega) only [s2, J_add, J_mul, J_sub, J_dec, J_nat, J_lt, J_le, J_eq, gd_J, gz_J, gb_J, J_div, J_mod, md_back, JN, J_neN, J_Nne, J_ltN, J_Nlt, J_leN, J_Nle, N_refl, J01, J_addN, J_pred, F_X9_at, F_X9_backupAt, F_X9_fails, F_X9_thrown, Option.bind_some, if_true, if_false, Nat.add_zero, Nat.zero_add, Nat.mul_zero, Nat.zero_mul, Nat.reduceAdd, Nat.reduceMul, Nat.reduceSub, Nat.reduceEqDiff, Nat.reduceLeDiff, Nat.reduceLT, Nat.reducePow, Nat.not_lt_zero, Nat.zero_le, eq_self, not_true_eq_false, not_false_eq_true, reduceIte, L_0, L_1, L_2, L_3, L_4, L_5, L_6, L_7, L_8, L_9, L_10, L_11, L_12, L_14, L_15, L_16, L_24, L_30, L_31, L_32, L_34, L_40, L_44, L_90, L_96, L_97, L_100, L_120, L_121, L_192, L_997, L_998, L_1000, L_1270, L_10000, L_17780, L_2540, L_32768, L_16510]
    by_cases q : a < S.1
    · have h2 := of_decide_eq_true (f3 q)
      rw [if_neg (by omega)]
      simp (disch := omega) only [s6 a q, h2, J_add, J_mul, J_sub, J_dec, J_nat, J_lt, J_le, J_eq, gd_J, gz_J, gb_J, J_div, J_mod, md_back, JN, J_neN, J_Nne, J_ltN, J_Nlt, J_leN, J_Nle, N_refl, J01, J_addN, J_pred, F_X9_at, F_X9_backupAt, F_X9_fails, F_X9_thrown, Option.bind_some, if_true, if_false, Nat.add_zero, Nat.zero_add, Nat.mul_zero, Nat.zero_mul, Nat.reduceAdd, Nat.reduceMul, Nat.reduceSub, Nat.reduceEqDiff, Nat.reduceLeDiff, Nat.reduceLT, Nat.reducePow, Nat.not_lt_zero, Nat.zero_le, eq_self, not_true_eq_false, not_false_eq_true, reduceIte, L_0, L_1, L_2, L_3, L_4, L_5, L_6, L_7, L_8, L_9, L_10, L_11, L_12, L_14, L_15, L_16, L_24, L_30, L_31, L_32, L_34, L_40, L_44, L_90, L_96, L_97, L_100, L_120, L_121, L_192, L_997, L_998, L_1000, L_1270, L_10000, L_17780, L_2540, L_32768, L_16510]
    · rw [if_pos (by omega), show S.1 = a by omega]
theorem use_J82 {d : SOT} {jm p a n l : Nat} (ha : a < 4) : ∃ la, J_X5_use_82 (J p) d (J jm) (J a, J n, J l) = some (la, so_room d, J n, J p, J l, J jm) ∧ ∀ i, la i = if i = 0 then J p else if i ≤ a then so_loaded d (i - 1) else so_loaded d i := by
  refine ⟨upd (fun i => if 0 < i ∧ i ≤ a then so_loaded d (i - 1) else so_loaded d i) 0 (J p), ?_, ?_⟩
  · unfold J_X5_use_82
    have e0 : (J a, so_loaded d) = (fun j => (J (a - j), (fun i => if a - j < i ∧ i ≤ a then so_loaded d (i - 1) else so_loaded d i))) 0 := by
      show _ = (J a, (fun i => if a < i ∧ i ≤ a then so_loaded d (i - 1) else so_loaded d i))
      congr 1
      funext i
      rw [if_neg (by omega)]
    rw [e0]
    refine lp_run (fun j => (J (a - j), (fun i => if a - j < i ∧ i ≤ a then so_loaded d (i - 1) else so_loaded d i))) a (fun self j hj => ?_) (fun self => ?_) (by unfold FU; omega)
    · unfold B_X5_use_84
      simp (disch := omega) only [J_add, J_mul, J_sub, J_dec, J_nat, J_lt, J_le, J_eq, gd_J, gz_J, gb_J, J_div, J_mod, md_back, JN, J_neN, J_Nne, J_ltN, J_Nlt, J_leN, J_Nle, N_refl, J01, J_addN, J_pred, F_X9_at, F_X9_backupAt, F_X9_fails, F_X9_thrown, Option.bind_some, if_true, if_false, Nat.add_zero, Nat.zero_add, Nat.mul_zero, Nat.zero_mul, Nat.reduceAdd, Nat.reduceMul, Nat.reduceSub, Nat.reduceEqDiff, Nat.reduceLeDiff, Nat.reduceLT, Nat.reducePow, Nat.not_lt_zero, Nat.zero_le, eq_self, not_true_eq_false, not_false_eq_true, reduceIte, L_0, L_1, L_2, L_3, L_4, L_5, L_6, L_7, L_8, L_9, L_10, L_11, L_12, L_14, L_15, L_16, L_24, L_30, L_31, L_32, L_34, L_40, L_44, L_90, L_96, L_97, L_100, L_120, L_121, L_192, L_997, L_998, L_1000, L_1270, L_10000, L_17780, L_2540, L_32768, L_16510]
      rw [if_neg (by omega), show a - j - 1 = a - (j + 1) by omega]
      congr 2
      funext i
      by_cases q : i = a - j
      · subst q
        rw [upd_self, if_neg (by omega), if_pos (by omega)]
        congr 1
      · rw [upd_ne _ _ q]
        by_cases z : a - j < i ∧ i ≤ a
        · rw [if_pos z, if_pos (by omega)]
        · rw [if_neg z, if_neg (by omega)]
    · unfold B_X5_use_84 K_X5_use_108
      simp (disch := omega) only [Nat.sub_self, Nat.le_refl, J_add, J_mul, J_sub, J_dec, J_nat, J_lt, J_le, J_eq, gd_J, gz_J, gb_J, J_div, J_mod, md_back, JN, J_neN, J_Nne, J_ltN, J_Nlt, J_leN, J_Nle, N_refl, J01, J_addN, J_pred, F_X9_at, F_X9_backupAt, F_X9_fails, F_X9_thrown, Option.bind_some, if_true, if_false, Nat.add_zero, Nat.zero_add, Nat.mul_zero, Nat.zero_mul, Nat.reduceAdd, Nat.reduceMul, Nat.reduceSub, Nat.reduceEqDiff, Nat.reduceLeDiff, Nat.reduceLT, Nat.reducePow, Nat.not_lt_zero, Nat.zero_le, eq_self, not_true_eq_false, not_false_eq_true, reduceIte, L_0, L_1, L_2, L_3, L_4, L_5, L_6, L_7, L_8, L_9, L_10, L_11, L_12, L_14, L_15, L_16, L_24, L_30, L_31, L_32, L_34, L_40, L_44, L_90, L_96, L_97, L_100, L_120, L_121, L_192, L_997, L_998, L_1000, L_1270, L_10000, L_17780, L_2540, L_32768, L_16510]
  · intro i
    by_cases q : i = 0
    · subst q; rw [upd_self, if_pos rfl]
    · rw [upd_ne _ _ q, if_neg q]
      by_cases z : i ≤ a
      · rw [if_pos z, if_pos (by omega)]
      · rw [if_neg z, if_neg (by omega)]
theorem use_S {d : SOT} {rm : Nat} {S : LT} {jm p : Nat} {bf : Int32} (h1 : 1 ≤ rm) (h4 : rm ≤ 4) (hS : SOr d rm S jm bf) (hn : S.1 ≤ rm) (hv : ∀ i, i < S.1 → S.2.1 i < 2 ^ 31) (hp : p < 2 ^ 31) : ∃ d', F_X5_use d (J p) = some d' ∧ SOr d' rm (us rm S p) (jm + (if bf = NN ∨ bf = J p then 0 else 1)) (J p) := by
  obtain ⟨s1, s2, s3, s4, s5, s6⟩ := id hS
  have key : ∀ jm', ∃ d', J_X5_use_26 d (J p) (J jm') = some d' ∧ SOr d' rm (us rm S p) jm' (J p) := by
    intro jm'
    have hfind := find_S (d := (so_loaded d, so_room d, so_held d, J p, so_loads d, J jm')) (rm := rm) (S := S) (jm := jm') (bf := J p) h4 ⟨s1, s2, s3, rfl, rfl, s6⟩ hn hv hp
    obtain ⟨f1, f2, f3⟩ := fi_spec (fun i => decide (S.2.1 i = p)) S.1
    have fu : ua S p = fi (fun i => decide (S.2.1 i = p)) S.1 := rfl
    rw [← fu] at f1 f2 f3
    have fin : ∀ (a n l : Nat), a < 4 → a = ub rm S p → n = (us rm S p).1 → l = (us rm S p).2.2 → ∃ d', J_X5_use_82 (J p) d (J jm') (J a, J n, J l) = some d' ∧ SOr d' rm (us rm S p) jm' (J p) := by
      intro a n l ha e1 e2 e3
      obtain ⟨la, z1, z2⟩ := use_J82 (d := d) (jm := jm') (p := p) (a := a) (n := n) (l := l) ha
      refine ⟨_, z1, s1, by rw [← e2]; rfl, by rw [← e3]; rfl, rfl, rfl, fun i hi => ?_⟩
      show la i = J (if i = 0 then p else if i ≤ ub rm S p then S.2.1 (i - 1) else S.2.1 i)
      have hi2 : i < (if ua S p < S.1 then S.1 else if S.1 < rm then S.1 + 1 else S.1) := hi
      rw [z2, e1]
      by_cases q : i = 0
      · rw [if_pos q, if_pos q]
      · rw [if_neg q, if_neg q]
        unfold ub
        by_cases w : ua S p < S.1
        · rw [if_pos w] at hi2
          simp only [if_pos w]
          by_cases z : i ≤ ua S p
          · rw [if_pos z, if_pos z]; exact s6 _ (by omega)
          · rw [if_neg z, if_neg z]; exact s6 _ (by omega)
        · rw [if_neg w] at hi2
          simp only [if_neg w]
          by_cases x : S.1 < rm
          · rw [if_pos x] at hi2
            simp only [if_pos x]
            rw [if_pos (by omega), if_pos (by omega)]; exact s6 _ (by omega)
          · rw [if_neg x] at hi2
            simp only [if_neg x]
            rw [if_pos (by omega), if_pos (by omega)]; exact s6 _ (by omega)
    have u1 : (us rm S p).1 = if ua S p < S.1 then S.1 else if S.1 < rm then S.1 + 1 else S.1 := rfl
    have u2 : (us rm S p).2.2 = S.2.2 + (if ua S p < S.1 then 0 else 1) := rfl
    have u3 : ub rm S p = if ua S p < S.1 then ua S p else if S.1 < rm then S.1 else S.1 - 1 := rfl
    unfold J_X5_use_26
    rw [hfind]
    simp (disch := omega) only [s1, s2, s3, J_add, J_mul, J_sub, J_dec, J_nat, J_lt, J_le, J_eq, gd_J, gz_J, gb_J, J_div, J_mod, md_back, JN, J_neN, J_Nne, J_ltN, J_Nlt, J_leN, J_Nle, N_refl, J01, J_addN, J_pred, F_X9_at, F_X9_backupAt, F_X9_fails, F_X9_thrown, Option.bind_some, if_true, if_false, Nat.add_zero, Nat.zero_add, Nat.mul_zero, Nat.zero_mul, Nat.reduceAdd, Nat.reduceMul, Nat.reduceSub, Nat.reduceEqDiff, Nat.reduceLeDiff, Nat.reduceLT, Nat.reducePow, Nat.not_lt_zero, Nat.zero_le, eq_self, not_true_eq_false, not_false_eq_true, reduceIte, L_0, L_1, L_2, L_3, L_4, L_5, L_6, L_7, L_8, L_9, L_10, L_11, L_12, L_14, L_15, L_16, L_24, L_30, L_31, L_32, L_34, L_40, L_44, L_90, L_96, L_97, L_100, L_120, L_121, L_192, L_997, L_998, L_1000, L_1270, L_10000, L_17780, L_2540, L_32768, L_16510]
    by_cases w : ua S p < S.1
    · rw [if_pos w] at u1 u2 u3
      rw [if_neg (by omega)]
      exact fin _ _ _ (by omega) u3.symm u1.symm u2.symm
    · rw [if_neg w] at u1 u2 u3
      rw [if_pos (by omega)]
      by_cases x : S.1 < rm
      · rw [if_pos x] at u1 u3
        rw [if_neg (by omega)]
        exact fin _ _ _ (by omega) (by omega) u1.symm u2.symm
      · rw [if_neg x] at u1 u3
        rw [if_pos (by omega), show ua S p = S.1 by omega]
        exact fin _ _ _ (by omega) u3.symm u1.symm u2.symm
  unfold F_X5_use
  have e4 : (-1 : Int32) = NN := rfl
  rw [s5, s4, e4]
  by_cases q : bf = NN
  · rw [if_pos q, if_pos (Or.inl q)]
    exact key jm
  · rw [if_neg q]
    by_cases z : bf = J p
    · rw [if_pos z, if_pos (Or.inr z)]
      exact key jm
    · rw [if_neg z, if_neg (by simp [q, z]), show J jm + 1 = J (jm + 1) from J_add jm 1]
      exact key (jm + 1)
theorem open_S {d : SOT} {rm : Nat} (h1 : 1 ≤ rm) (h4 : rm ≤ 4) : ∃ d', F_X5_open d (J rm) = some d' ∧ SOr d' rm (0, fun _ => 0, 0) 0 NN := by
  have e : MMAX 1 (MMIN (J rm) 4) = J rm := by
    have h : ∀ r : Fin 5, 1 ≤ r.1 → MMAX 1 (MMIN (J r.1) 4) = J r.1 := by decide
    exact h ⟨rm, by omega⟩ h1
  exact ⟨_, rfl, e, rfl, rfl, rfl, rfl, fun i hi => absurd hi (Nat.not_lt_zero _)⟩
/-- the jumps along a path -/
def jp (path : Nat → Nat) (N : Nat) : Nat := cp (fun k => decide (0 < k ∧ path k ≠ path (k - 1))) N
def bfo (path : Nat → Nat) (k : Nat) : Int32 := if k = 0 then NN else J (path (k - 1))
theorem ur_v {rm B : Nat} {path : Nat → Nat} : ∀ {k : Nat}, (∀ i, i < k → path i < B) → ∀ i, i < (ur rm path k).1 → (ur rm path k).2.1 i < B := by
  intro k
  induction k with
  | zero => intro _ i hi; exact absurd hi (Nat.not_lt_zero _)
  | succ k ih => exact fun h => us_v (ih fun i hi => h i (by omega)) (h k (by omega))
/-- one more use along a path -/
theorem use_path {d : SOT} {rm k : Nat} {path : Nat → Nat} (h1 : 1 ≤ rm) (h4 : rm ≤ 4) (hS : SOr d rm (ur rm path k) (jp path k) (bfo path k)) (hv : ∀ i, i ≤ k → path i < 2 ^ 30) : ∃ d', F_X5_use d (J (path k)) = some d' ∧ SOr d' rm (ur rm path (k + 1)) (jp path (k + 1)) (bfo path (k + 1)) := by
  have hk := hv k (Nat.le_refl _)
  obtain ⟨d', z1, z2⟩ := use_S h1 h4 hS (ur_n path h1 k) (fun i hi => by have := ur_v (rm := rm) (B := 2 ^ 30) (path := path) (k := k) (fun i hi => hv i (by omega)) i hi; omega) (p := path k) (by omega)
  refine ⟨d', z1, ?_⟩
  have e1 : jp path (k + 1) = jp path k + (if bfo path k = NN ∨ bfo path k = J (path k) then 0 else 1) := by
    unfold jp
    rw [cp_step]
    congr 1
    unfold bfo
    by_cases q : k = 0
    · rw [if_pos q, if_pos (Or.inl rfl), if_neg (by simp [q])]
    · have hk2 := hv (k - 1) (by omega)
      rw [if_neg q]
      have e2 : (J (path (k - 1)) = NN ∨ J (path (k - 1)) = J (path k)) ↔ path (k - 1) = path k := by
        rw [J_neN (by omega), J_eq (by omega) (by omega)]
        simp
      by_cases z : path (k - 1) = path k
      · rw [if_pos (e2.mpr z), if_neg (by simp [z])]
      · rw [if_neg (fun w => z (e2.mp w)), if_pos (decide_eq_true ⟨by omega, fun w => z w.symm⟩)]
  rw [e1]
  exact z2
theorem plan_pass {d : PLT} {s : SOT} {rm N : Nat} {path : Nat → Nat} (h1 : 1 ≤ rm) (h4 : rm ≤ 4) (hN : N ≤ 15) (hc : pl_chunks d = J N) (hp : ∀ i, i < N → pl_places d i = J (path i) ∧ path i < 2 ^ 30) (hS : SOr s rm (0, fun _ => 0, 0) 0 NN) : ∃ s', F_X4_passThrough d s = some s' ∧ so_loads s' = J (ur rm path N).2.2 := by
  have go : ∀ (m k fuel : Nat) (s : SOT), k + m = N → SOr s rm (ur rm path k) (jp path k) (bfo path k) → m < fuel → ∃ s', lp (B_X4_passThrough_2 d) fuel (J k, s) = some s' ∧ so_loads s' = J (ur rm path N).2.2 := by
    intro m
    induction m with
    | zero =>
      intro k fuel s hk hs hf
      obtain ⟨fuel, rfl⟩ : ∃ q, fuel = q + 1 := ⟨fuel - 1, by omega⟩
      obtain rfl : k = N := by omega
      refine ⟨s, ?_, hs.2.2.1⟩
      show B_X4_passThrough_2 _ _ _ = _
      unfold B_X4_passThrough_2
      simp (disch := omega) only [hc, Nat.le_refl, J_add, J_mul, J_sub, J_dec, J_nat, J_lt, J_le, J_eq, gd_J, gz_J, gb_J, J_div, J_mod, md_back, JN, J_neN, J_Nne, J_ltN, J_Nlt, J_leN, J_Nle, N_refl, J01, J_addN, J_pred, F_X9_at, F_X9_backupAt, F_X9_fails, F_X9_thrown, Option.bind_some, if_true, if_false, Nat.add_zero, Nat.zero_add, Nat.mul_zero, Nat.zero_mul, Nat.reduceAdd, Nat.reduceMul, Nat.reduceSub, Nat.reduceEqDiff, Nat.reduceLeDiff, Nat.reduceLT, Nat.reducePow, Nat.not_lt_zero, Nat.zero_le, eq_self, not_true_eq_false, not_false_eq_true, reduceIte, L_0, L_1, L_2, L_3, L_4, L_5, L_6, L_7, L_8, L_9, L_10, L_11, L_12, L_14, L_15, L_16, L_24, L_30, L_31, L_32, L_34, L_40, L_44, L_90, L_96, L_97, L_100, L_120, L_121, L_192, L_997, L_998, L_1000, L_1270, L_10000, L_17780, L_2540, L_32768, L_16510]
    | succ m ih =>
      intro k fuel s hk hs hf
      obtain ⟨fuel, rfl⟩ : ∃ q, fuel = q + 1 := ⟨fuel - 1, by omega⟩
      obtain ⟨d', z1, z2⟩ := use_path h1 h4 hs (fun i hi => (hp i (by omega)).2)
      obtain ⟨s', y1, y2⟩ := ih (k + 1) fuel d' (by omega) z2 (by omega)
      refine ⟨s', ?_, y2⟩
      show B_X4_passThrough_2 _ (lp _ fuel) _ = _
      generalize lp (B_X4_passThrough_2 d) fuel = self at y1 ⊢
      unfold B_X4_passThrough_2
      simp (disch := omega) only [hc, (hp k (by omega)).1, z1, J_add, J_mul, J_sub, J_dec, J_nat, J_lt, J_le, J_eq, gd_J, gz_J, gb_J, J_div, J_mod, md_back, JN, J_neN, J_Nne, J_ltN, J_Nlt, J_leN, J_Nle, N_refl, J01, J_addN, J_pred, F_X9_at, F_X9_backupAt, F_X9_fails, F_X9_thrown, Option.bind_some, if_true, if_false, Nat.add_zero, Nat.zero_add, Nat.mul_zero, Nat.zero_mul, Nat.reduceAdd, Nat.reduceMul, Nat.reduceSub, Nat.reduceEqDiff, Nat.reduceLeDiff, Nat.reduceLT, Nat.reducePow, Nat.not_lt_zero, Nat.zero_le, eq_self, not_true_eq_false, not_false_eq_true, reduceIte, L_0, L_1, L_2, L_3, L_4, L_5, L_6, L_7, L_8, L_9, L_10, L_11, L_12, L_14, L_15, L_16, L_24, L_30, L_31, L_32, L_34, L_40, L_44, L_90, L_96, L_97, L_100, L_120, L_121, L_192, L_997, L_998, L_1000, L_1270, L_10000, L_17780, L_2540, L_32768, L_16510]
      rw [if_neg (by omega)]
      exact y1
  exact go N 0 FU s (by omega) hS (by unfold FU; omega)
theorem loads_D {d : DKT} {s : SOT} {se : Nat → Nat} {nx : Nat} {cs : List Ct} {bs : Nat → List (Nat × Nat)} (hd : RDc d se nx cs) (hD : RDb d cs bs) (hn : Wn cs) (hW : Wc cs nx) (hb : Wb cs bs) (hs : Ws se) {b : Nat} (h8 : b < 8) : ∃ s', F_X8_loads s d (J b) = some (J (ur (se 4) (fun i => pl cs (rf (bs b) i).1) (bs b).length).2.2, s') ∧ F_X8_jumps s d (J b) = some (J (jp (fun i => pl cs (rf (bs b) i).1) (bs b).length), s') := by
  obtain ⟨v1, v2⟩ := hb b h8
  have n1 := hn.1
  have hst : 1 ≤ se 4 ∧ se 4 ≤ 4 := ⟨hs.2.2.2.2.2.2.2.2.1, hs.2.2.2.2.2.2.2.2.2⟩
  have e4 : (4 : Int32) = J 4 := rfl
  obtain ⟨s0, o1, o2⟩ := open_S (d := s) hst.1 hst.2
  have hpl : ∀ i, i < (bs b).length → pl cs (rf (bs b) i).1 < 2 ^ 30 := fun i hi => by have := (pl_RV hW (v2 i hi)).1; omega
  have go : ∀ (m k fuel : Nat) (s : SOT), k + m = (bs b).length → SOr s (se 4) (ur (se 4) (fun i => pl cs (rf (bs b) i).1) k) (jp (fun i => pl cs (rf (bs b) i).1) k) (bfo (fun i => pl cs (rf (bs b) i).1) k) → m < fuel → ∃ s', lp (B_X1_passThrough_2 d (J b)) fuel (J k, s) = some s' ∧ so_loads s' = J (ur (se 4) (fun i => pl cs (rf (bs b) i).1) (bs b).length).2.2 ∧ so_jumps s' = J (jp (fun i => pl cs (rf (bs b) i).1) (bs b).length) := by
    intro m
    induction m with
    | zero =>
      intro k fuel s hk hs hf
      obtain ⟨fuel, rfl⟩ : ∃ q, fuel = q + 1 := ⟨fuel - 1, by omega⟩
      obtain rfl : k = (bs b).length := by omega
      refine ⟨s, ?_, hs.2.2.1, hs.2.2.2.1⟩
      show B_X1_passThrough_2 _ _ _ _ = _
      unfold B_X1_passThrough_2
      simp (disch := omega) only [chunksOf_D hD hb h8, Nat.le_refl, J_add, J_mul, J_sub, J_dec, J_nat, J_lt, J_le, J_eq, gd_J, gz_J, gb_J, J_div, J_mod, md_back, JN, J_neN, J_Nne, J_ltN, J_Nlt, J_leN, J_Nle, N_refl, J01, J_addN, J_pred, F_X9_at, F_X9_backupAt, F_X9_fails, F_X9_thrown, Option.bind_some, if_true, if_false, Nat.add_zero, Nat.zero_add, Nat.mul_zero, Nat.zero_mul, Nat.reduceAdd, Nat.reduceMul, Nat.reduceSub, Nat.reduceEqDiff, Nat.reduceLeDiff, Nat.reduceLT, Nat.reducePow, Nat.not_lt_zero, Nat.zero_le, eq_self, not_true_eq_false, not_false_eq_true, reduceIte, L_0, L_1, L_2, L_3, L_4, L_5, L_6, L_7, L_8, L_9, L_10, L_11, L_12, L_14, L_15, L_16, L_24, L_30, L_31, L_32, L_34, L_40, L_44, L_90, L_96, L_97, L_100, L_120, L_121, L_192, L_997, L_998, L_1000, L_1270, L_10000, L_17780, L_2540, L_32768, L_16510]
    | succ m ih =>
      intro k fuel s hk hs hf
      obtain ⟨fuel, rfl⟩ : ∃ q, fuel = q + 1 := ⟨fuel - 1, by omega⟩
      obtain ⟨d', z1, z2⟩ := use_path hst.1 hst.2 hs (fun i hi => hpl i (by omega))
      obtain ⟨s', y1, y2⟩ := ih (k + 1) fuel d' (by omega) z2 (by omega)
      refine ⟨s', ?_, y2⟩
      show B_X1_passThrough_2 _ _ (lp _ fuel) _ = _
      generalize lp (B_X1_passThrough_2 d (J b)) fuel = self at y1 ⊢
      unfold B_X1_passThrough_2
      simp (disch := omega) only [chunksOf_D hD hb h8, entryReferred_D hD hb h8 (show k < (bs b).length by omega), placeRef_D hd hn hW (v2 k (by omega)), z1, J_add, J_mul, J_sub, J_dec, J_nat, J_lt, J_le, J_eq, gd_J, gz_J, gb_J, J_div, J_mod, md_back, JN, J_neN, J_Nne, J_ltN, J_Nlt, J_leN, J_Nle, N_refl, J01, J_addN, J_pred, F_X9_at, F_X9_backupAt, F_X9_fails, F_X9_thrown, Option.bind_some, if_true, if_false, Nat.add_zero, Nat.zero_add, Nat.mul_zero, Nat.zero_mul, Nat.reduceAdd, Nat.reduceMul, Nat.reduceSub, Nat.reduceEqDiff, Nat.reduceLeDiff, Nat.reduceLT, Nat.reducePow, Nat.not_lt_zero, Nat.zero_le, eq_self, not_true_eq_false, not_false_eq_true, reduceIte, L_0, L_1, L_2, L_3, L_4, L_5, L_6, L_7, L_8, L_9, L_10, L_11, L_12, L_14, L_15, L_16, L_24, L_30, L_31, L_32, L_34, L_40, L_44, L_90, L_96, L_97, L_100, L_120, L_121, L_192, L_997, L_998, L_1000, L_1270, L_10000, L_17780, L_2540, L_32768, L_16510]
      rw [if_neg (by omega)]
      exact y1
  obtain ⟨s', y1, y2, y3⟩ := go (bs b).length 0 FU s0 (by omega) o2 (by unfold FU; omega)
  refine ⟨s', ?_, ?_⟩
  · unfold F_X8_loads F_X1_passThrough
    rw [e4, settingAt_D hd (by omega)]
    simp only [Option.bind_some]
    rw [o1]
    simp only [Option.bind_some]
    have y1' : lp (B_X1_passThrough_2 d (J b)) FU (0, s0) = some s' := y1
    rw [y1', ← y2]
    rfl
  · unfold F_X8_jumps F_X1_passThrough
    rw [e4, settingAt_D hd (by omega)]
    simp only [Option.bind_some]
    rw [o1]
    simp only [Option.bind_some]
    have y1' : lp (B_X1_passThrough_2 d (J b)) FU (0, s0) = some s' := y1
    rw [y1', ← y3]
    rfl
