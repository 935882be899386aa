/-! THE PURE SIDE: chunks as lists of worths; their codes -/
def c8 (l : List Nat) : Nat := l.foldl (fun c w => c * 8 + w - 1) 1
def c9 (l : List Nat) : Nat := l.foldl (fun c w => 9 * c + w) 0
def sc (l : List Nat) : Nat := l.foldl (fun c w => (31 * c + w) % 997) 7
def vl (l : List Nat) : Prop := ∀ w ∈ l, 1 ≤ w ∧ w ≤ 8
def vch (l : List Nat) : Prop := 1 ≤ l.length ∧ l.length ≤ 6 ∧ vl l
theorem J_and7 {a : Nat} (ha : a < 2 ^ 31) : J a &&& J 7 = J (a % 8) := J_and ha 3 (by omega)
theorem J_and3 {a : Nat} (ha : a < 2 ^ 31) : J a &&& J 3 = J (a % 4) := J_and ha 2 (by omega)
theorem tk_succ {α : Type} {l : List α} {m : Nat} {w : α} (h : l[m]? = some w) : l.take (m + 1) = l.take m ++ [w] := by
  rw [List.take_add_one, h]
  rfl
theorem c8_app (l : List Nat) (w : Nat) : c8 (l ++ [w]) = c8 l * 8 + w - 1 := by simp [c8]
theorem c9_app (l : List Nat) (w : Nat) : c9 (l ++ [w]) = 9 * c9 l + w := by simp [c9]
theorem sc_app (l : List Nat) (w : Nat) : sc (l ++ [w]) = (31 * sc l + w) % 997 := by simp [sc]
theorem vl_at {l : List Nat} (h : vl l) {m : Nat} (hm : m < l.length) : ∃ w, l[m]? = some w ∧ 1 ≤ w ∧ w ≤ 8 := by
  refine ⟨l[m], List.getElem?_eq_getElem hm, h _ (List.getElem_mem hm)⟩
theorem c8_tk {l : List Nat} (h : vl l) : ∀ m, m ≤ l.length → 8 ^ m ≤ c8 (l.take m) ∧ c8 (l.take m) < 2 * 8 ^ m := by
  intro m
  induction m with
  | zero => intro _; rw [List.take_zero]; exact ⟨Nat.le_refl _, by decide⟩
  | succ m ih =>
    intro hm
    obtain ⟨w, h1, h2, h3⟩ := vl_at h (m := m) (by omega)
    have h4 := ih (by omega)
    rw [tk_succ h1, c8_app, Nat.pow_succ]
    omega
theorem c9_tk {l : List Nat} (h : vl l) : ∀ m, m ≤ l.length → c9 (l.take m) < 9 ^ m ∧ (1 ≤ m → 1 ≤ c9 (l.take m)) := by
  intro m
  induction m with
  | zero => intro _; rw [List.take_zero]; exact ⟨by decide, fun q => absurd q (by omega)⟩
  | succ m ih =>
    intro hm
    obtain ⟨w, h1, h2, h3⟩ := vl_at h (m := m) (by omega)
    have h4 := ih (by omega)
    rw [tk_succ h1, c9_app, Nat.pow_succ]
    omega
theorem p8 {m : Nat} (h : m ≤ 6) : 8 ^ m ≤ 262144 := Nat.le_trans (Nat.pow_le_pow_right (by omega) h) (by decide)
theorem p9 {m : Nat} (h : m ≤ 6) : 9 ^ m ≤ 531441 := Nat.le_trans (Nat.pow_le_pow_right (by omega) h) (by decide)
theorem c8_lt {l : List Nat} (h : vl l) {m : Nat} (hm : m ≤ l.length) (h6 : l.length ≤ 6) : c8 (l.take m) < 524288 := by
  have h1 := (c8_tk h m hm).2
  have h2 := p8 (m := m) (by omega)
  omega
theorem c9_lt {l : List Nat} (h : vl l) {m : Nat} (hm : m ≤ l.length) (h6 : l.length ≤ 6) : c9 (l.take m) < 531441 := by
  have h1 := (c9_tk h m hm).1
  have h2 := p9 (m := m) (by omega)
  omega
theorem c8_ge {l : List Nat} (h : vl l) {m : Nat} (hm : m ≤ l.length) (h1 : 1 ≤ m) : 8 ≤ c8 (l.take m) := by
  have h2 := (c8_tk h m hm).1
  have h3 : 8 ^ 1 ≤ 8 ^ m := Nat.pow_le_pow_right (by omega) h1
  omega
theorem c8_dv {l : List Nat} (h : vl l) {m : Nat} (hm : m < l.length) : c8 (l.take (m + 1)) / 8 = c8 (l.take m) := by
  obtain ⟨w, h1, h2, h3⟩ := vl_at h hm
  rw [tk_succ h1, c8_app]
  omega
theorem c9_dv {l : List Nat} (h : vl l) {m : Nat} (hm : m < l.length) : c9 (l.take (m + 1)) / 9 = c9 (l.take m) := by
  obtain ⟨w, h1, h2, h3⟩ := vl_at h hm
  rw [tk_succ h1, c9_app]
  omega
theorem c8_sh {l : List Nat} (h : vl l) : ∀ j, j ≤ l.length → c8 l / 2 ^ (3 * j) = c8 (l.take (l.length - j)) := by
  intro j
  induction j with
  | zero => intro _; simp
  | succ j ih =>
    intro hj
    have e : 2 ^ (3 * (j + 1)) = 2 ^ (3 * j) * 8 := by rw [show 3 * (j + 1) = 3 * j + 3 by omega, Nat.pow_add]
    rw [e, ← Nat.div_div_eq_div_mul, ih (by omega)]
    have h1 := c8_dv h (m := l.length - (j + 1)) (by omega)
    rw [show l.length - (j + 1) + 1 = l.length - j by omega] at h1
    exact h1
theorem tk_all {α : Type} (l : List α) : l.take l.length = l := List.take_length
/-- how many letters: the class -/
theorem count_J {l : List Nat} (h : vch l) : F_X2_count (J (c8 l)) = some (J l.length) := by
  obtain ⟨h1, h6, hv⟩ := h
  have e0 : ((0 : Int32), J (c8 l)) = (fun j => (J j, J (c8 (l.take (l.length - j))))) 0 := by
    show _ = (J 0, J (c8 (l.take l.length)))
    rw [tk_all]
    rfl
  unfold F_X2_count
  rw [e0]
  refine lp_run (fun j => (J j, J (c8 (l.take (l.length - j))))) l.length (fun self j hj => ?_) (fun self => ?_) (by unfold FU; omega)
  · have b1 := c8_lt hv (m := l.length - j) (by omega) h6
    have b2 := c8_ge hv (m := l.length - j) (by omega) (by omega)
    have b3 := c8_dv hv (m := l.length - (j + 1)) (by omega)
    rw [show l.length - (j + 1) + 1 = l.length - j by omega] at b3
    unfold B_X2_count_4
    simp (disch := omega) only [J_shr, Nat.reducePow, b3, J_add, J_mul, J_sub, J_dec, J_nat, J_lt, J_le, J_eq, gd_J, gz_J, gb_J, J_div, J_mod, md_back, JN, J_neN, J_Nne, J_ltN, J_Nlt, J_leN, J_Nle, N_refl, J01, J_addN, J_pred, F_X9_at, F_X9_backupAt, F_X9_fails, F_X9_thrown, Option.bind_some, if_true, if_false, Nat.add_zero, Nat.zero_add, Nat.mul_zero, Nat.zero_mul, Nat.reduceAdd, Nat.reduceMul, Nat.reduceSub, Nat.reduceEqDiff, Nat.reduceLeDiff, Nat.reduceLT, Nat.reducePow, Nat.not_lt_zero, Nat.zero_le, eq_self, not_true_eq_false, not_false_eq_true, reduceIte, L_0, L_1, L_2, L_3, L_4, L_5, L_6, L_7, L_8, L_9, L_10, L_11, L_12, L_14, L_15, L_16, L_24, L_30, L_31, L_32, L_34, L_40, L_44, L_90, L_96, L_97, L_100, L_120, L_121, L_192, L_997, L_998, L_1000, L_1270, L_10000, L_17780, L_2540, L_32768, L_16510]
    rw [if_neg (by omega), if_neg (by omega)]
  · unfold B_X2_count_4
    have b1 : c8 (l.take (l.length - l.length)) = 1 := by rw [Nat.sub_self, List.take_zero]; rfl
    simp (disch := omega) only [b1, J_add, J_mul, J_sub, J_dec, J_nat, J_lt, J_le, J_eq, gd_J, gz_J, gb_J, J_div, J_mod, md_back, JN, J_neN, J_Nne, J_ltN, J_Nlt, J_leN, J_Nle, N_refl, J01, J_addN, J_pred, F_X9_at, F_X9_backupAt, F_X9_fails, F_X9_thrown, Option.bind_some, if_true, if_false, Nat.add_zero, Nat.zero_add, Nat.mul_zero, Nat.zero_mul, Nat.reduceAdd, Nat.reduceMul, Nat.reduceSub, Nat.reduceEqDiff, Nat.reduceLeDiff, Nat.reduceLT, Nat.reducePow, Nat.not_lt_zero, Nat.zero_le, eq_self, not_true_eq_false, not_false_eq_true, reduceIte, L_0, L_1, L_2, L_3, L_4, L_5, L_6, L_7, L_8, L_9, L_10, L_11, L_12, L_14, L_15, L_16, L_24, L_30, L_31, L_32, L_34, L_40, L_44, L_90, L_96, L_97, L_100, L_120, L_121, L_192, L_997, L_998, L_1000, L_1270, L_10000, L_17780, L_2540, L_32768, L_16510]
theorem lengthOf_J {l : List Nat} (h : vch l) : F_X9_lengthOf (J (c9 l)) = some (J l.length) := by
  obtain ⟨h1, h6, hv⟩ := h
  have e0 : ((0 : Int32), J (c9 l)) = (fun j => (J j, J (c9 (l.take (l.length - j))))) 0 := by
    show _ = (J 0, J (c9 (l.take l.length)))
    rw [tk_all]
    rfl
  unfold F_X9_lengthOf
  rw [e0]
  refine lp_run (fun j => (J j, J (c9 (l.take (l.length - j))))) l.length (fun self j hj => ?_) (fun self => ?_) (by unfold FU; omega)
  · have b1 := c9_lt hv (m := l.length - j) (by omega) h6
    have b2 := (c9_tk hv (l.length - j) (by omega)).2 (by omega)
    have b3 := c9_dv hv (m := l.length - (j + 1)) (by omega)
    rw [show l.length - (j + 1) + 1 = l.length - j by omega] at b3
    unfold B_X9_lengthOf_4
    simp (disch := omega) only [b3, L_9, J_add, J_mul, J_sub, J_dec, J_nat, J_lt, J_le, J_eq, gd_J, gz_J, gb_J, J_div, J_mod, md_back, JN, J_neN, J_Nne, J_ltN, J_Nlt, J_leN, J_Nle, N_refl, J01, J_addN, J_pred, F_X9_at, F_X9_backupAt, F_X9_fails, F_X9_thrown, Option.bind_some, if_true, if_false, Nat.add_zero, Nat.zero_add, Nat.mul_zero, Nat.zero_mul, Nat.reduceAdd, Nat.reduceMul, Nat.reduceSub, Nat.reduceEqDiff, Nat.reduceLeDiff, Nat.reduceLT, Nat.reducePow, Nat.not_lt_zero, Nat.zero_le, eq_self, not_true_eq_false, not_false_eq_true, reduceIte, L_0, L_1, L_2, L_3, L_4, L_5, L_6, L_7, L_8, L_9, L_10, L_11, L_12, L_14, L_15, L_16, L_24, L_30, L_31, L_32, L_34, L_40, L_44, L_90, L_96, L_97, L_100, L_120, L_121, L_192, L_997, L_998, L_1000, L_1270, L_10000, L_17780, L_2540, L_32768, L_16510]
    rw [if_neg (by omega)]
  · unfold B_X9_lengthOf_4
    have b1 : c9 (l.take (l.length - l.length)) = 0 := by rw [Nat.sub_self, List.take_zero]; rfl
    simp (disch := omega) only [b1, J_add, J_mul, J_sub, J_dec, J_nat, J_lt, J_le, J_eq, gd_J, gz_J, gb_J, J_div, J_mod, md_back, JN, J_neN, J_Nne, J_ltN, J_Nlt, J_leN, J_Nle, N_refl, J01, J_addN, J_pred, F_X9_at, F_X9_backupAt, F_X9_fails, F_X9_thrown, Option.bind_some, if_true, if_false, Nat.add_zero, Nat.zero_add, Nat.mul_zero, Nat.zero_mul, Nat.reduceAdd, Nat.reduceMul, Nat.reduceSub, Nat.reduceEqDiff, Nat.reduceLeDiff, Nat.reduceLT, Nat.reducePow, Nat.not_lt_zero, Nat.zero_le, eq_self, not_true_eq_false, not_false_eq_true, reduceIte, L_0, L_1, L_2, L_3, L_4, L_5, L_6, L_7, L_8, L_9, L_10, L_11, L_12, L_14, L_15, L_16, L_24, L_30, L_31, L_32, L_34, L_40, L_44, L_90, L_96, L_97, L_100, L_120, L_121, L_192, L_997, L_998, L_1000, L_1270, L_10000, L_17780, L_2540, L_32768, L_16510]
theorem worth_J {l : List Nat} (h : vch l) {i w : Nat} (hi : l[i]? = some w) : F_X2_worth (J (c8 l)) (J i) = some (J w) := by
  have hc := count_J h
  obtain ⟨h1, h6, hv⟩ := h
  have hil : i < l.length := (List.getElem?_eq_some_iff.mp hi).1
  have b1 := c8_lt hv (m := l.length) (by omega) h6
  rw [tk_all] at b1
  have b2 := c8_sh hv (l.length - 1 - i) (by omega)
  rw [show l.length - (l.length - 1 - i) = i + 1 by omega, tk_succ hi, c8_app] at b2
  obtain ⟨w', e1, e2, e3⟩ := vl_at hv hil
  rw [hi] at e1
  cases e1
  have b3 := c8_lt hv (m := i) (by omega) h6
  unfold F_X2_worth
  rw [hc]
  simp (disch := omega) only [J_shr, b2, J_and7, J_add, J_mul, J_sub, J_dec, J_nat, J_lt, J_le, J_eq, gd_J, gz_J, gb_J, J_div, J_mod, md_back, JN, J_neN, J_Nne, J_ltN, J_Nlt, J_leN, J_Nle, N_refl, J01, J_addN, J_pred, F_X9_at, F_X9_backupAt, F_X9_fails, F_X9_thrown, Option.bind_some, if_true, if_false, Nat.add_zero, Nat.zero_add, Nat.mul_zero, Nat.zero_mul, Nat.reduceAdd, Nat.reduceMul, Nat.reduceSub, Nat.reduceEqDiff, Nat.reduceLeDiff, Nat.reduceLT, Nat.reducePow, Nat.not_lt_zero, Nat.zero_le, eq_self, not_true_eq_false, not_false_eq_true, reduceIte, L_0, L_1, L_2, L_3, L_4, L_5, L_6, L_7, L_8, L_9, L_10, L_11, L_12, L_14, L_15, L_16, L_24, L_30, L_31, L_32, L_34, L_40, L_44, L_90, L_96, L_97, L_100, L_120, L_121, L_192, L_997, L_998, L_1000, L_1270, L_10000, L_17780, L_2540, L_32768, L_16510]
  rw [show 1 + (c8 (l.take i) * 8 + w - 1) % 8 = w by omega]
theorem sign_J {l : List Nat} (h : vch l) {i w : Nat} (hi : l[i]? = some w) : F_X2_sign (J (c8 l)) (J i) = some (J (96 + w)) := by
  unfold F_X2_sign
  rw [worth_J h hi]
  simp (disch := omega) only [J_add, J_mul, J_sub, J_dec, J_nat, J_lt, J_le, J_eq, gd_J, gz_J, gb_J, J_div, J_mod, md_back, JN, J_neN, J_Nne, J_ltN, J_Nlt, J_leN, J_Nle, N_refl, J01, J_addN, J_pred, F_X9_at, F_X9_backupAt, F_X9_fails, F_X9_thrown, Option.bind_some, if_true, if_false, Nat.add_zero, Nat.zero_add, Nat.mul_zero, Nat.zero_mul, Nat.reduceAdd, Nat.reduceMul, Nat.reduceSub, Nat.reduceEqDiff, Nat.reduceLeDiff, Nat.reduceLT, Nat.reducePow, Nat.not_lt_zero, Nat.zero_le, eq_self, not_true_eq_false, not_false_eq_true, reduceIte, L_0, L_1, L_2, L_3, L_4, L_5, L_6, L_7, L_8, L_9, L_10, L_11, L_12, L_14, L_15, L_16, L_24, L_30, L_31, L_32, L_34, L_40, L_44, L_90, L_96, L_97, L_100, L_120, L_121, L_192, L_997, L_998, L_1000, L_1270, L_10000, L_17780, L_2540, L_32768, L_16510]
  rw [show 97 + w - 1 = 96 + w by omega]
theorem worthAt_J {l : List Nat} (h : vch l) {i w : Nat} (hi : l[i]? = some w) : F_X9_worthAt (J (c9 l)) (J i) = some (J w) := by
  have hc := lengthOf_J h
  obtain ⟨h1, h6, hv⟩ := h
  have hil : i < l.length := (List.getElem?_eq_some_iff.mp hi).1
  obtain ⟨w', e1, e2, e3⟩ := vl_at hv hil
  rw [hi] at e1
  cases e1
  unfold F_X9_worthAt
  rw [hc]
  simp (disch := omega) only [J_add, J_mul, J_sub, J_dec, J_nat, J_lt, J_le, J_eq, gd_J, gz_J, gb_J, J_div, J_mod, md_back, JN, J_neN, J_Nne, J_ltN, J_Nlt, J_leN, J_Nle, N_refl, J01, J_addN, J_pred, F_X9_at, F_X9_backupAt, F_X9_fails, F_X9_thrown, Option.bind_some, if_true, if_false, Nat.add_zero, Nat.zero_add, Nat.mul_zero, Nat.zero_mul, Nat.reduceAdd, Nat.reduceMul, Nat.reduceSub, Nat.reduceEqDiff, Nat.reduceLeDiff, Nat.reduceLT, Nat.reducePow, Nat.not_lt_zero, Nat.zero_le, eq_self, not_true_eq_false, not_false_eq_true, reduceIte, L_0, L_1, L_2, L_3, L_4, L_5, L_6, L_7, L_8, L_9, L_10, L_11, L_12, L_14, L_15, L_16, L_24, L_30, L_31, L_32, L_34, L_40, L_44, L_90, L_96, L_97, L_100, L_120, L_121, L_192, L_997, L_998, L_1000, L_1270, L_10000, L_17780, L_2540, L_32768, L_16510]
  have e0 : (J (c9 l), J (l.length - 1)) = (fun j => (J (c9 (l.take (l.length - j))), J (l.length - 1 - j))) 0 := by
    show _ = (J (c9 (l.take l.length)), J (l.length - 1))
    rw [tk_all]
  rw [e0]
  refine lp_run (fun j => (J (c9 (l.take (l.length - j))), J (l.length - 1 - j))) (l.length - 1 - i) (fun self j hj => ?_) (fun self => ?_) (by unfold FU; omega)
  · have b1 := c9_lt hv (m := l.length - j) (by omega) h6
    have b3 := c9_dv hv (m := l.length - (j + 1)) (by omega)
    rw [show l.length - (j + 1) + 1 = l.length - j by omega] at b3
    unfold B_X9_worthAt_9
    simp (disch := omega) only [b3, L_9, J_add, J_mul, J_sub, J_dec, J_nat, J_lt, J_le, J_eq, gd_J, gz_J, gb_J, J_div, J_mod, md_back, JN, J_neN, J_Nne, J_ltN, J_Nlt, J_leN, J_Nle, N_refl, J01, J_addN, J_pred, F_X9_at, F_X9_backupAt, F_X9_fails, F_X9_thrown, Option.bind_some, if_true, if_false, Nat.add_zero, Nat.zero_add, Nat.mul_zero, Nat.zero_mul, Nat.reduceAdd, Nat.reduceMul, Nat.reduceSub, Nat.reduceEqDiff, Nat.reduceLeDiff, Nat.reduceLT, Nat.reducePow, Nat.not_lt_zero, Nat.zero_le, eq_self, not_true_eq_false, not_false_eq_true, reduceIte, L_0, L_1, L_2, L_3, L_4, L_5, L_6, L_7, L_8, L_9, L_10, L_11, L_12, L_14, L_15, L_16, L_24, L_30, L_31, L_32, L_34, L_40, L_44, L_90, L_96, L_97, L_100, L_120, L_121, L_192, L_997, L_998, L_1000, L_1270, L_10000, L_17780, L_2540, L_32768, L_16510]
    rw [if_neg (by omega), show l.length - 1 - j - 1 = l.length - 1 - (j + 1) by omega]
  · have b1 : l.length - (l.length - 1 - i) = i + 1 := by omega
    have b2 : l.length - 1 - (l.length - 1 - i) = i := by omega
    have b3 := c9_lt hv (m := i) (by omega) h6
    have b4 := c9_lt hv (m := i + 1) (by omega) h6
    rw [tk_succ hi, c9_app] at b4
    have b5 : (9 * c9 (l.take i) + w) % 9 = w := by omega
    unfold B_X9_worthAt_9 K_X9_worthAt_25
    simp (disch := omega) only [b1, b2, tk_succ hi, c9_app, L_9, Nat.le_refl, b5, J_add, J_mul, J_sub, J_dec, J_nat, J_lt, J_le, J_eq, gd_J, gz_J, gb_J, J_div, J_mod, md_back, JN, J_neN, J_Nne, J_ltN, J_Nlt, J_leN, J_Nle, N_refl, J01, J_addN, J_pred, F_X9_at, F_X9_backupAt, F_X9_fails, F_X9_thrown, Option.bind_some, if_true, if_false, Nat.add_zero, Nat.zero_add, Nat.mul_zero, Nat.zero_mul, Nat.reduceAdd, Nat.reduceMul, Nat.reduceSub, Nat.reduceEqDiff, Nat.reduceLeDiff, Nat.reduceLT, Nat.reducePow, Nat.not_lt_zero, Nat.zero_le, eq_self, not_true_eq_false, not_false_eq_true, reduceIte, L_0, L_1, L_2, L_3, L_4, L_5, L_6, L_7, L_8, L_9, L_10, L_11, L_12, L_14, L_15, L_16, L_24, L_30, L_31, L_32, L_34, L_40, L_44, L_90, L_96, L_97, L_100, L_120, L_121, L_192, L_997, L_998, L_1000, L_1270, L_10000, L_17780, L_2540, L_32768, L_16510]
theorem sc_lt (l : List Nat) : ∀ m, sc (l.take m) < 997 := by
  intro m
  induction m with
  | zero => rw [List.take_zero]; decide
  | succ m ih =>
    cases hw : l[m]? with
    | none => rw [List.take_add_one, hw]; simpa using ih
    | some w => rw [tk_succ hw, sc_app]; exact Nat.mod_lt _ (by decide)
theorem sum_J {l : List Nat} (h : vch l) : F_X2_sum (J (c8 l)) = some (J (sc l)) := by
  have hc := count_J h
  have hw := fun {i w : Nat} (hi : l[i]? = some w) => worth_J h hi
  obtain ⟨h1, h6, hv⟩ := h
  unfold F_X2_sum
  rw [hc]
  simp only [Option.bind_some]
  have e0 : ((7 : Int32), (0 : Int32)) = (fun j => (J (sc (l.take j)), J j)) 0 := rfl
  rw [e0]
  refine lp_run (fun j => (J (sc (l.take j)), J j)) l.length (fun self j hj => ?_) (fun self => ?_) (by unfold FU; omega)
  · obtain ⟨w, q1, q2, q3⟩ := vl_at hv hj
    have b1 := sc_lt l j
    unfold B_X2_sum_10
    simp (disch := omega) only [hw q1, L_997, L_31, J_add, J_mul, J_sub, J_dec, J_nat, J_lt, J_le, J_eq, gd_J, gz_J, gb_J, J_div, J_mod, md_back, JN, J_neN, J_Nne, J_ltN, J_Nlt, J_leN, J_Nle, N_refl, J01, J_addN, J_pred, F_X9_at, F_X9_backupAt, F_X9_fails, F_X9_thrown, Option.bind_some, if_true, if_false, Nat.add_zero, Nat.zero_add, Nat.mul_zero, Nat.zero_mul, Nat.reduceAdd, Nat.reduceMul, Nat.reduceSub, Nat.reduceEqDiff, Nat.reduceLeDiff, Nat.reduceLT, Nat.reducePow, Nat.not_lt_zero, Nat.zero_le, eq_self, not_true_eq_false, not_false_eq_true, reduceIte, L_0, L_1, L_2, L_3, L_4, L_5, L_6, L_7, L_8, L_9, L_10, L_11, L_12, L_14, L_15, L_16, L_24, L_30, L_31, L_32, L_34, L_40, L_44, L_90, L_96, L_97, L_100, L_120, L_121, L_192, L_997, L_998, L_1000, L_1270, L_10000, L_17780, L_2540, L_32768, L_16510]
    rw [if_neg (by omega), tk_succ q1, sc_app]
  · unfold B_X2_sum_10
    simp (disch := omega) only [Nat.le_refl, tk_all, J_add, J_mul, J_sub, J_dec, J_nat, J_lt, J_le, J_eq, gd_J, gz_J, gb_J, J_div, J_mod, md_back, JN, J_neN, J_Nne, J_ltN, J_Nlt, J_leN, J_Nle, N_refl, J01, J_addN, J_pred, F_X9_at, F_X9_backupAt, F_X9_fails, F_X9_thrown, Option.bind_some, if_true, if_false, Nat.add_zero, Nat.zero_add, Nat.mul_zero, Nat.zero_mul, Nat.reduceAdd, Nat.reduceMul, Nat.reduceSub, Nat.reduceEqDiff, Nat.reduceLeDiff, Nat.reduceLT, Nat.reducePow, Nat.not_lt_zero, Nat.zero_le, eq_self, not_true_eq_false, not_false_eq_true, reduceIte, L_0, L_1, L_2, L_3, L_4, L_5, L_6, L_7, L_8, L_9, L_10, L_11, L_12, L_14, L_15, L_16, L_24, L_30, L_31, L_32, L_34, L_40, L_44, L_90, L_96, L_97, L_100, L_120, L_121, L_192, L_997, L_998, L_1000, L_1270, L_10000, L_17780, L_2540, L_32768, L_16510]
theorem sumOf_J {l : List Nat} (h : vch l) : F_X9_sumOf (J (c9 l)) = some (J (sc l)) := by
  have hc := lengthOf_J h
  have hw := fun {i w : Nat} (hi : l[i]? = some w) => worthAt_J h hi
  obtain ⟨h1, h6, hv⟩ := h
  unfold F_X9_sumOf
  rw [hc]
  simp only [Option.bind_some]
  have e0 : ((7 : Int32), (0 : Int32)) = (fun j => (J (sc (l.take j)), J j)) 0 := rfl
  rw [e0]
  refine lp_run (fun j => (J (sc (l.take j)), J j)) l.length (fun self j hj => ?_) (fun self => ?_) (by unfold FU; omega)
  · obtain ⟨w, q1, q2, q3⟩ := vl_at hv hj
    have b1 := sc_lt l j
    unfold B_X9_sumOf_10
    simp (disch := omega) only [hw q1, L_997, L_31, J_add, J_mul, J_sub, J_dec, J_nat, J_lt, J_le, J_eq, gd_J, gz_J, gb_J, J_div, J_mod, md_back, JN, J_neN, J_Nne, J_ltN, J_Nlt, J_leN, J_Nle, N_refl, J01, J_addN, J_pred, F_X9_at, F_X9_backupAt, F_X9_fails, F_X9_thrown, Option.bind_some, if_true, if_false, Nat.add_zero, Nat.zero_add, Nat.mul_zero, Nat.zero_mul, Nat.reduceAdd, Nat.reduceMul, Nat.reduceSub, Nat.reduceEqDiff, Nat.reduceLeDiff, Nat.reduceLT, Nat.reducePow, Nat.not_lt_zero, Nat.zero_le, eq_self, not_true_eq_false, not_false_eq_true, reduceIte, L_0, L_1, L_2, L_3, L_4, L_5, L_6, L_7, L_8, L_9, L_10, L_11, L_12, L_14, L_15, L_16, L_24, L_30, L_31, L_32, L_34, L_40, L_44, L_90, L_96, L_97, L_100, L_120, L_121, L_192, L_997, L_998, L_1000, L_1270, L_10000, L_17780, L_2540, L_32768, L_16510]
    rw [if_neg (by omega), tk_succ q1, sc_app]
  · unfold B_X9_sumOf_10
    simp (disch := omega) only [Nat.le_refl, tk_all, J_add, J_mul, J_sub, J_dec, J_nat, J_lt, J_le, J_eq, gd_J, gz_J, gb_J, J_div, J_mod, md_back, JN, J_neN, J_Nne, J_ltN, J_Nlt, J_leN, J_Nle, N_refl, J01, J_addN, J_pred, F_X9_at, F_X9_backupAt, F_X9_fails, F_X9_thrown, Option.bind_some, if_true, if_false, Nat.add_zero, Nat.zero_add, Nat.mul_zero, Nat.zero_mul, Nat.reduceAdd, Nat.reduceMul, Nat.reduceSub, Nat.reduceEqDiff, Nat.reduceLeDiff, Nat.reduceLT, Nat.reducePow, Nat.not_lt_zero, Nat.zero_le, eq_self, not_true_eq_false, not_false_eq_true, reduceIte, L_0, L_1, L_2, L_3, L_4, L_5, L_6, L_7, L_8, L_9, L_10, L_11, L_12, L_14, L_15, L_16, L_24, L_30, L_31, L_32, L_34, L_40, L_44, L_90, L_96, L_97, L_100, L_120, L_121, L_192, L_997, L_998, L_1000, L_1270, L_10000, L_17780, L_2540, L_32768, L_16510]
/-- codes tell chunks apart -/
theorem c9_inj : ∀ (n : Nat) (a b : List Nat), a.length ≤ n → vl a → vl b → c9 a = c9 b → a = b := by
  intro n
  induction n with
  | zero =>
    intro a b ha va vb h
    have : a = [] := List.length_eq_zero_iff.mp (by omega)
    subst this
    rcases List.eq_nil_or_concat b with q | ⟨b', w, q⟩
    · exact q.symm
    · rw [List.concat_eq_append] at q
      subst q
      have := vb w (by simp)
      rw [c9_app] at h
      have : c9 [] = 0 := rfl
      omega
  | succ n ih =>
    intro a b ha va vb h
    rcases List.eq_nil_or_concat a with q | ⟨a', v, q⟩ <;> rcases List.eq_nil_or_concat b with p | ⟨b', w, p⟩
    · rw [q, p]
    · rw [List.concat_eq_append] at p
      subst q p
      have := vb w (by simp)
      rw [c9_app] at h
      have : c9 [] = 0 := rfl
      omega
    · rw [List.concat_eq_append] at q
      subst q p
      have := va v (by simp)
      rw [c9_app] at h
      have : c9 [] = 0 := rfl
      omega
    · rw [List.concat_eq_append] at q p
      subst q p
      have hv := va v (by simp)
      have hw := vb w (by simp)
      rw [c9_app, c9_app] at h
      have h1 : v = w := by omega
      have h2 : c9 a' = c9 b' := by omega
      rw [List.length_append] at ha
      rw [ih a' b' (by simp at ha; omega) (fun x hx => va x (by simp [hx])) (fun x hx => vb x (by simp [hx])) h2, h1]
theorem c8_pos {l : List Nat} (h : vl l) : 1 ≤ c8 l := by
  have h1 := (c8_tk h l.length (Nat.le_refl _)).1
  rw [tk_all] at h1
  have : 0 < 8 ^ l.length := Nat.pow_pos (by omega)
  omega
theorem c8_inj : ∀ (n : Nat) (a b : List Nat), a.length ≤ n → vl a → vl b → c8 a = c8 b → a = b := by
  intro n
  induction n with
  | zero =>
    intro a b ha va vb h
    have : a = [] := List.length_eq_zero_iff.mp (by omega)
    subst this
    rcases List.eq_nil_or_concat b with q | ⟨b', w, q⟩
    · exact q.symm
    · rw [List.concat_eq_append] at q
      subst q
      have := vb w (by simp)
      have h8 := c8_pos (l := b') (fun x hx => vb x (by simp [hx]))
      rw [c8_app] at h
      have : c8 [] = 1 := rfl
      omega
  | succ n ih =>
    intro a b ha va vb h
    rcases List.eq_nil_or_concat a with q | ⟨a', v, q⟩ <;> rcases List.eq_nil_or_concat b with p | ⟨b', w, p⟩
    · rw [q, p]
    · rw [List.concat_eq_append] at p
      subst q p
      have := vb w (by simp)
      have h8 := c8_pos (l := b') (fun x hx => vb x (by simp [hx]))
      rw [c8_app] at h
      have : c8 [] = 1 := rfl
      omega
    · rw [List.concat_eq_append] at q
      subst q p
      have := va v (by simp)
      have h8 := c8_pos (l := a') (fun x hx => va x (by simp [hx]))
      rw [c8_app] at h
      have : c8 [] = 1 := rfl
      omega
    · rw [List.concat_eq_append] at q p
      subst q p
      have hv := va v (by simp)
      have hw := vb w (by simp)
      rw [c8_app, c8_app] at h
      have h1 : v = w := by omega
      have h2 : c8 a' = c8 b' := by omega
      rw [List.length_append] at ha
      rw [ih a' b' (by simp at ha; omega) (fun x hx => va x (by simp [hx])) (fun x hx => vb x (by simp [hx])) h2, h1]
theorem c8_small {l : List Nat} (h : vch l) : c8 l < 524288 := by
  have := c8_lt h.2.2 (Nat.le_refl _) h.2.1
  rwa [tk_all] at this
theorem c9_small {l : List Nat} (h : vch l) : c9 l < 531441 := by
  have := c9_lt h.2.2 (Nat.le_refl _) h.2.1
  rwa [tk_all] at this
theorem c8_eq {a b : List Nat} (ha : vch a) (hb : vch b) : (J (c8 a) = J (c8 b)) ↔ a = b := by
  have h1 := c8_small ha
  have h2 := c8_small hb
  rw [J_eq (by omega) (by omega)]
  exact ⟨fun h => c8_inj _ a b (Nat.le_refl _) ha.2.2 hb.2.2 h, fun h => by rw [h]⟩
theorem c9_eq {a b : List Nat} (ha : vch a) (hb : vch b) : (J (c9 a) = J (c9 b)) ↔ a = b := by
  have h1 := c9_small ha
  have h2 := c9_small hb
  rw [J_eq (by omega) (by omega)]
  exact ⟨fun h => c9_inj _ a b (Nat.le_refl _) ha.2.2 hb.2.2 h, fun h => by rw [h]⟩
