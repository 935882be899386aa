/-! THE PURE SIDE: long numbers; the call runScript -/
def YL (n : Nat) : Int64 := Int64.ofNat n
theorem YL_toInt {a : Nat} (h : a < 2 ^ 63) : (YL a).toInt = (a : Int) := Int64.toInt_ofNat_of_lt h
theorem YL_div {a b : Nat} (ha : a < 2 ^ 63) (hb : b < 2 ^ 63) : YL a / YL b = YL (a / b) := (Int64.ofNat_div ha hb).symm
theorem YL_mul (a b : Nat) : YL a * YL b = YL (a * b) := (Int64.ofNat_mul a b).symm
theorem YL_sub {a b : Nat} (h : b ≤ a) : YL a - YL b = YL (a - b) := (Int64.ofNat_sub a b h).symm
theorem YL_32 (a : Nat) : (YL a).toInt32 = J a := Int64.toInt32_ofNat'
theorem YL_lt {a b : Nat} (ha : a < 2 ^ 63) (hb : b < 2 ^ 63) : (YL a < YL b) ↔ a < b := by
  rw [Int64.lt_iff_toInt_lt, YL_toInt ha, YL_toInt hb]
  omega
theorem YL_eq {a b : Nat} (ha : a < 2 ^ 63) (hb : b < 2 ^ 63) : (YL a = YL b) ↔ a = b := by
  constructor
  · intro h
    have h1 := congrArg Int64.toInt h
    rw [YL_toInt ha, YL_toInt hb] at h1
    omega
  · intro h
    rw [h]
theorem YL_mod {a b : Nat} (ha : a < 2 ^ 63) (hb : b < 2 ^ 63) : YL a - YL a / YL b * YL b = YL (a % b) := by
  rw [YL_div ha hb, YL_mul, YL_sub (Nat.div_mul_le_self a b), md_back]
theorem YL_of {q : Int64} (h : ¬ q < 0) : ∃ k : Nat, k < 2 ^ 63 ∧ q = YL k := by
  have h1 : 0 ≤ q.toInt := by
    have : ¬ q.toInt < (0 : Int64).toInt := fun z => h (Int64.lt_iff_toInt_lt.mpr z)
    have h0 : (0 : Int64).toInt = 0 := rfl
    omega
  have h2 := Int64.toInt_lt q
  refine ⟨q.toInt.toNat, by omega, ?_⟩
  apply Int64.toInt_inj.mp
  rw [YL_toInt (by omega)]
  omega
theorem gzl_YL {α : Type} {a : Nat} {x : Option α} (h : 1 ≤ a) (ha : a < 2 ^ 63) : gzl (YL a) x = x := by
  unfold gzl
  rw [if_neg]
  show ¬ YL a = YL 0
  rw [YL_eq ha (by omega)]
  omega
theorem p10_le {j : Nat} (h : j ≤ 3) : 1 ≤ 10000 ^ j ∧ 10000 ^ j ≤ 1000000000000 := by
  rcases (show j = 0 ∨ j = 1 ∨ j = 2 ∨ j = 3 by omega) with rfl | rfl | rfl | rfl <;> decide
theorem wog_A {n j : Nat} (hn : n < 2 ^ 63) (hj : j ≤ 3) : F_X8_withoutGroups (YL n) (J j) = some (YL (n / 10000 ^ j)) := by
  unfold F_X8_withoutGroups
  have e0 : (YL n, (0 : Int32)) = (fun i => (YL (n / 10000 ^ i), J i)) 0 := by
    show _ = (YL (n / 10000 ^ 0), J 0)
    rw [Nat.pow_zero, Nat.div_one]
    rfl
  rw [e0]
  refine lp_run (fun i => (YL (n / 10000 ^ i), J i)) j (fun self i hi => ?_) (fun self => ?_) (by unfold FU; omega)
  · have hd := Nat.div_le_self n (10000 ^ i)
    have e1 : YL (n / 10000 ^ i) / 10000 = YL (n / 10000 ^ (i + 1)) := by
      rw [show (10000 : Int64) = YL 10000 from rfl, YL_div (by omega) (by omega), Nat.div_div_eq_div_mul, Nat.pow_succ]
    unfold B_X8_withoutGroups_5
    rw [if_neg (show ¬ J j ≤ J i by rw [J_le (by omega) (by omega)]; omega)]
    show gzl (YL 10000) _ = _
    rw [gzl_YL (by omega) (by omega)]
    show self (YL (n / 10000 ^ i) / 10000, J i + 1) = _
    rw [e1, show J i + 1 = J (i + 1) from J_add i 1]
  · unfold B_X8_withoutGroups_5
    rw [if_pos (show J j ≤ J j by rw [J_le (by omega) (by omega)]; omega)]
theorem dg_A {W : Nat} (h : W < 10000) : J W / 1000 = J (W / 1000) ∧ J W / 100 - J W / 100 / 10 * 10 = J (W / 100 % 10) ∧ J W - J W / 100 * 100 = J (10 * (W / 10 % 10) + W % 10) ∧ J W / 10 - J W / 10 / 10 * 10 = J (W / 10 % 10) ∧ J W - J W / 10 * 10 = J (W % 10) := by
  have e10 : (10 : Int32) = J 10 := rfl
  have e100 : (100 : Int32) = J 100 := rfl
  have e1000 : (1000 : Int32) = J 1000 := rfl
  have h100 : W / 100 ≤ W := Nat.div_le_self _ _
  have h10 : W / 10 ≤ W := Nat.div_le_self _ _
  rw [e10, e100, e1000]
  refine ⟨J_div (by omega) (by omega), ?_, ?_, ?_, ?_⟩
  · rw [J_div (a := W) (b := 100) (by omega) (by omega), J_div (by omega) (by omega), J_mul, J_mod]
  · rw [J_div (a := W) (b := 100) (by omega) (by omega), J_mul, J_mod]
    congr 1
    omega
  · rw [J_div (a := W) (b := 10) (by omega) (by omega), J_div (by omega) (by omega), J_mul, J_mod]
  · rw [J_div (a := W) (b := 10) (by omega) (by omega), J_mul, J_mod]
theorem script_b {tx : TXT} {m0 : MDT} {n k N : Nat} (hN : N ≤ 590) (hn : n < 2 ^ 63) (hk1 : 1 ≤ k) (hk : k ≤ 3) (ht : TI tx (md_text m0) (md_length m0)) (K : (Int32 × MDT) → Option (Int32 × MDT)) : ∀ (x i fuel fuel' : Nat) (D : Int64) (d : DKT) (so : SMT) (p0 : PLT) (st0 : SOT) (cr : CRT) (m : MDT) (A : AT), i + x = k → x < fuel → x < fuel' → (i < k → D = YL (10000 ^ (k - 1 - i))) → DR d A → MR (md_s m) A → WF A (N + i) → MB m0 m → ∃ v d' so' p' st' cr' m', lp (B_X8_runScript_56 (J k) (YL n) tx) fuel (J i, d, so, p0, st0, cr) = some (0, v, d', so', p', st', cr') ∧ lp (B_X9_runScript_79 (J k) (YL n) K) fuel' (D, -1, J i, m) = K (v, m') ∧ MB m0 m' := by
  intro x
  induction x with
  | zero =>
    intro i fuel fuel' D d so p0 st0 cr m A hi hf hf' hD hd hm hW hB
    obtain ⟨fuel, rfl⟩ : ∃ q, fuel = q + 1 := ⟨fuel - 1, by omega⟩
    obtain ⟨fuel', rfl⟩ : ∃ q, fuel' = q + 1 := ⟨fuel' - 1, by omega⟩
    have hle : J k ≤ J i := by rw [J_le (by omega) (by omega)]; omega
    refine ⟨-1, d, so, p0, st0, cr, m, ?_, ?_, hB⟩
    · show B_X8_runScript_56 _ _ _ _ _ = _
      unfold B_X8_runScript_56
      rw [if_pos hle]
    · show B_X9_runScript_79 _ _ _ _ _ = _
      unfold B_X9_runScript_79
      rw [if_pos hle]
  | succ x ih =>
    intro i fuel fuel' D d so p0 st0 cr m A hi hf hf' hD hd hm hW hB
    obtain ⟨fuel, rfl⟩ : ∃ q, fuel = q + 1 := ⟨fuel - 1, by omega⟩
    obtain ⟨fuel', rfl⟩ : ∃ q, fuel' = q + 2 := ⟨fuel' - 2, by omega⟩
    have hi2 : i < k := by omega
    have hle : ¬ J k ≤ J i := by rw [J_le (by omega) (by omega)]; omega
    have hDe := hD hi2
    obtain ⟨q1, q2⟩ := p10_le (show k - 1 - i ≤ 3 by omega)
    have hsub : J k - 1 - J i = J (k - 1 - i) := by
      rw [show (1 : Int32) = J 1 from rfl, J_sub (by omega), J_sub (by omega)]
    have hdl := Nat.div_le_self n (10000 ^ (k - 1 - i))
    have hW10 : n / 10000 ^ (k - 1 - i) % 10000 < 10000 := Nat.mod_lt _ (by omega)
    have hw : Int64.toInt32 (YL (n / 10000 ^ (k - 1 - i)) - YL (n / 10000 ^ (k - 1 - i)) / 10000 * 10000) = J (n / 10000 ^ (k - 1 - i) % 10000) := by
      rw [show (10000 : Int64) = YL 10000 from rfl, YL_mod (by omega) (by omega), YL_32]
    have hpD : YL n / D = YL (n / 10000 ^ (k - 1 - i)) := by rw [hDe, YL_div hn (by omega)]
    have hgD : ∀ (z : Option (Int32 × MDT)), gzl D z = z := fun z => by rw [hDe]; exact gzl_YL q1 (by omega)
    have g10k : ∀ (z : Option (Int32 × MDT)), gzl 10000 z = z := fun z => gzl_YL (a := 10000) (by omega) (by omega)
    have g10k8 : ∀ (z : Option (Nat × Int32 × DKT × SMT × PLT × SOT × CRT)), gzl 10000 z = z := fun z => gzl_YL (a := 10000) (by omega) (by omega)
    have g10 : ∀ (z : Option (Int32 × MDT)), gz 10 z = z := fun z => gz_J (a := 10) (by omega) (by omega)
    have g100 : ∀ (z : Option (Int32 × MDT)), gz 100 z = z := fun z => gz_J (a := 100) (by omega) (by omega)
    have g1000 : ∀ (z : Option (Int32 × MDT)), gz 1000 z = z := fun z => gz_J (a := 1000) (by omega) (by omega)
    have hDn : i + 1 < k → D / 10000 = YL (10000 ^ (k - 1 - (i + 1))) := fun h => by
      rw [hDe, show (10000 : Int64) = YL 10000 from rfl, YL_div (by omega) (by omega)]
      congr 1
      rw [show k - 1 - i = k - 1 - (i + 1) + 1 by omega, Nat.pow_succ]
      exact Nat.mul_div_cancel _ (by omega)
    have ihx := fun d so p0 st0 cr m A => ih (i + 1) fuel (fuel' + 1) (D / 10000) d so p0 st0 cr m A (by omega) (by omega) (by omega) hDn
    clear ih
    have hwog := wog_A (j := k - 1 - i) hn (by omega)
    have htm : TI tx (md_text m) (md_length m) := by
      rw [hB.2.2.2.2.2.2.1, hB.2.2.2.2.2.2.2]
      exact ht
    generalize n / 10000 ^ (k - 1 - i) = P at *
    generalize hP : P % 10000 = W at *
    obtain ⟨f1, f2, f3, f4, f5⟩ := dg_A hW10
    have hdo := does_A (tx := tx) (so := so) (p0 := p0) (st0 := st0) (cr := cr) (w := J W) (by omega) htm hd hm hW (show W / 1000 ≤ 9 by omega) (show W / 100 % 10 ≤ 9 by omega) (show W / 10 % 10 ≤ 9 by omega) (show W % 10 ≤ 9 by omega) f1 f2 f3
    obtain ⟨v, d', so', p', st', cr', m', A', y1, y2, y3, y4, y5, y6, y7⟩ := hdo
    have hB' := MB_tr hB y4
    have step8 : lp (B_X8_runScript_56 (J k) (YL n) tx) (fuel + 1) (J i, d, so, p0, st0, cr) = if v = 0 then some (0, J i, d', so', p', st', cr') else lp (B_X8_runScript_56 (J k) (YL n) tx) fuel (J (i + 1), d', so', p', st', cr') := by
      show B_X8_runScript_56 _ _ _ (lp _ fuel) _ = _
      generalize lp (B_X8_runScript_56 (J k) (YL n) tx) fuel = self
      unfold B_X8_runScript_56
      rw [if_neg hle, hsub, hwog]
      simp only [Option.bind_some]
      rw [g10k8, hw, y1]
      simp only [Option.bind_some]
      rw [show J i + 1 = J (i + 1) from J_add i 1]
    have step9 : lp (B_X9_runScript_79 (J k) (YL n) K) (fuel' + 2) (D, -1, J i, m) = lp (B_X9_runScript_79 (J k) (YL n) K) (fuel' + 1) (D / 10000, if v = 0 then J i else -1, J (i + 1), m') := by
      show B_X9_runScript_79 _ _ _ (lp _ (fuel' + 1)) _ = _
      generalize lp (B_X9_runScript_79 (J k) (YL n) K) (fuel' + 1) = self
      unfold B_X9_runScript_79
      rw [if_neg hle, if_pos (show (-1 : Int32) = -1 from rfl)]
      simp only [hgD, g10k, g10, g100, g1000, hpD]
      rw [hw, f1, f2, f4, f5, y2]
      simp only [Option.bind_some]
      unfold J_X9_runScript_142
      rw [g10k, g10k, show J i + 1 = J (i + 1) from J_add i 1]
      by_cases z : v = 0
      · rw [if_pos z, if_pos z]
      · rw [if_neg z, if_neg z]
    rw [step8, step9]
    rcases y3 with z | z
    · rw [if_pos z, if_pos z]
      refine ⟨J i, d', so', p', st', cr', m', rfl, ?_, hB'⟩
      show B_X9_runScript_79 _ _ _ (lp _ fuel') _ = _
      generalize lp (B_X9_runScript_79 (J k) (YL n) K) fuel' = self
      unfold B_X9_runScript_79
      by_cases w : J k ≤ J (i + 1)
      · rw [if_pos w]
      · rw [if_neg w, if_neg (show ¬ J i = -1 by rw [show (-1 : Int32) = NN from rfl, J_neN (by omega)]; exact id)]
    · have z' : ¬ v = 0 := by rw [z]; decide
      rw [if_neg z', if_neg z']
      exact ihx d' so' p' st' cr' m' A' y5 y6 y7 hB'
