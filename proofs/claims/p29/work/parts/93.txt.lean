/-! P29, THE PURE SIDE: numbers out of a cell, the text that the law types -/
/-- the low k bits of any int -/
def lob (x : Int32) (k : Nat) : Nat := x.toBitVec.toNat % 2 ^ k
theorem lob_lt (x : Int32) (k : Nat) : lob x k < 2 ^ k := Nat.mod_lt _ (Nat.two_pow_pos k)
theorem and_any (x : Int32) {k : Nat} (hk : k ≤ 31) : x &&& J (2 ^ k - 1) = J (lob x k) := by
  apply Int32.toBitVec_inj.mp
  apply BitVec.eq_of_toNat_eq
  have hk2 : 2 ^ k ≤ 2 ^ 31 := Nat.pow_le_pow_right (by omega) hk
  have hp : 0 < 2 ^ k := Nat.two_pow_pos k
  have h3 := lob_lt x k
  have e : (J (2 ^ k - 1)).toBitVec.toNat = 2 ^ k - 1 := J_bv (by omega)
  rw [Int32.toBitVec_and, BitVec.toNat_and, e, J_bv (by omega), Nat.and_two_pow_sub_one_eq_mod]
  rfl
theorem and7 (x : Int32) : x &&& 7 = J (lob x 3) := and_any x (k := 3) (by omega)
theorem and3 (x : Int32) : x &&& 3 = J (lob x 2) := and_any x (k := 2) (by omega)
theorem lob3 (x : Int32) : lob x 3 < 8 := lob_lt x 3
def lwn (x : Int32) (n : Nat) : Nat := lob x 31 % n
theorem lwn_lt (x : Int32) {n : Nat} (h : 1 ≤ n) : lwn x n < n := Nat.mod_lt _ (by omega)
theorem low_V (x : Int32) {n : Nat} (h1 : 1 ≤ n) (hn : n < 2 ^ 31) : F_L_low x (J n) = some (J (lwn x n)) := by
  have h3 : lob x 31 < 2 ^ 31 := lob_lt x 31
  have e : x &&& 2147483647 = J (lob x 31) := and_any x (k := 31) (by omega)
  unfold F_L_low
  rw [gz_J h1 hn, e, J_div h3 hn, J_mul, J_mod]
  rfl
def wth (seed : Int32) (i : Nat) : Nat := if J i = ((seed >>> (22 &&& 31)) &&& 31) then 8 - lob (seed >>> ((3 * (J i - J i / 7 * 7)) &&& 31)) 3 else 1 + lob (seed >>> ((3 * (J i - J i / 7 * 7)) &&& 31)) 3
theorem wth_b (seed : Int32) (i : Nat) : 1 ≤ wth seed i ∧ wth seed i ≤ 8 := by
  have h := lob3 (seed >>> ((3 * (J i - J i / 7 * 7)) &&& 31))
  unfold wth
  split <;> omega
theorem worth_V (seed : Int32) (i : Nat) : F_L_worth seed (J i) = some (J (wth seed i)) := by
  have h := lob3 (seed >>> ((3 * (J i - J i / 7 * 7)) &&& 31))
  unfold F_L_worth wth
  rw [show ∀ x : Option Int32, gz 7 x = x from fun x => gz_J (a := 7) (by omega) (by omega), and7]
  split
  · rw [show (8 : Int32) = J 8 from rfl, J_sub (by omega)]
  · rw [show (1 : Int32) = J 1 from rfl, J_add]
/-- the text is one stream of these letters (or empty) -/
def TW (ws : List Nat) (x : TXT) : Prop := tx_length x = J ws.length ∧ vl ws ∧ ∀ i w, ws[i]? = some w → tx_signs x i = J (96 + w)
theorem TW_nil (x : TXT) : TW [] ((tx_signs x), 0) := ⟨rfl, fun w h => by simp at h, fun i w h => by simp at h⟩
theorem append_V {ws : List Nat} {x : TXT} {w : Nat} (h : TW ws x) (hl : ws.length < 120) (h1 : 1 ≤ w) (h8 : w ≤ 8) : ∃ x', F_X8_append x (J (96 + w)) = some (0, J (ws.length + 1), x') ∧ TW (ws ++ [w]) x' := by
  obtain ⟨t1, t2, t3⟩ := h
  have e1 : ¬ J (96 + w) < 0 := J_neg (by omega)
  have e2 : J (96 + w) ≤ 255 := (J_le (b := 255) (by omega) (by omega)).mpr (by omega)
  have e3 : tx_length x < 120 := by rw [t1]; exact (J_lt (b := 120) (by omega) (by omega)).mpr hl
  have e4 : ∀ (y : Option TXT), gd (tx_length x) 120 y = y := fun y => by rw [t1]; exact gd_J hl (by omega)
  refine ⟨((upd (tx_signs x) (Int32.toNatClampNeg (tx_length x)) (vp_nar .char (UInt32.toInt32 (Int32.toUInt32 (J (96 + w)) % 65536)))), tx_length x + 1), ?_, ?_, ?_, ?_⟩
  · unfold F_X8_append F_X7_add F_X7_isFull
    rw [if_neg e1, if_pos e2, if_pos e3]
    simp only [Option.bind_some]
    rw [if_pos (by decide), if_pos (by decide), e4]
    simp only [Option.bind_some]
    show some (0, tx_length x + 1, _) = _
    rw [t1, J_s]
  · show tx_length x + 1 = _
    rw [t1, J_s, List.length_append]
    rfl
  · exact vl_snoc t2 h1 h8
  · intro i v hv
    show upd (tx_signs x) _ _ i = _
    rw [t1, J_nat (by omega), kchar ⟨96 + w, by omega⟩]
    rw [List.getElem?_append] at hv
    by_cases q : i < ws.length
    · rw [if_pos q] at hv
      rw [upd_ne _ _ (by omega)]
      exact t3 i v hv
    · rw [if_neg q] at hv
      have hi : i = ws.length := by
        rcases Nat.lt_or_ge 0 (i - ws.length) with z | z
        · rw [List.getElem?_eq_none (by simp; omega)] at hv; cases hv
        · omega
      subst hi
      rw [Nat.sub_self] at hv
      cases hv
      rw [upd_self]
def wl (seed : Int32) (n : Nat) : List Nat := (List.range n).map (wth seed)
theorem wl_len (seed : Int32) (n : Nat) : (wl seed n).length = n := by unfold wl; rw [List.length_map, List.length_range]
theorem wl_s (seed : Int32) (n : Nat) : wl seed (n + 1) = wl seed n ++ [wth seed n] := by
  unfold wl
  rw [List.range_succ, List.map_append]
  rfl
theorem type_go (seed : Int32) {n : Nat} (hn : n ≤ 30) : ∀ (k i fuel : Nat) (x : TXT), i + k = n → k < fuel → TW (wl seed i) x → ∃ x', lp (B_L_type_7 (J n) seed) fuel (J i, x) = some x' ∧ TW (wl seed n) x' := by
  intro k
  induction k with
  | zero =>
    intro i fuel x hi hf hx
    obtain ⟨fuel, rfl⟩ : ∃ q, fuel = q + 1 := ⟨fuel - 1, by omega⟩
    obtain rfl : i = n := by omega
    refine ⟨x, ?_, hx⟩
    show B_L_type_7 _ _ _ _ = _
    unfold B_L_type_7
    dsimp only
    rw [if_pos ((J_le (by omega) (by omega)).mpr (Nat.le_refl _))]
  | succ k ih =>
    intro i fuel x hi hf hx
    obtain ⟨fuel, rfl⟩ : ∃ q, fuel = q + 1 := ⟨fuel - 1, by omega⟩
    obtain ⟨b1, b2⟩ := wth_b seed i
    obtain ⟨x1, a1, a2⟩ := append_V hx (by rw [wl_len]; omega) b1 b2
    obtain ⟨x', y1, y2⟩ := ih (i + 1) fuel x1 (by omega) (by omega) (by rw [wl_s]; exact a2)
    refine ⟨x', ?_, y2⟩
    show B_L_type_7 _ _ (lp _ fuel) _ = _
    generalize lp (B_L_type_7 (J n) seed) fuel = self at y1 ⊢
    unfold B_L_type_7
    dsimp only
    rw [if_neg (show ¬ J n ≤ J i from fun w => by have := (J_le (by omega) (by omega)).mp w; omega), worth_V, Option.bind_some, show (96 : Int32) + J (wth seed i) = J (96 + wth seed i) from J_add 96 _, a1, Option.bind_some]
    show z0 0 (self (J i + 1, x1)) = _
    rw [z0_z, J_s]
    exact y1
theorem type_V (seed : Int32) {n : Nat} (hn : n ≤ 30) (x : TXT) : ∃ x', F_L_type x seed (J n) = some x' ∧ TW (wl seed n) x' := by
  obtain ⟨x', h1, h2⟩ := type_go seed hn n 0 FU ((tx_signs x), 0) (by omega) (by unfold FU; omega) (TW_nil x)
  refine ⟨x', ?_, h2⟩
  unfold F_L_type F_X8_clearText
  exact h1
/-! reading it -/
theorem er_let (c : Nat → Nat) (n : Nat) : ∀ (k i st le : Nat), (∀ j, j < k → 97 ≤ c (i + j) ∧ c (i + j) ≤ 104) → le + k ≤ 30 → 0 < le + k → er c n k i st le = none := by
  intro k
  induction k with
  | zero =>
    intro i st le _ _ h
    unfold er
    rw [if_neg (by omega)]
  | succ k ih =>
    intro i st le hc h30 h
    have h0 := hc 0 (by omega)
    rw [Nat.add_zero] at h0
    unfold er
    rw [if_pos ⟨h0.1, h0.2, by omega⟩]
    exact ih (i + 1) st (le + 1) (fun j hj => by
      have := hc (j + 1) (by omega)
      rw [show i + 1 + j = i + (j + 1) by omega]
      exact this) (by omega) (by omega)
def cW (ws : List Nat) (i : Nat) : Nat := 96 + ws[i]?.getD 1
theorem cW_b {ws : List Nat} (h : vl ws) {i : Nat} (hi : i < ws.length) : 97 ≤ cW ws i ∧ cW ws i ≤ 104 := by
  obtain ⟨w, e, h1, h8⟩ := vl_at h hi
  unfold cW
  rw [e]
  show 97 ≤ 96 + w ∧ 96 + w ≤ 104
  omega
theorem TW_c {ws : List Nat} {x : TXT} (h : TW ws x) : ∀ i, i < ws.length → tx_signs x i = J (cW ws i) ∧ cW ws i < 256 := by
  intro i hi
  have hb := cW_b h.2.1 hi
  refine ⟨?_, by omega⟩
  obtain ⟨w, e, h1, h8⟩ := vl_at h.2.1 hi
  rw [h.2.2 i w e]
  unfold cW
  rw [e]
  rfl
theorem ferr_V {ws : List Nat} {x : TXT} (h : TW ws x) (h1 : 1 ≤ ws.length) (h30 : ws.length ≤ 30) : F_X7_firstError x = some (-1) := by
  unfold F_X7_firstError
  have := firstError_J (x := x) (c := cW ws) (n := ws.length) (by omega) h.1 (TW_c h) ws.length 0 1 0 FU (by omega) (by omega) (by omega) (by unfold FU; omega)
  rw [er_let (cW ws) ws.length ws.length 0 1 0 (fun j hj => by rw [Nat.zero_add]; exact cW_b h.2.1 hj) (by omega) (by omega)] at this
  exact this
theorem errpos_V {ws : List Nat} {x : TXT} (h : TW ws x) (h30 : ws.length ≤ 30) : ∃ v, F_X8_errorPosition x = some v ∧ (v = -1 → 1 ≤ ws.length) := by
  unfold F_X8_errorPosition
  by_cases z : 1 ≤ ws.length
  · rw [ferr_V h z h30]
    exact ⟨-1, rfl, fun _ => z⟩
  · refine ⟨J 0, ?_, fun q => absurd q (by decide)⟩
    have := firstError_J (x := x) (c := cW ws) (n := ws.length) (by omega) h.1 (TW_c h) ws.length 0 1 0 FU (by omega) (by omega) (by omega) (by unfold FU; omega)
    unfold F_X7_firstError
    rw [show ws.length = 0 by omega] at this
    rw [show (1, 0, 0) = ((J 1, J 0, J 0) : Int32 × Int32 × Int32) from rfl, this]
    rfl
theorem rdW {ws : List Nat} {x : TXT} (h : TW ws x) (h1 : 1 ≤ ws.length) (h30 : ws.length ≤ 30) (d2 : SMT) : ∃ wo, F_X7_readStream x d2 0 = some (1, (wo, sm_codes d2, J ws.length, 0)) ∧ AH wo (ws.map J) := by
  have hc := TW_c h
  refine ⟨fil (sm_worths d2) (fun j => J (cW ws j - 97 + 1)) ws.length, ?_, ?_⟩
  · have hl := h.1
    unfold F_X7_readStream
    rw [if_neg (by decide), ferr_V h h1 h30]
    unfold F_X7_startOf F_X6_begin
    simp only [Option.bind_some]
    rw [if_pos (by decide), if_pos (by decide)]
    simp only [Option.bind_some]
    rw [if_neg (by decide)]
    generalize hN : ws.length = N at *
    refine (lp_run (fun j => (J j, (fil (sm_worths d2) (fun j => J (cW ws j - 97 + 1)) j, sm_codes d2, J j, J 0))) N (fun self j hj => ?_) (fun self => ?_) (by unfold FU; omega))
    · obtain ⟨t1, t2⟩ := hc j hj
      have t3 := cW_b h.2.1 (show j < ws.length by omega)
      unfold B_X7_readStream_34 F_X6_take
      simp (disch := omega) only [hl, t1, sm_letters, sm_worths, sm_codes, sm_chunks, J_add, J_mul, J_sub, J_dec, J_nat, J_lt, J_le, J_eq, gd_J, gz_J, gb_J, J_div, J_mod, md_back, JN, J_neN, J_Nne, J_ltN, J_Nlt, J_leN, J_Nle, N_refl, J01, J_addN, J_pred, F_X9_at, F_X9_backupAt, F_X9_fails, F_X9_thrown, Option.bind_some, if_true, if_false, Nat.add_zero, Nat.zero_add, Nat.mul_zero, Nat.zero_mul, Nat.reduceAdd, Nat.reduceMul, Nat.reduceSub, Nat.reduceEqDiff, Nat.reduceLeDiff, Nat.reduceLT, Nat.reducePow, Nat.not_lt_zero, Nat.zero_le, eq_self, not_true_eq_false, not_false_eq_true, reduceIte, L_0, L_1, L_2, L_3, L_4, L_5, L_6, L_7, L_8, L_9, L_10, L_11, L_12, L_14, L_15, L_16, L_24, L_30, L_31, L_32, L_34, L_40, L_44, L_90, L_96, L_97, L_100, L_120, L_121, L_192, L_997, L_998, L_1000, L_1270, L_10000, L_17780, L_2540, L_32768, L_16510]
      rw [if_neg (by omega), if_neg (by omega), if_pos (by omega)]
      rfl
    · unfold B_X7_readStream_34
      simp (disch := omega) only [hl, Nat.le_refl, J_add, J_mul, J_sub, J_dec, J_nat, J_lt, J_le, J_eq, gd_J, gz_J, gb_J, J_div, J_mod, md_back, JN, J_neN, J_Nne, J_ltN, J_Nlt, J_leN, J_Nle, N_refl, J01, J_addN, J_pred, F_X9_at, F_X9_backupAt, F_X9_fails, F_X9_thrown, Option.bind_some, if_true, if_false, Nat.add_zero, Nat.zero_add, Nat.mul_zero, Nat.zero_mul, Nat.reduceAdd, Nat.reduceMul, Nat.reduceSub, Nat.reduceEqDiff, Nat.reduceLeDiff, Nat.reduceLT, Nat.reducePow, Nat.not_lt_zero, Nat.zero_le, eq_self, not_true_eq_false, not_false_eq_true, reduceIte, L_0, L_1, L_2, L_3, L_4, L_5, L_6, L_7, L_8, L_9, L_10, L_11, L_12, L_14, L_15, L_16, L_24, L_30, L_31, L_32, L_34, L_40, L_44, L_90, L_96, L_97, L_100, L_120, L_121, L_192, L_997, L_998, L_1000, L_1270, L_10000, L_17780, L_2540, L_32768, L_16510]
  · have := fil_AH (f0 := sm_worths d2) (v := fun j => J (cW ws j - 97 + 1)) (l := ws.map J) (fun i z hz => by
      rw [List.getElem?_map] at hz
      cases e : ws[i]? with
      | none => rw [e] at hz; cases hz
      | some w =>
        rw [e] at hz
        cases hz
        have hw := h.2.1 w (List.mem_of_getElem? e)
        show J (cW ws i - 97 + 1) = J w
        unfold cW
        rw [e]
        show J (96 + w - 97 + 1) = J w
        rw [show 96 + w - 97 + 1 = w by omega])
    rw [List.length_map] at this
    exact this
