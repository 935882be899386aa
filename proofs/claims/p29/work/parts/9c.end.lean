/-! P29, THE PURE SIDE: the law's end, and the law -/
theorem end_V {sd : Int32} {kp kr : Int64} {tx : TXT} {dk tr : DKT} {pa : PAT} {sv : SVT} {sm0 : SMT} {pl0 : PLT} {so : SOT} {cr : CRT} (hK : KPT sd kp kr sv) : K_L_law_358 (sd, kp, kr, tx, dk, tr, pa, sv, sm0, pl0, so, cr) = some 1 := by
  obtain ⟨ts, As, m, rfl, rfl, rfl, hS, hW, hM⟩ := hK
  obtain ⟨d', pa', y1, y2⟩ := restore_V (d := dk) (pa := pa) hS hW
  unfold K_L_law_358
  dsimp only
  rw [y1, Option.bind_some, z0_z]
  have fin : K_L_law_403 (0, J (sm (fun b => min 1 (a_bs As b).length) 8), d', pa') (J ts, dgv As, rfo As 8, tx, dk, tr, pa, sv, sm0, pl0, so, cr) (J (sm (fun b => min 1 (a_bs As b).length) 8)) = some 1 := by
    unfold K_L_law_403
    dsimp only
    rw [if_pos rfl, digest_V y2 hW, Option.bind_some, if_pos (lg_sm _), refs_V y2 hW hM, Option.bind_some]
    dsimp only
    rw [if_pos (lg_sm _)]
  generalize K_L_law_403 (0, J (sm (fun b => min 1 (a_bs As b).length) 8), d', pa') (J ts, dgv As, rfo As 8, tx, dk, tr, pa, sv, sm0, pl0, so, cr) = K at fin ⊢
  refine lp_run (fun b => (J (sm (fun b => min 1 (a_bs As b).length) b), J b)) 8 (fun self b hb => ?_) (fun self => ?_) (by unfold FU; omega)
  · have hth : F_L_isThere (J ts) (J b) = some (if decide (1 ≤ (a_bs As b).length) = true then 1 else 0) := by
      rw [← hM.2 b hb]
      exact isThere_T ⟨ts, hM.1⟩ ⟨b, hb⟩
    unfold B_L_law_371
    dsimp only
    rw [if_neg (show ¬ 8 ≤ J b from fun w => by have := (J_le (a := 8) (by omega) (by omega)).mp w; omega), hth, sm_step]
    by_cases c : 1 ≤ (a_bs As b).length
    · rw [decide_eq_true c, if_pos rfl, Option.bind_some, if_neg (show ¬ (1 : Int32) = 0 by decide), J_s, J_s, show min 1 (a_bs As b).length = 1 by omega]
    · rw [decide_eq_false c, if_neg Bool.false_ne_true, Option.bind_some, if_pos rfl, J_s, show min 1 (a_bs As b).length = 0 by omega, show J (sm (fun b => min 1 (a_bs As b).length) b) + 0 = J (sm (fun b => min 1 (a_bs As b).length) b + 0) from J_add _ 0]
  · unfold B_L_law_371
    dsimp only
    rw [if_pos (show (8 : Int32) ≤ J 8 by decide)]
    exact fin
theorem loop_V {L : Nat} {xs : Nat → Int32} (hL : L ≤ 260) : ∀ (y i fuel : Nat) (th sd : Int32) (kp kr : Int64) (tn : Int32) (tx : TXT) (dk tr : DKT) (pa : PAT) (sv : SVT) (sm : SMT) (pl : PLT) (so : SOT) (cr : CRT), i + y = 12 → y < fuel → LIX i th sd kp kr tn tx dk pa sv → lp (B_L_law_34 L xs K_L_law_358) fuel (th, sd, kp, kr, tn, tx, dk, tr, pa, sv, sm, pl, so, cr) = some 1 := by
  intro y
  induction y with
  | zero =>
    intro i fuel th sd kp kr tn tx dk tr pa sv sm pl so cr hi hf h
    obtain ⟨fuel, rfl⟩ : ∃ q, fuel = q + 1 := ⟨fuel - 1, by omega⟩
    obtain rfl : i = 12 := by omega
    obtain ⟨t, A, ws, H, -, h2, -, -, -, -, -, -, hK⟩ := h
    rw [lp_s]
    generalize lp (B_L_law_34 L xs K_L_law_358) fuel = self
    unfold B_L_law_34
    dsimp only
    rw [if_pos (show 12 ≤ tn by rw [h2]; decide)]
    exact end_V hK
  | succ y ih =>
    intro i fuel th sd kp kr tn tx dk tr pa sv sm pl so cr hi hf h
    obtain ⟨fuel, rfl⟩ : ∃ q, fuel = q + 1 := ⟨fuel - 1, by omega⟩
    rw [lp_s]
    obtain ⟨th', sd', kp', kr', tn', tx', dk', tr', pa', sv', sm', pl', so', cr', g1, g2⟩ := turn_V hL (by omega) h K_L_law_358 (lp (B_L_law_34 L xs K_L_law_358) fuel) tr sm pl so cr
    rw [g2]
    exact ih (i + 1) fuel _ _ _ _ _ _ _ _ _ _ _ _ _ _ (by omega) (by omega) g1
theorem MSK_0 : MSK 0 A0 := ⟨by omega, fun b hb => by rw [Nat.zero_testBit]; exact (decide_eq_false (show ¬ 1 ≤ ([] : List (Nat × Nat)).length by simp)).symm⟩
/-- THE LAW HOLDS: on every script of at most 260 ints it answers 1 -/
theorem law_V {L : Nat} (xs : Nat → Int32) (hL : L ≤ 260) : F_L_law L xs TXI DKI DKI PA0 SVI SMI PLI SOI CRI = some 1 := by
  obtain ⟨u, sv', s1, s2⟩ := save_V A0_DR A0_WF SVI
  have r0 : F_L_references DKI SOI 0 = some (rfo A0 8, SOI) := refs_V (t := 0) A0_DR A0_WF MSK_0 SOI
  unfold F_L_law
  rw [s1, Option.bind_some, z0_z, digest_V A0_DR A0_WF, Option.bind_some, r0, Option.bind_some]
  dsimp only
  exact loop_V hL 12 0 13 0 0 (dgv A0) (rfo A0 8) 0 TXI DKI DKI PA0 sv' SMI PLI SOI CRI (by omega) (by omega) ⟨0, A0, [], [], rfl, rfl, TW_nil TXI, by simp, A0_DR, A0_WF, MSK_0, PC_0, 0, A0, 0, rfl, rfl, rfl, s2, A0_WF, MSK_0⟩
