/-! THE PURE SIDE: the class carries forward: the thin ones taken out -/
theorem nar_b : ∀ b : Bool, vp_nar .boolean (J (if b then 1 else 0)) = J (if b then 1 else 0) := by decide +kernel
theorem takeOut_P {d : DKT} {c : CRT} {A : AT} {N : Nat} {T : Nat → Bool} (hd : DR d A) (hW : WF A N) (hC : ∀ k, k < (a_cs A).length → cr_thin c k = J (if T k then 1 else 0)) : ∃ c' d', F_X0_takeOutThin c d = some (c', d') ∧ TOi d d' c' T A (a_cs A).length ∧ cr_waiting c' = cr_waiting c ∧ cr_waitingCodes c' = cr_waitingCodes c ∧ cr_waitingCount c' = cr_waitingCount c := by
  have hn := WF_Wn hW
  have hn1 := hn.1
  have hn2 := hn.2
  have go : ∀ (x p fuel : Nat) (c' : CRT) (d' : DKT), p + x = (a_cs A).length → TOi d d' c' T A p → cr_thin c' = cr_thin c → x < fuel → ∃ c2 d2, lp (B_X0_takeOutThin_26 d) fuel (J (st (a_cs A) p), J p, c', d') = some (c2, d2) ∧ TOi d d2 c2 T A (a_cs A).length ∧ cr_waiting c2 = cr_waiting c' ∧ cr_waitingCodes c2 = cr_waitingCodes c' ∧ cr_waitingCount c2 = cr_waitingCount c' := by
    intro x
    induction x with
    | zero =>
      intro p fuel c' d' hp hI _ hf
      obtain ⟨fuel, rfl⟩ : ∃ q, fuel = q + 1 := ⟨fuel - 1, by omega⟩
      obtain rfl : p = (a_cs A).length := by omega
      refine ⟨c', d', ?_, hI, rfl, rfl, rfl⟩
      show B_X0_takeOutThin_26 _ _ _ = _
      unfold B_X0_takeOutThin_26
      rw [if_pos (show dk_containers d ≤ J (a_cs A).length by rw [hd.1.2.2.1]; exact (J_le (by omega) (by omega)).mpr (Nat.le_refl _))]
    | succ x ih =>
      intro p fuel c' d' hp hI hth hf
      obtain ⟨fuel, rfl⟩ : ∃ q, fuel = q + 1 := ⟨fuel - 1, by omega⟩
      have hp2 : p < (a_cs A).length := by omega
      have ihx := fun c2 d2 => ih (p + 1) fuel c2 d2 (by omega)
      clear ih
      have hin := st_in (a_cs A) hp2
      show ∃ c2 d2, B_X0_takeOutThin_26 _ (lp _ fuel) _ = _ ∧ _
      generalize lp (B_X0_takeOutThin_26 d) fuel = self at ihx ⊢
      have hJ : ∃ c2 d2, J_X0_takeOutThin_53 (J (st (a_cs A) p), J p, c', d') self (J (st (a_cs A) (p + 1))) = some (c2, d2) ∧ TOi d d2 c2 T A (a_cs A).length ∧ cr_waiting c2 = cr_waiting c' ∧ cr_waitingCodes c2 = cr_waitingCodes c' ∧ cr_waitingCount c2 = cr_waitingCount c' := by
        unfold J_X0_takeOutThin_53
        dsimp only
        rw [gd_J (by omega) (by omega), J_nat (by omega), hth, hC p hp2, show J p + 1 = J (p + 1) from J_add _ 1]
        cases hT : T p with
        | true =>
          rw [if_pos rfl, if_neg (show ¬ J 1 = 0 by decide)]
          refine ihx c' d' ?_ hth (by omega)
          obtain ⟨i1, i2, i3, i4, i5, i6, i7⟩ := hI
          rw [← kl_thin (cs := a_cs A) hT] at i1
          refine ⟨i1, fun k h1 h2 => i2 k (by omega) h2, fun e h1 h2 => i3 e (by rw [st_step] at h1; omega) h2, i4, i5, i6, fun e he hTe => ?_⟩
          by_cases q : e < st (a_cs A) p
          · exact i7 e q hTe
          · rw [st_step] at he
            have hkp := kpl_at hp2 (i := e - st (a_cs A) p) (by omega)
            rw [show st (a_cs A) p + (e - st (a_cs A) p) = e by omega] at hkp
            rw [hkp, hT] at hTe
            cases hTe
        | false =>
          obtain ⟨c2, d2, y1, y2, y3, y4, y5, y6⟩ := keep_P hW hp2 hT hI
          obtain ⟨c3, d3, z1, z2, z3, z4, z5⟩ := ihx c2 d2 y2 (y3.trans hth) (by omega)
          refine ⟨c3, d3, ?_, z2, z3.trans y4, z4.trans y5, z5.trans y6⟩
          rw [if_neg (show ¬ (false = true) from Bool.false_ne_true), if_pos (show J 0 = 0 from rfl), y1]
          exact z1
      unfold B_X0_takeOutThin_26
      dsimp only
      rw [if_neg (show ¬ dk_containers d ≤ J p by rw [hd.1.2.2.1, J_le (by omega) (by omega)]; omega), show J p + 1 = J (p + 1) from J_add _ 1]
      by_cases q : p + 1 = (a_cs A).length
      · rw [if_pos (show dk_containers d ≤ J (p + 1) by rw [hd.1.2.2.1]; exact (J_le (by omega) (by omega)).mpr (by omega)), hd.1.2.2.2.1, ← q]
        rw [← q] at hJ
        exact hJ
      · rw [if_neg (show ¬ dk_containers d ≤ J (p + 1) by rw [hd.1.2.2.1, J_le (by omega) (by omega)]; omega), gd_J (by omega) (by omega), J_nat (by omega), (hI.2.1 (p + 1) (by omega) (by omega)).2.2]
        exact hJ
  have h0 : TOi d ((dk_settings d), (dk_numbers d), (dk_capacities d), (dk_firsts d), 0, (dk_codes d), (dk_places d), (dk_uses d), 0, (dk_references d), (dk_lengths d), (dk_nextNumber d), (dk_carried d)) c T A 0 := by
    refine ⟨⟨hd.1.1, hd.1.2.1, rfl, rfl, fun k hk => absurd hk (Nat.not_lt_zero _), fun e he => absurd he (Nat.not_lt_zero _)⟩, fun k _ hk => hd.1.2.2.2.2.1 k hk, fun e _ he => (hd.1.2.2.2.2.2 e he).1, rfl, rfl, rfl, fun e he => absurd he (Nat.not_lt_zero _)⟩
  obtain ⟨c2, d2, y1, y2⟩ := go (a_cs A).length 0 FU c _ (by omega) h0 rfl (by unfold FU; omega)
  exact ⟨c2, d2, y1, y2⟩
/-- the flags -/
theorem flags_P {c : CRT} {d : DKT} {A : AT} {N : Nat} (K : (Nat → Int32) → Option (Int32 × CRT × DKT)) (hd : DR d A) (hW : WF A N) : ∃ f, lp (B_X0_carryForward_2 d K) FU (0, cr_thin c) = K f ∧ ∀ k, k < (a_cs A).length → f k = J (if thn (a_se A) (a_cs A) (a_bs A) k then 1 else 0) := by
  have hn := WF_Wn hW
  have hn1 := hn.1
  obtain ⟨w1, w2, w3, -⟩ := hW
  refine ⟨fun k => if k < (a_cs A).length then J (if thn (a_se A) (a_cs A) (a_bs A) k then 1 else 0) else cr_thin c k, ?_, fun k hk => if_pos hk⟩
  have e0 : ((0 : Int32), cr_thin c) = (fun i => (J i, fun k => if k < i then J (if thn (a_se A) (a_cs A) (a_bs A) k then 1 else 0) else cr_thin c k)) 0 := by
    show _ = (J 0, fun k => if k < 0 then J (if thn (a_se A) (a_cs A) (a_bs A) k then 1 else 0) else cr_thin c k)
    rw [show (fun k => if k < 0 then J (if thn (a_se A) (a_cs A) (a_bs A) k then 1 else 0) else cr_thin c k) = cr_thin c from funext fun k => if_neg (by omega)]
    rfl
  rw [e0]
  refine lp_run (fun i => (J i, fun k => if k < i then J (if thn (a_se A) (a_cs A) (a_bs A) k then 1 else 0) else cr_thin c k)) (a_cs A).length (fun self i hi => ?_) (fun self => ?_) (by unfold FU; omega)
  · unfold B_X0_carryForward_2
    dsimp only
    rw [if_neg (show ¬ dk_containers d ≤ J i by rw [hd.1.2.2.1, J_le (by omega) (by omega)]; omega), isThin_D hd.1 hd.2.2.1 hn w2 w1 w3 hi]
    simp only [Option.bind_some]
    rw [gd_J (by omega) (by omega), J_nat (by omega), nar_b, show J i + 1 = J (i + 1) from J_add _ 1]
    congr 2
    funext k
    by_cases q : k = i
    · rw [q, upd_self, if_pos (show i < i + 1 by omega)]
    · rw [upd_ne _ _ q]
      by_cases z : k < i
      · rw [if_pos z, if_pos (show k < i + 1 by omega)]
      · rw [if_neg z, if_neg (show ¬ k < i + 1 by omega)]
  · unfold B_X0_carryForward_2
    dsimp only
    rw [if_pos (show dk_containers d ≤ J (a_cs A).length by rw [hd.1.2.2.1]; exact (J_le (by omega) (by omega)).mpr (Nat.le_refl _))]
