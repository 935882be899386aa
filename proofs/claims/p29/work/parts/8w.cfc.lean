/-! THE PURE SIDE: the class carries forward: waiting ones put away again -/
theorem wtg_sum {T : Nat → Bool} {cs : List Ct} {bs : Nat → List (Nat × Nat)} {k : Nat} (hk : k < cs.length) : cp (wtg T cs bs) (st cs (k + 1)) = cp (wtg T cs bs) (st cs k) + (if T k then lv cs bs 8 k else 0) := by
  cases hT : T k with
  | false => rw [wtg_not hk hT]; rfl
  | true =>
    rw [st_step, cp_add, if_pos rfl]
    congr 1
    refine cp_ext fun i hi => ?_
    unfold wtg
    rw [kpl_at hk hi, hT, pr_at hk hi]
    rfl
/-- kept ones and waiting ones are no more than all -/
theorem kw_le {T : Nat → Bool} {cs : List Ct} {bs : Nat → List (Nat × Nat)} : ∀ m, m ≤ cs.length → sm (fun k => if T k then 0 else si cs k) m + cp (wtg T cs bs) (st cs m) ≤ st cs m := by
  intro m
  induction m with
  | zero => intro _; exact Nat.le_refl _
  | succ m ih =>
    intro hm
    have := ih (by omega)
    have h2 := lv_le cs bs 8 m
    rw [sm_step, wtg_sum (by omega), st_step]
    split <;> omega
theorem kw_len {T : Nat → Bool} {cs : List Ct} {bs : Nat → List (Nat × Nat)} (hT : ∀ k, T k = true → k + 1 < cs.length) (h : BI cs bs) : 2 * (kl T cs cs.length).length + cp (wtg T cs bs) (st cs cs.length) ≤ 170 := by
  obtain ⟨g, h1, h2, h3⟩ := h
  have key : ∀ m, m < cs.length → 2 * cp (klb T) m + cp (wtg T cs bs) (st cs m) ≤ 2 * cp (fun k => decide (nu cs k < g)) m + sm (wg g cs bs) m := by
    intro m
    induction m with
    | zero => intro _; exact Nat.zero_le _
    | succ m ih =>
      intro hm
      have i1 := ih (by omega)
      have i4 := lv_le cs bs 8 m
      rw [cp_step, cp_step, sm_step, wtg_sum (by omega)]
      have i5 : lv cs bs 8 m ≤ wg g cs bs m := by unfold wg; split <;> omega
      cases hTm : T m with
      | true =>
        rw [if_neg (show ¬ klb T m = true by unfold klb; rw [hTm]; decide), if_pos rfl]
        omega
      | false =>
        rw [if_pos (show klb T m = true by unfold klb; rw [hTm]; rfl), if_neg (show ¬ (false = true) from Bool.false_ne_true)]
        by_cases q : nu cs m < g
        · rw [if_pos (decide_eq_true q)]; omega
        · have i2 := h2 m hm (by omega)
          have i3 : wg g cs bs m = si cs m := by unfold wg; rw [if_neg q]
          omega
  rw [kl_len]
  by_cases z : cs.length = 0
  · rw [z]; exact Nat.zero_le _
  · have k1 := key (cs.length - 1) (by omega)
    have e1 : cs.length = (cs.length - 1) + 1 := by omega
    have hTl : T (cs.length - 1) = false := by
      cases q : T (cs.length - 1) with
      | false => rfl
      | true => have := hT _ q; omega
    have a1 := wtg_sum (T := T) (bs := bs) (cs := cs) (k := cs.length - 1) (by omega)
    rw [hTl, if_neg (show ¬ (false = true) from Bool.false_ne_true), ← e1] at a1
    have a2 : cp (klb T) cs.length = cp (klb T) (cs.length - 1) + 1 := by
      rw [← cp_yes (show klb T (cs.length - 1) = true by unfold klb; rw [hTl]; rfl), ← e1]
    have a3 := cp_mono (fun k => decide (nu cs k < g)) (show cs.length - 1 ≤ cs.length by omega)
    have a4 := sm_mono (f := wg g cs bs) (show cs.length - 1 ≤ cs.length by omega)
    omega
theorem pw_room {cap nx0 : Nat} {g : Nat → List Nat} {cs0 : List Ct} (h2 : 2 ≤ cap) : ∀ w, 2 * (pw cap g cs0 nx0 w).1.length ≤ 2 * cs0.length + w ∨ (2 * (pw cap g cs0 nx0 w).1.length ≤ 2 * cs0.length + w + 1 ∧ room (pw cap g cs0 nx0 w).1) := by
  intro w
  induction w with
  | zero => exact Or.inl (Nat.le_refl _)
  | succ w ih =>
    rw [pw_step]
    show 2 * (put cap (pw cap g cs0 nx0 w).1 (pw cap g cs0 nx0 w).2 (g w)).length ≤ _ ∨ 2 * (put cap (pw cap g cs0 nx0 w).1 (pw cap g cs0 nx0 w).2 (g w)).length ≤ _ ∧ room (put cap (pw cap g cs0 nx0 w).1 (pw cap g cs0 nx0 w).2 (g w))
    by_cases h : room (pw cap g cs0 nx0 w).1
    · left
      rw [(put_yes h).1, upl_len]
      omega
    · right
      have h3 : 2 * (pw cap g cs0 nx0 w).1.length ≤ 2 * cs0.length + w := ih.resolve_right fun q => h q.2
      have hp := (put_no (cap := cap) (nx := (pw cap g cs0 nx0 w).2) (l := g w) h).1
      have e : ((pw cap g cs0 nx0 w).1 ++ [((pw cap g cs0 nx0 w).2, cap, [g w])]).length - 1 = (pw cap g cs0 nx0 w).1.length := by simp
      rw [hp]
      refine ⟨by rw [List.length_append]; show 2 * (_ + 1) ≤ _; omega, by rw [List.length_append]; exact Nat.succ_pos _, ?_⟩
      obtain ⟨b1, b2, b3⟩ := app_nu (pw cap g cs0 nx0 w).1 (pw cap g cs0 nx0 w).2 cap (g w) (pw cap g cs0 nx0 w).1.length
      rw [e, b2, b3, if_pos rfl, if_pos rfl]
      omega
theorem pw_len {cap nx0 : Nat} {g : Nat → List Nat} {cs0 : List Ct} (h2 : 2 ≤ cap) (w : Nat) : 2 * (pw cap g cs0 nx0 w).1.length ≤ 2 * cs0.length + w + 1 := by
  have := pw_room (g := g) (cs0 := cs0) (nx0 := nx0) h2 w
  omega
/-- how many wait; what waits; what is kept; then w of them put away -/
def wm (T : Nat → Bool) (A : AT) : Nat := cp (wtg T (a_cs A) (a_bs A)) (st (a_cs A) (a_cs A).length)
def wn (T : Nat → Bool) (A : AT) (w : Nat) : Nat := nth (wtg T (a_cs A) (a_bs A)) (st (a_cs A) (a_cs A).length) w
noncomputable def wp (T : Nat → Bool) (A : AT) (w : Nat) : List Ct × Nat := pw (a_se A 1) (fun w => cf (a_cs A) (wn T A w)) (kl T (a_cs A) (a_cs A).length) (a_nx A) w
theorem wn_of {T : Nat → Bool} {A : AT} {N w : Nat} (hW : WF A N) (hw : w < wm T A) : wn T A w < st (a_cs A) (a_cs A).length ∧ wtg T (a_cs A) (a_bs A) (wn T A w) = true ∧ cp (wtg T (a_cs A) (a_bs A)) (wn T A w) = w ∧ vch (cf (a_cs A) (wn T A w)) := by
  obtain ⟨a1, a2, a3⟩ := nth_of hw
  obtain ⟨k1, k2, k3⟩ := kpl_lt a1
  refine ⟨a1, a2, a3, ?_⟩
  exact (hW.1.2.1 _ k1).2.2.2.2.2 _ k3
theorem wp_all {T : Nat → Bool} {A : AT} {N : Nat} (hW : WF A N) (hN : N ≤ 600) (hT : ∀ k, T k = true → k + 1 < (a_cs A).length) : ∀ w, w ≤ wm T A → Wc (wp T A w).1 (wp T A w).2 ∧ (wp T A w).2 ≤ a_nx A + w ∧ a_nx A ≤ (wp T A w).2 ∧ st (wp T A w).1 (wp T A w).1.length = st (kl T (a_cs A) (a_cs A).length) (kl T (a_cs A) (a_cs A).length).length + w ∧ (kl T (a_cs A) (a_cs A).length).length ≤ (wp T A w).1.length ∧ 2 * (wp T A w).1.length ≤ 171 ∧ st (wp T A w).1 (wp T A w).1.length ≤ 192 := by
  intro w hw
  obtain ⟨w1, w2, w3, w4, w5, w6⟩ := hW
  have hm : wm T A ≤ 192 := Nat.le_trans (cp_le _ _) w5
  have hW0 : WF A N := ⟨w1, w2, w3, w4, w5, w6⟩
  have h := pw_all (cap := a_se A 1) (g := fun w => cf (a_cs A) (wn T A w)) (m := wm T A) (kl_Wc (T := T) w1 (Nat.le_refl _)) (fun w hw => (wn_of hW0 hw).2.2.2) w3.2.2.1 w3.2.2.2.1 (by omega) w hw
  obtain ⟨h1, h2, h3, h4, h5, h6⟩ := h
  have h7 := pw_len (g := fun w => cf (a_cs A) (wn T A w)) (cs0 := kl T (a_cs A) (a_cs A).length) (nx0 := a_nx A) w3.2.2.1 w
  have h8 : 2 * (kl T (a_cs A) (a_cs A).length).length + wm T A ≤ 170 := kw_len hT w4
  have h9 : sm (fun k => if T k then 0 else si (a_cs A) k) (a_cs A).length + wm T A ≤ st (a_cs A) (a_cs A).length := kw_le _ (Nat.le_refl _)
  rw [← kl_stn] at h9
  refine ⟨h1, h2, h3, h4, h5, ?_, ?_⟩
  · show 2 * (pw _ _ _ _ _).1.length ≤ _
    omega
  · show st (pw _ _ _ _ _).1 (pw _ _ _ _ _).1.length ≤ _
    omega
def PLi (d0 : DKT) (c : CRT) (d : DKT) (T : Nat → Bool) (A : AT) (w : Nat) : Prop := RDc d (a_se A) (wp T A w).2 (wp T A w).1 ∧ dk_references d = dk_references d0 ∧ dk_lengths d = dk_lengths d0 ∧ dk_carried d = dk_carried d0 ∧ cr_waitingCount c = J (wm T A) ∧ (∀ v, v < wm T A → cr_waiting c v = J (wn T A v) ∧ cr_waitingCodes c v = J (c8 (cf (a_cs A) (wn T A v)))) ∧ (∀ e, e < st (a_cs A) (a_cs A).length → T (kpl (a_cs A) e) = false → cr_goesTo c e = J (sm (fun k => if T k then 0 else si (a_cs A) k) (kpl (a_cs A) e) + (e - st (a_cs A) (kpl (a_cs A) e)))) ∧ ∀ v, v < w → cr_goesTo c (wn T A v) = J (st (kl T (a_cs A) (a_cs A).length) (kl T (a_cs A) (a_cs A).length).length + v)
theorem putting_P {d0 d : DKT} {c : CRT} {A : AT} {N : Nat} {T : Nat → Bool} (K : CRT × DKT → Option (Int32 × CRT × DKT)) (hW : WF A N) (hN : N ≤ 600) (hT : ∀ k, T k = true → k + 1 < (a_cs A).length) (hI : PLi d0 c d T A 0) : ∃ c' d', lp (B_X0_carryForward_39 K) FU (0, c, d) = K (c', d') ∧ PLi d0 c' d' T A (wm T A) := by
  have hn := WF_Wn hW
  have hn2 := hn.2
  have hm : wm T A ≤ 192 := Nat.le_trans (cp_le _ _) hn2
  have go : ∀ (x w fuel : Nat) (c : CRT) (d : DKT), w + x = wm T A → PLi d0 c d T A w → x < fuel → ∃ c' d', lp (B_X0_carryForward_39 K) fuel (J w, c, d) = K (c', d') ∧ PLi d0 c' d' T A (wm T A) := by
    intro x
    induction x with
    | zero =>
      intro w fuel c d hw hI hf
      obtain ⟨fuel, rfl⟩ : ∃ q, fuel = q + 1 := ⟨fuel - 1, by omega⟩
      obtain rfl : w = wm T A := by omega
      refine ⟨c, d, ?_, hI⟩
      show B_X0_carryForward_39 _ _ _ = _
      unfold B_X0_carryForward_39
      rw [if_pos (show cr_waitingCount c ≤ J (wm T A) by rw [hI.2.2.2.2.1]; exact (J_le (by omega) (by omega)).mpr (Nat.le_refl _))]
    | succ x ih =>
      intro w fuel c d hw hI hf
      obtain ⟨fuel, rfl⟩ : ∃ q, fuel = q + 1 := ⟨fuel - 1, by omega⟩
      have ihx := fun c2 d2 => ih (w + 1) fuel c2 d2 (by omega)
      clear ih
      show ∃ c' d', B_X0_carryForward_39 _ (lp _ fuel) _ = _ ∧ _
      generalize lp (B_X0_carryForward_39 K) fuel = self at ihx ⊢
      obtain ⟨i1, i2, i3, i4, i5, i6, i7, i8⟩ := hI
      have hw2 : w < wm T A := by omega
      obtain ⟨a1, a2, a3, a4, a5, a6, a7⟩ := wp_all hW hN hT w (by omega)
      obtain ⟨b1, b2, b3, b4, b5, b6, b7⟩ := wp_all hW hN hT (w + 1) (by omega)
      obtain ⟨v1, v2, v3, v4⟩ := wn_of hW hw2
      have hstep : wp T A (w + 1) = (put (a_se A 1) (wp T A w).1 (wp T A w).2 (cf (a_cs A) (wn T A w)), putn (wp T A w).1 (wp T A w).2) := rfl
      rw [hstep] at b6
      have b6' : 2 * (put (a_se A 1) (wp T A w).1 (wp T A w).2 (cf (a_cs A) (wn T A w))).length ≤ 171 := b6
      obtain ⟨d2, y1, y2, y3, y4, y5, y6⟩ := putAway_D (l := cf (a_cs A) (wn T A w)) i1 ⟨by omega, a7⟩ a1 (by omega) (by omega)
      have hld : F_X0_leads c (J (wn T A w)) (J (st (wp T A w).1 (wp T A w).1.length)) = some ((cr_thin c), (upd (cr_goesTo c) (wn T A w) (J (st (wp T A w).1 (wp T A w).1.length))), (cr_waiting c), (cr_waitingCodes c), (cr_waitingCount c)) := by
        unfold F_X0_leads
        rw [if_neg (show ¬ J (wn T A w) < 0 from J_neg (by omega)), if_neg (show ¬ 192 ≤ J (wn T A w) from fun z => by have := (J_le (a := 192) (by omega) (by omega)).mp z; omega), gd_J (by omega) (by omega), J_nat (by omega)]
      have hI2 : PLi d0 ((cr_thin c), (upd (cr_goesTo c) (wn T A w) (J (st (wp T A w).1 (wp T A w).1.length))), (cr_waiting c), (cr_waitingCodes c), (cr_waitingCount c)) d2 T A (w + 1) := by
        refine ⟨by rw [hstep]; exact y2, y3.trans i2, y4.trans i3, y5.trans i4, i5, i6, fun e he hTe => ?_, fun v hv => ?_⟩
        · show upd (cr_goesTo c) (wn T A w) (J (st (wp T A w).1 (wp T A w).1.length)) e = _
          by_cases q : e = wn T A w
          · rw [← q] at v2
            unfold wtg at v2
            rw [hTe] at v2
            cases v2
          · rw [upd_ne _ _ q]
            exact i7 e he hTe
        · show upd (cr_goesTo c) (wn T A w) (J (st (wp T A w).1 (wp T A w).1.length)) (wn T A v) = _
          by_cases q : v = w
          · rw [q, upd_self, a4]
          · obtain ⟨u1, u2, u3, u4⟩ := wn_of (T := T) hW (show v < wm T A by omega)
            rw [upd_ne _ _ fun z => q (by rw [← u3, z, v3])]
            exact i8 v (by omega)
      obtain ⟨c3, d3, z1, z2⟩ := ihx _ d2 hI2 (by omega)
      refine ⟨c3, d3, ?_, z2⟩
      unfold B_X0_carryForward_39
      dsimp only
      rw [if_neg (show ¬ cr_waitingCount c ≤ J w by rw [i5, J_le (by omega) (by omega)]; omega), gd_J (by omega) (by omega), gd_J (by omega) (by omega), J_nat (by omega), (i6 w hw2).1, (i6 w hw2).2, y1, show J w + 1 = J (w + 1) from J_add _ 1]
      simp only [Option.bind_some]
      rw [hld]
      exact z1
  exact go (wm T A) 0 FU c d (by omega) hI (by unfold FU; omega)
