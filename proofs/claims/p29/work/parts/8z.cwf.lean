/-! THE PURE SIDE: a state carried forward keeps the bounds -/
theorem count_map {f : Nat × Nat → Nat × Nat} {r : Nat × Nat} : ∀ {l : List (Nat × Nat)}, (∀ x ∈ l, f x = r ↔ x = r) → (l.map f).count r = l.count r := by
  intro l
  induction l with
  | nil => intro _; rfl
  | cons x l ih =>
    intro h
    have h1 := ih fun y hy => h y (List.mem_cons_of_mem _ hy)
    have h2 := h x List.mem_cons_self
    rw [List.map_cons, List.count_cons, List.count_cons, h1]
    by_cases q : x = r
    · rw [if_pos (beq_iff_eq.mpr (h2.mpr q)), if_pos (beq_iff_eq.mpr q)]
    · rw [if_neg (fun z => q (h2.mp (beq_iff_eq.mp z))), if_neg (fun z => q (beq_iff_eq.mp z))]
theorem kl_cp {T : Nat → Bool} {cs : List Ct} {g : Nat} : ∀ n, cp (fun j => decide (nu (kl T cs n) j < g)) (kl T cs n).length ≤ cp (fun k => decide (nu cs k < g)) n := by
  intro n
  induction n with
  | zero => exact Nat.le_refl _
  | succ n ih =>
    cases h : T n with
    | true =>
      rw [kl_thin h, cp_step]
      omega
    | false =>
      rw [kl_keep h, List.length_append]
      show cp _ ((kl T cs n).length + 1) ≤ _
      rw [cp_step, cp_step, cp_ext (q := fun j => decide (nu (kl T cs n) j < g)) fun i hi => by
        unfold nu
        rw [app_cn, if_neg (by omega)]]
      have e : nu (kl T cs n ++ [cn cs n]) (kl T cs n).length = nu cs n := by
        unfold nu
        rw [app_cn, if_pos rfl]
      rw [e]
      omega
theorem put_cp {cap nx g : Nat} {cs : List Ct} {l : List Nat} (hg : g ≤ nx) : cp (fun j => decide (nu (put cap cs nx l) j < g)) (put cap cs nx l).length = cp (fun k => decide (nu cs k < g)) cs.length := by
  by_cases h : room cs
  · rw [(put_yes h).1, upl_len]
    exact cp_ext fun i hi => by rw [(upl_nu h.1 i).1]
  · rw [(put_no h).1, List.length_append]
    show cp _ (cs.length + 1) = _
    have e := (app_nu cs nx cap l cs.length).1
    rw [if_pos rfl] at e
    rw [cp_no (decide_eq_false (show ¬ nu (cs ++ [(nx, cap, [l])]) cs.length < g by rw [e]; omega))]
    exact cp_ext fun i hi => by rw [(app_nu cs nx cap l i).1, if_neg (by omega)]
theorem put_two {cap nx g : Nat} {cs : List Ct} {l : List Nat} (hW : Wc cs nx) (h : ∀ k, k + 1 < cs.length → g ≤ nu cs k → 2 ≤ si cs k) : ∀ k, k + 1 < (put cap cs nx l).length → g ≤ nu (put cap cs nx l) k → 2 ≤ si (put cap cs nx l) k := by
  intro k hk hg
  by_cases r : room cs
  · rw [(put_yes r).1, upl_len] at hk
    rw [(put_yes r).1] at hg ⊢
    obtain ⟨b1, b2, b3⟩ := upl_nu (l := l) r.1 k
    rw [b1] at hg
    have := h k hk hg
    omega
  · rw [(put_no r).1, List.length_append] at hk
    have hk' : k + 1 < cs.length + 1 := hk
    rw [(put_no r).1] at hg ⊢
    obtain ⟨b1, b2, b3⟩ := app_nu cs nx cap l k
    rw [if_neg (by omega)] at b1 b3
    rw [b1] at hg
    rw [b3]
    by_cases q : k + 1 < cs.length
    · exact h k q hg
    · obtain ⟨a1, a2, a3, a4, a5, a6⟩ := hW.2.1 k (by omega)
      have : ¬ si cs (cs.length - 1) < ca cs (cs.length - 1) := fun w => r ⟨by omega, w⟩
      rw [show cs.length - 1 = k by omega] at this
      omega
theorem lv_ext {cs cs' : List Ct} {bs bs' : Nat → List (Nat × Nat)} {k k' : Nat} (h1 : si cs' k' = si cs k) (h2 : ∀ i, i < si cs k → cnt bs' 8 (nu cs' k', i) = cnt bs 8 (nu cs k, i)) : lv cs' bs' 8 k' = lv cs bs 8 k := by
  unfold lv
  rw [h1]
  exact cp_ext fun i hi => by rw [h2 i hi]
theorem put_wg {cap nx g : Nat} {cs : List Ct} {l : List Nat} {bs : Nat → List (Nat × Nat)} : sm (wg g (put cap cs nx l) bs) (put cap cs nx l).length ≤ sm (wg g cs bs) cs.length + 1 := by
  by_cases h : room cs
  · have h0 := h.1
    rw [(put_yes h).1, upl_len]
    have e : cs.length = (cs.length - 1) + 1 := by omega
    rw [e, sm_step, sm_step]
    rw [sm_ext (q := wg g cs bs) fun k hk => by
      obtain ⟨b1, b2, b3⟩ := upl_nu (l := l) h0 k
      rw [if_neg (by omega)] at b3
      unfold wg
      rw [b1, b3, lv_ext (cs := cs) (bs := bs) (k := k) b3 fun i hi => by rw [b1]]
      rfl]
    obtain ⟨b1, b2, b3⟩ := upl_nu (l := l) h0 (cs.length - 1)
    rw [if_pos rfl] at b3
    have : wg g (upl cs l) bs (cs.length - 1) ≤ wg g cs bs (cs.length - 1) + 1 := by
      unfold wg
      rw [b1, b3]
      by_cases q : nu cs (cs.length - 1) < g
      · rw [if_pos q, if_pos q]
        unfold lv
        rw [b1, b3, cp_step]
        split <;> omega
      · rw [if_neg q, if_neg q]
        exact Nat.le_refl _
    omega
  · rw [(put_no h).1, List.length_append]
    show sm _ (cs.length + 1) ≤ _
    rw [sm_step, sm_ext (q := wg g cs bs) fun k hk => by
      obtain ⟨b1, b2, b3⟩ := app_nu cs nx cap l k
      rw [if_neg (by omega)] at b1 b3
      unfold wg
      rw [b1, b3, lv_ext (cs := cs) (bs := bs) (k := k) b3 fun i hi => by rw [b1]]]
    have : wg g (cs ++ [(nx, cap, [l])]) bs cs.length ≤ 1 := by
      obtain ⟨b1, b2, b3⟩ := app_nu cs nx cap l cs.length
      rw [if_pos rfl] at b3
      have := lv_le (cs ++ [(nx, cap, [l])]) bs 8 cs.length
      unfold wg
      split <;> omega
    omega
theorem kl_wg {T : Nat → Bool} {cs : List Ct} {bs bs' : Nat → List (Nat × Nat)} {g : Nat} (h : ∀ k, k < cs.length → T k = false → ∀ i, i < si cs k → cnt bs' 8 (nu cs k, i) = cnt bs 8 (nu cs k, i)) : ∀ n, n ≤ cs.length → sm (wg g (kl T cs n) bs') (kl T cs n).length + cp (wtg T cs bs) (st cs n) ≤ sm (wg g cs bs) n := by
  intro n
  induction n with
  | zero => intro _; exact Nat.le_refl _
  | succ n ih =>
    intro hn
    have i1 := ih (by omega)
    have i4 := lv_le cs bs 8 n
    rw [wtg_sum (by omega), sm_step]
    have i5 : lv cs bs 8 n ≤ wg g cs bs n := by unfold wg; split <;> omega
    cases hT : T n with
    | true =>
      rw [kl_thin hT, if_pos rfl]
      omega
    | false =>
      rw [kl_keep hT, List.length_append, if_neg (show ¬ (false = true) from Bool.false_ne_true)]
      show sm _ ((kl T cs n).length + 1) + _ ≤ _
      have e0 : ∀ k, k < (kl T cs n).length → nu (kl T cs n ++ [cn cs n]) k = nu (kl T cs n) k ∧ si (kl T cs n ++ [cn cs n]) k = si (kl T cs n) k := fun k hk => by
        unfold nu si
        rw [app_cn, if_neg (by omega)]
        exact ⟨rfl, rfl⟩
      have e1 : nu (kl T cs n ++ [cn cs n]) (kl T cs n).length = nu cs n ∧ si (kl T cs n ++ [cn cs n]) (kl T cs n).length = si cs n := by
        unfold nu si
        rw [app_cn, if_pos rfl]
        exact ⟨rfl, rfl⟩
      rw [sm_step, sm_ext (q := wg g (kl T cs n) bs') fun k hk => by
        obtain ⟨b1, b3⟩ := e0 k hk
        unfold wg
        rw [b1, b3, lv_ext (cs := kl T cs n) (bs := bs') (k := k) b3 fun i hi => by rw [b1]]]
      have : wg g (kl T cs n ++ [cn cs n]) bs' (kl T cs n).length = wg g cs bs n := by
        unfold wg
        rw [e1.1, e1.2, lv_ext (cs := cs) (bs := bs) (k := n) e1.2 fun i hi => by rw [e1.1]; exact h n (by omega) hT i hi]
      omega
theorem crf_cnt {A : AT} {N k i : Nat} (hW : WF A N) (hN : N ≤ 600) (hk : k < (a_cs A).length) (hT : TH A k = false) (hi : i < si (a_cs A) k) : cnt (rdb (crf A) (a_bs A) 8) 8 (nu (a_cs A) k, i) = cnt (a_bs A) 8 (nu (a_cs A) k, i) := by
  unfold cnt
  refine sm_ext fun b hb => ?_
  rw [rdb8 _ _ hb, count_map fun x hx => ?_]
  obtain ⟨y, y1, y2⟩ := List.getElem_of_mem hx
  have hxy : x = rf (a_bs A b) y := by
    unfold rf
    rw [List.getElem?_eq_getElem y1]
    exact y2.symm
  have hrv : RV (a_cs A) x := by rw [hxy]; exact (hW.2.1 b hb).2 y y1
  obtain ⟨q1, q2, q3, q4⟩ := crf_at hW hN hb y1
  rw [← hxy] at q1 q2 q3 q4
  obtain ⟨p1, p2, p3⟩ := pl_RV hW.1 hrv
  cases hx2 : TH A (pl (a_cs A) x.1) with
  | false =>
    have : crf A x = x := by unfold crf; rw [hx2]; rfl
    rw [this]
  | true =>
    have hr : RV (a_cs A) (nu (a_cs A) k, i) := ⟨k, hk, rfl, hi⟩
    have hplk : pl (a_cs A) (nu (a_cs A) k) = k := pl_at hW.1 hk
    constructor
    · intro z
      obtain ⟨r1, r2, r3⟩ := q4 hx2
      obtain ⟨k1, k2, k3, k4⟩ := kl_RV (T := TH A) hW.1 hr (by rw [hplk]; exact hT)
      have hall := fun w hw => (wp_all hW hN (TH_last (A := A)) w hw).1
      obtain ⟨m1, m2, m3, m4⟩ := pw_mono (w := 0) hall (wm (TH A) A) (by omega) _ k1
      rw [Nat.zero_add] at m3
      have h1 := (ex_in (kl_Wc (T := TH A) hW.1 (Nat.le_refl _)) k1).1
      have h2 : ex (wp (TH A) A (wm (TH A) A)).1 (nu (a_cs A) k, i) = ex (kl (TH A) (a_cs A) (a_cs A).length) (nu (a_cs A) k, i) := m3
      rw [z, h2] at r3
      omega
    · intro z
      rw [z, show pl (a_cs A) (nu (a_cs A) k, i).1 = k from hplk, hT] at hx2
      cases hx2
theorem wm_le {A : AT} {N : Nat} (hW : WF A N) : wm (TH A) A ≤ 120 := by
  obtain ⟨g, h1, h2, h3⟩ := hW.2.2.2.1
  have := kl_wg (T := TH A) (bs := a_bs A) (bs' := a_bs A) (g := g) (cs := a_cs A) (fun _ _ _ _ _ => rfl) (a_cs A).length (Nat.le_refl _)
  unfold wm
  omega
theorem acar_WF {A : AT} {N : Nat} (hW : WF A N) (hN : N ≤ 600) : WF (acar A) (N + 1) := by
  obtain ⟨a1, a2, a3, a4, a5, a6, a7⟩ := wp_all hW hN (TH_last (A := A)) (wm (TH A) A) (Nat.le_refl _)
  have hm := wm_le hW
  have hx := hW.2.2.2.2.2
  refine ⟨a1, fun b hb => ?_, hW.2.2.1, ?_, a7, by show (wp (TH A) A (wm (TH A) A)).2 ≤ _; omega⟩
  · show (rdb (crf A) (a_bs A) 8 b).length ≤ 15 ∧ ∀ i, i < (rdb (crf A) (a_bs A) 8 b).length → RV (wp (TH A) A (wm (TH A) A)).1 (rf (rdb (crf A) (a_bs A) 8 b) i)
    rw [rdb8 _ _ hb, List.length_map]
    refine ⟨(hW.2.1 b hb).1, fun i hi => ?_⟩
    rw [rf_map hi]
    exact (crf_at hW hN hb hi).1
  · obtain ⟨g, h1, h2, h3⟩ := hW.2.2.2.1
    have hlt : ∀ k, k < (a_cs A).length → (nu (a_cs A) k < min g (a_nx A) ↔ nu (a_cs A) k < g) := fun k hk => by
      have := (hW.1.2.1 k hk).2.2.2.2.1
      omega
    have hw : ∀ w, w ≤ wm (TH A) A → cp (fun j => decide (nu (wp (TH A) A w).1 j < min g (a_nx A))) (wp (TH A) A w).1.length ≤ 24 ∧ (∀ k, k + 1 < (wp (TH A) A w).1.length → min g (a_nx A) ≤ nu (wp (TH A) A w).1 k → 2 ≤ si (wp (TH A) A w).1 k) ∧ sm (wg (min g (a_nx A)) (wp (TH A) A w).1 (rdb (crf A) (a_bs A) 8)) (wp (TH A) A w).1.length + wm (TH A) A ≤ 120 + w := by
      intro w
      induction w with
      | zero =>
        intro _
        refine ⟨?_, fun j hj hg => ?_, ?_⟩
        · refine Nat.le_trans (kl_cp (T := TH A) (cs := a_cs A) (g := min g (a_nx A)) (a_cs A).length) ?_
          rw [cp_ext (q := fun k => decide (nu (a_cs A) k < g)) fun k hk => decide_eq_decide.mpr (hlt k hk)]
          exact h1
        · have hj' : j + 1 < (kl (TH A) (a_cs A) (a_cs A).length).length := hj
          have hg' : min g (a_nx A) ≤ nu (kl (TH A) (a_cs A) (a_cs A).length) j := hg
          show 2 ≤ si (kl (TH A) (a_cs A) (a_cs A).length) j
          rw [kl_len] at hj'
          obtain ⟨k, k1, k2, k3⟩ := kl_sur (T := TH A) (n := (a_cs A).length) (j := j) (by omega)
          obtain ⟨f1, f2, f3, f4⟩ := kl_f (cs := a_cs A) k1 k2
          rw [k3] at f1 f3
          rw [f1] at hg'
          rw [f3]
          refine h2 k ?_ ?_
          · rcases Nat.lt_or_ge (k + 1) (a_cs A).length with q | q
            · exact q
            · have e : (a_cs A).length = k + 1 := by omega
              rw [e, cp_yes (show klb (TH A) k = true by unfold klb; rw [k2]; rfl)] at hj'
              omega
          · have := hlt k k1
            omega
        · have := kl_wg (T := TH A) (bs := a_bs A) (bs' := rdb (crf A) (a_bs A) 8) (g := min g (a_nx A)) (cs := a_cs A) (fun k hk hT i hi => crf_cnt hW hN hk hT hi) (a_cs A).length (Nat.le_refl _)
          have e : sm (wg (min g (a_nx A)) (a_cs A) (a_bs A)) (a_cs A).length = sm (wg g (a_cs A) (a_bs A)) (a_cs A).length := sm_ext fun k hk => by
            unfold wg
            by_cases q : nu (a_cs A) k < g
            · rw [if_pos q, if_pos ((hlt k hk).mpr q)]
            · rw [if_neg q, if_neg fun z => q ((hlt k hk).mp z)]
          rw [e] at this
          show sm (wg _ (kl (TH A) (a_cs A) (a_cs A).length) _) (kl (TH A) (a_cs A) (a_cs A).length).length + cp (wtg (TH A) (a_cs A) (a_bs A)) (st (a_cs A) (a_cs A).length) ≤ _
          omega
      | succ w ih =>
        intro hw
        obtain ⟨i1, i2, i3⟩ := ih (by omega)
        obtain ⟨b1, b2, b3, b4, b5, b6, b7⟩ := wp_all hW hN (TH_last (A := A)) w (by omega)
        have hstep : wp (TH A) A (w + 1) = (put (a_se A 1) (wp (TH A) A w).1 (wp (TH A) A w).2 (cf (a_cs A) (wn (TH A) A w)), putn (wp (TH A) A w).1 (wp (TH A) A w).2) := rfl
        rw [hstep]
        refine ⟨?_, put_two b1 i2, ?_⟩
        · refine Nat.le_trans (Nat.le_of_eq (put_cp (cap := a_se A 1) (l := cf (a_cs A) (wn (TH A) A w)) (by omega))) i1
        · have := put_wg (cap := a_se A 1) (nx := (wp (TH A) A w).2) (g := min g (a_nx A)) (cs := (wp (TH A) A w).1) (l := cf (a_cs A) (wn (TH A) A w)) (bs := rdb (crf A) (a_bs A) 8)
          show sm (wg _ (put _ _ _ _) _) (put _ _ _ _).length + _ ≤ _
          omega
    obtain ⟨z1, z2, z3⟩ := hw (wm (TH A) A) (Nat.le_refl _)
    exact ⟨min g (a_nx A), z1, z2, by show sm (wg (min g (a_nx A)) (wp (TH A) A (wm (TH A) A)).1 (rdb (crf A) (a_bs A) 8)) (wp (TH A) A (wm (TH A) A)).1.length ≤ 120; omega⟩
