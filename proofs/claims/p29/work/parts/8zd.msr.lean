/-! THE PURE SIDE: the Model carries forward: its references in between -/
theorem nrf_ap {P X : List Ct} (h : X ≠ []) : nrf (P ++ X) = nrf X := by
  obtain ⟨e1, e2⟩ := ap_last (P := P) h
  unfold nrf nu si
  rw [e2]
/-- what the last container becomes -/
noncomputable def lw (T : Nat → Bool) (A : AT) (w : Nat) : List Ct × Nat := pw (a_se A 1) (fun w => cf (a_cs A) (wn T A w)) [cn (a_cs A) ((a_cs A).length - 1)] (a_nx A) w
theorem tlc_last {cs : List Ct} {k : Nat} (hk : k < cs.length) : tlc cs k (cs.length - k) = tlc cs k (cs.length - k - 1) ++ [cn cs (cs.length - 1)] := by
  have e : cs.length - k = (cs.length - k - 1) + 1 := by omega
  have h : tlc cs k ((cs.length - k - 1) + 1) = tlc cs k (cs.length - k - 1) ++ [cn cs (k + (cs.length - k - 1))] := rfl
  rw [← e, show k + (cs.length - k - 1) = cs.length - 1 by omega] at h
  exact h
theorem lw_ne {T : Nat → Bool} {A : AT} {w : Nat} : (lw T A w).1 ≠ [] := pw_ne (List.cons_ne_nil _ _) w
theorem ms_lw {T : Nat → Bool} {A : AT} {k w : Nat} (hk : k < (a_cs A).length) : ∃ P, ms T A k w = (P ++ (lw T A w).1, (lw T A w).2) := by
  refine ⟨kl T (a_cs A) k ++ tlc (a_cs A) k ((a_cs A).length - k - 1), ?_⟩
  rw [ms_pw hk, tlc_last hk, ← List.append_assoc, pw_ap (List.cons_ne_nil _ _)]
  rfl
theorem ms_nrf {T : Nat → Bool} {A : AT} {k w : Nat} (hk : k < (a_cs A).length) : nrf (ms T A k w).1 = nrf (lw T A w).1 := by
  obtain ⟨P, e⟩ := ms_lw (T := T) (w := w) hk
  rw [e]
  exact nrf_ap lw_ne
theorem wp_nrf {T : Nat → Bool} {A : AT} {w : Nat} (h0 : 0 < (a_cs A).length) (hT : T ((a_cs A).length - 1) = false) : nrf (wp T A w).1 = nrf (lw T A w).1 := by
  rw [← ms_end (k := (a_cs A).length - 1) (by omega) hT]
  exact ms_nrf (by omega)
/-- numbers of new places are beyond those of thin ones -/
theorem lw_num {T : Nat → Bool} {A : AT} {N : Nat} (hW : WF A N) (h0 : 0 < (a_cs A).length) : ∀ w, nu (a_cs A) ((a_cs A).length - 1) ≤ (nrf (lw T A w).1).1 ∧ nu (a_cs A) ((a_cs A).length - 1) < (lw T A w).2 := by
  intro w
  induction w with
  | zero => exact ⟨Nat.le_refl _, (hW.1.2.1 _ (by omega)).2.2.2.2.1⟩
  | succ w ih =>
    have hs : lw T A (w + 1) = (put (a_se A 1) (lw T A w).1 (lw T A w).2 (cf (a_cs A) (wn T A w)), putn (lw T A w).1 (lw T A w).2) := rfl
    rw [hs]
    by_cases r : room (lw T A w).1
    · have h1 := r.1
      show _ ≤ (nrf (put _ _ _ _)).1 ∧ _ < putn _ _
      rw [(put_yes r).1, (put_yes (cap := a_se A 1) (l := cf (a_cs A) (wn T A w)) r).2]
      refine ⟨?_, ih.2⟩
      show _ ≤ nu (upl _ _) ((upl _ _).length - 1)
      rw [(upl_nu h1 _).1, upl_len]
      exact ih.1
    · show _ ≤ (nrf (put _ _ _ _)).1 ∧ _ < putn _ _
      rw [(put_no r).1, (put_no (cap := a_se A 1) (l := cf (a_cs A) (wn T A w)) r).2]
      refine ⟨?_, by have := ih.2; omega⟩
      have e : ((lw T A w).1 ++ [((lw T A w).2, a_se A 1, [cf (a_cs A) (wn T A w)])]).length - 1 = (lw T A w).1.length := by rw [List.length_append]; rfl
      show _ ≤ nu (_ ++ [_]) ((_ ++ [_]).length - 1)
      rw [e, (app_nu _ _ _ _ _).1, if_pos rfl]
      exact Nat.le_of_lt ih.2
/-- where a reference goes when w ones are put away -/
noncomputable def crw (A : AT) (w : Nat) (r : Nat × Nat) : Nat × Nat := if TH A (pl (a_cs A) r.1) = true ∧ cp (wtg (TH A) (a_cs A) (a_bs A)) (ex (a_cs A) r) < w then nrf (lw (TH A) A (cp (wtg (TH A) (a_cs A) (a_bs A)) (ex (a_cs A) r) + 1)).1 else r
theorem crw_ne {A : AT} {N w k i : Nat} {r : Nat × Nat} (hW : WF A N) (hk : k + 1 < (a_cs A).length) (hr : TH A (pl (a_cs A) r.1) = true ∧ cp (wtg (TH A) (a_cs A) (a_bs A)) (ex (a_cs A) r) < w) : crw A w r ≠ (nu (a_cs A) k, i) := by
  unfold crw
  rw [if_pos hr]
  intro z
  have h1 := (lw_num (T := TH A) hW (by omega) (cp (wtg (TH A) (a_cs A) (a_bs A)) (ex (a_cs A) r) + 1)).1
  rw [z] at h1
  have h2 := hW.1.2.2 k ((a_cs A).length - 1) (by omega) (by omega)
  have h3 : nu (a_cs A) ((a_cs A).length - 1) ≤ nu (a_cs A) k := h1
  omega
theorem ex_eq {cs : List Ct} {nx k i : Nat} (hW : Wc cs nx) (hk : k < cs.length) : ex cs (nu cs k, i) = st cs k + i := by
  unfold ex
  rw [show pl cs (nu cs k, i).1 = k from pl_at hW hk]
theorem crw_iff {A : AT} {N k i b : Nat} {r : Nat × Nat} (hW : WF A N) (hk : k + 1 < (a_cs A).length) (hb : b < 8) (hr : r ∈ a_bs A b) : crw A (cp (wtg (TH A) (a_cs A) (a_bs A)) (st (a_cs A) k + i)) r = (nu (a_cs A) k, i) ↔ r = (nu (a_cs A) k, i) := by
  constructor
  · intro z
    by_cases q : TH A (pl (a_cs A) r.1) = true ∧ cp (wtg (TH A) (a_cs A) (a_bs A)) (ex (a_cs A) r) < cp (wtg (TH A) (a_cs A) (a_bs A)) (st (a_cs A) k + i)
    · exact absurd z (crw_ne hW hk q)
    · unfold crw at z
      rw [if_neg q] at z
      exact z
  · intro z
    unfold crw
    rw [if_neg, z]
    rw [z, ex_eq hW.1 (by omega)]
    exact fun q => absurd q.2 (Nat.lt_irrefl _)
theorem crw_cnt {A : AT} {N k i : Nat} (hW : WF A N) (hk : k + 1 < (a_cs A).length) : cnt (fun b => (a_bs A b).map (crw A (cp (wtg (TH A) (a_cs A) (a_bs A)) (st (a_cs A) k + i)))) 8 (nu (a_cs A) k, i) = cnt (a_bs A) 8 (nu (a_cs A) k, i) := by
  unfold cnt
  refine sm_ext fun b hb => ?_
  rw [count_map fun x hx => crw_iff hW hk hb hx]
theorem crw_step {A : AT} {N k i b : Nat} (hW : WF A N) (hk : k + 1 < (a_cs A).length) (hi : i < si (a_cs A) k) (hw : wtg (TH A) (a_cs A) (a_bs A) (st (a_cs A) k + i) = true) (hb : b < 8) : ((a_bs A b).map (crw A (cp (wtg (TH A) (a_cs A) (a_bs A)) (st (a_cs A) k + i)))).map (ld (nu (a_cs A) k) i (nrf (lw (TH A) A (cp (wtg (TH A) (a_cs A) (a_bs A)) (st (a_cs A) k + i) + 1)).1).1 (nrf (lw (TH A) A (cp (wtg (TH A) (a_cs A) (a_bs A)) (st (a_cs A) k + i) + 1)).1).2) = (a_bs A b).map (crw A (cp (wtg (TH A) (a_cs A) (a_bs A)) (st (a_cs A) k + i) + 1)) := by
  rw [List.map_map]
  refine List.map_congr_left fun r hr => ?_
  show ld _ _ _ _ (crw A _ r) = _
  have hiff := crw_iff (i := i) hW hk hb hr
  have hk2 : k < (a_cs A).length := by omega
  have hT : TH A k = true := by
    unfold wtg at hw
    rw [kpl_at hk2 hi] at hw
    exact (Bool.and_eq_true_iff.mp hw).1
  have hexk : ex (a_cs A) (nu (a_cs A) k, i) = st (a_cs A) k + i := ex_eq hW.1 hk2
  have hin := st_in (a_cs A) hk2
  obtain ⟨y, y1, y2⟩ := List.getElem_of_mem hr
  have hry : r = rf (a_bs A b) y := by
    unfold rf
    rw [List.getElem?_eq_getElem y1]
    exact y2.symm
  have hrv : RV (a_cs A) r := by rw [hry]; exact (hW.2.1 b hb).2 y y1
  have hcr : 0 < cnt (a_bs A) 8 r := by rw [hry]; exact cnt_rf hb y1
  unfold ld
  by_cases q : r = (nu (a_cs A) k, i)
  · rw [if_pos (hiff.mpr q), q]
    unfold crw
    rw [hexk, if_pos ⟨by rw [show pl (a_cs A) (nu (a_cs A) k, i).1 = k from pl_at hW.1 hk2]; exact hT, by omega⟩]
  · rw [if_neg fun z => q (hiff.mp z)]
    generalize hv : cp (wtg (TH A) (a_cs A) (a_bs A)) (st (a_cs A) k + i) = v at *
    unfold crw
    by_cases z : TH A (pl (a_cs A) r.1) = true ∧ cp (wtg (TH A) (a_cs A) (a_bs A)) (ex (a_cs A) r) < v
    · rw [if_pos z, if_pos ⟨z.1, by omega⟩]
    · rw [if_neg z, if_neg]
      intro u
      obtain ⟨e1, e2, e3, e4⟩ := ex_in hW.1 hrv
      have hwr : wtg (TH A) (a_cs A) (a_bs A) (ex (a_cs A) r) = true := by
        unfold wtg
        rw [e2, u.1, pr_ex hW.1 hrv, decide_eq_true hcr]
        rfl
      have hcp : cp (wtg (TH A) (a_cs A) (a_bs A)) (ex (a_cs A) r) = v := by
        have : ¬ cp (wtg (TH A) (a_cs A) (a_bs A)) (ex (a_cs A) r) < v := fun w => z ⟨u.1, w⟩
        omega
      have hn1 := nth_at e1 hwr
      have hn2 := nth_at (show st (a_cs A) k + i < st (a_cs A) (a_cs A).length by omega) hw
      rw [hcp] at hn1
      rw [hv] at hn2
      have hee : ex (a_cs A) r = ex (a_cs A) (nu (a_cs A) k, i) := by rw [hexk, ← hn1, hn2]
      exact q ((ex_inj hW.1 hrv ⟨k, hk2, rfl, hi⟩).mp hee)
theorem crw_all {A : AT} {N b : Nat} (hW : WF A N) (hN : N ≤ 600) (hb : b < 8) : (a_bs A b).map (crw A (wm (TH A) A)) = (a_bs A b).map (crf A) := by
  refine List.map_congr_left fun r hr => ?_
  obtain ⟨y, y1, y2⟩ := List.getElem_of_mem hr
  have hry : r = rf (a_bs A b) y := by
    unfold rf
    rw [List.getElem?_eq_getElem y1]
    exact y2.symm
  have hrv : RV (a_cs A) r := by rw [hry]; exact (hW.2.1 b hb).2 y y1
  obtain ⟨q1, q2, q3, q4⟩ := crf_at hW hN hb y1
  rw [← hry] at q4
  have h0 : 0 < (a_cs A).length := by obtain ⟨k, k1, k2⟩ := hrv; omega
  have hTl : TH A ((a_cs A).length - 1) = false := by
    cases h : TH A ((a_cs A).length - 1) with
    | false => rfl
    | true => have := TH_last _ h; omega
  unfold crw crf
  cases hT : TH A (pl (a_cs A) r.1) with
  | true =>
    rw [if_pos ⟨rfl, (q4 hT).1⟩, if_pos rfl, wp_nrf h0 hTl]
  | false =>
    rw [if_neg fun z => Bool.false_ne_true z.1, if_neg Bool.false_ne_true]
