/-! THE PURE SIDE: the class carries forward: the whole -/
def TH (A : AT) : Nat → Bool := thn (a_se A) (a_cs A) (a_bs A)
theorem TH_last {A : AT} : ∀ k, TH A k = true → k + 1 < (a_cs A).length := fun _ h => (of_decide_eq_true h).1
/-- where a reference goes -/
noncomputable def crf (A : AT) (r : Nat × Nat) : Nat × Nat := if TH A (pl (a_cs A) r.1) then nrf (wp (TH A) A (cp (wtg (TH A) (a_cs A) (a_bs A)) (ex (a_cs A) r) + 1)).1 else r
/-- a state carried forward -/
noncomputable def acar (A : AT) : AT := (a_se A, (wp (TH A) A (wm (TH A) A)).2, a_ca A + J (wm (TH A) A), (wp (TH A) A (wm (TH A) A)).1, rdb (crf A) (a_bs A) 8)
theorem cnt_rf {bs : Nat → List (Nat × Nat)} {b i : Nat} (hb : b < 8) (hi : i < (bs b).length) : 0 < cnt bs 8 (rf (bs b) i) := by
  have h1 := cnt_out bs hb (rf (bs b) i)
  have h2 : 0 < (bs b).count (rf (bs b) i) := List.count_pos_iff.mpr (rf_mem hi)
  omega
/-- what the entry of a reference becomes -/
theorem crf_at {A : AT} {N b i : Nat} (hW : WF A N) (hN : N ≤ 600) (hb : b < 8) (hi : i < (a_bs A b).length) : RV (wp (TH A) A (wm (TH A) A)).1 (crf A (rf (a_bs A b) i)) ∧ cr (wp (TH A) A (wm (TH A) A)).1 (crf A (rf (a_bs A b) i)) = cr (a_cs A) (rf (a_bs A b) i) ∧ (TH A (pl (a_cs A) (rf (a_bs A b) i).1) = false → ex (wp (TH A) A (wm (TH A) A)).1 (crf A (rf (a_bs A b) i)) = sm (fun k => if TH A k then 0 else si (a_cs A) k) (pl (a_cs A) (rf (a_bs A b) i).1) + (rf (a_bs A b) i).2) ∧ (TH A (pl (a_cs A) (rf (a_bs A b) i).1) = true → cp (wtg (TH A) (a_cs A) (a_bs A)) (ex (a_cs A) (rf (a_bs A b) i)) < wm (TH A) A ∧ wn (TH A) A (cp (wtg (TH A) (a_cs A) (a_bs A)) (ex (a_cs A) (rf (a_bs A b) i))) = ex (a_cs A) (rf (a_bs A b) i) ∧ ex (wp (TH A) A (wm (TH A) A)).1 (crf A (rf (a_bs A b) i)) = st (kl (TH A) (a_cs A) (a_cs A).length) (kl (TH A) (a_cs A) (a_cs A).length).length + cp (wtg (TH A) (a_cs A) (a_bs A)) (ex (a_cs A) (rf (a_bs A b) i))) := by
  have hr := (hW.2.1 b hb).2 i hi
  have hc := cnt_rf hb hi
  generalize hrr : rf (a_bs A b) i = r at *
  obtain ⟨e1, e2, e3, e4⟩ := ex_in hW.1 hr
  have hall := fun w hw => (wp_all hW hN (TH_last (A := A)) w hw).1
  cases hT : TH A (pl (a_cs A) r.1) with
  | false =>
    have hcr : crf A r = r := by unfold crf; rw [hT]; rfl
    obtain ⟨k1, k2, k3, k4⟩ := kl_RV hW.1 hr hT
    obtain ⟨m1, m2, m3, m4⟩ := pw_mono (w := 0) hall (wm (TH A) A) (by omega) r k1
    rw [Nat.zero_add] at m1 m2 m3 m4
    rw [hcr]
    refine ⟨m1, m4.trans k4, fun _ => m3.trans k3, fun z => absurd z (by decide)⟩
  | true =>
    have hw : wtg (TH A) (a_cs A) (a_bs A) (ex (a_cs A) r) = true := by
      unfold wtg
      rw [e2, hT, pr_ex hW.1 hr, decide_eq_true hc]
      rfl
    have hlt : cp (wtg (TH A) (a_cs A) (a_bs A)) (ex (a_cs A) r) < wm (TH A) A := cp_lt e1 hw
    have hn1 : wn (TH A) A (cp (wtg (TH A) (a_cs A) (a_bs A)) (ex (a_cs A) r)) = ex (a_cs A) r := nth_at e1 hw
    have hcr : crf A r = nrf (wp (TH A) A (cp (wtg (TH A) (a_cs A) (a_bs A)) (ex (a_cs A) r) + 1)).1 := by unfold crf; rw [hT]; rfl
    generalize hv : cp (wtg (TH A) (a_cs A) (a_bs A)) (ex (a_cs A) r) = v at *
    have hst := (wp_all hW hN (TH_last (A := A)) v (by omega)).2.2.2.1
    have hW1 := hall (v + 1) (by omega)
    have hstep : wp (TH A) A (v + 1) = (put (a_se A 1) (wp (TH A) A v).1 (wp (TH A) A v).2 (cf (a_cs A) (wn (TH A) A v)), putn (wp (TH A) A v).1 (wp (TH A) A v).2) := rfl
    have hrv1 : RV (wp (TH A) A (v + 1)).1 (nrf (wp (TH A) A (v + 1)).1) := by rw [hstep]; exact nrf_RV
    obtain ⟨m1, m2, m3, m4⟩ := pw_mono (w := v + 1) hall (wm (TH A) A - (v + 1)) (by omega) _ hrv1
    rw [show v + 1 + (wm (TH A) A - (v + 1)) = wm (TH A) A by omega] at m1 m2 m3 m4
    rw [hstep] at hW1
    obtain ⟨n1, n2, n3⟩ := nrf_ex hW1
    rw [hcr]
    refine ⟨m1, ?_, fun z => absurd z (by decide), fun _ => ⟨hlt, hn1, ?_⟩⟩
    · refine m4.trans ?_
      rw [hstep]
      refine n3.trans ?_
      rw [hn1, e3]
      rfl
    · refine m3.trans ?_
      rw [hstep]
      refine n1.trans ?_
      exact hst
theorem rdb8 (ρ : Nat × Nat → Nat × Nat) (bs : Nat → List (Nat × Nat)) {b : Nat} (h : b < 8) : rdb ρ bs 8 b = (bs b).map ρ := if_pos h
/-- the class carries forward -/
theorem carry_D {c : CRT} {d : DKT} {A : AT} {N : Nat} (hd : DR d A) (hW : WF A N) (hN : N ≤ 600) : ∃ c' d', F_X0_carryForward c d = some (J (wm (TH A) A), c', d') ∧ DR d' (acar A) := by
  have hn := WF_Wn hW
  obtain ⟨f, f1, f2⟩ := flags_P (c := c) (K_X0_carryForward_27 c d) hd hW
  obtain ⟨c1, y1, y2, y3⟩ := collectWaiting_P (c := (f, (cr_goesTo c), (cr_waiting c), (cr_waitingCodes c), (cr_waitingCount c))) (T := TH A) hd hW f2
  obtain ⟨y21, y22, y23⟩ := y2
  obtain ⟨c2, d2, z1, z2, z3, z4, z5⟩ := takeOut_P (T := TH A) hd hW y21
  obtain ⟨t1, t2, t3, t4, t5, t6, t7⟩ := z2
  have hI : PLi d c2 d2 (TH A) A 0 := by
    refine ⟨t1, t4, t5, t6, z5.trans y22, fun v hv => ?_, t7, fun v hv => absurd hv (Nat.not_lt_zero _)⟩
    rw [z3, z4]
    exact y23 v hv
  obtain ⟨c3, d3, x1, x2⟩ := putting_P K_X0_carryForward_73 hW hN (TH_last (A := A)) hI
  obtain ⟨p1, p2, p3, p4, p5, p6, p7, p8⟩ := x2
  obtain ⟨a1, a2, a3, a4, a5, a6, a7⟩ := wp_all hW hN (TH_last (A := A)) (wm (TH A) A) (Nat.le_refl _)
  have hgo : ∀ b, b < 8 → ∀ i, i < (a_bs A b).length → cr_goesTo c3 (ex (a_cs A) (rf (a_bs A b) i)) = J (ex (wp (TH A) A (wm (TH A) A)).1 (crf A (rf (a_bs A b) i))) ∧ RV (wp (TH A) A (wm (TH A) A)).1 (crf A (rf (a_bs A b) i)) := by
    intro b hb i hi
    obtain ⟨q1, q2, q3, q4⟩ := crf_at hW hN hb hi
    refine ⟨?_, q1⟩
    obtain ⟨e1, e2, e3, e4⟩ := ex_in hW.1 ((hW.2.1 b hb).2 i hi)
    cases hT : TH A (pl (a_cs A) (rf (a_bs A b) i).1) with
    | false =>
      rw [p7 _ e1 (by rw [e2]; exact hT), q3 hT, e2]
      congr 2
      exact Nat.add_sub_cancel_left _ _
    | true =>
      obtain ⟨r1, r2, r3⟩ := q4 hT
      have := p8 _ r1
      rw [r2] at this
      rw [this, r3]
  obtain ⟨d4, u1, u2, u3, u4, u5⟩ := redirect_D p1 hW.1 a1 hn.2 a7 hW.2.1 (fun b hb => by rw [p3]; exact (hd.2.1 b hb).1) (fun b hb i hi => by rw [p2]; exact (hd.2.1 b hb).2 i hi) hgo
  refine ⟨c3, ((dk_settings d4), (dk_numbers d4), (dk_capacities d4), (dk_firsts d4), (dk_containers d4), (dk_codes d4), (dk_places d4), (dk_uses d4), (dk_entries d4), (dk_references d4), (dk_lengths d4), (dk_nextNumber d4), ((dk_carried d4) + (cr_waitingCount c3))), ?_, u2, fun b hb => ?_, u4, ?_⟩
  · unfold F_X0_carryForward
    rw [f1]
    unfold K_X0_carryForward_27
    rw [y1]
    simp only [Option.bind_some]
    rw [z1]
    simp only [Option.bind_some]
    rw [x1]
    unfold K_X0_carryForward_73
    rw [u1]
    simp only [Option.bind_some]
    rw [p5]
  · show dk_lengths d4 b = J (rdb (crf A) (a_bs A) 8 b).length ∧ ∀ i, i < (rdb (crf A) (a_bs A) 8 b).length → dk_references d4 (b * 15 + i) = J (ex (wp (TH A) A (wm (TH A) A)).1 (rf (rdb (crf A) (a_bs A) 8 b) i))
    rw [rdb8 _ _ hb]
    exact u3 b hb
  · show dk_carried d4 + cr_waitingCount c3 = a_ca A + J (wm (TH A) A)
    rw [u5, p4, p5, hd.2.2.2]
