/-! THE PURE SIDE: the Model carries forward: bounds of what stands in between -/
def tk (T : Nat → Bool) (k j : Nat) : Bool := T j && decide (j < k)
theorem tk_kl {T : Nat → Bool} {cs : List Ct} {k : Nat} : ∀ n, n ≤ k → kl (tk T k) cs n = kl T cs n := by
  intro n
  induction n with
  | zero => intro _; rfl
  | succ n ih =>
    intro hn
    have e : tk T k n = T n := by
      unfold tk
      rw [decide_eq_true (show n < k by omega), Bool.and_true]
    cases h : T n with
    | true => rw [kl_thin h, kl_thin (e.trans h), ih (by omega)]
    | false => rw [kl_keep h, kl_keep (e.trans h), ih (by omega)]
theorem tk_tlc {T : Nat → Bool} {cs : List Ct} {k : Nat} : ∀ m, kl (tk T k) cs (k + m) = kl T cs k ++ tlc cs k m := by
  intro m
  induction m with
  | zero =>
    rw [Nat.add_zero, tk_kl k (Nat.le_refl _)]
    exact (List.append_nil _).symm
  | succ m ih =>
    have e : tk T k (k + m) = false := by
      unfold tk
      rw [decide_eq_false (show ¬ k + m < k by omega), Bool.and_false]
    show kl (tk T k) cs (k + m + 1) = kl T cs k ++ (tlc cs k m ++ [cn cs (k + m)])
    rw [kl_keep e, ih, List.append_assoc]
theorem tk_whole {T : Nat → Bool} {cs : List Ct} {k : Nat} (hk : k ≤ cs.length) : kl (tk T k) cs cs.length = kl T cs k ++ tlc cs k (cs.length - k) := by
  have := tk_tlc (T := T) (cs := cs) (k := k) (cs.length - k)
  rw [show k + (cs.length - k) = cs.length by omega] at this
  exact this
theorem ms_all {A : AT} {N k w : Nat} (hW : WF A N) (hN : N ≤ 600) (hk : k < (a_cs A).length) (hw : w ≤ wm (TH A) A) : Wc (ms (TH A) A k w).1 (ms (TH A) A k w).2 ∧ (w ≤ cp (wtg (TH A) (a_cs A) (a_bs A)) (st (a_cs A) k) + 8 → (ms (TH A) A k w).1.length ≤ 89) := by
  have hm : wm (TH A) A ≤ 192 := Nat.le_trans (cp_le _ _) hW.2.2.2.2.1
  obtain ⟨w1, w2, w3, w4, w5, w6⟩ := hW
  have hW0 : WF A N := ⟨w1, w2, w3, w4, w5, w6⟩
  have e := tk_whole (T := TH A) (cs := a_cs A) (k := k) (by omega)
  rw [ms_pw hk, ← e]
  have h := pw_all (cap := a_se A 1) (g := fun w => cf (a_cs A) (wn (TH A) A w)) (m := wm (TH A) A) (kl_Wc (T := tk (TH A) k) w1 (Nat.le_refl _)) (fun w hw => (wn_of hW0 hw).2.2.2) w3.2.2.1 w3.2.2.2.1 (by omega) w hw
  refine ⟨h.1, fun hw2 => ?_⟩
  have h7 := pw_len (g := fun w => cf (a_cs A) (wn (TH A) A w)) (cs0 := kl (tk (TH A) k) (a_cs A) (a_cs A).length) (nx0 := a_nx A) w3.2.2.1 w
  have h8 : 2 * (kl (tk (TH A) k) (a_cs A) (a_cs A).length).length + cp (wtg (tk (TH A) k) (a_cs A) (a_bs A)) (st (a_cs A) (a_cs A).length) ≤ 170 := kw_len (fun j hj => TH_last j (Bool.and_eq_true_iff.mp hj).1) w4
  have h9 := cp_mono (wtg (tk (TH A) k) (a_cs A) (a_bs A)) (show st (a_cs A) k ≤ st (a_cs A) (a_cs A).length from sm_mono (by omega))
  have h10 : cp (wtg (tk (TH A) k) (a_cs A) (a_bs A)) (st (a_cs A) k) = cp (wtg (TH A) (a_cs A) (a_bs A)) (st (a_cs A) k) := by
    refine cp_ext fun i hi => ?_
    have hle : st (a_cs A) k ≤ st (a_cs A) (a_cs A).length := sm_mono (by omega)
    obtain ⟨k1, k2, k3⟩ := kpl_lt (show i < st (a_cs A) (a_cs A).length by omega)
    have hlt : kpl (a_cs A) i < k := by
      rcases Nat.lt_or_ge (kpl (a_cs A) i) k with q | q
      · exact q
      · have : st (a_cs A) k ≤ st (a_cs A) (kpl (a_cs A) i) := sm_mono q
        omega
    unfold wtg tk
    rw [decide_eq_true hlt, Bool.and_true]
  omega
theorem ms_Wb {A : AT} {N w : Nat} (hW : WF A N) (hN : N ≤ 600) (h0 : 0 < (a_cs A).length) (hw : w ≤ wm (TH A) A) : Wb (ms (TH A) A 0 w).1 (fun b => (a_bs A b).map (crw A w)) := by
  intro b hb
  show ((a_bs A b).map (crw A w)).length ≤ 15 ∧ ∀ i, i < ((a_bs A b).map (crw A w)).length → RV (ms (TH A) A 0 w).1 (rf ((a_bs A b).map (crw A w)) i)
  rw [List.length_map]
  refine ⟨(hW.2.1 b hb).1, fun i hi => ?_⟩
  rw [rf_map hi]
  have hrv := (hW.2.1 b hb).2 i hi
  generalize rf (a_bs A b) i = r at *
  have e : ∀ v, ms (TH A) A 0 v = pw (a_se A 1) (fun w => cf (a_cs A) (wn (TH A) A w)) (a_cs A) (a_nx A) v := fun v => by
    rw [ms_pw h0]
    congr 1
    show [] ++ tlc (a_cs A) 0 ((a_cs A).length - 0) = _
    rw [List.nil_append, Nat.sub_zero, tlc_take _ _ (Nat.le_refl _), List.take_length]
  have hall : ∀ v, v ≤ wm (TH A) A → Wc (pw (a_se A 1) (fun w => cf (a_cs A) (wn (TH A) A w)) (a_cs A) (a_nx A) v).1 (pw (a_se A 1) (fun w => cf (a_cs A) (wn (TH A) A w)) (a_cs A) (a_nx A) v).2 := fun v hv => by
    rw [← e]
    exact (ms_all hW hN h0 hv).1
  rw [e]
  unfold crw
  by_cases z : TH A (pl (a_cs A) r.1) = true ∧ cp (wtg (TH A) (a_cs A) (a_bs A)) (ex (a_cs A) r) < w
  · rw [if_pos z]
    have hz := z.2
    generalize cp (wtg (TH A) (a_cs A) (a_bs A)) (ex (a_cs A) r) = v at *
    have hr1 : RV (pw (a_se A 1) (fun w => cf (a_cs A) (wn (TH A) A w)) (a_cs A) (a_nx A) (v + 1)).1 (nrf (lw (TH A) A (v + 1)).1) := by
      rw [← ms_nrf (k := 0) h0, e, pw_step]
      exact nrf_RV
    have := (pw_mono (w := v + 1) (m := wm (TH A) A) hall (w - (v + 1)) (by omega) _ hr1).1
    rw [show v + 1 + (w - (v + 1)) = w by omega] at this
    exact this
  · rw [if_neg z]
    have := (pw_mono (w := 0) (m := wm (TH A) A) hall w (by omega) r hrv).1
    rw [Nat.zero_add] at this
    exact this
