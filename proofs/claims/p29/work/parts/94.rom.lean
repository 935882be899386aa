/-! P29, THE PURE SIDE: how many containers there would be behind a backup -/
noncomputable def nch (A : AT) (ws : List Nat) : Nat := (cutG (a_se A 0) [] ws).length
/-- the homes that stay with a limit -/
noncomputable def phs (A : AT) (ws : List Nat) (lim : Nat) : Nat → Option Nat := kh (fun j => hm (a_cs A) (kst (a_se A 0) ws j)) (nch A ws) lim
/-- what a backup of a stream makes -/
noncomputable def pm (A : AT) (ws : List Nat) (lim : Nat) : MK := mk (a_se A 1) (a_cs A) (a_nx A) (kst (a_se A 0) ws) (phs A ws lim) (nch A ws)
/-- room that is left, against what was put away -/
def RI (len0 R0 cap : Nat) (S : MK) : Prop := (S.1.length = len0 ∧ rmn S.1 + S.2.2.2 = R0) ∨ ∃ k m, m = k * cap ∧ S.1.length = len0 + k + 1 ∧ R0 + m < S.2.2.2 ∧ S.2.2.2 ≤ R0 + m + cap ∧ rmn S.1 + S.2.2.2 = R0 + m + cap
theorem RI_step {len0 R0 cap b i : Nat} {cs0 : List Ct} {l : List Nat} {h : Option Nat} {S : MK} (hW : Wc S.1 S.2.1) (hc : 2 ≤ cap) (hS : RI len0 R0 cap S) : RI len0 R0 cap (mks cap cs0 l h b i S) := by
  unfold mks
  cases h with
  | some p => exact hS
  | none =>
    dsimp only
    by_cases q : b < i
    · rw [if_pos q]
      exact hS
    · rw [if_neg q]
      by_cases r : room S.1
      · have e1 := rmn_yes (cap := cap) (nx := S.2.1) (l := l) r
        have e2 : (put cap S.1 S.2.1 l).length = S.1.length := by rw [(put_yes r).1, upl_len]
        have e3 : ¬ rmn S.1 = 0 := fun z => (rmn_room hW).1.mp z r
        rcases hS with ⟨a1, a2⟩ | ⟨k, m, a0, a1, a2, a3, a4⟩
        · refine Or.inl ⟨?_, ?_⟩
          · show (put cap S.1 S.2.1 l).length = _
            omega
          · show rmn (put cap S.1 S.2.1 l) + (S.2.2.2 + 1) = _
            omega
        · refine Or.inr ⟨k, m, a0, ?_, ?_, ?_, ?_⟩
          · show (put cap S.1 S.2.1 l).length = _
            omega
          · show _ < S.2.2.2 + 1
            omega
          · show S.2.2.2 + 1 ≤ _
            omega
          · show rmn (put cap S.1 S.2.1 l) + (S.2.2.2 + 1) = _
            omega
      · have e1 := rmn_no (cap := cap) (nx := S.2.1) (l := l) r
        have e2 : (put cap S.1 S.2.1 l).length = S.1.length + 1 := by rw [(put_no r).1]; simp
        have e3 : rmn S.1 = 0 := (rmn_room hW).1.mpr r
        rcases hS with ⟨a1, a2⟩ | ⟨k, m, a0, a1, a2, a3, a4⟩
        · refine Or.inr ⟨0, 0, by omega, ?_, ?_, ?_, ?_⟩
          · show (put cap S.1 S.2.1 l).length = _
            omega
          · show _ < S.2.2.2 + 1
            omega
          · show S.2.2.2 + 1 ≤ _
            omega
          · show rmn (put cap S.1 S.2.1 l) + (S.2.2.2 + 1) = _
            omega
        · refine Or.inr ⟨k + 1, m + cap, by rw [Nat.succ_mul, a0], ?_, ?_, ?_, ?_⟩
          · show (put cap S.1 S.2.1 l).length = _
            omega
          · show _ < S.2.2.2 + 1
            omega
          · show S.2.2.2 + 1 ≤ _
            omega
          · show rmn (put cap S.1 S.2.1 l) + (S.2.2.2 + 1) = _
            omega
theorem phs_in {A : AT} {ws : List Nat} {lim j p : Nat} (hp : phs A ws lim j = some p) : p < (a_cs A).length ∧ fe (a_cs A) p (kst (a_se A 0) ws j) < si (a_cs A) p := by
  unfold phs kh at hp
  split at hp
  · cases hp
  · obtain ⟨y1, y2, y3⟩ := lastP_some hp
    exact ⟨y1, of_decide_eq_true y2⟩
theorem pm_MI {A : AT} {n : Nat} {ws : List Nat} (hW : WF A n) (hN : n ≤ 600) (hv : vl ws) (h1 : 1 ≤ ws.length) (h30 : ws.length ≤ 30) (lim : Nat) : ∀ i, i ≤ nch A ws → MI (a_cs A) (a_nx A) i (mk (a_se A 1) (a_cs A) (a_nx A) (kst (a_se A 0) ws) (phs A ws lim) i) := by
  obtain ⟨k15, k1, kv⟩ := kst_all (d := a_se A 0) hv h1 h30
  have w6 := hW.2.2.2.2.2
  have h15 : nch A ws ≤ 15 := k15
  exact MI_all hW.1 kv hW.2.2.1.2.2.1 hW.2.2.1.2.2.2.1 (by show a_nx A + nch A ws < 2 ^ 30; omega) (fun j p _ hp => phs_in hp)
theorem pm_RI {A : AT} {n : Nat} {ws : List Nat} (hW : WF A n) (hN : n ≤ 600) (hv : vl ws) (h1 : 1 ≤ ws.length) (h30 : ws.length ≤ 30) (lim : Nat) : RI (a_cs A).length (rmn (a_cs A)) (a_se A 1) (pm A ws lim) := by
  have hM := pm_MI hW hN hv h1 h30 lim
  have key : ∀ i, i ≤ nch A ws → RI (a_cs A).length (rmn (a_cs A)) (a_se A 1) (mk (a_se A 1) (a_cs A) (a_nx A) (kst (a_se A 0) ws) (phs A ws lim) i) := by
    intro i
    induction i with
    | zero => intro _; exact Or.inl ⟨rfl, rfl⟩
    | succ i ih => intro hi; exact RI_step (hM i (by omega)).1 hW.2.2.1.2.2.1 (ih (by omega))
  exact key _ (Nat.le_refl _)
/-- what the law makes of it -/
def cbf (len0 R0 cap P : Nat) : Nat := if P ≤ R0 then len0 else len0 + (P - R0 + cap - 1) / cap
theorem RI_cbf {len0 R0 cap : Nat} {S : MK} (hc : 2 ≤ cap) (h : RI len0 R0 cap S) : S.1.length = cbf len0 R0 cap S.2.2.2 := by
  unfold cbf
  rcases h with ⟨a1, a2⟩ | ⟨k, m, a0, a1, a2, a3, a4⟩
  · rw [if_pos (by omega), a1]
  · rw [if_neg (by omega), a1]
    have e1 : (k + 1) * cap = m + cap := by rw [Nat.succ_mul, a0]
    have e2 : (k + 1 + 1) * cap = m + cap + cap := by rw [Nat.succ_mul, e1]
    have : (S.2.2.2 - R0 + cap - 1) / cap = k + 1 := Nat.div_eq_of_lt_le (by rw [e1]; omega) (by rw [e2]; omega)
    omega
theorem pm_len {A : AT} {n : Nat} {ws : List Nat} (hW : WF A n) (hN : n ≤ 600) (hv : vl ws) (h1 : 1 ≤ ws.length) (h30 : ws.length ≤ 30) (lim : Nat) : (pm A ws lim).1.length = cbf (a_cs A).length (rmn (a_cs A)) (a_se A 1) (pm A ws lim).2.2.2 := RI_cbf hW.2.2.1.2.2.1 (pm_RI hW hN hv h1 h30 lim)
theorem put_V {d : DKT} {A : AT} {n : Nat} {x : TXT} {ws : List Nat} (hd : DR d A) (hW : WF A n) (hN : n ≤ 600) (ht : TW ws x) (h1 : 1 ≤ ws.length) (h30 : ws.length ≤ 30) (so : SMT) (p0 : PLT) : ∃ so' p', F_X8_wouldPut x d so p0 0 = some (0, J (pm A ws (a_se A 2)).2.2.2, so', p') := by
  obtain ⟨wo, r1, r2⟩ := rdW ht h1 h30 so
  obtain ⟨sd, p2, z1, z2, z3, z4, z5, z6⟩ := planWith_A (p0 := p0) (cd := sm_codes so) (ch := 0) hd hW hN r2 ht.2.1 h1 h30
  refine ⟨sd, p2, ?_⟩
  unfold F_X8_wouldPut
  rw [r1]
  simp only [Option.bind_some]
  rw [if_neg (show ¬ (1 : Int32) = 0 by decide), z1]
  simp only [Option.bind_some]
  rw [z4]
  rfl
theorem cb_V {d : DKT} {A : AT} {n : Nat} {x : TXT} {ws : List Nat} (hd : DR d A) (hW : WF A n) (hN : n ≤ 600) (ht : TW ws x) (h1 : 1 ≤ ws.length) (h30 : ws.length ≤ 30) (so : SMT) (p0 : PLT) : ∃ so' p', F_L_containersBehind x d so p0 = some (J (pm A ws (a_se A 2)).1.length, so', p') := by
  obtain ⟨so', p', e1⟩ := put_V hd hW hN ht h1 h30 so p0
  refine ⟨so', p', ?_⟩
  have hl := WF_len hW
  have ha : F_X8_about d 0 = some (0, J (a_cs A).length) := about_V (q := 0) hd hW (by omega)
  have hs : F_X8_setting d 1 = some (0, J (a_se A 1)) := setting_V (i := 1) hd (by omega)
  have hM := pm_MI hW hN ht.2.1 h1 h30 (a_se A 2) _ (Nat.le_refl _)
  have hP : (pm A ws (a_se A 2)).2.2.2 ≤ 15 := Nat.le_trans hM.2.2.2.2.2.2.2.1 (kst_all (d := a_se A 0) ht.2.1 h1 h30).1
  have hc2 := hW.2.2.1.2.2.1
  have hc8 := hW.2.2.1.2.2.2.1
  have hrm := (rmn_room hW.1).2
  rw [pm_len hW hN ht.2.1 h1 h30]
  generalize hPe : (pm A ws (a_se A 2)).2.2.2 = P at *
  have j49 : J_L_containersBehind_49 (0, J P, so', p') d (0, J (a_cs A).length) (J (rmn (a_cs A))) = some (J (cbf (a_cs A).length (rmn (a_cs A)) (a_se A 1) P), so', p') := by
    unfold J_L_containersBehind_49 cbf
    dsimp only
    by_cases q : P ≤ rmn (a_cs A)
    · rw [if_neg (show ¬ J (rmn (a_cs A)) < J P from fun w => by have := (J_lt (by omega) (by omega)).mp w; omega), if_pos q]
    · rw [if_pos (show J (rmn (a_cs A)) < J P from (J_lt (by omega) (by omega)).mpr (by omega)), if_neg q, hs, Option.bind_some, z0_z, Option.bind_some, z0_z]
      dsimp only
      have hdv : (P - rmn (a_cs A) + a_se A 1 - 1) / a_se A 1 ≤ P - rmn (a_cs A) + a_se A 1 - 1 := Nat.div_le_self _ _
      rw [gz_J (by omega) (by omega), J_sub (by omega), J_add, show (1 : Int32) = J 1 from rfl, J_sub (by omega), J_div (by omega) (by omega), J_add]
  unfold F_L_containersBehind
  rw [ha, Option.bind_some, z0_z, e1, Option.bind_some, z0_z]
  dsimp only
  by_cases z : (a_cs A).length = 0
  · rw [if_pos (show J (a_cs A).length = 0 by rw [z]; rfl)]
    unfold J_L_containersBehind_27
    rw [if_neg (by decide)]
    have : rmn (a_cs A) = 0 := by unfold rmn; rw [if_neg (by omega)]
    rw [this] at j49 ⊢
    exact j49
  · have hk : (a_cs A).length - 1 < (a_cs A).length := by omega
    have hnu := Wc_nu hW.1 hk
    have hsc : si (a_cs A) ((a_cs A).length - 1) ≤ ca (a_cs A) ((a_cs A).length - 1) := (hW.1.2.1 _ hk).2.1
    rw [if_neg (show ¬ J (a_cs A).length = 0 from fun w => by have := (J_eq (b := 0) (by omega) (by omega)).mp w; omega), show (1 : Int32) = J 1 from rfl, J_sub (by omega), container_V hd hW hk, Option.bind_some, z0_z]
    unfold J_L_containersBehind_27
    rw [if_pos (show 0 ≤ J (nu (a_cs A) ((a_cs A).length - 1)) from (J_le (a := 0) (by omega) (by omega)).mpr (by omega)), cap_V hd hW hk, Option.bind_some, z0_z]
    dsimp only
    rw [size_V hd hW hk, Option.bind_some, z0_z]
    dsimp only
    rw [J_sub hsc]
    have : rmn (a_cs A) = ca (a_cs A) ((a_cs A).length - 1) - si (a_cs A) ((a_cs A).length - 1) := by unfold rmn; rw [if_pos (by omega)]
    rw [← this]
    exact j49
