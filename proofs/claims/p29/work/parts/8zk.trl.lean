/-! THE PURE SIDE: actions on trial: a backup -/
theorem MB_rf (m : MDT) : MB m m := ⟨rfl, rfl, rfl, rfl, rfl, rfl, rfl, rfl⟩
theorem MB_tr {m m' m'' : MDT} (h : MB m m') (h2 : MB m' m'') : MB m m'' := by
  obtain ⟨a1, a2, a3, a4, a5, a6, a7, a8⟩ := h
  obtain ⟨b1, b2, b3, b4, b5, b6, b7, b8⟩ := h2
  exact ⟨b1.trans a1, b2.trans a2, b3.trans a3, b4.trans a4, b5.trans a5, b6.trans a6, b7.trans a7, b8.trans a8⟩
theorem tback {d : DKT} {m : MDT} {A : AT} {N : Nat} {wo cd : Nat → Int32} {ws : List Nat} {p0 : PLT} (hd : DR d A) (hm' : MR (md_s m) A) (hW : WF A N) (hN : N ≤ 600) (hwo : AH wo (ws.map J)) (hv : vl ws) (hl1 : 1 ≤ ws.length) (hl30 : ws.length ≤ 30) (hcm : md_chunkMany m = J (cutG (a_se A 0) [] ws).length) (hch : AH (md_chunks m) ((cutG (a_se A 0) [] ws).map fun l => J (c9 l))) : ∃ v v' d' sd p' m' A', F_X8_backsUpOnTrial d (wo, cd, J ws.length, 0) p0 = some (v, d', sd, p') ∧ F_X9_backs m = some (v', m') ∧ ((v = 0 ∧ v' = -1) ∨ (v = 1 ∧ ¬ v' = -1)) ∧ MB m m' ∧ DR d' A' ∧ MR (md_s m') A' ∧ WF A' (N + 1) := by
  have s0 := hW.2.2.1.1
  have s1 := hW.2.2.1.2.1
  have hl := WF_len hW
  obtain ⟨sd, p2, z1, z2, z3, z4, z5, z6⟩ := planWith_A (p0 := p0) (cd := cd) (ch := 0) hd hW hN hwo hv hl1 hl30
  obtain ⟨k15, k1, kv⟩ := kst_all (d := a_se A 0) hv hl1 hl30
  have hMI : ∀ i, i ≤ (cutG (a_se A 0) [] ws).length → MI (a_cs A) (a_nx A) i (mk (a_se A 1) (a_cs A) (a_nx A) (kst (a_se A 0) ws) (kh (fun j => hm (a_cs A) (kst (a_se A 0) ws j)) (cutG (a_se A 0) [] ws).length (a_se A 2)) i) := by
    have w6 := hW.2.2.2.2.2
    refine MI_all hW.1 kv hW.2.2.1.2.2.1 hW.2.2.1.2.2.2.1 (by omega) (fun j p _ hp => ?_)
    unfold kh at hp
    split at hp
    · cases hp
    · obtain ⟨y1, y2, y3⟩ := lastP_some hp
      exact ⟨y1, of_decide_eq_true y2⟩
  have hkm : ∀ j p, kh (fun j => hm (a_cs A) (kst (a_se A 0) ws j)) (cutG (a_se A 0) [] ws).length (a_se A 2) j = some p → p < (a_cs A).length ∧ fe (a_cs A) p (kst (a_se A 0) ws j) < si (a_cs A) p := by
    intro j p hp
    unfold kh at hp
    split at hp
    · cases hp
    · obtain ⟨y1, y2, y3⟩ := lastP_some hp
      exact ⟨y1, of_decide_eq_true y2⟩
  have hMn := hMI _ (Nat.le_refl _)
  have hMl := MI_len hMn
  have hpm := hMn.2.2.2.2.2.2.2.1
  have hallow := allows_D (L := (mk (a_se A 1) (a_cs A) (a_nx A) (kst (a_se A 0) ws) (kh (fun j => hm (a_cs A) (kst (a_se A 0) ws j)) (cutG (a_se A 0) [] ws).length (a_se A 2)) (cutG (a_se A 0) [] ws).length).1.length) hd hW hMn.2.2.2.1 (by omega) z5
  obtain ⟨bm1, bm2⟩ := backs_M (m := m) (ks := kst (a_se A 0) ws) hm' hW hN k15 k1 hcm (fun j hj => ⟨AH_kst hch hj, kv j hj⟩)
  unfold F_X8_backsUpOnTrial
  rw [z1]
  simp only [Option.bind_some]
  rw [hallow]
  simp only [Option.bind_some]
  by_cases ok : fb (a_bs A) < 8 ∧ (mk (a_se A 1) (a_cs A) (a_nx A) (kst (a_se A 0) ws) (kh (fun j => hm (a_cs A) (kst (a_se A 0) ws j)) (cutG (a_se A 0) [] ws).length (a_se A 2)) (cutG (a_se A 0) [] ws).length).1.length ≤ 24
  · obtain ⟨m', x1, x2, x3, x4⟩ := bm1 ok
    obtain ⟨d', y1, y2⟩ := addBackup_D hd hW hN ok.1 z2 z3 hMI ok.2 hkm z6
    rw [x1, if_pos ok, if_neg (show ¬ (1 : Int32) = 0 by decide), y1]
    simp only [Option.bind_some]
    exact ⟨_, _, _, _, _, _, _, rfl, rfl, Or.inr ⟨rfl, show ¬ J (fb (a_bs A)) = -1 by rw [show (-1 : Int32) = NN from rfl, J_neN (by omega)]; exact id⟩, x2, y2, x4, abak_WF hW k15 hMn ok.2⟩
  · obtain ⟨m', x1, x2, x3⟩ := bm2 ok
    rw [x1, if_neg ok, if_pos (show (0 : Int32) = 0 from rfl)]
    exact ⟨_, _, _, _, _, _, _, rfl, rfl, Or.inl ⟨rfl, rfl⟩, x2, hd, MR_congr hW hm' x3, WF_mono hW (by omega)⟩
/-- a deletion on trial -/
theorem tdel {d : DKT} {s : Nat → Int32} {A : AT} {N : Nat} (hd : DR d A) (hm : MR s A) (hW : WF A N) (x : Int32) : (F_X8_deletesOnTrial d x = some (0, d) ∧ F_X9_isBackup s x = some 0) ∨ ∃ b d' s', b < 8 ∧ x = J b ∧ F_X8_deletesOnTrial d x = some (1, d') ∧ F_X9_isBackup s x = some 1 ∧ F_X9_removes s x = some s' ∧ DR d' (adel A b) ∧ MR s' (adel A b) ∧ WF (adel A b) N := by
  rcases hasB hd.2.1 hm.2.1 hW.2.1 x with ⟨b, hb8, rfl, hb1, e1, e2⟩ | ⟨e1, e2⟩
  · right
    obtain ⟨d', c1, c2⟩ := rem_D hd hW hb8 hb1
    obtain ⟨s', m1, m2⟩ := rem_M hm hW hb8
    refine ⟨b, d', s', hb8, rfl, ?_, e2, m1, c2, m2, adel_WF hb8 hW⟩
    unfold F_X8_deletesOnTrial
    rw [e1]
    simp only [Option.bind_some]
    rw [if_neg (show ¬ J 1 = 0 by decide), c1]
    rfl
  · left
    refine ⟨?_, e2⟩
    unfold F_X8_deletesOnTrial
    rw [e1]
    simp only [Option.bind_some]
    rw [if_pos (show J 0 = 0 from rfl)]
