/-! THE PURE SIDE: the call backup -/
theorem i_backup {n : Nat} {st : STT} {q1 q2 q3 : Int32} (hN : n < 512) (h : Inv n st) : ∃ st', F_T_backup st q1 q2 q3 = some st' ∧ Inv (n + 1) st' := by
  obtain ⟨A, H, Sl, h1, h2, h3, h4, h5, h6, h7, h8⟩ := id h
  have hl := WF_len h4
  unfold F_T_backup F_X9_thrown F_X8_backup F_X9_backup
  rcases rd h1 (S_stream st) (md_begins (S_md st)) (md_lengths (S_md st)) (md_streams (S_md st)) q1 with ⟨e1, b, l, ss, e2⟩ | ⟨p, ws, wo, hx, hp, hv, hl1, hl30, e1, e2, b, l, ss, e3, e4⟩
  · rw [e1, e2]
    simp only [Option.bind_some, F_X9_fails]
    rw [if_pos trivial, if_pos trivial]
    simp only [Option.bind_some]
    rw [if_pos (by decide), if_pos (by rfl), if_neg (by decide)]
    exact ⟨_, rfl, Inv_SE h ⟨rfl, rfl, rfl, rfl, fun _ _ => rfl, rfl, rfl, rfl, rfl, rfl, rfl⟩⟩
  have s0 := h4.2.2.1.1
  have s1 := h4.2.2.1.2.1
  obtain ⟨sd, p2, z1, z2, z3, z4, z5, z6⟩ := planWith_A (p0 := S_plan st) (cd := sm_codes (S_stream st)) (ch := 0) h2 h4 (by omega) e2 hv hl1 hl30
  obtain ⟨lt', f2, c3, c4⟩ := e4 (md_s (S_md st)) (md_letters (S_md st)) (md_chunks (S_md st)) (md_letterMany (S_md st)) (md_chunkMany (S_md st)) (a_se A 0) (h3.1.1 0 (by omega)) (by omega) (by omega)
  obtain ⟨k15, k1, kv⟩ := kst_all (d := a_se A 0) hv hl1 hl30
  have hMI : ∀ i, i ≤ (cutG (a_se A 0) [] ws).length → MI (a_cs A) (a_nx A) i (mk (a_se A 1) (a_cs A) (a_nx A) (kst (a_se A 0) ws) (kh (fun j => hm (a_cs A) (kst (a_se A 0) ws j)) (cutG (a_se A 0) [] ws).length (a_se A 2)) i) := by
    have w6 := h4.2.2.2.2.2
    refine MI_all h4.1 kv h4.2.2.1.2.2.1 h4.2.2.1.2.2.2.1 (by omega) (fun j p _ hp => ?_)
    unfold kh at hp
    split at hp
    · cases hp
    · obtain ⟨y1, y2, y3⟩ := lastP_some hp
      exact ⟨y1, of_decide_eq_true y2⟩
  have hkm : ∀ j p, kh (fun j => hm (a_cs A) (kst (a_se A 0) ws j)) (cutG (a_se A 0) [] ws).length (a_se A 2) j = some p → p < (a_cs A).length ∧ fe (a_cs A) p (kst (a_se A 0) ws j) < si (a_cs A) p := by
    intro j p hp
    unfold kh at hp
    split at hp
    · cases hp
    · obtain ⟨y1, y2, y3⟩ := lastP_some hp
      exact ⟨y1, of_decide_eq_true y2⟩
  have hMn := hMI _ (Nat.le_refl _)
  have hMl := MI_len hMn
  have hpm := hMn.2.2.2.2.2.2.2.1
  have hallow := allows_D (L := (mk (a_se A 1) (a_cs A) (a_nx A) (kst (a_se A 0) ws) (kh (fun j => hm (a_cs A) (kst (a_se A 0) ws j)) (cutG (a_se A 0) [] ws).length (a_se A 2)) (cutG (a_se A 0) [] ws).length).1.length) h2 h4 hMn.2.2.2.1 (by omega) z5
  obtain ⟨bm1, bm2⟩ := backs_M (m := (0, (md_s (S_md st)), (md_aside (S_md st)), (md_base (S_md st)), (md_saved (S_md st)), (md_savedMany (S_md st)), (md_slots (S_md st)), (md_hasSlot (S_md st)), (md_text (S_md st)), (md_length (S_md st)), b, l, ss, lt', J ws.length, f2, J (cutG (a_se A 0) [] ws).length, (md_homes (S_md st)), (md_dropped (S_md st)), (md_madeIn (S_md st)), (md_madeAt (S_md st)), (md_putMany (S_md st)), (md_path (S_md st)), (md_store (S_md st)), (md_thinOnes (S_md st)))) (ks := kst (a_se A 0) ws) h3 h4 (by omega) k15 k1 rfl (fun j hj => ⟨AH_kst c4 hj, kv j hj⟩)
  rw [e1, e3]
  simp only [Option.bind_some]
  rw [if_neg (show ¬ (1 : Int32) = 0 by decide), if_neg (show ¬ (1 : Int32) = 0 by decide), z1, c3]
  simp only [Option.bind_some]
  rw [hallow]
  simp only [Option.bind_some]
  by_cases ok : fb (a_bs A) < 8 ∧ (mk (a_se A 1) (a_cs A) (a_nx A) (kst (a_se A 0) ws) (kh (fun j => hm (a_cs A) (kst (a_se A 0) ws j)) (cutG (a_se A 0) [] ws).length (a_se A 2)) (cutG (a_se A 0) [] ws).length).1.length ≤ 24
  · obtain ⟨m', x1, x2, x3, x4⟩ := bm1 ok
    obtain ⟨d', y1, y2⟩ := addBackup_D h2 h4 (by omega) ok.1 z2 z3 hMI ok.2 hkm z6
    have hp2 : MR (md_aside m') A := by rw [x3]; exact MR_fil h4 h3
    have x23 : md_saved m' = md_saved (S_md st) := x2.2.2.1
    have x24 : md_savedMany m' = md_savedMany (S_md st) := x2.2.2.2.1
    obtain ⟨pa', sv', k', r1, r2, r3⟩ := remember_A h5 h6 h2 hp2 h4
    rw [x1]
    simp only [Option.bind_some]
    rw [if_pos ok, if_neg (show ¬ (1 : Int32) = 0 by decide), if_neg (show ¬ J (fb (a_bs A)) = -1 by rw [show (-1 : Int32) = NN from rfl, J_neN (by omega)]; exact id), r1, x23, x24, r2]
    simp only [Option.bind_some]
    rw [y1]
    simp only [Option.bind_some]
    rw [if_pos (by decide), if_pos (by exact x2.1), if_pos (by rfl), if_pos (by rfl)]
    exact ⟨_, rfl, abak A (fb (a_bs A)) _, psh H A, Sl, by
      show TI (S_tx st) (md_text m') (md_length m')
      rw [x2.2.2.2.2.2.2.1, x2.2.2.2.2.2.2.2]
      exact h1, y2, x4, abak_WF h4 k15 hMn ok.2, r3, fun B hB => (psh_mem hB).elim (fun z => WF_mono (h6 B z) (by omega)) (fun z => by rw [z]; exact WF_mono h4 (by omega)), by
      show SR (S_saved st) (md_slots m') (md_hasSlot m') Sl
      rw [x2.2.2.2.2.1, x2.2.2.2.2.2.1]
      exact h7, fun i h hi hh => WF_mono (h8 i h hi hh) (by omega)⟩
  · obtain ⟨m', x1, x2, x3⟩ := bm2 ok
    rw [x1]
    simp only [Option.bind_some, F_X9_fails]
    rw [if_neg ok, if_pos (show (0 : Int32) = 0 from rfl), if_pos (show NN = -1 from rfl)]
    simp only [Option.bind_some]
    rw [if_pos (by decide), if_pos (by rfl), if_neg (by decide)]
    exact ⟨_, rfl, Inv_SE h ⟨rfl, rfl, rfl, rfl, x3, x2.2.2.1, x2.2.2.2.1, x2.2.2.2.2.1, x2.2.2.2.2.2.1, x2.2.2.2.2.2.2.1, x2.2.2.2.2.2.2.2⟩⟩
