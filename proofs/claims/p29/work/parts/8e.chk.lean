/-! THE PURE SIDE: chunk -/
/-- what of the Model a look leaves as it is -/
def SM (m m' : MDT) : Prop := (∀ k, k < 1270 → md_s m' k = md_s m k) ∧ md_saved m' = md_saved m ∧ md_savedMany m' = md_savedMany m ∧ md_slots m' = md_slots m ∧ md_hasSlot m' = md_hasSlot m ∧ md_text m' = md_text m ∧ md_length m' = md_length m
theorem Inv_SM {n : Nat} {st : STT} (h : Inv n st) {m' : MDT} (hm : SM (S_md st) m') (a : DKT) (b : SMT) (c : PLT) (e : SOT) (f : CRT) (g : Nat → Int64) : Inv (n + 1) (S_tx st, S_desk st, a, S_past st, S_saved st, b, c, e, f, m', g) :=
  Inv_SE h ⟨rfl, rfl, rfl, rfl, hm.1, hm.2.1, hm.2.2.1, hm.2.2.2.1, hm.2.2.2.2.1, hm.2.2.2.2.2.1, hm.2.2.2.2.2.2⟩
theorem SM_rf {m m' : MDT} (h1 : md_s m' = md_s m) (h2 : md_saved m' = md_saved m) (h3 : md_savedMany m' = md_savedMany m) (h4 : md_slots m' = md_slots m) (h5 : md_hasSlot m' = md_hasSlot m) (h6 : md_text m' = md_text m) (h7 : md_length m' = md_length m) : SM m m' := ⟨fun k _ => by rw [h1], h2, h3, h4, h5, h6, h7⟩
theorem AH_len {f : Nat → Int32} {l : List (List Nat)} {g : List Nat → Int32} (h : AH f (l.map g)) {i : Nat} (hi : i < l.length) : f i = g (l[i]) := h i _ (by rw [List.getElem?_map, List.getElem?_eq_getElem hi]; rfl)
theorem chunk_A {d : DKT} {m : MDT} {A : AT} {n : Nat} {tx : TXT} (ht : TI tx (md_text m) (md_length m)) (hd : DR d A) (hm : MR (md_s m) A) (hW : WF A n) (so : SMT) (x q r : Int32) : (∃ v so' m', F_X8_chunk tx d so x q r = some (0, v, so') ∧ F_X9_chunk m x q r = some (v, m') ∧ md_thrown m' = 0 ∧ SM m m') ∨ (∃ so' m', F_X8_chunk tx d so x q r = some (1, 0, so') ∧ F_X9_chunk m x q r = some (0, m') ∧ md_thrown m' = 1 ∧ SM m m') ∨ (∃ so' m', F_X8_chunk tx d so x q r = some (2, 0, so') ∧ F_X9_chunk m x q r = some (0, m') ∧ md_thrown m' = 2 ∧ SM m m') := by
  have hl := WF_len hW
  have hn := WF_Wn hW
  obtain ⟨d1, d2, d3, d4⟩ := hd
  obtain ⟨m1, m2, m3⟩ := hm
  obtain ⟨w1, w2, w3, w4, w5, w6⟩ := hW
  have j32 : ∀ v7, J_X9_chunk_32 m v7 () = some (0, (2, (md_s m), (md_aside m), (md_base m), (md_saved m), (md_savedMany m), (md_slots m), (md_hasSlot m), (md_text m), (md_length m), v7.2.1, v7.2.2.1, v7.2.2.2, (md_letters m), (md_letterMany m), (md_chunks m), (md_chunkMany m), (md_homes m), (md_dropped m), (md_madeIn m), (md_madeAt m), (md_putMany m), (md_path m), (md_store m), (md_thinOnes m))) := fun v7 => rfl
  unfold F_X8_chunk F_X9_chunk
  rcases rd ht so (md_begins m) (md_lengths m) (md_streams m) x with ⟨e1, b, l, ss, e2⟩ | ⟨p, ws, wo, hx, hp, hv, hl1, hl30, e1, e2, b, l, ss, e3, e4⟩
  · right; left
    rw [e1, e2]
    simp only [Option.bind_some]
    rw [if_pos trivial]
    exact ⟨_, _, rfl, rfl, rfl, SM_rf rfl rfl rfl rfl rfl rfl rfl⟩
  rw [e1, e3]
  simp only [Option.bind_some]
  rw [if_neg (show ¬ (1 : Int32) = 0 by decide), if_neg (show ¬ (1 : Int32) = 0 by decide)]
  rcases J_cases q with c | ⟨i, hi31, rfl⟩
  · right; right
    rw [if_pos c, if_pos c, j32]
    exact ⟨_, _, rfl, rfl, rfl, SM_rf rfl rfl rfl rfl rfl rfl rfl⟩
  rw [if_neg (J_neg hi31), if_neg (J_neg hi31)]
  rcases J_cases r with c | ⟨v, hv31, rfl⟩
  · right; right
    rw [if_pos c, in_neg c]
    simp only [Option.bind_some]
    rw [if_pos (show J 0 = 0 from rfl), j32]
    exact ⟨_, _, rfl, rfl, rfl, SM_rf rfl rfl rfl rfl rfl rfl rfl⟩
  have hin3 : F_X9_in (J v) 0 3 = some (J (if 0 ≤ v ∧ v ≤ 3 then 1 else 0)) := in_nn (a := 0) (b := 3) hv31 (by omega) (by omega)
  rw [if_neg (J_neg hv31), hin3]
  simp only [Option.bind_some]
  by_cases c : v ≤ 3
  rotate_left
  · right; right
    rw [if_neg (show ¬ J v ≤ 3 from fun z => c ((J_le (b := 3) hv31 (by omega)).mp z)), if_neg (show ¬ (0 ≤ v ∧ v ≤ 3) by omega), if_pos (show J 0 = 0 from rfl), j32]
    exact ⟨_, _, rfl, rfl, rfl, SM_rf rfl rfl rfl rfl rfl rfl rfl⟩
  left
  have hd2 := w3.1
  have hd9 := w3.2.1
  obtain ⟨f', c1, c2⟩ := cut_J (wo := wo) (cd := sm_codes so) (ch := 0) e2 hv hl30 (d := a_se A 0) (by omega) (by omega)
  obtain ⟨lt', f2, c3, c4⟩ := e4 (md_s m) (md_letters m) (md_chunks m) (md_letterMany m) (md_chunkMany m) (a_se A 0) (m1.1 0 (by omega)) (by omega) (by omega)
  rw [if_pos (show J v ≤ 3 from (J_le (b := 3) hv31 (by omega)).mpr c), if_pos (show 0 ≤ v ∧ v ≤ 3 by omega), if_neg (show ¬ J 1 = 0 by decide), show F_X1_settingAt d 0 = some (J (a_se A 0)) from settingAt_D (i := 0) d1 (by omega)]
  simp only [Option.bind_some]
  rw [c1, c3]
  simp only [Option.bind_some]
  have hlen := cutG_len (a_se A 0) ws []
  simp only [List.length_nil] at hlen
  have hlt : (J i < sm_chunks (wo, f', J ws.length, J (cutG (a_se A 0) [] ws).length)) ↔ i < (cutG (a_se A 0) [] ws).length := J_lt hi31 (by omega)
  have hlt2 : (J i < J (cutG (a_se A 0) [] ws).length) ↔ i < (cutG (a_se A 0) [] ws).length := J_lt hi31 (by omega)
  by_cases z : i < (cutG (a_se A 0) [] ws).length
  rotate_left
  · rw [if_neg (fun w => z (hlt.mp w)), if_neg (fun w => z (hlt2.mp w))]
    exact ⟨_, _, _, rfl, rfl, rfl, SM_rf rfl rfl rfl rfl rfl rfl rfl⟩
  rw [if_pos (hlt.mpr z), if_pos (hlt2.mpr z)]
  have hvc := cutG_v (a_se A 0) ws [] (by simp) (fun x hx => by cases hx) hv _ (List.getElem_mem z)
  have k8 := AH_len c2 z
  have k9 := AH_len c4 z
  generalize (cutG (a_se A 0) [] ws)[i] = lc at *
  have hcode : F_X6_codeAt (wo, f', J ws.length, J (cutG (a_se A 0) [] ws).length) (J i) = some (J (c8 lc)) := by
    unfold F_X6_codeAt
    simp (disch := omega) only [sm_chunks, sm_codes, k8, J_add, J_mul, J_sub, J_dec, J_nat, J_lt, J_le, J_eq, gd_J, gz_J, gb_J, J_div, J_mod, md_back, JN, J_neN, J_Nne, J_ltN, J_Nlt, J_leN, J_Nle, N_refl, J01, J_addN, J_pred, F_X9_at, F_X9_backupAt, F_X9_fails, F_X9_thrown, Option.bind_some, if_true, if_false, Nat.add_zero, Nat.zero_add, Nat.mul_zero, Nat.zero_mul, Nat.reduceAdd, Nat.reduceMul, Nat.reduceSub, Nat.reduceEqDiff, Nat.reduceLeDiff, Nat.reduceLT, Nat.reducePow, Nat.not_lt_zero, Nat.zero_le, eq_self, not_true_eq_false, not_false_eq_true, reduceIte, L_0, L_1, L_2, L_3, L_4, L_5, L_6, L_7, L_8, L_9, L_10, L_11, L_12, L_14, L_15, L_16, L_24, L_30, L_31, L_32, L_34, L_40, L_44, L_90, L_96, L_97, L_100, L_120, L_121, L_192, L_997, L_998, L_1000, L_1270, L_10000, L_17780, L_2540, L_32768, L_16510]
    rw [if_neg (by omega)]
  have hg : ∀ (z : Option (Int32 × MDT)), gd (J i) 16 z = z := fun z => gd_J (by omega) (by omega)
  have hn31 : (J i).toNatClampNeg = i := J_nat hi31
  rw [hcode]
  simp only [Option.bind_some, hg, hn31, k9]
  rcases (show v = 0 ∨ v = 1 ∨ v = 2 ∨ v = 3 by omega) with rfl | rfl | rfl | rfl
  · refine ⟨J lc.length, (wo, f', J ws.length, J (cutG (a_se A 0) [] ws).length), (0, (md_s m), (md_aside m), (md_base m), (md_saved m), (md_savedMany m), (md_slots m), (md_hasSlot m), (md_text m), (md_length m), b, l, ss, lt', J ws.length, f2, J (cutG (a_se A 0) [] ws).length, (md_homes m), (md_dropped m), (md_madeIn m), (md_madeAt m), (md_putMany m), (md_path m), (md_store m), (md_thinOnes m)), ?_, ?_, rfl, SM_rf rfl rfl rfl rfl rfl rfl rfl⟩
    · rw [if_neg (by decide), if_pos (by decide), count_J hvc]
      rfl
    · rw [if_neg (by decide), if_pos (by decide), lengthOf_J hvc]
      rfl
  · refine ⟨J (sc lc), (wo, f', J ws.length, J (cutG (a_se A 0) [] ws).length), (0, (md_s m), (md_aside m), (md_base m), (md_saved m), (md_savedMany m), (md_slots m), (md_hasSlot m), (md_text m), (md_length m), b, l, ss, lt', J ws.length, f2, J (cutG (a_se A 0) [] ws).length, (md_homes m), (md_dropped m), (md_madeIn m), (md_madeAt m), (md_putMany m), (md_path m), (md_store m), (md_thinOnes m)), ?_, ?_, rfl, SM_rf rfl rfl rfl rfl rfl rfl rfl⟩
    · rw [if_neg (by decide), if_neg (by decide), if_pos (by decide), sum_J hvc]
      rfl
    · rw [if_neg (by decide), if_neg (by decide), sumOf_J hvc]
      rfl
  · refine ⟨J (sm (fun k => cp (fun i => decide (ch (a_cs A) k i = lc)) (si (a_cs A) k)) (a_cs A).length), (wo, f', J ws.length, J (cutG (a_se A 0) [] ws).length), (0, (md_s m), (md_aside m), (md_base m), (md_saved m), (md_savedMany m), (md_slots m), (md_hasSlot m), (md_text m), (md_length m), b, l, ss, lt', J ws.length, f2, J (cutG (a_se A 0) [] ws).length, (md_homes m), (md_dropped m), (md_madeIn m), (md_madeAt m), (md_putMany m), (md_path m), (md_store m), (md_thinOnes m)), ?_, ?_, rfl, SM_rf rfl rfl rfl rfl rfl rfl rfl⟩
    · rw [if_neg (by decide), if_neg (by decide), if_neg (by decide), entriesWith_D d1 hn w1 hvc]
      rfl
    · rw [if_pos (by decide), if_neg (by decide)]
      refine lp_run (fun k => (J (sm (fun k => cp (fun i => decide (ch (a_cs A) k i = lc)) (si (a_cs A) k)) k), J k)) (a_cs A).length (fun self k hk => ?_) (fun self => ?_) (by unfold FU; omega)
      · obtain ⟨g1, g2, g3, g4⟩ := m1.2.2.2 k hk
        obtain ⟨u1, u2, u3, u4, u5, u6⟩ := w1.2.1 k hk
        rw [sm_step]
        generalize sm (fun k => cp (fun i => decide (ch (a_cs A) k i = lc)) (si (a_cs A) k)) k = a
        unfold B_X9_chunk_106
        simp (disch := omega) only [m1.2.2.1, J_add, J_mul, J_sub, J_dec, J_nat, J_lt, J_le, J_eq, gd_J, gz_J, gb_J, J_div, J_mod, md_back, JN, J_neN, J_Nne, J_ltN, J_Nlt, J_leN, J_Nle, N_refl, J01, J_addN, J_pred, F_X9_at, F_X9_backupAt, F_X9_fails, F_X9_thrown, Option.bind_some, if_true, if_false, Nat.add_zero, Nat.zero_add, Nat.mul_zero, Nat.zero_mul, Nat.reduceAdd, Nat.reduceMul, Nat.reduceSub, Nat.reduceEqDiff, Nat.reduceLeDiff, Nat.reduceLT, Nat.reducePow, Nat.not_lt_zero, Nat.zero_le, eq_self, not_true_eq_false, not_false_eq_true, reduceIte, L_0, L_1, L_2, L_3, L_4, L_5, L_6, L_7, L_8, L_9, L_10, L_11, L_12, L_14, L_15, L_16, L_24, L_30, L_31, L_32, L_34, L_40, L_44, L_90, L_96, L_97, L_100, L_120, L_121, L_192, L_997, L_998, L_1000, L_1270, L_10000, L_17780, L_2540, L_32768, L_16510]
        rw [if_neg (by omega)]
        refine lp_run (fun j => (J (a + cp (fun i => decide (ch (a_cs A) k i = lc)) j), J j)) (si (a_cs A) k) (fun self2 j hj => ?_) (fun self2 => ?_) (by unfold FU; omega)
        · have h3 := c9_eq (u6 j hj) hvc
          unfold B_X9_chunk_121
          simp (disch := omega) only [g3, g4 j hj, k9, h3, J_add, J_mul, J_sub, J_dec, J_nat, J_lt, J_le, J_eq, gd_J, gz_J, gb_J, J_div, J_mod, md_back, JN, J_neN, J_Nne, J_ltN, J_Nlt, J_leN, J_Nle, N_refl, J01, J_addN, J_pred, F_X9_at, F_X9_backupAt, F_X9_fails, F_X9_thrown, Option.bind_some, if_true, if_false, Nat.add_zero, Nat.zero_add, Nat.mul_zero, Nat.zero_mul, Nat.reduceAdd, Nat.reduceMul, Nat.reduceSub, Nat.reduceEqDiff, Nat.reduceLeDiff, Nat.reduceLT, Nat.reducePow, Nat.not_lt_zero, Nat.zero_le, eq_self, not_true_eq_false, not_false_eq_true, reduceIte, L_0, L_1, L_2, L_3, L_4, L_5, L_6, L_7, L_8, L_9, L_10, L_11, L_12, L_14, L_15, L_16, L_24, L_30, L_31, L_32, L_34, L_40, L_44, L_90, L_96, L_97, L_100, L_120, L_121, L_192, L_997, L_998, L_1000, L_1270, L_10000, L_17780, L_2540, L_32768, L_16510]
          rw [if_neg (by omega)]
          by_cases w : ch (a_cs A) k j = lc
          · rw [cp_yes (by exact decide_eq_true w), if_pos w]
            rfl
          · rw [cp_no (by exact decide_eq_false w), if_neg w]
        · unfold B_X9_chunk_121
          simp (disch := omega) only [g3, Nat.le_refl, J_add, J_mul, J_sub, J_dec, J_nat, J_lt, J_le, J_eq, gd_J, gz_J, gb_J, J_div, J_mod, md_back, JN, J_neN, J_Nne, J_ltN, J_Nlt, J_leN, J_Nle, N_refl, J01, J_addN, J_pred, F_X9_at, F_X9_backupAt, F_X9_fails, F_X9_thrown, Option.bind_some, if_true, if_false, Nat.add_zero, Nat.zero_add, Nat.mul_zero, Nat.zero_mul, Nat.reduceAdd, Nat.reduceMul, Nat.reduceSub, Nat.reduceEqDiff, Nat.reduceLeDiff, Nat.reduceLT, Nat.reducePow, Nat.not_lt_zero, Nat.zero_le, eq_self, not_true_eq_false, not_false_eq_true, reduceIte, L_0, L_1, L_2, L_3, L_4, L_5, L_6, L_7, L_8, L_9, L_10, L_11, L_12, L_14, L_15, L_16, L_24, L_30, L_31, L_32, L_34, L_40, L_44, L_90, L_96, L_97, L_100, L_120, L_121, L_192, L_997, L_998, L_1000, L_1270, L_10000, L_17780, L_2540, L_32768, L_16510]
      · unfold B_X9_chunk_106
        simp (disch := omega) only [m1.2.2.1, Nat.le_refl, J_add, J_mul, J_sub, J_dec, J_nat, J_lt, J_le, J_eq, gd_J, gz_J, gb_J, J_div, J_mod, md_back, JN, J_neN, J_Nne, J_ltN, J_Nlt, J_leN, J_Nle, N_refl, J01, J_addN, J_pred, F_X9_at, F_X9_backupAt, F_X9_fails, F_X9_thrown, Option.bind_some, if_true, if_false, Nat.add_zero, Nat.zero_add, Nat.mul_zero, Nat.zero_mul, Nat.reduceAdd, Nat.reduceMul, Nat.reduceSub, Nat.reduceEqDiff, Nat.reduceLeDiff, Nat.reduceLT, Nat.reducePow, Nat.not_lt_zero, Nat.zero_le, eq_self, not_true_eq_false, not_false_eq_true, reduceIte, L_0, L_1, L_2, L_3, L_4, L_5, L_6, L_7, L_8, L_9, L_10, L_11, L_12, L_14, L_15, L_16, L_24, L_30, L_31, L_32, L_34, L_40, L_44, L_90, L_96, L_97, L_100, L_120, L_121, L_192, L_997, L_998, L_1000, L_1270, L_10000, L_17780, L_2540, L_32768, L_16510]
  · have hnum : ∃ y, (F_X1_homeOf d (J (c8 lc))).bind (fun v140 => (F_X1_numberAt d v140).bind fun v143 => some ((0 : Nat), v143, ((wo, f', J ws.length, J (cutG (a_se A 0) [] ws).length) : SMT))) = some (0, y, (wo, f', J ws.length, J (cutG (a_se A 0) [] ws).length)) ∧ y = OJ (nu (a_cs A)) (hm (a_cs A) lc) := by
      rw [homeOf_D d1 hn w1 hvc]
      simp only [Option.bind_some]
      cases hh : hm (a_cs A) lc with
      | none =>
        refine ⟨NN, ?_, rfl⟩
        rfl
      | some k =>
        have hk := (lastP_some hh).1
        refine ⟨J (nu (a_cs A) k), ?_, rfl⟩
        show (F_X1_numberAt d (J k)).bind _ = _
        rw [numberAt_D d1 hn hk]
        rfl
    obtain ⟨y, y1, y2⟩ := hnum
    refine ⟨y, (wo, f', J ws.length, J (cutG (a_se A 0) [] ws).length), (0, (md_s m), (md_aside m), (md_base m), (md_saved m), (md_savedMany m), (md_slots m), (md_hasSlot m), (md_text m), (md_length m), b, l, ss, lt', J ws.length, f2, J (cutG (a_se A 0) [] ws).length, (md_homes m), (md_dropped m), (md_madeIn m), (md_madeAt m), (md_putMany m), (md_path m), (md_store m), (md_thinOnes m)), ?_, ?_, rfl, SM_rf rfl rfl rfl rfl rfl rfl rfl⟩
    · rw [if_pos (by decide), y1]
    · rw [if_pos (by decide), if_pos (by decide), homeOf_M m1 w1 (by omega) hvc, y2]
      rfl
theorem i_chunk {n : Nat} {st : STT} {q1 q2 q3 : Int32} (h : Inv n st) : ∃ st', F_T_chunk st q1 q2 q3 = some st' ∧ Inv (n + 1) st' := by
  obtain ⟨A, H, Sl, h1, h2, h3, h4, h5⟩ := id h
  unfold F_T_chunk F_X9_thrown
  rcases chunk_A h1 h2 h3 h4 (S_stream st) q1 q2 q3 with ⟨v, so', m', a1, a2, a3, a4⟩ | ⟨so', m', a1, a2, a3, a4⟩ | ⟨so', m', a1, a2, a3, a4⟩
  · rw [a1, a2]
    simp only [Option.bind_some]
    rw [if_pos (by decide), if_pos (by exact a3), if_pos (by rfl), if_pos (by rfl)]
    exact ⟨_, rfl, Inv_SM h a4 _ _ _ _ _ _⟩
  · rw [a1, a2]
    simp only [Option.bind_some]
    rw [if_pos (by decide), if_pos (by exact a3), if_neg (by decide)]
    exact ⟨_, rfl, Inv_SM h a4 _ _ _ _ _ _⟩
  · rw [a1, a2]
    simp only [Option.bind_some]
    rw [if_pos (by decide), if_pos (by exact a3), if_neg (by decide)]
    exact ⟨_, rfl, Inv_SM h a4 _ _ _ _ _ _⟩
