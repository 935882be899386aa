/-! THE PURE SIDE: save, restore, set -/
theorem i_save {n : Nat} {st : STT} {q1 q2 q3 : Int32} (h : Inv n st) : ∃ st', F_T_save st q1 q2 q3 = some st' ∧ Inv (n + 1) st' := by
  obtain ⟨A, H, Sl, h1, h2, h3, h4, h5, h6, h7, h8⟩ := id h
  unfold F_T_save F_X9_thrown F_X8_save F_X9_save
  rcases J_cases q1 with c | ⟨i, hi31, rfl⟩
  · rw [if_pos c, in_neg c]
    simp only [Option.bind_some, F_X9_fails]
    rw [if_pos (by decide), if_pos (show J 0 = 0 from rfl)]
    simp only [Option.bind_some]
    rw [if_pos (by rfl), if_neg (by decide)]
    exact ⟨_, rfl, Inv_SE h ⟨rfl, rfl, rfl, rfl, fun _ _ => rfl, rfl, rfl, rfl, rfl, rfl, rfl⟩⟩
  have hin3 : F_X9_in (J i) 0 1 = some (J (if 0 ≤ i ∧ i ≤ 1 then 1 else 0)) := in_nn (a := 0) (b := 1) hi31 (by omega) (by omega)
  rw [if_neg (J_neg hi31), hin3]
  by_cases c : i < 2
  rotate_left
  · rw [if_neg (show ¬ J i < 2 from fun z => c ((J_lt (b := 2) hi31 (by omega)).mp z)), if_neg (show ¬ (0 ≤ i ∧ i ≤ 1) by omega)]
    simp only [Option.bind_some, F_X9_fails]
    rw [if_pos (by decide), if_pos (show J 0 = 0 from rfl)]
    simp only [Option.bind_some]
    rw [if_pos (by rfl), if_neg (by decide)]
    exact ⟨_, rfl, Inv_SE h ⟨rfl, rfl, rfl, rfl, fun _ _ => rfl, rfl, rfl, rfl, rfl, rfl, rfl⟩⟩
  have hgd : ∀ (x : Option (Nat × Int32 × SVT)), gd (J i) 2 x = x := fun x => gd_J c (by omega)
  obtain ⟨v, v1, v2⟩ := copy_D (d0 := if (S_saved st).1 i then (S_saved st).2 i else DK0) h2 h4
  have hloop : lp (B_X9_save_22 (J i) (md_s (S_md st)) (K_X9_save_53 (J i) (md_s (S_md st)) (md_hasSlot (S_md st)))) FU (0, md_slots (S_md st)) = some (J (sm (fun b => min 1 (a_bs A b).length) 8), 0, cpo (md_slots (S_md st)) (md_s (S_md st)) (1270 * i) 1270, upd (md_hasSlot (S_md st)) i (vp_nar .boolean 1)) := by
    have e0 : ((0 : Int32), md_slots (S_md st)) = (fun j => (J j, cpo (md_slots (S_md st)) (md_s (S_md st)) (1270 * i) j)) 0 := by
      show _ = (J 0, cpo _ _ _ 0)
      rw [cpo_0]
      rfl
    rw [e0]
    refine lp_run (fun j => (J j, cpo (md_slots (S_md st)) (md_s (S_md st)) (1270 * i) j)) 1270 (fun self j hj => ?_) (fun self => ?_) (by unfold FU; omega)
    · unfold B_X9_save_22
      simp (disch := omega) only [cpo_step, J_add, J_mul, J_sub, J_dec, J_nat, J_lt, J_le, J_eq, gd_J, gz_J, gb_J, J_div, J_mod, md_back, JN, J_neN, J_Nne, J_ltN, J_Nlt, J_leN, J_Nle, N_refl, J01, J_addN, J_pred, F_X9_at, F_X9_backupAt, F_X9_fails, F_X9_thrown, Option.bind_some, if_true, if_false, Nat.add_zero, Nat.zero_add, Nat.mul_zero, Nat.zero_mul, Nat.reduceAdd, Nat.reduceMul, Nat.reduceSub, Nat.reduceEqDiff, Nat.reduceLeDiff, Nat.reduceLT, Nat.reducePow, Nat.not_lt_zero, Nat.zero_le, eq_self, not_true_eq_false, not_false_eq_true, reduceIte, L_0, L_1, L_2, L_3, L_4, L_5, L_6, L_7, L_8, L_9, L_10, L_11, L_12, L_14, L_15, L_16, L_24, L_30, L_31, L_32, L_34, L_40, L_44, L_90, L_96, L_97, L_100, L_120, L_121, L_192, L_997, L_998, L_1000, L_1270, L_10000, L_17780, L_2540, L_32768, L_16510]
      rw [if_neg (by omega)]
    · unfold B_X9_save_22 K_X9_save_53
      simp (disch := omega) only [Nat.le_refl, backups_M h3.2.1, J_add, J_mul, J_sub, J_dec, J_nat, J_lt, J_le, J_eq, gd_J, gz_J, gb_J, J_div, J_mod, md_back, JN, J_neN, J_Nne, J_ltN, J_Nlt, J_leN, J_Nle, N_refl, J01, J_addN, J_pred, F_X9_at, F_X9_backupAt, F_X9_fails, F_X9_thrown, Option.bind_some, if_true, if_false, Nat.add_zero, Nat.zero_add, Nat.mul_zero, Nat.zero_mul, Nat.reduceAdd, Nat.reduceMul, Nat.reduceSub, Nat.reduceEqDiff, Nat.reduceLeDiff, Nat.reduceLT, Nat.reducePow, Nat.not_lt_zero, Nat.zero_le, eq_self, not_true_eq_false, not_false_eq_true, reduceIte, L_0, L_1, L_2, L_3, L_4, L_5, L_6, L_7, L_8, L_9, L_10, L_11, L_12, L_14, L_15, L_16, L_24, L_30, L_31, L_32, L_34, L_40, L_44, L_90, L_96, L_97, L_100, L_120, L_121, L_192, L_997, L_998, L_1000, L_1270, L_10000, L_17780, L_2540, L_32768, L_16510]
  rw [if_pos (show J i < 2 from (J_lt (b := 2) hi31 (by omega)).mpr c), if_pos (show 0 ≤ i ∧ i ≤ 1 by omega), hgd, J_nat hi31, v1]
  simp only [Option.bind_some]
  rw [backups_D h2.2.1 h4.2.1, if_neg (show ¬ J 1 = 0 by decide), hloop]
  simp only [Option.bind_some]
  rw [if_pos (by decide), if_pos (by rfl), if_pos (by rfl), if_pos (by rfl)]
  refine ⟨_, rfl, A, H, fun j => if j = i then some A else Sl j, h1, h2, h3, WF_mono h4 (by omega), h5, fun h hh => WF_mono (h6 h hh) (by omega), fun j hj => ⟨fun hn => ?_, fun B hB => ?_⟩, fun j B hj hB => ?_⟩
  · by_cases q : j = i
    · have hn' : (if j = i then some A else Sl j) = none := hn
      rw [if_pos q] at hn'; cases hn'
    · have hn' : (if j = i then some A else Sl j) = none := hn
      rw [if_neg q] at hn'
      obtain ⟨y1, y2⟩ := (h7 j hj).1 hn'
      refine ⟨?_, ?_⟩
      · show (if j = i then true else (S_saved st).1 j) = false
        rw [if_neg q]; exact y1
      · show upd _ i _ j = _
        rw [upd_ne _ _ q]; exact y2
  · by_cases q : j = i
    · have hB' : (if j = i then some A else Sl j) = some B := hB
      rw [if_pos q] at hB'
      cases hB'
      subst q
      refine ⟨?_, ?_, ?_, ?_⟩
      · show (if j = j then true else (S_saved st).1 j) = true
        rw [if_pos rfl]
      · show upd _ j _ j = _
        rw [upd_self]; rfl
      · show DR (if j = j then v else (S_saved st).2 j) A
        rw [if_pos rfl]; exact v2
      · refine MR_ext h4 h3 fun k hk => ?_
        show cpo _ _ _ _ (1270 * j + k) = _
        unfold cpo
        rw [if_pos (by omega), Nat.add_sub_cancel_left]
    · have hB' : (if j = i then some A else Sl j) = some B := hB
      rw [if_neg q] at hB'
      obtain ⟨y1, y2, y3, y4⟩ := (h7 j hj).2 B hB'
      refine ⟨?_, ?_, ?_, ?_⟩
      · show (if j = i then true else (S_saved st).1 j) = true
        rw [if_neg q]; exact y1
      · show upd _ i _ j = _
        rw [upd_ne _ _ q]; exact y2
      · show DR (if j = i then v else (S_saved st).2 j) B
        rw [if_neg q]; exact y3
      · refine MR_ext (h8 j B hj hB') y4 fun k hk => ?_
        show cpo _ _ _ _ (1270 * j + k) = _
        unfold cpo
        rw [if_neg (by omega)]
  · by_cases q : j = i
    · have hB' : (if j = i then some A else Sl j) = some B := hB
      rw [if_pos q] at hB'
      cases hB'
      exact WF_mono h4 (by omega)
    · have hB' : (if j = i then some A else Sl j) = some B := hB
      rw [if_neg q] at hB'
      exact WF_mono (h8 j B hj hB') (by omega)
theorem i_restore {n : Nat} {st : STT} {q1 q2 q3 : Int32} (h : Inv n st) : ∃ st', F_T_restore st q1 q2 q3 = some st' ∧ Inv (n + 1) st' := by
  obtain ⟨A, H, Sl, h1, h2, h3, h4, h5, h6, h7, h8⟩ := id h
  unfold F_T_restore F_X9_thrown F_X8_restore F_X9_restore
  rcases J_cases q1 with c | ⟨i, hi31, rfl⟩
  · rw [if_pos c, in_neg c]
    simp only [Option.bind_some, F_X9_fails]
    rw [if_pos (by decide), if_pos (show J 0 = 0 from rfl)]
    simp only [Option.bind_some]
    rw [if_pos (by rfl), if_neg (by decide)]
    exact ⟨_, rfl, Inv_SE h ⟨rfl, rfl, rfl, rfl, fun _ _ => rfl, rfl, rfl, rfl, rfl, rfl, rfl⟩⟩
  have hin3 : F_X9_in (J i) 0 1 = some (J (if 0 ≤ i ∧ i ≤ 1 then 1 else 0)) := in_nn (a := 0) (b := 1) hi31 (by omega) (by omega)
  rw [if_neg (J_neg hi31), hin3]
  by_cases c : i < 2
  rotate_left
  · rw [if_neg (show ¬ J i < 2 from fun z => c ((J_lt (b := 2) hi31 (by omega)).mp z)), if_neg (show ¬ (0 ≤ i ∧ i ≤ 1) by omega)]
    simp only [Option.bind_some, F_X9_fails]
    rw [if_pos (by decide), if_pos (show J 0 = 0 from rfl)]
    simp only [Option.bind_some]
    rw [if_pos (by rfl), if_neg (by decide)]
    exact ⟨_, rfl, Inv_SE h ⟨rfl, rfl, rfl, rfl, fun _ _ => rfl, rfl, rfl, rfl, rfl, rfl, rfl⟩⟩
  have hgd : ∀ (x : Option (Nat × Int32 × DKT × PAT)), gd (J i) 2 x = x := fun x => gd_J c (by omega)
  have hgd2 : ∀ (x : Option (Int32 × Int32 × (Nat → Int32) × Int32)), gd (J i) 2 x = x := fun x => gd_J c (by omega)
  rw [if_pos (show J i < 2 from (J_lt (b := 2) hi31 (by omega)).mpr c), if_pos (show 0 ≤ i ∧ i ≤ 1 by omega), hgd, J_nat hi31, hgd2]
  simp only [Option.bind_some]
  rw [if_neg (show ¬ J 1 = 0 by decide)]
  cases hS : Sl i with
  | none =>
    obtain ⟨y1, y2⟩ := (h7 i c).1 hS
    rw [y1, y2, if_neg (by decide), if_pos (show J 0 = 0 from rfl)]
    simp only [Option.bind_some, F_X9_fails]
    rw [if_pos (by decide), if_pos (by rfl), if_neg (by decide)]
    exact ⟨_, rfl, Inv_SE h ⟨rfl, rfl, rfl, rfl, fun _ _ => rfl, rfl, rfl, rfl, rfl, rfl, rfl⟩⟩
  | some B =>
    obtain ⟨y1, y2, y3, y4⟩ := (h7 i c).2 B hS
    have hWB := h8 i B c hS
    obtain ⟨v, v1, v2⟩ := copy_D (d0 := S_desk st) y3 hWB
    have hM : MR (fil (md_s (S_md st)) (fun k => md_slots (S_md st) (1270 * i + k)) 1270) B := MR_fil hWB y4
    have hloop : lp (B_X9_restore_37 (J i) (md_slots (S_md st)) K_X9_restore_68) FU (0, md_s (S_md st)) = some (J (sm (fun b => min 1 (a_bs B b).length) 8), 0, fil (md_s (S_md st)) (fun k => md_slots (S_md st) (1270 * i + k)) 1270, 0) := by
      refine lp_run (fun j => (J j, fil (md_s (S_md st)) (fun k => md_slots (S_md st) (1270 * i + k)) j)) 1270 (fun self j hj => ?_) (fun self => ?_) (by unfold FU; omega)
      · unfold B_X9_restore_37
        simp (disch := omega) only [J_add, J_mul, J_sub, J_dec, J_nat, J_lt, J_le, J_eq, gd_J, gz_J, gb_J, J_div, J_mod, md_back, JN, J_neN, J_Nne, J_ltN, J_Nlt, J_leN, J_Nle, N_refl, J01, J_addN, J_pred, F_X9_at, F_X9_backupAt, F_X9_fails, F_X9_thrown, Option.bind_some, if_true, if_false, Nat.add_zero, Nat.zero_add, Nat.mul_zero, Nat.zero_mul, Nat.reduceAdd, Nat.reduceMul, Nat.reduceSub, Nat.reduceEqDiff, Nat.reduceLeDiff, Nat.reduceLT, Nat.reducePow, Nat.not_lt_zero, Nat.zero_le, eq_self, not_true_eq_false, not_false_eq_true, reduceIte, L_0, L_1, L_2, L_3, L_4, L_5, L_6, L_7, L_8, L_9, L_10, L_11, L_12, L_14, L_15, L_16, L_24, L_30, L_31, L_32, L_34, L_40, L_44, L_90, L_96, L_97, L_100, L_120, L_121, L_192, L_997, L_998, L_1000, L_1270, L_10000, L_17780, L_2540, L_32768, L_16510]
        rw [if_neg (by omega)]
        rfl
      · unfold B_X9_restore_37 K_X9_restore_68
        simp (disch := omega) only [Nat.le_refl, backups_M hM.2.1, J_add, J_mul, J_sub, J_dec, J_nat, J_lt, J_le, J_eq, gd_J, gz_J, gb_J, J_div, J_mod, md_back, JN, J_neN, J_Nne, J_ltN, J_Nlt, J_leN, J_Nle, N_refl, J01, J_addN, J_pred, F_X9_at, F_X9_backupAt, F_X9_fails, F_X9_thrown, Option.bind_some, if_true, if_false, Nat.add_zero, Nat.zero_add, Nat.mul_zero, Nat.zero_mul, Nat.reduceAdd, Nat.reduceMul, Nat.reduceSub, Nat.reduceEqDiff, Nat.reduceLeDiff, Nat.reduceLT, Nat.reducePow, Nat.not_lt_zero, Nat.zero_le, eq_self, not_true_eq_false, not_false_eq_true, reduceIte, L_0, L_1, L_2, L_3, L_4, L_5, L_6, L_7, L_8, L_9, L_10, L_11, L_12, L_14, L_15, L_16, L_24, L_30, L_31, L_32, L_34, L_40, L_44, L_90, L_96, L_97, L_100, L_120, L_121, L_192, L_997, L_998, L_1000, L_1270, L_10000, L_17780, L_2540, L_32768, L_16510]
    rw [y1, y2, if_pos rfl, if_neg (show ¬ J 1 = 0 by decide), v1, hloop]
    unfold F_X3_forget
    simp only [Option.bind_some]
    rw [backups_D v2.2.1 hWB.2.1]
    simp only [Option.bind_some]
    rw [if_pos (by decide), if_pos (by rfl), if_pos (by rfl), if_pos (by rfl)]
    refine ⟨_, rfl, B, [], Sl, h1, v2, hM, WF_mono hWB (by omega), ⟨by simp, rfl, rfl, ⟨0, by omega, rfl, fun i C hC => by simp at hC⟩, fun i C hC => by simp at hC⟩, fun h hh => (by cases hh), h7, fun i h hi hh => WF_mono (h8 i h hi hh) (by omega)⟩
def lo5 (i : Nat) : Nat := if i = 0 then 2 else if i = 1 then 2 else 1
def hi5 (i : Nat) : Nat := if i = 0 then 9 else if i = 1 then 8 else if i = 2 then 9 else if i = 3 then 100 else 4
theorem in_gb (v lo hi : Int32) : (F_X9_in v lo hi).bind (fun w => gb w (some w)) = (if v < lo then some 0 else if hi < v then some 0 else some 1) ∧ (F_X9_in v lo hi).bind (fun w => if w = 0 then some (0 : Int32) else some 1) = (if v < lo then some 0 else if hi < v then some 0 else some 1) := by
  unfold F_X9_in
  by_cases c1 : v < lo
  · rw [if_pos c1]
    exact ⟨rfl, rfl⟩
  · rw [if_neg c1]
    by_cases c2 : hi < v
    · rw [if_pos c2]
      exact ⟨rfl, rfl⟩
    · rw [if_neg c2]
      exact ⟨rfl, rfl⟩
theorem isSet_key (v : Int32) {i : Nat} (hi : i < 5) : F_X8_isSetting (J i) v = (if v < J (lo5 i) then some 0 else if J (hi5 i) < v then some 0 else some 1) ∧ F_X9_isSetting (J i) v = (if v < J (lo5 i) then some 0 else if J (hi5 i) < v then some 0 else some 1) := by
  unfold F_X8_isSetting F_X9_isSetting
  have hg : ∀ (x : Option Int32), gd (J i) 5 x = x := fun x => gd_J hi (by omega)
  rcases (show i = 0 ∨ i = 1 ∨ i = 2 ∨ i = 3 ∨ i = 4 by omega) with rfl | rfl | rfl | rfl | rfl
  · rw [if_neg (show ¬ J 0 < 0 by decide), if_pos (show J 0 < 5 by decide), hg, hg, if_neg (show ¬ ((J 0).toInt < 0 ∨ 3 < (J 0).toInt) by decide), if_pos (show J 0 = 0 by decide)]
    exact ⟨rfl, (in_gb v 2 9).1⟩
  · rw [if_neg (show ¬ J 1 < 0 by decide), if_pos (show J 1 < 5 by decide), hg, hg, if_neg (show ¬ ((J 1).toInt < 0 ∨ 3 < (J 1).toInt) by decide), if_neg (show ¬ J 1 = 0 by decide), if_pos (show J 1 = 1 by decide)]
    exact ⟨rfl, (in_gb v 2 8).1⟩
  · rw [if_neg (show ¬ J 2 < 0 by decide), if_pos (show J 2 < 5 by decide), hg, hg, if_neg (show ¬ ((J 2).toInt < 0 ∨ 3 < (J 2).toInt) by decide), if_neg (show ¬ J 2 = 0 by decide), if_neg (show ¬ J 2 = 1 by decide), if_pos (show J 2 = 2 by decide)]
    exact ⟨rfl, (in_gb v 1 9).1⟩
  · rw [if_neg (show ¬ J 3 < 0 by decide), if_pos (show J 3 < 5 by decide), hg, hg, if_neg (show ¬ ((J 3).toInt < 0 ∨ 3 < (J 3).toInt) by decide), if_neg (show ¬ J 3 = 0 by decide), if_neg (show ¬ J 3 = 1 by decide), if_neg (show ¬ J 3 = 2 by decide)]
    exact ⟨rfl, (in_gb v 1 100).1⟩
  · rw [if_neg (show ¬ J 4 < 0 by decide), if_pos (show J 4 < 5 by decide), hg, hg, if_pos (show ((J 4).toInt < 0 ∨ 3 < (J 4).toInt) by decide), if_pos (show J 4 = 4 by decide)]
    exact ⟨rfl, (in_gb v 1 4).2⟩
theorem isSet_A (p v : Int32) : (F_X8_isSetting p v = some 0 ∧ F_X9_isSetting p v = some 0) ∨ ∃ i w : Nat, i < 5 ∧ p = J i ∧ v = J w ∧ lo5 i ≤ w ∧ w ≤ hi5 i ∧ w ≤ 100 ∧ F_X8_isSetting p v = some 1 ∧ F_X9_isSetting p v = some 1 := by
  rcases J_cases p with c | ⟨i, hi31, rfl⟩
  · left
    unfold F_X8_isSetting F_X9_isSetting
    have c2 := neg_toInt c
    have c3 : ¬ p = 4 := fun z => by subst z; exact absurd c (by decide)
    rw [if_pos c, if_pos (Or.inl c2), if_neg c3]
    exact ⟨rfl, rfl⟩
  by_cases c : i < 5
  · obtain ⟨k1, k2⟩ := isSet_key v c
    have hlo : lo5 i ≤ 2 := by unfold lo5; split; omega; split <;> omega
    have hhi : hi5 i ≤ 100 := by unfold hi5; split; omega; split; omega; split; omega; split <;> omega
    rw [k1, k2]
    rcases J_cases v with c1 | ⟨w, hw31, rfl⟩
    · left
      have : v < J (lo5 i) := by
        apply Int32.lt_iff_toInt_lt.mpr
        have := neg_toInt c1
        rw [J_toInt (by omega)]
        omega
      rw [if_pos this]
      exact ⟨rfl, rfl⟩
    · have l1 := J_lt (a := w) (b := lo5 i) hw31 (by omega)
      have l2 := J_lt (a := hi5 i) (b := w) (by omega) hw31
      by_cases c1 : w < lo5 i
      · left
        rw [if_pos (l1.mpr c1)]
        exact ⟨rfl, rfl⟩
      · rw [if_neg (fun z => c1 (l1.mp z))]
        by_cases c2 : hi5 i < w
        · left
          rw [if_pos (l2.mpr c2)]
          exact ⟨rfl, rfl⟩
        · right
          rw [if_neg (fun z => c2 (l2.mp z))]
          exact ⟨i, w, c, rfl, rfl, by omega, by omega, by omega, rfl, rfl⟩
  · left
    unfold F_X8_isSetting F_X9_isSetting
    have c3 : ¬ J i = 4 := fun z => c (by have := (J_eq (b := 4) hi31 (by omega)).mp z; omega)
    rw [if_neg (J_neg hi31), if_neg (show ¬ J i < 5 from fun z => c ((J_lt (b := 5) hi31 (by omega)).mp z)), if_pos (Or.inr (by rw [J_toInt hi31]; omega)), if_neg c3]
    exact ⟨rfl, rfl⟩
/-- a setting changed -/
def aset (A : AT) (i w : Nat) : AT := ((fun j => if j = i then w else a_se A j), a_nx A, a_ca A, a_cs A, a_bs A)
theorem aset_WF {A : AT} {n i w : Nat} (hi : i < 5) (h1 : lo5 i ≤ w) (h2 : w ≤ hi5 i) (hW : WF A n) : WF (aset A i w) n := by
  obtain ⟨w1, w2, ⟨s0, s1, s2, s3, s4, s5, s6, s7, s8, s9⟩, w4⟩ := hW
  refine ⟨w1, w2, ?_, w4⟩
  show Ws (fun j => if j = i then w else a_se A j)
  unfold lo5 at h1
  unfold hi5 at h2
  rcases (show i = 0 ∨ i = 1 ∨ i = 2 ∨ i = 3 ∨ i = 4 by omega) with rfl | rfl | rfl | rfl | rfl <;> simp at h1 h2 <;> refine ⟨?_, ?_, ?_, ?_, ?_, ?_, ?_, ?_, ?_, ?_⟩ <;> simp <;> assumption
theorem aset_DR {A : AT} {d : DKT} {i w : Nat} (hi : i < 5) (hd : DR d A) : DR ((upd (dk_settings d) i (J w)), (dk_numbers d), (dk_capacities d), (dk_firsts d), (dk_containers d), (dk_codes d), (dk_places d), (dk_uses d), (dk_entries d), (dk_references d), (dk_lengths d), (dk_nextNumber d), (dk_carried d)) (aset A i w) := by
  obtain ⟨⟨c1, c2, c3, c4, c5, c6⟩, d2, d3, d4⟩ := hd
  refine ⟨⟨fun j hj => ?_, c2, c3, c4, c5, c6⟩, d2, d3, d4⟩
  show upd (dk_settings d) i (J w) j = J (if j = i then w else a_se A j)
  by_cases q : j = i
  · subst q; rw [upd_self, if_pos rfl]
  · rw [upd_ne _ _ q, if_neg q]; exact c1 j hj
theorem aset_MR {A : AT} {s : Nat → Int32} {n i w : Nat} (hi : i < 5) (hW : WF A n) (hm : MR s A) : MR (upd s i (J w)) (aset A i w) := by
  have hl := WF_len hW
  obtain ⟨⟨r1, r2, r3, r4⟩, r5, r6⟩ := hm
  refine ⟨⟨fun j hj => ?_, by rw [upd_ne _ _ (by omega)]; exact r2, by rw [upd_ne _ _ (by omega)]; exact r3, fun k hk => ?_⟩, fun b hb => ?_, by rw [upd_ne _ _ (by omega)]; exact r6⟩
  · show upd s i (J w) j = J (if j = i then w else a_se A j)
    by_cases q : j = i
    · subst q; rw [upd_self, if_pos rfl]
    · rw [upd_ne _ _ q, if_neg q]; exact r1 j hj
  · obtain ⟨g1, g2, g3, g4⟩ := r4 k hk
    exact ⟨by rw [upd_ne _ _ (by omega)]; exact g1, by rw [upd_ne _ _ (by omega)]; exact g2, by rw [upd_ne _ _ (by omega)]; exact g3, fun j hj => by rw [upd_ne _ _ (by omega)]; exact g4 j hj⟩
  · obtain ⟨g1, g2, g3⟩ := r5 b hb
    exact ⟨by rw [upd_ne _ _ (by omega)]; exact g1, by rw [upd_ne _ _ (by omega)]; exact g2, fun j hj => by rw [upd_ne _ _ (by omega), upd_ne _ _ (by omega)]; exact g3 j hj⟩
theorem changeSetting_D {d : DKT} {A : AT} {i w : Nat} (hi : i < 5) (hd : DR d A) (h : F_X8_isSetting (J i) (J w) = some 1) : ∃ d', F_X1_changeSetting d (J i) (J w) = some (J (a_se A i), d') ∧ DR d' (aset A i w) := by
  refine ⟨_, ?_, aset_DR hi hd⟩
  unfold F_X1_changeSetting
  rw [settingAt_D hd.1 hi, h]
  simp only [Option.bind_some]
  rw [if_neg (by decide), gd_J hi (by omega), J_nat (by omega)]
theorem i_set {n : Nat} {st : STT} {q1 q2 q3 : Int32} (h : Inv n st) : ∃ st', F_T_set st q1 q2 q3 = some st' ∧ Inv (n + 1) st' := by
  obtain ⟨A, H, Sl, h1, h2, h3, h4, h5, h6, h7, h8⟩ := id h
  unfold F_T_set F_X9_thrown F_X8_set F_X9_set
  rcases isSet_A q1 q2 with ⟨e1, e2⟩ | ⟨i, w, hi, rfl, rfl, l1, l2, l3, e1, e2⟩
  · rw [e1, e2]
    simp only [Option.bind_some, F_X9_fails]
    rw [if_pos trivial, if_pos trivial]
    simp only [Option.bind_some]
    rw [if_pos (by decide), if_pos (by rfl), if_neg (by decide)]
    exact ⟨_, rfl, Inv_SE h ⟨rfl, rfl, rfl, rfl, fun _ _ => rfl, rfl, rfl, rfl, rfl, rfl, rfl⟩⟩
  · have hp : MR (fil (md_aside (S_md st)) (md_s (S_md st)) 1270) A := MR_fil h4 h3
    obtain ⟨pa', sv', k', r1, r2, r3⟩ := remember_A h5 h6 h2 hp h4
    obtain ⟨d', c1, c2⟩ := changeSetting_D hi h2 e1
    have hg : ∀ (x : Option (Int32 × Int32 × (Nat → Int32) × (Nat → Int32) × (Nat → Int32) × Int32)), gd (J i) 1270 x = x := fun x => gd_J (by omega) (by omega)
    rw [e1, e2]
    simp only [Option.bind_some]
    rw [if_neg (by decide), if_neg (by decide), r1, putAside_M]
    simp only [Option.bind_some]
    rw [c1, hg, hg, r2]
    simp only [Option.bind_some]
    rw [J_nat (by omega), h3.1.1 i hi, if_pos (by decide), if_pos (by rfl), if_pos (by rfl), if_pos (by rfl)]
    exact ⟨_, rfl, aset A i w, psh H A, Sl, h1, c2, aset_MR hi h4 h3, WF_mono (aset_WF hi l1 l2 h4) (by omega), r3, fun B hB => (psh_mem hB).elim (fun z => WF_mono (h6 B z) (by omega)) (fun z => by rw [z]; exact WF_mono h4 (by omega)), h7, fun i h hi hh => WF_mono (h8 i h hi hh) (by omega)⟩
