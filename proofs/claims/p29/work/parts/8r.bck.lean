/-! THE PURE SIDE: backup -/
theorem mk_len {cap nx0 : Nat} {cs0 : List Ct} {ks : Nat → List Nat} {hs : Nat → Option Nat} {i : Nat} : ∀ m, (mk cap cs0 nx0 ks hs i).1.length ≤ (mk cap cs0 nx0 ks hs (i + m)).1.length := by
  intro m
  induction m with
  | zero => exact Nat.le_refl _
  | succ m ih =>
    refine Nat.le_trans ih ?_
    show _ ≤ (mks cap cs0 (ks (i + m)) (hs (i + m)) (bfr ks (i + m)) (i + m) (mk cap cs0 nx0 ks hs (i + m))).1.length
    generalize mk cap cs0 nx0 ks hs (i + m) = S
    cases hs (i + m) with
    | some p => exact Nat.le_refl _
    | none =>
      by_cases w : bfr ks (i + m) < i + m
      · have e : mks cap cs0 (ks (i + m)) none (bfr ks (i + m)) (i + m) S = _ := if_pos w
        rw [e]
        exact Nat.le_refl _
      · have e : mks cap cs0 (ks (i + m)) none (bfr ks (i + m)) (i + m) S = _ := if_neg w
        rw [e]
        exact put_len.1
theorem st_le8 {cs : List Ct} {nx : Nat} (hW : Wc cs nx) : st cs cs.length ≤ cs.length * 8 := sm_le fun k hk => by
  obtain ⟨k1, k2, k3, k4, k5, k6⟩ := hW.2.1 k hk
  omega
theorem bad_nil {bs : Nat → List (Nat × Nat)} {b : Nat} (h : bs b = []) : bad bs b [] = bs := by
  funext j
  unfold bad
  by_cases q : j = b
  · rw [if_pos q, q, h]
  · rw [if_neg q]
/-- the lowest number that no backup has -/
def fb (bs : Nat → List (Nat × Nat)) : Nat := fi (fun j => decide ((bs j).length = 0)) 8
theorem freeBackup_D {d : DKT} {cs : List Ct} {bs : Nat → List (Nat × Nat)} (hd : RDb d cs bs) (hb : Wb cs bs) : F_X1_freeBackup d = some (RJ (fb bs) 8) := by
  obtain ⟨f1, f2, f3⟩ := fi_spec (fun j => decide ((bs j).length = 0)) 8
  unfold F_X1_freeBackup
  refine lp_run (fun j => J j) (fb bs) (fun self j hj => ?_) (fun self => ?_) (by unfold FU fb; omega)
  · have hj2 : j < fi (fun j => decide ((bs j).length = 0)) 8 := hj
    have h2 := of_decide_eq_false (f2 j hj2)
    have hv := (hb j (by omega)).1
    unfold B_X1_freeBackup_2
    simp (disch := omega) only [(hd j (by omega)).1, J_add, J_mul, J_sub, J_dec, J_nat, J_lt, J_le, J_eq, gd_J, gz_J, gb_J, J_div, J_mod, md_back, JN, J_neN, J_Nne, J_ltN, J_Nlt, J_leN, J_Nle, N_refl, J01, J_addN, J_pred, F_X9_at, F_X9_backupAt, F_X9_fails, F_X9_thrown, Option.bind_some, if_true, if_false, Nat.add_zero, Nat.zero_add, Nat.mul_zero, Nat.zero_mul, Nat.reduceAdd, Nat.reduceMul, Nat.reduceSub, Nat.reduceEqDiff, Nat.reduceLeDiff, Nat.reduceLT, Nat.reducePow, Nat.not_lt_zero, Nat.zero_le, eq_self, not_true_eq_false, not_false_eq_true, reduceIte, L_0, L_1, L_2, L_3, L_4, L_5, L_6, L_7, L_8, L_9, L_10, L_11, L_12, L_14, L_15, L_16, L_24, L_30, L_31, L_32, L_34, L_40, L_44, L_90, L_96, L_97, L_100, L_120, L_121, L_192, L_997, L_998, L_1000, L_1270, L_10000, L_17780, L_2540, L_32768, L_16510]
    rw [if_neg (by omega), if_neg h2]
  · unfold fb
    generalize fi (fun j => decide ((bs j).length = 0)) 8 = N at *
    unfold B_X1_freeBackup_2 RJ
    by_cases q : N < 8
    · have h2 := of_decide_eq_true (f3 q)
      simp (disch := omega) only [(hd N q).1, h2, J_add, J_mul, J_sub, J_dec, J_nat, J_lt, J_le, J_eq, gd_J, gz_J, gb_J, J_div, J_mod, md_back, JN, J_neN, J_Nne, J_ltN, J_Nlt, J_leN, J_Nle, N_refl, J01, J_addN, J_pred, F_X9_at, F_X9_backupAt, F_X9_fails, F_X9_thrown, Option.bind_some, if_true, if_false, Nat.add_zero, Nat.zero_add, Nat.mul_zero, Nat.zero_mul, Nat.reduceAdd, Nat.reduceMul, Nat.reduceSub, Nat.reduceEqDiff, Nat.reduceLeDiff, Nat.reduceLT, Nat.reducePow, Nat.not_lt_zero, Nat.zero_le, eq_self, not_true_eq_false, not_false_eq_true, reduceIte, L_0, L_1, L_2, L_3, L_4, L_5, L_6, L_7, L_8, L_9, L_10, L_11, L_12, L_14, L_15, L_16, L_24, L_30, L_31, L_32, L_34, L_40, L_44, L_90, L_96, L_97, L_100, L_120, L_121, L_192, L_997, L_998, L_1000, L_1270, L_10000, L_17780, L_2540, L_32768, L_16510]
      rw [if_neg (by omega), if_pos q]
    · rw [if_neg q, if_pos (show (8 : Int32) ≤ J N from (J_le (a := 8) (by omega) (by omega)).mpr (by omega))]
      rfl
theorem freeBackup_M {s : Nat → Int32} {cs : List Ct} {bs : Nat → List (Nat × Nat)} (hm : RMb s bs) (hb : Wb cs bs) : F_X9_freeBackup s = some (RJ (fb bs) 8) := by
  obtain ⟨f1, f2, f3⟩ := fi_spec (fun j => decide ((bs j).length = 0)) 8
  unfold F_X9_freeBackup
  refine lp_run (fun j => J j) (fb bs) (fun self j hj => ?_) (fun self => ?_) (by unfold FU fb; omega)
  · have hj2 : j < fi (fun j => decide ((bs j).length = 0)) 8 := hj
    have h2 := of_decide_eq_false (f2 j hj2)
    have hv := (hb j (by omega)).1
    unfold B_X9_freeBackup_2
    simp (disch := omega) only [(hm j (by omega)).1, J_add, J_mul, J_sub, J_dec, J_nat, J_lt, J_le, J_eq, gd_J, gz_J, gb_J, J_div, J_mod, md_back, JN, J_neN, J_Nne, J_ltN, J_Nlt, J_leN, J_Nle, N_refl, J01, J_addN, J_pred, F_X9_at, F_X9_backupAt, F_X9_fails, F_X9_thrown, Option.bind_some, if_true, if_false, Nat.add_zero, Nat.zero_add, Nat.mul_zero, Nat.zero_mul, Nat.reduceAdd, Nat.reduceMul, Nat.reduceSub, Nat.reduceEqDiff, Nat.reduceLeDiff, Nat.reduceLT, Nat.reducePow, Nat.not_lt_zero, Nat.zero_le, eq_self, not_true_eq_false, not_false_eq_true, reduceIte, L_0, L_1, L_2, L_3, L_4, L_5, L_6, L_7, L_8, L_9, L_10, L_11, L_12, L_14, L_15, L_16, L_24, L_30, L_31, L_32, L_34, L_40, L_44, L_90, L_96, L_97, L_100, L_120, L_121, L_192, L_997, L_998, L_1000, L_1270, L_10000, L_17780, L_2540, L_32768, L_16510]
    rw [if_neg (by omega), if_neg (by omega)]
  · unfold fb
    generalize fi (fun j => decide ((bs j).length = 0)) 8 = N at *
    unfold B_X9_freeBackup_2 RJ
    by_cases q : N < 8
    · have h2 := of_decide_eq_true (f3 q)
      have h3 : min 1 (bs N).length = 0 := by omega
      simp (disch := omega) only [(hm N q).1, h3, J_add, J_mul, J_sub, J_dec, J_nat, J_lt, J_le, J_eq, gd_J, gz_J, gb_J, J_div, J_mod, md_back, JN, J_neN, J_Nne, J_ltN, J_Nlt, J_leN, J_Nle, N_refl, J01, J_addN, J_pred, F_X9_at, F_X9_backupAt, F_X9_fails, F_X9_thrown, Option.bind_some, if_true, if_false, Nat.add_zero, Nat.zero_add, Nat.mul_zero, Nat.zero_mul, Nat.reduceAdd, Nat.reduceMul, Nat.reduceSub, Nat.reduceEqDiff, Nat.reduceLeDiff, Nat.reduceLT, Nat.reducePow, Nat.not_lt_zero, Nat.zero_le, eq_self, not_true_eq_false, not_false_eq_true, reduceIte, L_0, L_1, L_2, L_3, L_4, L_5, L_6, L_7, L_8, L_9, L_10, L_11, L_12, L_14, L_15, L_16, L_24, L_30, L_31, L_32, L_34, L_40, L_44, L_90, L_96, L_97, L_100, L_120, L_121, L_192, L_997, L_998, L_1000, L_1270, L_10000, L_17780, L_2540, L_32768, L_16510]
      rw [if_neg (by omega), if_pos q]
    · rw [if_neg q, if_pos (show (8 : Int32) ≤ J N from (J_le (a := 8) (by omega) (by omega)).mpr (by omega))]
      rfl
theorem fb_free {bs : Nat → List (Nat × Nat)} (h : fb bs < 8) : bs (fb bs) = [] := by
  have := (fi_spec (fun j => decide ((bs j).length = 0)) 8).2.2 h
  exact List.length_eq_zero_iff.mp (of_decide_eq_true this)
/-- the state with one backup more -/
def abak (A : AT) (b : Nat) (M : MK) : AT := (a_se A, M.2.1, a_ca A, M.1, bad (a_bs A) b M.2.2.1)
theorem abak_WF {A : AT} {N n b : Nat} {M : MK} (hW : WF A N) (h15 : n ≤ 15) (hM : MI (a_cs A) (a_nx A) n M) (hl : M.1.length ≤ 24) : WF (abak A b M) (N + 1) := by
  obtain ⟨w1, w2, w3, w4, w5, w6⟩ := hW
  obtain ⟨a1, a2, a3, a4, a5, a6, a7, a8, a9⟩ := hM
  have hWb : Wb M.1 (bad (a_bs A) b M.2.2.1) := by
    intro j hj
    unfold bad
    by_cases q : j = b
    · rw [if_pos q]
      exact ⟨by omega, fun i hi => a3 i (by omega)⟩
    · rw [if_neg q]
      obtain ⟨v1, v2⟩ := w2 j hj
      refine ⟨v1, fun i hi => ?_⟩
      obtain ⟨k, k1, k2, k3⟩ := v2 i hi
      obtain ⟨o1, o2, o3, o4⟩ := a5 k k1
      exact ⟨k, by omega, by rw [o1]; exact k2, by omega⟩
  refine ⟨a1, hWb, w3, ⟨M.2.1, Nat.le_trans (cp_le _ _) hl, fun k hk hg => ?_, ?_⟩, ?_, ?_⟩
  · have hk' : k + 1 < M.1.length := hk
    have hg' : M.2.1 ≤ nu M.1 k := hg
    have := (a1.2.1 k (by omega)).2.2.2.2.1
    omega
  · have e : sm (wg M.2.1 M.1 (bad (a_bs A) b M.2.2.1)) M.1.length = sm (lv M.1 (bad (a_bs A) b M.2.2.1) 8) M.1.length := sm_ext fun k hk => by
      unfold wg
      rw [if_pos (a1.2.1 k hk).2.2.2.2.1]
    show sm (wg M.2.1 M.1 (bad (a_bs A) b M.2.2.1)) M.1.length ≤ 120
    rw [e]
    exact lv_120 a1 hWb
  · have := st_le8 a1
    show st M.1 M.1.length ≤ 192
    omega
  · show M.2.1 ≤ 120 * (N + 1)
    omega
theorem addBackup_D {d : DKT} {A : AT} {N n : Nat} {ks : Nat → List Nat} {hs : Nat → Option Nat} {sd : SMT} {p2 : PLT} (hd : DR d A) (hW : WF A N) (hN : N ≤ 600) (hb : fb (a_bs A) < 8) (hS : SMc sd ks n) (hch : pl_chunks p2 = J n) (hM : ∀ i, i ≤ n → MI (a_cs A) (a_nx A) i (mk (a_se A 1) (a_cs A) (a_nx A) ks hs i)) (hl24 : (mk (a_se A 1) (a_cs A) (a_nx A) ks hs n).1.length ≤ 24) (hkm : ∀ j p, hs j = some p → p < (a_cs A).length ∧ fe (a_cs A) p (ks j) < si (a_cs A) p) (hp : ∀ i, i < n → pl_entries p2 i = J (ex (mk (a_se A 1) (a_cs A) (a_nx A) ks hs n).1 (rf (mk (a_se A 1) (a_cs A) (a_nx A) ks hs n).2.2.1 i))) : ∃ d', F_X1_addBackup d p2 sd = some (J (fb (a_bs A)), d') ∧ DR d' (abak A (fb (a_bs A)) (mk (a_se A 1) (a_cs A) (a_nx A) ks hs n)) := by
  have h15 := hS.1
  have hfree := fb_free hb
  have go : ∀ (x i fuel : Nat) (d : DKT), i + x = n → ADI d A (fb (a_bs A)) (mk (a_se A 1) (a_cs A) (a_nx A) ks hs i) → x < fuel → ∃ d', lp (B_X1_addBackup_15 p2 sd (J (fb (a_bs A))) (K_X1_addBackup_104 (J (fb (a_bs A))) p2)) fuel (J i, d) = K_X1_addBackup_104 (J (fb (a_bs A))) p2 d' ∧ ADI d' A (fb (a_bs A)) (mk (a_se A 1) (a_cs A) (a_nx A) ks hs n) := by
    intro x
    induction x with
    | zero =>
      intro i fuel d hi hD hf
      obtain ⟨fuel, rfl⟩ : ∃ q, fuel = q + 1 := ⟨fuel - 1, by omega⟩
      obtain rfl : i = n := by omega
      refine ⟨d, ?_, hD⟩
      show B_X1_addBackup_15 _ _ _ _ _ _ = _
      unfold B_X1_addBackup_15
      rw [if_pos (show pl_chunks p2 ≤ J i by rw [hch]; exact (J_le (by omega) (by omega)).mpr (Nat.le_refl _))]
    | succ x ih =>
      intro i fuel d hi hD hf
      obtain ⟨fuel, rfl⟩ : ∃ q, fuel = q + 1 := ⟨fuel - 1, by omega⟩
      have hml := mk_len (cap := a_se A 1) (cs0 := a_cs A) (nx0 := a_nx A) (ks := ks) (hs := hs) (i := i + 1) x
      rw [show i + 1 + x = n by omega] at hml
      have hst8 := st_le8 (hM (i + 1) (by omega)).1
      obtain ⟨m1, m2⟩ := mk_st hM (i := i + 1) x (by omega) i (by omega)
      rw [show i + 1 + x = n by omega] at m1 m2
      have hpi := hp i (by omega)
      rw [m1, m2] at hpi
      obtain ⟨d2, y1, y2⟩ := add_step (K := K_X1_addBackup_104 (J (fb (a_bs A))) p2) (self := lp (B_X1_addBackup_15 p2 sd (J (fb (a_bs A))) (K_X1_addBackup_104 (J (fb (a_bs A))) p2)) fuel) hW hN hb hS (show i < n by omega) hch hM (by omega) (by omega) hkm hpi hD
      obtain ⟨d', z1, z2⟩ := ih (i + 1) fuel d2 (by omega) y2 (by omega)
      exact ⟨d', Eq.trans y1 z1, z2⟩
  obtain ⟨d1, d2, d3, d4⟩ := hd
  obtain ⟨d', y1, ⟨b1, b2, b3, b4, b5⟩⟩ := go n 0 FU d (by omega) ⟨d1, fun j hj => (d2 j hj).1, fun j hj x hx => by
    have hx' : x < (bad (a_bs A) (fb (a_bs A)) [] j).length := hx
    show dk_references d (j * 15 + x) = J (ex (a_cs A) (rf (bad (a_bs A) (fb (a_bs A)) [] j) x))
    rw [bad_nil hfree] at hx' ⊢
    exact (d2 j hj).2 x hx', fun e he => by
    show dk_uses d e = J (cnt (bad (a_bs A) (fb (a_bs A)) []) 8 (pr (a_cs A) e))
    rw [bad_nil hfree]
    exact uses_flat d3 he, d4⟩ (by unfold FU; omega)
  refine ⟨((dk_settings d'), (dk_numbers d'), (dk_capacities d'), (dk_firsts d'), (dk_containers d'), (dk_codes d'), (dk_places d'), (dk_uses d'), (dk_entries d'), (dk_references d'), (upd (dk_lengths d') (fb (a_bs A)) (J n)), (dk_nextNumber d'), (dk_carried d')), ?_, b1, fun j hj => ⟨?_, b3 j hj⟩, flat_uses b4, b5⟩
  · unfold F_X1_addBackup
    rw [freeBackup_D d2 hW.2.1]
    have hrj : RJ (fb (a_bs A)) 8 = J (fb (a_bs A)) := by unfold RJ; rw [if_pos hb]
    rw [hrj]
    simp only [Option.bind_some]
    rw [if_neg (show ¬ J (fb (a_bs A)) = -1 by rw [show (-1 : Int32) = NN from rfl, J_neN (by omega)]; exact id)]
    have y1' : lp (B_X1_addBackup_15 p2 sd (J (fb (a_bs A))) (K_X1_addBackup_104 (J (fb (a_bs A))) p2)) FU (0, d) = _ := y1
    rw [y1']
    unfold K_X1_addBackup_104
    rw [gd_J hb (by omega), J_nat (by omega), hch]
  · show upd (dk_lengths d') (fb (a_bs A)) (J n) j = J (bad (a_bs A) (fb (a_bs A)) (mk (a_se A 1) (a_cs A) (a_nx A) ks hs n).2.2.1 j).length
    unfold bad
    by_cases q : j = fb (a_bs A)
    · rw [if_pos q, q, upd_self, (hM n (Nat.le_refl _)).2.1]
    · rw [if_neg q, upd_ne _ _ q]
      exact b2 j hj
/-- pairs written into a row -/
def wrp (base mi ma : Nat → Int32) (o k : Nat) : Nat → Int32 := fun x => if o ≤ x ∧ x < o + 2 * k then (if (x - o) % 2 = 0 then mi ((x - o) / 2) else ma ((x - o) / 2)) else base x
theorem wrp_0 (base mi ma : Nat → Int32) (o : Nat) : wrp base mi ma o 0 = base := by
  funext x
  unfold wrp
  rw [if_neg (by omega)]
theorem wrp_step (base mi ma : Nat → Int32) (o k : Nat) : upd (upd (wrp base mi ma o k) (o + 2 * k) (mi k)) (o + 2 * k + 1) (ma k) = wrp base mi ma o (k + 1) := by
  funext x
  by_cases q : x = o + 2 * k + 1
  · rw [q, upd_self]
    unfold wrp
    rw [if_pos (by omega), if_neg (by omega), show (o + 2 * k + 1 - o) / 2 = k by omega]
  · rw [upd_ne _ _ q]
    by_cases z : x = o + 2 * k
    · rw [z, upd_self]
      unfold wrp
      rw [if_pos (by omega), if_pos (by omega), show (o + 2 * k - o) / 2 = k by omega]
    · rw [upd_ne _ _ z]
      unfold wrp
      by_cases w : o ≤ x ∧ x < o + 2 * k
      · rw [if_pos w, if_pos (show o ≤ x ∧ x < o + 2 * (k + 1) by omega)]
      · rw [if_neg w, if_neg (show ¬ (o ≤ x ∧ x < o + 2 * (k + 1)) by omega)]
/-- what the Model's backs leaves -/
def MB (m m' : MDT) : Prop := md_thrown m' = md_thrown m ∧ md_base m' = md_base m ∧ md_saved m' = md_saved m ∧ md_savedMany m' = md_savedMany m ∧ md_slots m' = md_slots m ∧ md_hasSlot m' = md_hasSlot m ∧ md_text m' = md_text m ∧ md_length m' = md_length m
theorem backs_M {m : MDT} {A : AT} {N n : Nat} {ks : Nat → List Nat} (hMR : MR (md_s m) A) (hW : WF A N) (hN : N ≤ 600) (h15 : n ≤ 15) (h1 : 1 ≤ n) (hcm : md_chunkMany m = J n) (hk : ∀ j, j < n → md_chunks m j = J (c9 (ks j)) ∧ vch (ks j)) : (fb (a_bs A) < 8 ∧ (mk (a_se A 1) (a_cs A) (a_nx A) ks (kh (fun j => hm (a_cs A) (ks j)) n (a_se A 2)) n).1.length ≤ 24 → ∃ m', F_X9_backs m = some (J (fb (a_bs A)), m') ∧ MB m m' ∧ md_aside m' = fil (md_aside m) (md_s m) 1270 ∧ MR (md_s m') (abak A (fb (a_bs A)) (mk (a_se A 1) (a_cs A) (a_nx A) ks (kh (fun j => hm (a_cs A) (ks j)) n (a_se A 2)) n))) ∧ (¬ (fb (a_bs A) < 8 ∧ (mk (a_se A 1) (a_cs A) (a_nx A) ks (kh (fun j => hm (a_cs A) (ks j)) n (a_se A 2)) n).1.length ≤ 24) → ∃ m', F_X9_backs m = some (NN, m') ∧ MB m m' ∧ ∀ k, k < 1270 → md_s m' k = md_s m k) := by
  have hl := WF_len hW
  have hfr := freeBackup_M hMR.2.1 hW.2.1
  have e4 : (-1 : Int32) = NN := rfl
  obtain ⟨s', hf, hg, mi, ma, y1, y2, y3, y4⟩ := makes_M (hm0 := md_homes m) (dr0 := md_dropped m) (mi0 := md_madeIn m) (ma0 := md_madeAt m) (pm0 := md_putMany m) (ck := md_chunks m) (ks := ks) (lim := a_se A 2) hMR.1 hW.1 hW.2.2.1 hl (by have := hW.2.2.2.2.2; omega) h15 hk hW.2.2.1.2.2.2.2.2.1
  have hMI := mk_MI (lim := a_se A 2) hW hN h15 (fun j hj => (hk j hj).2)
  have hMl := MI_len hMI
  have hpm := hMI.2.2.2.2.2.2.2.1
  generalize mk (a_se A 1) (a_cs A) (a_nx A) ks (kh (fun j => hm (a_cs A) (ks j)) n (a_se A 2)) n = M at *
  have hgd2 : ∀ (x : Option (Int32 × MDT)), gd 2 1270 x = x := fun x => gd_J (a := 2) (by omega) (by omega)
  have hgd7 : ∀ (x : Option (Int32 × MDT)), gd 7 1270 x = x := fun x => gd_J (a := 7) (by omega) (by omega)
  have hs2 : md_s m (Int32.toNatClampNeg 2) = J (a_se A 2) := hMR.1.1 2 (by omega)
  have hs7 : s' (Int32.toNatClampNeg 7) = J M.1.length := y2.2.2.1
  have hhead : fb (a_bs A) < 8 → F_X9_backs m = (if (s' (Int32.toNatClampNeg 7)) ≤ 24 then (F_X9_backupAt (J (fb (a_bs A)))).bind fun v46 => gd (v46 + 0) 1270 (gd (v46 + 1) 1270 (lp (B_X9_backs_73 m (J (fb (a_bs A))) (fil (md_aside m) (md_s m) 1270) (s', hf, hg, mi, ma, J M.2.2.2) v46) FU (0, (upd (upd s' (Int32.toNatClampNeg (v46 + 0)) 1) (Int32.toNatClampNeg (v46 + 1)) (md_chunkMany m))))) else (F_X9_takeBack s' (fil (md_aside m) (md_s m) 1270)).bind fun v39 => some ((-1), ((md_thrown m), v39, (fil (md_aside m) (md_s m) 1270), (md_base m), (md_saved m), (md_savedMany m), (md_slots m), (md_hasSlot m), (md_text m), (md_length m), (md_begins m), (md_lengths m), (md_streams m), (md_letters m), (md_letterMany m), (md_chunks m), (md_chunkMany m), hf, hg, mi, ma, J M.2.2.2, (md_path m), (md_store m), (md_thinOnes m)))) := by
    intro hb
    have hrj : RJ (fb (a_bs A)) 8 = J (fb (a_bs A)) := by unfold RJ; rw [if_pos hb]
    unfold F_X9_backs
    rw [hfr, hrj]
    simp only [Option.bind_some]
    rw [if_neg (show ¬ J (fb (a_bs A)) = -1 by rw [e4, J_neN (by omega)]; exact id), putAside_M]
    simp only [Option.bind_some]
    rw [hgd2, hs2, hcm, y1]
    simp only [Option.bind_some]
    rw [hgd7]
  constructor
  · rintro ⟨hb, hl24⟩
    rw [hhead hb, hs7, if_pos (show J M.1.length ≤ 24 from (J_le (b := 24) (by omega) (by omega)).mpr hl24)]
    have hat : F_X9_backupAt (J (fb (a_bs A))) = some (J (998 + 34 * fb (a_bs A))) := by simp (disch := omega) only [J_add, J_mul, J_sub, J_dec, J_nat, J_lt, J_le, J_eq, gd_J, gz_J, gb_J, J_div, J_mod, md_back, JN, J_neN, J_Nne, J_ltN, J_Nlt, J_leN, J_Nle, N_refl, J01, J_addN, J_pred, F_X9_at, F_X9_backupAt, F_X9_fails, F_X9_thrown, Option.bind_some, if_true, if_false, Nat.add_zero, Nat.zero_add, Nat.mul_zero, Nat.zero_mul, Nat.reduceAdd, Nat.reduceMul, Nat.reduceSub, Nat.reduceEqDiff, Nat.reduceLeDiff, Nat.reduceLT, Nat.reducePow, Nat.not_lt_zero, Nat.zero_le, eq_self, not_true_eq_false, not_false_eq_true, reduceIte, L_0, L_1, L_2, L_3, L_4, L_5, L_6, L_7, L_8, L_9, L_10, L_11, L_12, L_14, L_15, L_16, L_24, L_30, L_31, L_32, L_34, L_40, L_44, L_90, L_96, L_97, L_100, L_120, L_121, L_192, L_997, L_998, L_1000, L_1270, L_10000, L_17780, L_2540, L_32768, L_16510]
    rw [hat]
    simp only [Option.bind_some]
    generalize fb (a_bs A) = b at *
    have hg0 : ∀ (x : Option (Int32 × MDT)), gd (J (998 + 34 * b) + 0) 1270 x = x := fun x => by simp (disch := omega) only [J_add, J_mul, J_sub, J_dec, J_nat, J_lt, J_le, J_eq, gd_J, gz_J, gb_J, J_div, J_mod, md_back, JN, J_neN, J_Nne, J_ltN, J_Nlt, J_leN, J_Nle, N_refl, J01, J_addN, J_pred, F_X9_at, F_X9_backupAt, F_X9_fails, F_X9_thrown, Option.bind_some, if_true, if_false, Nat.add_zero, Nat.zero_add, Nat.mul_zero, Nat.zero_mul, Nat.reduceAdd, Nat.reduceMul, Nat.reduceSub, Nat.reduceEqDiff, Nat.reduceLeDiff, Nat.reduceLT, Nat.reducePow, Nat.not_lt_zero, Nat.zero_le, eq_self, not_true_eq_false, not_false_eq_true, reduceIte, L_0, L_1, L_2, L_3, L_4, L_5, L_6, L_7, L_8, L_9, L_10, L_11, L_12, L_14, L_15, L_16, L_24, L_30, L_31, L_32, L_34, L_40, L_44, L_90, L_96, L_97, L_100, L_120, L_121, L_192, L_997, L_998, L_1000, L_1270, L_10000, L_17780, L_2540, L_32768, L_16510]
    have hg1 : ∀ (x : Option (Int32 × MDT)), gd (J (998 + 34 * b) + 1) 1270 x = x := fun x => by simp (disch := omega) only [J_add, J_mul, J_sub, J_dec, J_nat, J_lt, J_le, J_eq, gd_J, gz_J, gb_J, J_div, J_mod, md_back, JN, J_neN, J_Nne, J_ltN, J_Nlt, J_leN, J_Nle, N_refl, J01, J_addN, J_pred, F_X9_at, F_X9_backupAt, F_X9_fails, F_X9_thrown, Option.bind_some, if_true, if_false, Nat.add_zero, Nat.zero_add, Nat.mul_zero, Nat.zero_mul, Nat.reduceAdd, Nat.reduceMul, Nat.reduceSub, Nat.reduceEqDiff, Nat.reduceLeDiff, Nat.reduceLT, Nat.reducePow, Nat.not_lt_zero, Nat.zero_le, eq_self, not_true_eq_false, not_false_eq_true, reduceIte, L_0, L_1, L_2, L_3, L_4, L_5, L_6, L_7, L_8, L_9, L_10, L_11, L_12, L_14, L_15, L_16, L_24, L_30, L_31, L_32, L_34, L_40, L_44, L_90, L_96, L_97, L_100, L_120, L_121, L_192, L_997, L_998, L_1000, L_1270, L_10000, L_17780, L_2540, L_32768, L_16510]
    have hi0 : Int32.toNatClampNeg (J (998 + 34 * b) + 0) = 998 + 34 * b := by simp (disch := omega) only [J_add, J_mul, J_sub, J_dec, J_nat, J_lt, J_le, J_eq, gd_J, gz_J, gb_J, J_div, J_mod, md_back, JN, J_neN, J_Nne, J_ltN, J_Nlt, J_leN, J_Nle, N_refl, J01, J_addN, J_pred, F_X9_at, F_X9_backupAt, F_X9_fails, F_X9_thrown, Option.bind_some, if_true, if_false, Nat.add_zero, Nat.zero_add, Nat.mul_zero, Nat.zero_mul, Nat.reduceAdd, Nat.reduceMul, Nat.reduceSub, Nat.reduceEqDiff, Nat.reduceLeDiff, Nat.reduceLT, Nat.reducePow, Nat.not_lt_zero, Nat.zero_le, eq_self, not_true_eq_false, not_false_eq_true, reduceIte, L_0, L_1, L_2, L_3, L_4, L_5, L_6, L_7, L_8, L_9, L_10, L_11, L_12, L_14, L_15, L_16, L_24, L_30, L_31, L_32, L_34, L_40, L_44, L_90, L_96, L_97, L_100, L_120, L_121, L_192, L_997, L_998, L_1000, L_1270, L_10000, L_17780, L_2540, L_32768, L_16510]
    have hi1 : Int32.toNatClampNeg (J (998 + 34 * b) + 1) = 998 + 34 * b + 1 := by simp (disch := omega) only [J_add, J_mul, J_sub, J_dec, J_nat, J_lt, J_le, J_eq, gd_J, gz_J, gb_J, J_div, J_mod, md_back, JN, J_neN, J_Nne, J_ltN, J_Nlt, J_leN, J_Nle, N_refl, J01, J_addN, J_pred, F_X9_at, F_X9_backupAt, F_X9_fails, F_X9_thrown, Option.bind_some, if_true, if_false, Nat.add_zero, Nat.zero_add, Nat.mul_zero, Nat.zero_mul, Nat.reduceAdd, Nat.reduceMul, Nat.reduceSub, Nat.reduceEqDiff, Nat.reduceLeDiff, Nat.reduceLT, Nat.reducePow, Nat.not_lt_zero, Nat.zero_le, eq_self, not_true_eq_false, not_false_eq_true, reduceIte, L_0, L_1, L_2, L_3, L_4, L_5, L_6, L_7, L_8, L_9, L_10, L_11, L_12, L_14, L_15, L_16, L_24, L_30, L_31, L_32, L_34, L_40, L_44, L_90, L_96, L_97, L_100, L_120, L_121, L_192, L_997, L_998, L_1000, L_1270, L_10000, L_17780, L_2540, L_32768, L_16510]
    rw [hg0, hg1, hi0, hi1, hcm]
    have hout : ∀ x, x < 998 + 34 * b ∨ 998 + 34 * b + 34 ≤ x → wrp (upd (upd s' (998 + 34 * b) 1) (998 + 34 * b + 1) (J n)) mi ma (998 + 34 * b + 2) n x = s' x := by
      intro x hx
      unfold wrp
      rw [if_neg (by omega), upd_ne _ _ (by omega), upd_ne _ _ (by omega)]
    have hloop : lp (B_X9_backs_73 m (J b) (fil (md_aside m) (md_s m) 1270) (s', hf, hg, mi, ma, J M.2.2.2) (J (998 + 34 * b))) FU (0, upd (upd s' (998 + 34 * b) 1) (998 + 34 * b + 1) (J n)) = some (J b, ((md_thrown m), wrp (upd (upd s' (998 + 34 * b) 1) (998 + 34 * b + 1) (J n)) mi ma (998 + 34 * b + 2) n, (fil (md_aside m) (md_s m) 1270), (md_base m), (md_saved m), (md_savedMany m), (md_slots m), (md_hasSlot m), (md_text m), (md_length m), (md_begins m), (md_lengths m), (md_streams m), (md_letters m), (md_letterMany m), (md_chunks m), (md_chunkMany m), hf, hg, mi, ma, J M.2.2.2, (md_path m), (md_store m), (md_thinOnes m))) := by
      have e0 : ((0 : Int32), upd (upd s' (998 + 34 * b) 1) (998 + 34 * b + 1) (J n)) = (fun k => (J k, wrp (upd (upd s' (998 + 34 * b) 1) (998 + 34 * b + 1) (J n)) mi ma (998 + 34 * b + 2) k)) 0 := by
        show _ = (J 0, wrp _ _ _ _ 0)
        rw [wrp_0]
        rfl
      rw [e0]
      refine lp_run (fun k => (J k, wrp (upd (upd s' (998 + 34 * b) 1) (998 + 34 * b + 1) (J n)) mi ma (998 + 34 * b + 2) k)) n (fun self k hkn => ?_) (fun self => ?_) (by unfold FU; omega)
      · have hst := wrp_step (upd (upd s' (998 + 34 * b) 1) (998 + 34 * b + 1) (J n)) mi ma (998 + 34 * b + 2) k
        generalize wrp (upd (upd s' (998 + 34 * b) 1) (998 + 34 * b + 1) (J n)) mi ma (998 + 34 * b + 2) k = F0 at *
        unfold B_X9_backs_73
        simp (disch := omega) only [hcm, hst, J_add, J_mul, J_sub, J_dec, J_nat, J_lt, J_le, J_eq, gd_J, gz_J, gb_J, J_div, J_mod, md_back, JN, J_neN, J_Nne, J_ltN, J_Nlt, J_leN, J_Nle, N_refl, J01, J_addN, J_pred, F_X9_at, F_X9_backupAt, F_X9_fails, F_X9_thrown, Option.bind_some, if_true, if_false, Nat.add_zero, Nat.zero_add, Nat.mul_zero, Nat.zero_mul, Nat.reduceAdd, Nat.reduceMul, Nat.reduceSub, Nat.reduceEqDiff, Nat.reduceLeDiff, Nat.reduceLT, Nat.reducePow, Nat.not_lt_zero, Nat.zero_le, eq_self, not_true_eq_false, not_false_eq_true, reduceIte, L_0, L_1, L_2, L_3, L_4, L_5, L_6, L_7, L_8, L_9, L_10, L_11, L_12, L_14, L_15, L_16, L_24, L_30, L_31, L_32, L_34, L_40, L_44, L_90, L_96, L_97, L_100, L_120, L_121, L_192, L_997, L_998, L_1000, L_1270, L_10000, L_17780, L_2540, L_32768, L_16510]
        rw [if_neg (by omega)]
      · unfold B_X9_backs_73
        rw [hcm]
        rw [if_pos (show J n ≤ J n from (J_le (by omega) (by omega)).mpr (Nat.le_refl _))]
    rw [hloop]
    refine ⟨_, rfl, ⟨rfl, rfl, rfl, rfl, rfl, rfl, rfl, rfl⟩, rfl, ⟨⟨fun i hi => ?_, ?_, ?_, fun k hk2 => ?_⟩, fun j hj => ?_, ?_⟩⟩
    · show wrp _ _ _ _ _ i = _
      rw [hout i (by omega)]; exact y2.1 i hi
    · show wrp _ _ _ _ _ 5 = _
      rw [hout 5 (by omega)]; exact y2.2.1
    · show wrp _ _ _ _ _ 7 = _
      rw [hout 7 (by omega)]; exact y2.2.2.1
    · have hk3 : k < M.1.length := hk2
      obtain ⟨g1, g2, g3, g4⟩ := y2.2.2.2 k hk3
      obtain ⟨u1, u2, u3, u4, u5, u6⟩ := hMI.1.2.1 k hk3
      refine ⟨?_, ?_, ?_, fun i hi => ?_⟩
      · show wrp _ _ _ _ _ (8 + 11 * k) = _
        rw [hout _ (by omega)]; exact g1
      · show wrp _ _ _ _ _ (8 + 11 * k + 1) = _
        rw [hout _ (by omega)]; exact g2
      · show wrp _ _ _ _ _ (8 + 11 * k + 2) = _
        rw [hout _ (by omega)]; exact g3
      · have hi2 : i < si M.1 k := hi
        show wrp _ _ _ _ _ (8 + 11 * k + 3 + i) = _
        rw [hout _ (by omega)]; exact g4 i hi2
    · show wrp _ _ _ _ _ (998 + 34 * j) = J (min 1 (bad (a_bs A) b M.2.2.1 j).length) ∧ wrp _ _ _ _ _ (998 + 34 * j + 1) = J (bad (a_bs A) b M.2.2.1 j).length ∧ ∀ i, i < (bad (a_bs A) b M.2.2.1 j).length → wrp _ _ _ _ _ (998 + 34 * j + 2 + 2 * i) = J (rf (bad (a_bs A) b M.2.2.1 j) i).1 ∧ wrp _ _ _ _ _ (998 + 34 * j + 2 + 2 * i + 1) = J (rf (bad (a_bs A) b M.2.2.1 j) i).2
      have hlM := hMI.2.1
      unfold bad
      by_cases q : j = b
      · rw [if_pos q, q, hlM, show min 1 n = 1 by omega]
        refine ⟨?_, ?_, fun i hi => ?_⟩
        · unfold wrp
          rw [if_neg (by omega), upd_ne _ _ (by omega), upd_self]
          rfl
        · unfold wrp
          rw [if_neg (by omega), upd_self]
        · have hi2 : i < n := hi
          unfold wrp
          rw [if_pos (show 998 + 34 * b + 2 ≤ 998 + 34 * b + 2 + 2 * i ∧ 998 + 34 * b + 2 + 2 * i < 998 + 34 * b + 2 + 2 * n by omega), if_pos (show (998 + 34 * b + 2 + 2 * i - (998 + 34 * b + 2)) % 2 = 0 by omega), show (998 + 34 * b + 2 + 2 * i - (998 + 34 * b + 2)) / 2 = i by omega, if_pos (show 998 + 34 * b + 2 ≤ 998 + 34 * b + 2 + 2 * i + 1 ∧ 998 + 34 * b + 2 + 2 * i + 1 < 998 + 34 * b + 2 + 2 * n by omega), if_neg (show ¬ (998 + 34 * b + 2 + 2 * i + 1 - (998 + 34 * b + 2)) % 2 = 0 by omega), show (998 + 34 * b + 2 + 2 * i + 1 - (998 + 34 * b + 2)) / 2 = i by omega]
          exact y4 i hi2
      · rw [if_neg q]
        obtain ⟨g1, g2, g3⟩ := hMR.2.1 j hj
        obtain ⟨v1, v2⟩ := hW.2.1 j hj
        refine ⟨?_, ?_, fun i hi => ⟨?_, ?_⟩⟩
        · rw [hout _ (by omega), y3 _ (by omega)]; exact g1
        · rw [hout _ (by omega), y3 _ (by omega)]; exact g2
        · rw [hout _ (by omega), y3 _ (by omega)]; exact (g3 i hi).1
        · rw [hout _ (by omega), y3 _ (by omega)]; exact (g3 i hi).2
    · show wrp _ _ _ _ _ 6 = _
      rw [hout 6 (by omega), y3 6 (by omega)]; exact hMR.2.2
  · intro hno
    by_cases hb : fb (a_bs A) < 8
    · rw [hhead hb, hs7, if_neg (show ¬ J M.1.length ≤ 24 from fun z => hno ⟨hb, (J_le (b := 24) (by omega) (by omega)).mp z⟩), takeBack_M]
      exact ⟨_, rfl, ⟨rfl, rfl, rfl, rfl, rfl, rfl, rfl, rfl⟩, fun k hk => fil_back hk⟩
    · have hrj : RJ (fb (a_bs A)) 8 = NN := by unfold RJ; rw [if_neg hb]
      unfold F_X9_backs
      rw [hfr, hrj]
      simp only [Option.bind_some]
      rw [if_pos (show NN = -1 from rfl)]
      exact ⟨m, rfl, ⟨rfl, rfl, rfl, rfl, rfl, rfl, rfl, rfl⟩, fun _ _ => rfl⟩
theorem allows_D {d : DKT} {A : AT} {N L : Nat} {p2 : PLT} (hd : DR d A) (hW : WF A N) (hc : (a_cs A).length ≤ L) (hL : L ≤ 100) (hp : pl_newContainers p2 = J (L - (a_cs A).length)) : F_X1_allows d p2 = some (if fb (a_bs A) < 8 ∧ L ≤ 24 then 1 else 0) := by
  unfold F_X1_allows
  rw [freeBackup_D hd.2.1 hW.2.1]
  simp only [Option.bind_some]
  have hsum : dk_containers d + pl_newContainers p2 = J L := by
    rw [hd.1.2.2.1, hp, J_add]
    congr 1
    omega
  rw [hsum]
  by_cases hb : fb (a_bs A) < 8
  · have hrj : RJ (fb (a_bs A)) 8 = J (fb (a_bs A)) := by unfold RJ; rw [if_pos hb]
    rw [hrj, if_neg (show ¬ J (fb (a_bs A)) = -1 by rw [show (-1 : Int32) = NN from rfl, J_neN (by omega)]; exact id)]
    by_cases q : L ≤ 24
    · rw [if_pos (show fb (a_bs A) < 8 ∧ L ≤ 24 from ⟨hb, q⟩), if_neg (show ¬ (24 : Int32) < J L from fun z => by have := (J_lt (a := 24) (by omega) (by omega)).mp z; omega)]
    · rw [if_neg (show ¬ (fb (a_bs A) < 8 ∧ L ≤ 24) from fun z => q z.2), if_pos (show (24 : Int32) < J L from (J_lt (a := 24) (by omega) (by omega)).mpr (by omega))]
  · have hrj : RJ (fb (a_bs A)) 8 = NN := by unfold RJ; rw [if_neg hb]
    rw [hrj, if_pos (show NN = -1 from rfl), if_neg (show ¬ (fb (a_bs A) < 8 ∧ L ≤ 24) from fun z => hb z.1)]
