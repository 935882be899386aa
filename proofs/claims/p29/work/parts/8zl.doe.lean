/-! THE PURE SIDE: one action of a script -/
/-- class and Model, after an action of a script -/
def DoA (m : MDT) (N : Nat) (r : Option (Int32 × DKT × SMT × PLT × SOT × CRT)) (r' : Option (Int32 × MDT)) : Prop := ∃ v d' so' p' st' cr' m' A', r = some (v, d', so', p', st', cr') ∧ r' = some (v, m') ∧ (v = 0 ∨ v = 1) ∧ MB m m' ∧ DR d' A' ∧ MR (md_s m') A' ∧ WF A' (N + 1)
theorem DoA_no {m : MDT} {N : Nat} {A : AT} {d : DKT} {so : SMT} {p0 : PLT} {st0 : SOT} {cr : CRT} (hd : DR d A) (hm : MR (md_s m) A) (hW : WF A N) {v : Int32} (hv : v = 0 ∨ v = 1) : DoA m N (some (v, d, so, p0, st0, cr)) (some (v, m)) :=
  ⟨_, _, _, _, _, _, _, A, rfl, rfl, hv, MB_rf m, hd, hm, WF_mono hW (by omega)⟩
theorem does_1 {tx : TXT} {d : DKT} {m : MDT} {A : AT} {N x : Nat} {so : SMT} {p0 : PLT} {st0 : SOT} {cr : CRT} (hN : N ≤ 600) (ht : TI tx (md_text m) (md_length m)) (hd : DR d A) (hm : MR (md_s m) A) (hW : WF A N) : DoA m N ((F_X7_readStream tx so (J x)).bind fun v77 => (if v77.1 = 0 then some (0, d, v77.2, p0, st0, cr) else (F_X8_backsUpOnTrial d v77.2 p0).bind fun v84 => (if v84.1 = 0 then some (0, v84.2.1, v84.2.2.1, v84.2.2.2, st0, cr) else some (1, v84.2.1, v84.2.2.1, v84.2.2.2, st0, cr)))) ((F_X9_isStream (md_text m) (md_length m) (md_begins m) (md_lengths m) (md_streams m) (J x)).bind fun v63 => (if v63.1 = 0 then some (0, ((md_thrown m), (md_s m), (md_aside m), (md_base m), (md_saved m), (md_savedMany m), (md_slots m), (md_hasSlot m), (md_text m), (md_length m), v63.2.1, v63.2.2.1, v63.2.2.2, (md_letters m), (md_letterMany m), (md_chunks m), (md_chunkMany m), (md_homes m), (md_dropped m), (md_madeIn m), (md_madeAt m), (md_putMany m), (md_path m), (md_store m), (md_thinOnes m))) else (F_X9_laysStream (md_s m) (md_text m) v63.2.1 v63.2.2.1 (md_letters m) (md_letterMany m) (md_chunks m) (md_chunkMany m) (J x)).bind fun v73 => (F_X9_backs ((md_thrown m), (md_s m), (md_aside m), (md_base m), (md_saved m), (md_savedMany m), (md_slots m), (md_hasSlot m), (md_text m), (md_length m), v63.2.1, v63.2.2.1, v63.2.2.2, v73.1, v73.2.1, v73.2.2.1, v73.2.2.2, (md_homes m), (md_dropped m), (md_madeIn m), (md_madeAt m), (md_putMany m), (md_path m), (md_store m), (md_thinOnes m))).bind fun v77 => (if v77.1 = (-1) then some (0, v77.2) else some (1, v77.2)))) := by
  rcases rd ht so (md_begins m) (md_lengths m) (md_streams m) (J x) with ⟨e1, b, l, ss, e2⟩ | ⟨p, ws, wo, hx, hp, hv, hl1, hl30, e1, e2, b, l, ss, e3, e4⟩
  · rw [e1, e2]
    simp only [Option.bind_some]
    rw [if_pos trivial, if_pos trivial]
    exact ⟨_, _, _, _, _, _, _, A, rfl, rfl, Or.inl rfl, ⟨rfl, rfl, rfl, rfl, rfl, rfl, rfl, rfl⟩, hd, hm, WF_mono hW (by omega)⟩
  · have s0 := hW.2.2.1.1
    have s1 := hW.2.2.1.2.1
    obtain ⟨lt', f2, c3, c4⟩ := e4 (md_s m) (md_letters m) (md_chunks m) (md_letterMany m) (md_chunkMany m) (a_se A 0) (hm.1.1 0 (by omega)) (by omega) (by omega)
    obtain ⟨v, v', d', sd, p', m', A', y1, y2, y3, y4, y5, y6, y7⟩ := tback (p0 := p0) (cd := sm_codes so) (m := (md_thrown m, (md_s m), (md_aside m), (md_base m), (md_saved m), (md_savedMany m), (md_slots m), (md_hasSlot m), (md_text m), (md_length m), b, l, ss, lt', J ws.length, f2, J (cutG (a_se A 0) [] ws).length, (md_homes m), (md_dropped m), (md_madeIn m), (md_madeAt m), (md_putMany m), (md_path m), (md_store m), (md_thinOnes m))) hd hm hW hN e2 hv hl1 hl30 rfl c4
    rw [e1, e3]
    simp only [Option.bind_some]
    rw [if_neg (show ¬ (1 : Int32) = 0 by decide), if_neg (show ¬ (1 : Int32) = 0 by decide), c3, y1]
    simp only [Option.bind_some]
    rw [y2]
    simp only [Option.bind_some]
    rcases y3 with ⟨g1, g2⟩ | ⟨g1, g2⟩
    · rw [if_pos g1, if_pos g2]
      exact ⟨_, _, _, _, _, _, _, A', rfl, rfl, Or.inl rfl, y4, y5, y6, y7⟩
    · rw [if_neg (show ¬ v = 0 by rw [g1]; decide), if_neg g2]
      exact ⟨_, _, _, _, _, _, _, A', rfl, rfl, Or.inr rfl, y4, y5, y6, y7⟩
theorem J_if {a b : Nat} (ha : a < 2 ^ 31) (hb : b < 2 ^ 31) {α : Type} (x y : α) : (if J a < J b then x else y) = if a < b then x else y := by
  by_cases q : a < b
  · rw [if_pos q, if_pos ((J_lt ha hb).mpr q)]
  · rw [if_neg q, if_neg fun z => q ((J_lt ha hb).mp z)]
theorem does_A {tx : TXT} {d : DKT} {m : MDT} {A : AT} {N a x t u : Nat} {so : SMT} {p0 : PLT} {st0 : SOT} {cr : CRT} (hN : N ≤ 600) (ht : TI tx (md_text m) (md_length m)) (hd : DR d A) (hm : MR (md_s m) A) (hW : WF A N) (ha : a ≤ 9) (hx : x ≤ 9) (ht9 : t ≤ 9) (hu : u ≤ 9) {w : Int32} (e1 : w / 1000 = J a) (e2 : w / 100 - w / 100 / 10 * 10 = J x) (e3 : w - w / 100 * 100 = J (10 * t + u)) : DoA m N (F_X8_succeeds tx d so p0 st0 cr w) (F_X9_does m (J a) (J x) (J t) (J u)) := by
  have e4 : ((10 : Int32) * J t) + J u = J (10 * t + u) := by rw [show (10 : Int32) = J 10 from rfl, J_mul, J_add]
  have hl := WF_len hW
  have hn := WF_Wn hW
  obtain ⟨w1, w2, w3, w4, w5, w6⟩ := id hW
  have hy : 10 * t + u ≤ 99 := by omega
  unfold F_X8_succeeds F_X9_does
  simp only [e1, e2, e3, e4]
  generalize 10 * t + u = y at *
  have g100 : ∀ (z : Option (Int32 × DKT × SMT × PLT × SOT × CRT)), gz 100 z = z := fun z => gz_J (a := 100) (by omega) (by omega)
  have g10 : ∀ (z : Option (Int32 × DKT × SMT × PLT × SOT × CRT)), gz 10 z = z := fun z => gz_J (a := 10) (by omega) (by omega)
  have g1000 : ∀ (z : Option (Int32 × DKT × SMT × PLT × SOT × CRT)), gz 1000 z = z := fun z => gz_J (a := 1000) (by omega) (by omega)
  have g7 : ∀ (z : Option (Int32 × MDT)), gd 7 1270 z = z := fun z => gd_J (a := 7) (by omega) (by omega)
  simp only [g100, g10, g1000, g7]
  have hno : DoA m N (some (0, d, so, p0, st0, cr)) (some (0, m)) := DoA_no hd hm hW (Or.inl rfl)
  have hyes : DoA m N (some (1, d, so, p0, st0, cr)) (some (1, m)) := DoA_no hd hm hW (Or.inr rfl)
  have hcmp : ∀ (b : Nat), b < 2 ^ 31 → DoA m N (if J y < J b then some (0, d, so, p0, st0, cr) else some (1, d, so, p0, st0, cr)) (if J y < J b then some (0, m) else some (1, m)) := fun b hb => by
    by_cases q : J y < J b
    · rw [if_pos q, if_pos q]; exact hno
    · rw [if_neg q, if_neg q]; exact hyes
  have hcmp2 : ∀ (b : Nat), b < 2 ^ 31 → DoA m N (if J b < J y then some (0, d, so, p0, st0, cr) else some (1, d, so, p0, st0, cr)) (if J b < J y then some (0, m) else some (1, m)) := fun b hb => by
    by_cases q : J b < J y
    · rw [if_pos q, if_pos q]; exact hno
    · rw [if_neg q, if_neg q]; exact hyes
  have hs7 : md_s m (Int32.toNatClampNeg 7) = J (a_cs A).length := hm.1.2.2.1
  have e4N : (-1 : Int32) = NN := rfl
  rcases (show a = 0 ∨ a = 1 ∨ a = 2 ∨ a = 3 ∨ a = 4 ∨ a = 5 ∨ a = 6 ∨ a = 7 ∨ a = 8 ∨ a = 9 by omega) with rfl | rfl | rfl | rfl | rfl | rfl | rfl | rfl | rfl | rfl
  · rw [if_pos (show (J 0).toInt < 1 ∨ 8 < (J 0).toInt by decide), if_pos (show (J 0).toInt < 1 ∨ 8 < (J 0).toInt by decide)]
    exact hno
  · rw [if_neg (show ¬ ((J 1).toInt < 1 ∨ 8 < (J 1).toInt) by decide), if_neg (show ¬ ((J 1).toInt < 1 ∨ 8 < (J 1).toInt) by decide), if_pos (show J 1 = 1 by decide), if_pos (show J 1 = 1 by decide)]
    by_cases q : J y = 0
    · rw [if_pos q, if_pos q]
      exact does_1 hN ht hd hm hW
    · rw [if_neg q, if_neg q]; exact hno
  · rw [if_neg (show ¬ ((J 2).toInt < 1 ∨ 8 < (J 2).toInt) by decide), if_neg (show ¬ ((J 2).toInt < 1 ∨ 8 < (J 2).toInt) by decide), if_neg (show ¬ J 2 = 1 by decide), if_neg (show ¬ J 2 = 1 by decide), if_pos (show J 2 = 2 by decide), if_pos (show J 2 = 2 by decide)]
    by_cases q : J y = 0
    · rw [if_pos q, if_pos q]
      rcases tdel hd hm hW (J x) with ⟨f1, f2⟩ | ⟨b, d', s', f1, f2, f3, f4, f5, f6, f7, f8⟩
      · rw [f1, f2]
        simp only [Option.bind_some]
        rw [if_pos trivial, if_pos trivial]
        exact hno
      · rw [f3, f4]
        simp only [Option.bind_some]
        rw [if_neg (show ¬ (1 : Int32) = 0 by decide), if_neg (show ¬ (1 : Int32) = 0 by decide), f5]
        exact ⟨_, _, _, _, _, _, _, adel A b, rfl, rfl, Or.inr rfl, ⟨rfl, rfl, rfl, rfl, rfl, rfl, rfl, rfl⟩, f6, f7, WF_mono f8 (by omega)⟩
    · rw [if_neg q, if_neg q]; exact hno
  · rw [if_neg (show ¬ ((J 3).toInt < 1 ∨ 8 < (J 3).toInt) by decide), if_neg (show ¬ ((J 3).toInt < 1 ∨ 8 < (J 3).toInt) by decide), if_neg (show ¬ J 3 = 1 by decide), if_neg (show ¬ J 3 = 1 by decide), if_neg (show ¬ J 3 = 2 by decide), if_neg (show ¬ J 3 = 2 by decide), if_pos (show J 3 = 3 by decide), if_pos (show J 3 = 3 by decide)]
    by_cases q : J y = 0
    · rw [if_pos q, if_pos q]
      by_cases q2 : J x = 0
      · rw [if_pos q2, if_pos q2]
        obtain ⟨c', d', x1, x2⟩ := carry_D (c := cr) hd hW hN
        obtain ⟨s', th', y1, y2⟩ := carries_M (th := md_thinOnes m) hm hW hN
        have hwm : wm (TH A) A ≤ 192 := Nat.le_trans (cp_le _ _) w5
        rw [x1, y1]
        simp only [Option.bind_some]
        rw [if_neg (J_neg (by omega))]
        exact ⟨_, _, _, _, _, _, _, acar A, rfl, rfl, Or.inr rfl, ⟨rfl, rfl, rfl, rfl, rfl, rfl, rfl, rfl⟩, x2, y2, acar_WF hW hN⟩
      · rw [if_neg q2, if_neg q2]; exact hno
    · rw [if_neg q, if_neg q]; exact hno
  · rw [if_neg (show ¬ ((J 4).toInt < 1 ∨ 8 < (J 4).toInt) by decide), if_neg (show ¬ ((J 4).toInt < 1 ∨ 8 < (J 4).toInt) by decide), if_neg (show ¬ J 4 = 1 by decide), if_neg (show ¬ J 4 = 1 by decide), if_neg (show ¬ J 4 = 2 by decide), if_neg (show ¬ J 4 = 2 by decide), if_neg (show ¬ J 4 = 3 by decide), if_neg (show ¬ J 4 = 3 by decide), if_pos (show J 4 = 4 by decide), if_pos (show J 4 = 4 by decide)]
    unfold F_X8_setsOnTrial
    rcases isSet_A (J x) (J y) with ⟨f1, f2⟩ | ⟨i, v, hi, hxi, hyv, l1, l2, l3, f1, f2⟩
    · rw [f1, f2]
      simp only [Option.bind_some]
      rw [if_pos trivial, if_pos trivial]
      exact hno
    · rw [f1, f2, hxi, hyv]
      rw [hxi, hyv] at f1
      obtain ⟨d', c1, c2⟩ := changeSetting_D hi hd f1
      have hg : ∀ (z : Option (Int32 × MDT)), gd (J i) 1270 z = z := fun z => gd_J (by omega) (by omega)
      simp only [Option.bind_some]
      rw [if_neg (show ¬ (1 : Int32) = 0 by decide), if_neg (show ¬ (1 : Int32) = 0 by decide), c1, hg, J_nat (by omega)]
      exact ⟨_, _, _, _, _, _, _, aset A i v, rfl, rfl, Or.inr rfl, ⟨rfl, rfl, rfl, rfl, rfl, rfl, rfl, rfl⟩, c2, aset_MR hi hW hm, WF_mono (aset_WF hi l1 l2 hW) (by omega)⟩
  · rw [if_neg (show ¬ ((J 5).toInt < 1 ∨ 8 < (J 5).toInt) by decide), if_neg (show ¬ ((J 5).toInt < 1 ∨ 8 < (J 5).toInt) by decide), if_neg (show ¬ J 5 = 1 by decide), if_neg (show ¬ J 5 = 1 by decide), if_neg (show ¬ J 5 = 2 by decide), if_neg (show ¬ J 5 = 2 by decide), if_neg (show ¬ J 5 = 3 by decide), if_neg (show ¬ J 5 = 3 by decide), if_neg (show ¬ J 5 = 4 by decide), if_neg (show ¬ J 5 = 4 by decide), if_pos (show J 5 = 5 by decide), if_pos (show J 5 = 5 by decide)]
    by_cases q : J x = 0
    · rw [if_pos q, if_pos q, hs7, hd.1.2.2.1]
      exact hcmp _ (by omega)
    · rw [if_neg q, if_neg q]; exact hno
  · rw [if_neg (show ¬ ((J 6).toInt < 1 ∨ 8 < (J 6).toInt) by decide), if_neg (show ¬ ((J 6).toInt < 1 ∨ 8 < (J 6).toInt) by decide), if_neg (show ¬ J 6 = 1 by decide), if_neg (show ¬ J 6 = 1 by decide), if_neg (show ¬ J 6 = 2 by decide), if_neg (show ¬ J 6 = 2 by decide), if_neg (show ¬ J 6 = 3 by decide), if_neg (show ¬ J 6 = 3 by decide), if_neg (show ¬ J 6 = 4 by decide), if_neg (show ¬ J 6 = 4 by decide), if_neg (show ¬ J 6 = 5 by decide), if_neg (show ¬ J 6 = 5 by decide), if_pos (show J 6 = 6 by decide), if_pos (show J 6 = 6 by decide)]
    rcases hasB hd.2.1 hm.2.1 hW.2.1 (J x) with ⟨b, hb8, hxb, hb1, f1, f2⟩ | ⟨f1, f2⟩
    · obtain ⟨so1, l1, -⟩ := loads_D (s := st0) hd.1 hd.2.1 hn w1 w2 w3 hb8
      obtain ⟨pa', sto', l2⟩ := loadsOf_M (pa := md_path m) (sto := md_store m) hm.1 hm.2.1 w1 w2 w3 hb8
      rw [(ur_bk w1 w2 hb8 (a_se A 4)).1] at l1
      rw [f1, f2, hxb]
      simp only [Option.bind_some]
      rw [if_neg (show ¬ J 1 = 0 by decide), if_neg (show ¬ J 1 = 0 by decide), l1, l2]
      simp only [Option.bind_some]
      by_cases q : J y < J (ur (a_se A 4) (fun i => (rf (a_bs A b) i).1) (a_bs A b).length).2.2
      · rw [if_pos q, if_pos q]
        exact ⟨_, _, _, _, _, _, _, A, rfl, rfl, Or.inl rfl, ⟨rfl, rfl, rfl, rfl, rfl, rfl, rfl, rfl⟩, hd, hm, WF_mono hW (by omega)⟩
      · rw [if_neg q, if_neg q]
        exact ⟨_, _, _, _, _, _, _, A, rfl, rfl, Or.inr rfl, ⟨rfl, rfl, rfl, rfl, rfl, rfl, rfl, rfl⟩, hd, hm, WF_mono hW (by omega)⟩
    · rw [f1, f2]
      simp only [Option.bind_some]
      rw [if_pos (show J 0 = 0 from rfl), if_pos (show J 0 = 0 from rfl)]
      exact hno
  · rw [if_neg (show ¬ ((J 7).toInt < 1 ∨ 8 < (J 7).toInt) by decide), if_neg (show ¬ ((J 7).toInt < 1 ∨ 8 < (J 7).toInt) by decide), if_neg (show ¬ J 7 = 1 by decide), if_neg (show ¬ J 7 = 1 by decide), if_neg (show ¬ J 7 = 2 by decide), if_neg (show ¬ J 7 = 2 by decide), if_neg (show ¬ J 7 = 3 by decide), if_neg (show ¬ J 7 = 3 by decide), if_neg (show ¬ J 7 = 4 by decide), if_neg (show ¬ J 7 = 4 by decide), if_neg (show ¬ J 7 = 5 by decide), if_neg (show ¬ J 7 = 5 by decide), if_neg (show ¬ J 7 = 6 by decide), if_neg (show ¬ J 7 = 6 by decide), if_pos (show J 7 = 7 by decide), if_pos (show J 7 = 7 by decide)]
    by_cases q : J x = 0
    · rw [if_pos q, if_pos q, e4N, livingBut_M hm.1 hm.2.1 w1 w2 (show (a_cs A).length ≤ 92 by omega) but_8, living_D hd.1 hd.2.2.1 hn w2]
      have := lv_120 w1 w2
      exact hcmp2 _ (by omega)
    · rw [if_neg q, if_neg q]; exact hno
  · rw [if_neg (show ¬ ((J 8).toInt < 1 ∨ 8 < (J 8).toInt) by decide), if_neg (show ¬ ((J 8).toInt < 1 ∨ 8 < (J 8).toInt) by decide), if_neg (show ¬ J 8 = 1 by decide), if_neg (show ¬ J 8 = 1 by decide), if_neg (show ¬ J 8 = 2 by decide), if_neg (show ¬ J 8 = 2 by decide), if_neg (show ¬ J 8 = 3 by decide), if_neg (show ¬ J 8 = 3 by decide), if_neg (show ¬ J 8 = 4 by decide), if_neg (show ¬ J 8 = 4 by decide), if_neg (show ¬ J 8 = 5 by decide), if_neg (show ¬ J 8 = 5 by decide), if_neg (show ¬ J 8 = 6 by decide), if_neg (show ¬ J 8 = 6 by decide), if_neg (show ¬ J 8 = 7 by decide), if_neg (show ¬ J 8 = 7 by decide)]
    by_cases q : J x = 0
    · rw [if_pos q, if_pos q, thin_M hm.1 hm.2.1 w1 w3 w2 (by omega), thin_D hd.1 hd.2.2.1 hn w2 w1 w3]
      have := cp_le (thn (a_se A) (a_cs A) (a_bs A)) (a_cs A).length
      exact hcmp _ (by omega)
    · rw [if_neg q, if_neg q]; exact hno
  · rw [if_pos (show (J 9).toInt < 1 ∨ 8 < (J 9).toInt by decide), if_pos (show (J 9).toInt < 1 ∨ 8 < (J 9).toInt by decide)]
    exact hno
