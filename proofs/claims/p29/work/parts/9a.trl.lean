/-! P29, THE PURE SIDE: simulations and scripts on a copy -/
/-- a row of the Model that holds this state -/
noncomputable def sOf (A : AT) (k : Nat) : Int32 :=
  if k < 5 then J (a_se A k) else if k = 5 then J (a_nx A) else if k = 6 then a_ca A else if k = 7 then J (a_cs A).length
  else if k < 998 then (if (k - 8) % 11 = 0 then J (nu (a_cs A) ((k - 8) / 11)) else if (k - 8) % 11 = 1 then J (ca (a_cs A) ((k - 8) / 11)) else if (k - 8) % 11 = 2 then J (si (a_cs A) ((k - 8) / 11)) else J (c9 (ch (a_cs A) ((k - 8) / 11) ((k - 8) % 11 - 3))))
  else (if (k - 998) % 34 = 0 then J (min 1 (a_bs A ((k - 998) / 34)).length) else if (k - 998) % 34 = 1 then J (a_bs A ((k - 998) / 34)).length else if ((k - 998) % 34 - 2) % 2 = 0 then J (rf (a_bs A ((k - 998) / 34)) (((k - 998) % 34 - 2) / 2)).1 else J (rf (a_bs A ((k - 998) / 34)) (((k - 998) % 34 - 2) / 2)).2)
theorem sOf_c {A : AT} {k j : Nat} (hk : k < 90) (hj : j < 11) : sOf A (8 + 11 * k + j) = if j = 0 then J (nu (a_cs A) k) else if j = 1 then J (ca (a_cs A) k) else if j = 2 then J (si (a_cs A) k) else J (c9 (ch (a_cs A) k (j - 3))) := by
  unfold sOf
  rw [if_neg (by omega), if_neg (by omega), if_neg (by omega), if_neg (by omega), if_pos (by omega), show (8 + 11 * k + j - 8) % 11 = j by omega, show (8 + 11 * k + j - 8) / 11 = k by omega]
theorem sOf_b {A : AT} {b j : Nat} (hb : b < 8) (hj : j < 34) : sOf A (998 + 34 * b + j) = if j = 0 then J (min 1 (a_bs A b).length) else if j = 1 then J (a_bs A b).length else if (j - 2) % 2 = 0 then J (rf (a_bs A b) ((j - 2) / 2)).1 else J (rf (a_bs A b) ((j - 2) / 2)).2 := by
  unfold sOf
  rw [if_neg (by omega), if_neg (by omega), if_neg (by omega), if_neg (by omega), if_neg (by omega), show (998 + 34 * b + j - 998) % 34 = j by omega, show (998 + 34 * b + j - 998) / 34 = b by omega]
theorem sOf_MR {A : AT} {n : Nat} (hW : WF A n) : MR (sOf A) A := by
  have hl := WF_len hW
  refine ⟨⟨fun i hi => ?_, ?_, ?_, fun k hk => ?_⟩, fun b hb => ?_, ?_⟩
  · unfold sOf
    rw [if_pos hi]
  · unfold sOf
    rw [if_neg (by omega), if_pos rfl]
  · unfold sOf
    rw [if_neg (by omega), if_neg (by omega), if_neg (by omega), if_pos rfl]
  · have h8 := (hW.1.2.1 k hk).2.1
    have h9 := (hW.1.2.1 k hk).2.2.2.1
    refine ⟨?_, ?_, ?_, fun i hi => ?_⟩
    · have := sOf_c (A := A) (k := k) (j := 0) (by omega) (by omega)
      rw [if_pos rfl] at this
      exact this
    · have := sOf_c (A := A) (k := k) (j := 1) (by omega) (by omega)
      rw [if_neg (by omega), if_pos rfl] at this
      exact this
    · have := sOf_c (A := A) (k := k) (j := 2) (by omega) (by omega)
      rw [if_neg (by omega), if_neg (by omega), if_pos rfl] at this
      exact this
    · have := sOf_c (A := A) (k := k) (j := 3 + i) (by omega) (by omega)
      rw [if_neg (by omega), if_neg (by omega), if_neg (by omega), show 3 + i - 3 = i by omega] at this
      rw [show 8 + 11 * k + 3 + i = 8 + 11 * k + (3 + i) by omega]
      exact this
  · have h15 := (hW.2.1 b hb).1
    refine ⟨?_, ?_, fun i hi => ⟨?_, ?_⟩⟩
    · have := sOf_b (A := A) (b := b) (j := 0) hb (by omega)
      rw [if_pos rfl] at this
      exact this
    · have := sOf_b (A := A) (b := b) (j := 1) hb (by omega)
      rw [if_neg (by omega), if_pos rfl] at this
      exact this
    · have := sOf_b (A := A) (b := b) (j := 2 + 2 * i) hb (by omega)
      rw [if_neg (by omega), if_neg (by omega), if_pos (by omega), show (2 + 2 * i - 2) / 2 = i by omega] at this
      rw [show 998 + 34 * b + 2 + 2 * i = 998 + 34 * b + (2 + 2 * i) by omega]
      exact this
    · have := sOf_b (A := A) (b := b) (j := 2 + 2 * i + 1) hb (by omega)
      rw [if_neg (by omega), if_neg (by omega), if_neg (by omega), show (2 + 2 * i + 1 - 2) / 2 = i by omega] at this
      rw [show 998 + 34 * b + 2 + 2 * i + 1 = 998 + 34 * b + (2 + 2 * i + 1) by omega]
      exact this
  · unfold sOf
    rw [if_neg (by omega), if_neg (by omega), if_pos rfl]
noncomputable def mOf (A : AT) : MDT := md_w_s MDI (sOf A)
theorem sim_L {d tr : DKT} {m : MDT} {A : AT} {N n : Nat} {so : SMT} {p0 : PLT} {cr : CRT} {l : Int64} (hN : N ≤ 550) (hd : DR d A) (hm : MR (md_s m) A) (hW : WF A N) (ck1 : 1 ≤ n) (ck3 : n ≤ 40) : ∃ v d' so' p' cr' m', F_X8_simulate d tr so p0 cr l (J n) = some (0, v, d', so', p', cr') ∧ F_X9_simulate m l (J n) = some (v, m') := by
  rcases simulate_A (tr := tr) (so := so) (p0 := p0) (cr := cr) (q := J n) (l := l) hN hd hm hW with ⟨v, d', so', p', cr', m', y1, y2, -, -⟩ | ⟨m', y1, -, -, -⟩
  · exact ⟨v, d', so', p', cr', m', y1, y2⟩
  · exfalso
    obtain ⟨v1, x1, x2⟩ := copy_D (d0 := tr) hd hW
    unfold F_X8_simulate at y1
    rw [if_neg (show ¬ J n < 1 from fun z => by have := (J_lt (b := 1) (by omega) (by omega)).mp z; omega), if_pos (show J n ≤ 40 from (J_le (b := 40) (by omega) (by omega)).mpr ck3), x1, Option.bind_some] at y1
    obtain ⟨d', so', p', cr', m', A', z1, z2, z3, z4, z5, z6⟩ := sim_b (n := n) (N := N) (m0 := m) hN ck3 K_X8_simulate_70 (fun _ => none) n 0 FU FU l v1 so p0 cr m A (by omega) (by unfold FU; omega) (by unfold FU; omega) x2 hm hW (MB_rf _)
    have z1 : lp (B_X8_simulate_36 (J n) K_X8_simulate_70) FU (l, 0, v1, so, p0, cr) = K_X8_simulate_70 (d', so', p', cr') := z1
    rw [z1] at y1
    unfold K_X8_simulate_70 at y1
    rw [living_D z4.1 z4.2.2.1 (WF_Wn z6) z6.2.1, Option.bind_some] at y1
    cases y1
theorem sim_V {A : AT} {N n : Nat} (hW : WF A N) (hN : N ≤ 550) (ck1 : 1 ≤ n) (ck3 : n ≤ 40) (l : Int64) : ∃ v, ∀ (d tr : DKT) (so : SMT) (p0 : PLT) (cr : CRT), DR d A → ∃ d' so' p' cr', F_X8_simulate d tr so p0 cr l (J n) = some (0, v, d', so', p', cr') := by
  refine ⟨((F_X9_simulate (mOf A) l (J n)).getD (0, mOf A)).1, fun d tr so p0 cr hd => ?_⟩
  obtain ⟨v, d', so', p', cr', m', y1, y2⟩ := sim_L (tr := tr) (so := so) (p0 := p0) (cr := cr) (l := l) (m := mOf A) hN hd (sOf_MR hW) hW ck1 ck3
  rw [y2]
  exact ⟨d', so', p', cr', y1⟩
/-! the script: carry, then a bound on the containers -/
theorem succ3 {d : DKT} {A : AT} {N : Nat} (hd : DR d A) (hW : WF A N) (hN : N ≤ 600) (x : TXT) (so : SMT) (p0 : PLT) (st : SOT) (cr : CRT) : ∃ d' cr', F_X8_succeeds x d so p0 st cr (J 3000) = some (1, d', so, p0, st, cr') := by
  obtain ⟨c', d', y1, y2⟩ := carry_D (c := cr) hd hW hN
  have hw := wm_le hW
  refine ⟨d', c', ?_⟩
  have g100 : ∀ z : Option (Int32 × DKT × SMT × PLT × SOT × CRT), gz 100 z = z := fun z => gz_J (a := 100) (by omega) (by omega)
  have g10 : ∀ z : Option (Int32 × DKT × SMT × PLT × SOT × CRT), gz 10 z = z := fun z => gz_J (a := 10) (by omega) (by omega)
  have g1000 : ∀ z : Option (Int32 × DKT × SMT × PLT × SOT × CRT), gz 1000 z = z := fun z => gz_J (a := 1000) (by omega) (by omega)
  unfold F_X8_succeeds
  rw [g100, g10, g100, g1000, if_neg (show ¬ (Int32.toInt (J 3000 / 1000) < 1 ∨ 8 < Int32.toInt (J 3000 / 1000)) by decide), if_neg (show ¬ J 3000 / 1000 = 1 by decide), if_neg (show ¬ J 3000 / 1000 = 2 by decide), if_pos (show J 3000 / 1000 = 3 by decide), if_pos (show J 3000 - J 3000 / 100 * 100 = 0 by decide), if_pos (show J 3000 / 100 - J 3000 / 100 / 10 * 10 = 0 by decide), y1, Option.bind_some]
  rw [if_neg (show ¬ J (wm (TH A) A) < 0 from J_neg (by omega))]
theorem succ5 {d : DKT} {k : Nat} (hk : k < 30) (x : TXT) (so : SMT) (p0 : PLT) (st : SOT) (cr : CRT) : ∃ v, (v = 0 ∨ v = 1) ∧ F_X8_succeeds x d so p0 st cr (J (5000 + k)) = some (v, d, so, p0, st, cr) := by
  obtain ⟨e1, e2, e3, -, -⟩ := dg_A (W := 5000 + k) (by omega)
  rw [show (5000 + k) / 1000 = 5 by omega] at e1
  rw [show (5000 + k) / 100 % 10 = 0 by omega] at e2
  have g100 : ∀ z : Option (Int32 × DKT × SMT × PLT × SOT × CRT), gz 100 z = z := fun z => gz_J (a := 100) (by omega) (by omega)
  have g10 : ∀ z : Option (Int32 × DKT × SMT × PLT × SOT × CRT), gz 10 z = z := fun z => gz_J (a := 10) (by omega) (by omega)
  have g1000 : ∀ z : Option (Int32 × DKT × SMT × PLT × SOT × CRT), gz 1000 z = z := fun z => gz_J (a := 1000) (by omega) (by omega)
  unfold F_X8_succeeds
  rw [g100, g10, g100, g1000, e1, e2, if_neg (show ¬ (Int32.toInt (J 5) < 1 ∨ 8 < Int32.toInt (J 5)) by decide), if_neg (show ¬ J 5 = 1 by decide), if_neg (show ¬ J 5 = 2 by decide), if_neg (show ¬ J 5 = 3 by decide), if_neg (show ¬ J 5 = 4 by decide), if_pos (show J 5 = 5 by decide), if_pos (show J 0 = 0 by decide)]
  by_cases q : J (5000 + k) - J (5000 + k) / 100 * 100 < dk_containers d
  · rw [if_pos q]
    exact ⟨0, Or.inl rfl, rfl⟩
  · rw [if_neg q]
    exact ⟨1, Or.inr rfl, rfl⟩
theorem scr_Y : ∀ k : Fin 30, (30005000 : Int64) + Int32.toInt64 (J k.1) = YL (30005000 + k.1) := by decide +kernel
theorem script_V {d : DKT} {A : AT} {N k : Nat} (hd : DR d A) (hW : WF A N) (hN : N ≤ 600) (hk : k < 30) (x : TXT) (tr : DKT) (so : SMT) (p0 : PLT) (st : SOT) (cr : CRT) : ∃ v d' so' p' st' cr', F_X8_runScript x d tr so p0 st cr 2 (30005000 + Int32.toInt64 (J k)) = some (0, v, d', so', p', st', cr') ∧ (v = -1 ∨ v = 1) := by
  have e0 : (30005000 : Int64) + Int32.toInt64 (J k) = YL (30005000 + k) := scr_Y ⟨k, hk⟩
  obtain ⟨v1, x1, x2⟩ := copy_D (d0 := tr) hd hW
  obtain ⟨d2, cr2, y1⟩ := succ3 x2 hW hN x so p0 st cr
  obtain ⟨v, hv, y2⟩ := succ5 (d := d2) hk x so p0 st cr2
  have w2 : F_X8_withoutGroups (YL (30005000 + k)) 2 = some (YL 0) := by
    have := wog_A (n := 30005000 + k) (j := 2) (by omega) (by omega)
    rw [show (30005000 + k) / 10000 ^ 2 = 0 by omega] at this
    exact this
  have w1 : F_X8_withoutGroups (YL (30005000 + k)) ((2 - 1) - 0) = some (YL 3000) := by
    have := wog_A (n := 30005000 + k) (j := 1) (by omega) (by omega)
    rw [show (30005000 + k) / 10000 ^ 1 = 3000 by omega] at this
    exact this
  have w0 : F_X8_withoutGroups (YL (30005000 + k)) ((2 - 1) - 1) = some (YL (30005000 + k)) := by
    have := wog_A (n := 30005000 + k) (j := 0) (by omega) (by omega)
    rw [show (30005000 + k) / 10000 ^ 0 = 30005000 + k by omega] at this
    exact this
  have q1 : Int64.toInt32 (YL 3000 - YL 3000 / 10000 * 10000) = J 3000 := by decide
  have q0 : Int64.toInt32 (YL (30005000 + k) - YL (30005000 + k) / 10000 * 10000) = J (5000 + k) := by
    rw [show (10000 : Int64) = YL 10000 from rfl, YL_mod (by omega) (by omega), YL_32, show (30005000 + k) % 10000 = 5000 + k by omega]
  have g : ∀ z : Option (Nat × Int32 × DKT × SMT × PLT × SOT × CRT), gzl 10000 z = z := fun z => gzl_YL (a := 10000) (by omega) (by omega)
  have hneg : ¬ lg_cmp (YL (30005000 + k)) 0 < 0 := by
    have := (by decide +kernel : ∀ k : Fin 30, ¬ lg_cmp (YL (30005000 + k.1)) 0 < 0) ⟨k, hk⟩
    exact this
  rw [e0]
  unfold F_X8_runScript
  rw [if_neg (show ¬ (2 : Int32) < 1 by decide), if_pos (show (2 : Int32) ≤ 3 by decide), if_neg hneg, w2, Option.bind_some, if_pos (show lg_cmp (YL 0) 0 = 0 by decide), x1, Option.bind_some]
  have t0 : ∀ self, B_X8_runScript_56 2 (YL (30005000 + k)) x self (0, v1, so, p0, st, cr) = self (1, d2, so, p0, st, cr2) := fun self => by
    unfold B_X8_runScript_56
    dsimp only
    rw [if_neg (show ¬ (2 : Int32) ≤ 0 by decide), w1, Option.bind_some, g, q1, y1, Option.bind_some, if_neg (show ¬ (1 : Int32) = 0 by decide)]
    rfl
  have t1 : ∀ self, B_X8_runScript_56 2 (YL (30005000 + k)) x self (1, d2, so, p0, st, cr2) = if v = 0 then some (0, 1, d2, so, p0, st, cr2) else self (2, d2, so, p0, st, cr2) := fun self => by
    unfold B_X8_runScript_56
    dsimp only
    rw [if_neg (show ¬ (2 : Int32) ≤ 1 by decide), w0, Option.bind_some, g, q0, y2, Option.bind_some]
    rfl
  have t2 : ∀ self, B_X8_runScript_56 2 (YL (30005000 + k)) x self (2, d2, so, p0, st, cr2) = some (0, -1, d2, so, p0, st, cr2) := fun self => by
    unfold B_X8_runScript_56
    dsimp only
    rw [if_pos (show (2 : Int32) ≤ 2 by decide)]
  generalize B_X8_runScript_56 2 (YL (30005000 + k)) x = f at t0 t1 t2 ⊢
  unfold FU
  rw [show (100000 : Nat) = 99997 + 1 + 1 + 1 from rfl, lp_s, t0, lp_s, t1]
  by_cases z : v = 0
  · rw [if_pos z]
    exact ⟨1, d2, so, p0, st, cr2, rfl, Or.inr rfl⟩
  · rw [if_neg z, lp_s, t2]
    exact ⟨-1, d2, so, p0, st, cr2, rfl, Or.inl rfl⟩
