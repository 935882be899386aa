/-! THE PURE SIDE: one turn of simulate -/
theorem m8_A {k : Nat} (hk : k < 2 ^ 31) : J k - J k / 8 * 8 = J (k % 8) ∧ (J k / 8) - (J k / 8) / 8 * 8 = J (k / 8 % 8) := by
  have h8 : k / 8 ≤ k := Nat.div_le_self _ _
  rw [show (8 : Int32) = J 8 from rfl, J_div hk (by omega), J_div (by omega) (by omega), J_mul, J_mul, J_mod, J_mod]
  exact ⟨rfl, rfl⟩
theorem turn_A {d : DKT} {so : SMT} {p0 : PLT} {cr : CRT} {m : MDT} {A : AT} {N i n : Nat} {x : Int64} (hN : N ≤ 600) (hi : i < n) (hn : n ≤ 40) (hd : DR d A) (hm : MR (md_s m) A) (hW : WF A N) (K : MDT → Option (Int32 × MDT)) : ∃ d' so' p' cr' m' A', F_X8_simulateTurn d so p0 cr (Int64.toInt32 (UInt64.toInt64 (Int64.toUInt64 ((x * (6364136223846793005)) + (1442695040888963407)) >>> (Int64.toUInt64 (Int32.toInt64 33) &&& Int64.toUInt64 63)))) = some (d', so', p', cr') ∧ (∀ self : (Int64 × Int32 × MDT) → Option (Int32 × MDT), B_X9_simulate_31 (J n) K self (x, J i, m) = self ((x * (6364136223846793005)) + (1442695040888963407), J (i + 1), m')) ∧ MB m m' ∧ DR d' A' ∧ MR (md_s m') A' ∧ WF A' (N + 1) := by
  obtain ⟨k, hk, hz⟩ := rnd_J ((x * (6364136223846793005)) + (1442695040888963407))
  obtain ⟨e1, e2⟩ := m8_A hk
  have hle : ¬ J n ≤ J i := by rw [J_le (by omega) (by omega)]; omega
  have h4 : J i + 1 = J (i + 1) := J_add i 1
  have hk8 := Nat.mod_lt k (show 0 < 8 by omega)
  have s0 := hW.2.2.1.1
  have s1 := hW.2.2.1.2.1
  have hB : ∀ self : (Int64 × Int32 × MDT) → Option (Int32 × MDT), B_X9_simulate_31 (J n) K self (x, J i, m) = (if J (k % 8) = 0 then (F_X9_carries (md_s m) (md_thinOnes m)).bind fun v66 => self (((x * (6364136223846793005)) + (1442695040888963407)), J (i + 1), ((md_thrown m), v66.2.1, (md_aside m), (md_base m), (md_saved m), (md_savedMany m), (md_slots m), (md_hasSlot m), (md_text m), (md_length m), (md_begins m), (md_lengths m), (md_streams m), (md_letters m), (md_letterMany m), (md_chunks m), (md_chunkMany m), (md_homes m), (md_dropped m), (md_madeIn m), (md_madeAt m), (md_putMany m), (md_path m), (md_store m), v66.2.2)) else if 3 ≤ J (k % 8) then lp (B_X9_simulate_121 (x, J i, m) (K_X9_simulate_175 (x, J i, m) self)) FU (0, (md_letters m)) else (F_X9_isBackup (md_s m) (J (k / 8 % 8))).bind fun v91 => (if v91 = 0 then self (((x * (6364136223846793005)) + (1442695040888963407)), J (i + 1), m) else (F_X9_removes (md_s m) (J (k / 8 % 8))).bind fun v106 => self (((x * (6364136223846793005)) + (1442695040888963407)), J (i + 1), ((md_thrown m), v106, (md_aside m), (md_base m), (md_saved m), (md_savedMany m), (md_slots m), (md_hasSlot m), (md_text m), (md_length m), (md_begins m), (md_lengths m), (md_streams m), (md_letters m), (md_letterMany m), (md_chunks m), (md_chunkMany m), (md_homes m), (md_dropped m), (md_madeIn m), (md_madeAt m), (md_putMany m), (md_path m), (md_store m), (md_thinOnes m))))) := fun self => by
    unfold B_X9_simulate_31
    simp only [hz, gz8, e1, e2, h4]
    rw [if_neg hle]
  simp only [hB]
  unfold F_X8_simulateTurn
  simp only [hz, gz8, e1, e2]
  clear hB
  by_cases c0 : J (k % 8) = 0
  · simp only [if_pos c0]
    obtain ⟨c', d', x1, x2⟩ := carry_D (c := cr) hd hW hN
    obtain ⟨s', th', y1, y2⟩ := carries_M (th := md_thinOnes m) hm hW hN
    rw [x1]
    simp only [y1, Option.bind_some]
    exact ⟨_, _, _, _, _, acar A, rfl, fun _ => rfl, ⟨rfl, rfl, rfl, rfl, rfl, rfl, rfl, rfl⟩, x2, y2, acar_WF hW hN⟩
  · simp only [if_neg c0]
    by_cases c1 : 3 ≤ k % 8
    · have g1 : (3 : Int32) ≤ J (k % 8) := (J_le (a := 3) (by omega) (by omega)).mpr c1
      have g2 : (2 : Int32) < J (k % 8) := (J_lt (a := 2) (by omega) (by omega)).mpr (by omega)
      simp only [if_pos g1, if_pos g2]
      obtain ⟨wo, w1, w2⟩ := sstr_D (so := so) hk
      have hM := fun self : (Int64 × Int32 × MDT) → Option (Int32 × MDT) => sstr_M (s31 := (x, J i, m)) (lt0 := md_letters m) (z := x) hk hz (K_X9_simulate_175 (x, J i, m) self)
      simp only [hM]
      obtain ⟨f', u1, u2⟩ := cuts_J (wo := fil (md_letters m) (fun i => J (slt k i)) 12) (s := md_s m) (cd := md_chunks m) (ch := md_chunkMany m) (d := a_se A 0) (sws_AH _ k) (sws_vl k) (by rw [sws_len]; omega) (by omega) (by omega) (hm.1.1 0 (by omega))
      obtain ⟨v, v', d', sd, p', m', A', y1, y2, y3, y4, y5, y6, y7⟩ := tback (p0 := p0) (cd := sm_codes so) (m := (md_thrown m, (md_s m), (md_aside m), (md_base m), (md_saved m), (md_savedMany m), (md_slots m), (md_hasSlot m), (md_text m), (md_length m), (md_begins m), (md_lengths m), (md_streams m), fil (md_letters m) (fun i => J (slt k i)) 12, 12, f', J (cutG (a_se A 0) [] (sws k)).length, (md_homes m), (md_dropped m), (md_madeIn m), (md_madeAt m), (md_putMany m), (md_path m), (md_store m), (md_thinOnes m))) hd hm hW hN w2 (sws_vl k) (by rw [sws_len]; omega) (by rw [sws_len]; omega) rfl u2
      rw [w1]
      simp only [Option.bind_some]
      rw [y1]
      simp only [Option.bind_some]
      rw [sws_len] at u1
      refine ⟨d', sd, p', cr, m', A', rfl, fun self => ?_, y4, y5, y6, y7⟩
      unfold K_X9_simulate_175
      have u1' : F_X9_cuts (md_s (x, J i, m).2.2) (fil (md_letters m) (fun i => J (slt k i)) 12) 12 (md_chunks (x, J i, m).2.2) (md_chunkMany (x, J i, m).2.2) = some (f', J (cutG (a_se A 0) [] (sws k)).length) := u1
      rw [u1', Option.bind_some]
      refine (congrArg (fun z => Option.bind z _) y2).trans ?_
      rw [Option.bind_some]
      show self (x * _ + _, J i + 1, m') = _
      rw [h4]
    · have g1 : ¬ (3 : Int32) ≤ J (k % 8) := fun z => c1 ((J_le (a := 3) (by omega) (by omega)).mp z)
      have g2 : ¬ (2 : Int32) < J (k % 8) := fun z => by have := (J_lt (a := 2) (by omega) (by omega)).mp z; omega
      simp only [if_neg g1, if_neg g2]
      rcases tdel hd hm hW (J (k / 8 % 8)) with ⟨f1, f2⟩ | ⟨b, d', s', f1, f2, f3, f4, f5, f6, f7, f8⟩
      · rw [f1]
        simp only [f2, Option.bind_some, if_true]
        exact ⟨_, _, _, _, _, A, rfl, fun _ => rfl, MB_rf m, hd, hm, WF_mono hW (by omega)⟩
      · have h10 : ¬ (1 : Int32) = 0 := by decide
        rw [f3]
        simp only [f4, f5, Option.bind_some, if_neg h10]
        exact ⟨_, _, _, _, _, adel A b, rfl, fun _ => rfl, ⟨rfl, rfl, rfl, rfl, rfl, rfl, rfl, rfl⟩, f6, f7, WF_mono f8 (by omega)⟩
