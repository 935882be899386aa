/-! P29, THE PURE SIDE: the actions, and what is there behind them -/
theorem backup_V {d : DKT} {A : AT} {n : Nat} {x : TXT} {ws : List Nat} {pa : PAT} {H : List AT} (hd : DR d A) (hW : WF A n) (hN : n ≤ 600) (ht : TW ws x) (h1 : 1 ≤ ws.length) (h30 : ws.length ≤ 30) (hP : PC pa H) (so : SMT) (p0 : PLT) (hf : fb (a_bs A) < 8) (hl24 : (pm A ws (a_se A 2)).1.length ≤ 24) : ∃ d' so' p' pa', F_X8_backup x d so p0 pa 0 = some (0, J (fb (a_bs A)), d', so', p', pa') ∧ DR d' (abak A (fb (a_bs A)) (pm A ws (a_se A 2))) ∧ WF (abak A (fb (a_bs A)) (pm A ws (a_se A 2))) (n + 1) ∧ PC pa' (tl14 H ++ [A]) := by
  obtain ⟨wo, r1, r2⟩ := rdW ht h1 h30 so
  obtain ⟨sd, p2, z1, z2, z3, z4, z5, z6⟩ := planWith_A (p0 := p0) (cd := sm_codes so) (ch := 0) hd hW hN r2 ht.2.1 h1 h30
  obtain ⟨k15, k1, kv⟩ := kst_all (d := a_se A 0) ht.2.1 h1 h30
  have hMI := pm_MI hW hN ht.2.1 h1 h30 (a_se A 2)
  have hMn : MI (a_cs A) (a_nx A) (nch A ws) (pm A ws (a_se A 2)) := hMI _ (Nat.le_refl _)
  have hMl := MI_len hMn
  have hl := WF_len hW
  have hpm := hMn.2.2.2.2.2.2.2.1
  have h15 : nch A ws ≤ 15 := k15
  have hallow := allows_D (L := (pm A ws (a_se A 2)).1.length) hd hW hMn.2.2.2.1 (by omega) z5
  obtain ⟨d', y1, y2⟩ := addBackup_D hd hW hN hf z2 z3 hMI hl24 (fun j p hp => phs_in hp) z6
  obtain ⟨pa', q1, q2⟩ := remember_V hP hd hW
  refine ⟨d', sd, p2, pa', ?_, y2, abak_WF hW h15 hMn hl24, q2⟩
  unfold F_X8_backup
  rw [r1]
  simp only [Option.bind_some]
  rw [if_neg (show ¬ (1 : Int32) = 0 by decide), z1]
  simp only [Option.bind_some]
  rw [hallow]
  simp only [Option.bind_some]
  have ok : fb (a_bs A) < 8 ∧ (pm A ws (a_se A 2)).1.length ≤ 24 := ⟨hf, hl24⟩
  rw [if_pos ok, if_neg (show ¬ (1 : Int32) = 0 by decide), q1]
  simp only [Option.bind_some]
  rw [y1]
  rfl
theorem delete_V {d : DKT} {A : AT} {n b : Nat} {pa : PAT} {H : List AT} (hd : DR d A) (hW : WF A n) (hP : PC pa H) (h8 : b < 8) (h1 : 1 ≤ (a_bs A b).length) : ∃ v d' pa', F_X8_delete d pa (J b) = some (0, v, d', pa') ∧ DR d' (adel A b) ∧ WF (adel A b) n ∧ PC pa' (tl14 H ++ [A]) := by
  obtain ⟨d', y1, y2⟩ := rem_D hd hW h8 h1
  obtain ⟨pa', q1, q2⟩ := remember_V hP hd hW
  refine ⟨J (sm (lv (a_cs A) (a_bs A) 8) (a_cs A).length - sm (lv (a_cs A) (a_bs A) b) (a_cs A).length), d', pa', ?_, y2, adel_WF h8 hW, q2⟩
  unfold F_X8_delete
  rw [has_V hd hW h8 h1]
  simp only [Option.bind_some]
  rw [if_neg (show ¬ J 1 = 0 by decide), q1]
  simp only [Option.bind_some]
  rw [y1]
  rfl
theorem carry_V {d : DKT} {A : AT} {n : Nat} {pa : PAT} {H : List AT} (hd : DR d A) (hW : WF A n) (hN : n ≤ 600) (hP : PC pa H) (cr : CRT) : ∃ v d' cr' pa', F_X8_carry d cr pa = some (v, d', cr', pa') ∧ DR d' (acar A) ∧ WF (acar A) (n + 1) ∧ PC pa' (tl14 H ++ [A]) := by
  obtain ⟨c', d', y1, y2⟩ := carry_D (c := cr) hd hW hN
  obtain ⟨pa', q1, q2⟩ := remember_V hP hd hW
  refine ⟨J (wm (TH A) A), d', c', pa', ?_, y2, acar_WF hW hN, q2⟩
  unfold F_X8_carry
  rw [q1]
  simp only [Option.bind_some]
  rw [y1]
  rfl
theorem lo_hi {i : Nat} (hi : i < 5) : lo5 i < 2 ^ 31 ∧ hi5 i < 2 ^ 31 := by
  unfold lo5 hi5
  constructor
  · split
    · omega
    · split <;> omega
  · repeat (first | omega | split)
theorem set_V {d : DKT} {A : AT} {n i w : Nat} {pa : PAT} {H : List AT} (hd : DR d A) (hW : WF A n) (hP : PC pa H) (hi : i < 5) (h1 : lo5 i ≤ w) (h2 : w ≤ hi5 i) : ∃ d' pa', F_X8_set d pa (J i) (J w) = some (0, J (a_se A i), d', pa') ∧ DR d' (aset A i w) ∧ WF (aset A i w) n ∧ PC pa' (tl14 H ++ [A]) := by
  obtain ⟨b1, b2⟩ := lo_hi hi
  have hs : F_X8_isSetting (J i) (J w) = some 1 := by
    rw [(isSet_key (J w) hi).1, if_neg (show ¬ J w < J (lo5 i) from fun z => by have := (J_lt (by omega) (by omega)).mp z; omega), if_neg (show ¬ J (hi5 i) < J w from fun z => by have := (J_lt (by omega) (by omega)).mp z; omega)]
  obtain ⟨d', y1, y2⟩ := changeSetting_D hi hd hs
  obtain ⟨pa', q1, q2⟩ := remember_V hP hd hW
  refine ⟨d', pa', ?_, y2, aset_WF hi h1 h2 hW, q2⟩
  unfold F_X8_set
  rw [hs]
  simp only [Option.bind_some]
  rw [if_neg (show ¬ (1 : Int32) = 0 by decide), q1]
  simp only [Option.bind_some]
  rw [y1]
  rfl
/-! which backups are there -/
theorem del_T : ∀ (t : Fin 256) (b : Fin 8), J t.1 &&& (((1 : Int32) <<< (J b.1 &&& 31)) ^^^ (-1)) = J (t.1 &&& (255 ^^^ 2 ^ b.1)) := by decide +kernel
theorem add_T : ∀ (t : Fin 256) (b : Fin 8), J t.1 ||| ((1 : Int32) <<< (J b.1 &&& 31)) = J (t.1 ||| 2 ^ b.1) := by decide +kernel
theorem t255 {c : Nat} (h : c < 8) : Nat.testBit 255 c = true := (by decide +kernel : ∀ b : Fin 8, Nat.testBit 255 b.1 = true) ⟨c, h⟩
theorem del_B {t b c : Nat} (ht : t < 256) (hc : c < 8) : (t &&& (255 ^^^ 2 ^ b)) < 256 ∧ (t &&& (255 ^^^ 2 ^ b)).testBit c = (t.testBit c && decide (c ≠ b)) := by
  refine ⟨Nat.lt_of_le_of_lt Nat.and_le_left ht, ?_⟩
  rw [Nat.testBit_and, Nat.testBit_xor, t255 hc, Nat.testBit_two_pow]
  by_cases q : b = c
  · subst q
    simp
  · have q2 : c ≠ b := fun z => q z.symm
    simp [q, q2]
theorem add_B {t b c : Nat} (ht : t < 256) (hb : b < 8) : (t ||| 2 ^ b) < 256 ∧ (t ||| 2 ^ b).testBit c = (t.testBit c || decide (c = b)) := by
  have h2 : 2 ^ b < 2 ^ 8 := Nat.pow_lt_pow_right (by omega) hb
  refine ⟨Nat.or_lt_two_pow (n := 8) ht h2, ?_⟩
  rw [Nat.testBit_or, Nat.testBit_two_pow]
  by_cases q : b = c
  · subst q
    simp
  · have q2 : ¬ c = b := fun z => q z.symm
    simp [q, q2]
theorem all_T : ∀ t : Fin 256, (∀ b : Fin 8, t.1.testBit b.1 = true) → t.1 = 255 := by decide +kernel
theorem MSK_del {t b : Nat} {A : AT} (h : MSK t A) (h8 : b < 8) : MSK (t &&& (255 ^^^ 2 ^ b)) (adel A b) := by
  refine ⟨(del_B (c := 0) h.1 (by omega)).1, fun c hc => ?_⟩
  have h1 := (del_B (b := b) h.1 hc).2
  rw [h1, h.2 c hc]
  show _ = decide (1 ≤ (if c = b then [] else a_bs A c).length)
  by_cases q : c = b
  · rw [if_pos q, decide_eq_false (show ¬ c ≠ b from fun z => z q), Bool.and_false]
    rfl
  · rw [if_neg q, decide_eq_true (show c ≠ b from q), Bool.and_true]
theorem MSK_add {t b : Nat} {A : AT} {M : MK} (h : MSK t A) (h8 : b < 8) (hM : 1 ≤ M.2.2.1.length) : MSK (t ||| 2 ^ b) (abak A b M) := by
  refine ⟨(add_B (c := 0) h.1 h8).1, fun c hc => ?_⟩
  have h1 := (add_B (c := c) h.1 h8).2
  rw [h1, h.2 c hc]
  show _ = decide (1 ≤ (if c = b then M.2.2.1 else a_bs A c).length)
  by_cases q : c = b
  · rw [if_pos q, decide_eq_true q, Bool.or_true, decide_eq_true hM]
  · rw [if_neg q, decide_eq_false q, Bool.or_false]
theorem MSK_car {t : Nat} {A : AT} (h : MSK t A) : MSK t (acar A) := by
  refine ⟨h.1, fun c hc => ?_⟩
  rw [h.2 c hc]
  show _ = decide (1 ≤ (rdb (crf A) (a_bs A) 8 c).length)
  rw [rdb8 _ _ hc, List.length_map]
theorem MSK_set {t i w : Nat} {A : AT} (h : MSK t A) : MSK t (aset A i w) := h
theorem fb_255 {t : Nat} {A : AT} (h : MSK t A) (hn : t ≠ 255) : fb (a_bs A) < 8 := by
  obtain ⟨f1, f2, f3⟩ := fi_spec (fun j => decide ((a_bs A j).length = 0)) 8
  rcases Nat.lt_or_ge (fb (a_bs A)) 8 with z | z
  · exact z
  · refine absurd (all_T ⟨t, h.1⟩ fun b => ?_) hn
    have hb := of_decide_eq_false (f2 b.1 (Nat.lt_of_lt_of_le b.2 z))
    have h2 := h.2 b.1 b.2
    rw [decide_eq_true (by omega)] at h2
    exact h2
theorem fb_not {t : Nat} {A : AT} (h : MSK t A) (hf : fb (a_bs A) < 8) : t ≠ 255 := by
  intro z
  subst z
  have h2 := h.2 _ hf
  rw [t255 hf, fb_free hf] at h2
  exact absurd h2 (by decide)
