/-! P29, THE PURE SIDE: the law's action by two cells -/
def s4 (v : Int32) : Int32 := v >>> (4 &&& 31)
/-- the letters that the law types for it -/
def wsA (v w : Int32) : List Nat := wl w (1 + lwn (s4 v) 30)
noncomputable def actR (A : AT) (ws : List Nat) (v w : Int32) (t : Nat) : Nat × AT × List Nat :=
  if 2 < lob v 3 then
    (if t = 255 ∨ 24 < (pm A (wsA v w) (a_se A 2)).1.length then (t, acar A, wsA v w) else (t ||| 2 ^ fb (a_bs A), abak A (fb (a_bs A)) (pm A (wsA v w) (a_se A 2)), wsA v w))
  else if lob v 3 = 0 then
    (if t.testBit (lwn (s4 v) 8) = true then (t &&& (255 ^^^ 2 ^ lwn (s4 v) 8), adel A (lwn (s4 v) 8), ws) else (t, acar A, ws))
  else if lob v 3 = 1 then (t, acar A, ws)
  else (t, aset A (lwn (s4 v) 5) (if lwn (s4 v) 5 = 3 then 1 + lwn w 100 else 2 + lwn w 3), ws)
theorem actR_ws (A : AT) (ws ws' : List Nat) (v w : Int32) (t : Nat) : (actR A ws v w t).1 = (actR A ws' v w t).1 ∧ (actR A ws v w t).2.1 = (actR A ws' v w t).2.1 := by
  unfold actR
  by_cases c : 2 < lob v 3
  · rw [if_pos c, if_pos c]; exact ⟨rfl, rfl⟩
  rw [if_neg c, if_neg c]
  by_cases c0 : lob v 3 = 0
  · rw [if_pos c0, if_pos c0]
    by_cases c3 : t.testBit (lwn (s4 v) 8) = true
    · rw [if_pos c3, if_pos c3]; exact ⟨rfl, rfl⟩
    · rw [if_neg c3, if_neg c3]; exact ⟨rfl, rfl⟩
  rw [if_neg c0, if_neg c0]
  by_cases c1 : lob v 3 = 1
  · rw [if_pos c1, if_pos c1]; exact ⟨rfl, rfl⟩
  · rw [if_neg c1, if_neg c1]; exact ⟨rfl, rfl⟩
/-- what holds behind it -/
def ACT (n : Nat) (H : List AT) (R : Nat × AT × List Nat) (A : AT) (o : Option (Int32 × TXT × DKT × SMT × PLT × CRT × PAT)) : Prop := ∃ x' d' so' p' cr' pa', o = some (J R.1, x', d', so', p', cr', pa') ∧ DR d' R.2.1 ∧ WF R.2.1 (n + 1) ∧ MSK R.1 R.2.1 ∧ TW R.2.2 x' ∧ R.2.2.length ≤ 30 ∧ PC pa' (tl14 H ++ [A])
theorem act_car {d : DKT} {A : AT} {n t : Nat} {x : TXT} {ws : List Nat} {pa : PAT} {H : List AT} {so : SMT} {p0 : PLT} {cr : CRT} (hd : DR d A) (hW : WF A n) (hN : n ≤ 600) (ht : TW ws x) (h30 : ws.length ≤ 30) (hM : MSK t A) (hP : PC pa H) : ACT n H (t, acar A, ws) A ((F_X8_carry d cr pa).bind fun v66 => some (J t, x, v66.2.1, so, p0, v66.2.2.1, v66.2.2.2)) := by
  obtain ⟨v, d', cr', pa', y1, y2, y3, y4⟩ := carry_V hd hW hN hP cr
  rw [y1, Option.bind_some]
  exact ⟨x, d', so, p0, cr', pa', rfl, y2, y3, MSK_car hM, ht, h30, y4⟩
theorem act_V {d : DKT} {A : AT} {n t : Nat} {x : TXT} {ws : List Nat} {pa : PAT} {H : List AT} (hd : DR d A) (hW : WF A n) (hN : n ≤ 600) (ht : TW ws x) (h30 : ws.length ≤ 30) (hM : MSK t A) (hP : PC pa H) (so : SMT) (p0 : PLT) (cr : CRT) (v w : Int32) : ACT n H (actR A ws v w t) A (F_L_act x d so p0 cr pa v w (J t)) := by
  have hq := lob3 v
  have hl8 : F_L_low (v >>> (4 &&& 31)) 8 = some (J (lwn (s4 v) 8)) := low_V (s4 v) (n := 8) (by omega) (by omega)
  have hl30 : F_L_low (v >>> (4 &&& 31)) 30 = some (J (lwn (s4 v) 30)) := low_V (s4 v) (n := 30) (by omega) (by omega)
  have hl5 : F_L_low (v >>> (4 &&& 31)) 5 = some (J (lwn (s4 v) 5)) := low_V (s4 v) (n := 5) (by omega) (by omega)
  have b8 := lwn_lt (s4 v) (n := 8) (by omega)
  have b30 := lwn_lt (s4 v) (n := 30) (by omega)
  have b5 := lwn_lt (s4 v) (n := 5) (by omega)
  unfold F_L_act actR
  rw [and7, hl8, Option.bind_some, J_toInt (by omega)]
  by_cases c : 2 < lob v 3
  · rw [if_pos (show (((lob v 3 : Nat) : Int) < 0 ∨ 2 < ((lob v 3 : Nat) : Int)) by omega), if_pos c, hl30, Option.bind_some]
    obtain ⟨x1, t1, t2⟩ := type_V w (n := 1 + lwn (s4 v) 30) (by omega) x
    rw [show (1 : Int32) + J (lwn (s4 v) 30) = J (1 + lwn (s4 v) 30) from J_add 1 _, t1, Option.bind_some]
    have t2 : TW (wsA v w) x1 := t2
    have hws : (wsA v w).length = 1 + lwn (s4 v) 30 := wl_len _ _
    by_cases c2 : t = 255
    · rw [if_pos (show J t = 255 by rw [c2]; rfl), if_pos (Or.inl c2)]
      unfold J_L_act_153
      exact act_car hd hW hN t2 (by omega) hM hP
    · have ht256 := hM.1
      rw [if_neg (show ¬ J t = 255 from fun z => c2 ((J_eq (b := 255) (by omega) (by omega)).mp z))]
      obtain ⟨so', p', z1⟩ := cb_V hd hW hN t2 (by omega) (by omega) so p0
      rw [z1, Option.bind_some]
      dsimp only
      have hlen : (pm A (wsA v w) (a_se A 2)).1.length ≤ 200 := by
        have h1 := MI_len (pm_MI hW hN t2.2.1 (by omega) (by omega) (a_se A 2) _ (Nat.le_refl _))
        have h2 := (pm_MI hW hN t2.2.1 (by omega) (by omega) (a_se A 2) _ (Nat.le_refl _)).2.2.2.2.2.2.2.1
        have h3 : nch A (wsA v w) ≤ 15 := (kst_all (d := a_se A 0) t2.2.1 (by omega) (by omega)).1
        have h4 := WF_len hW
        have h5 : (pm A (wsA v w) (a_se A 2)).1.length = (mk (a_se A 1) (a_cs A) (a_nx A) (kst (a_se A 0) (wsA v w)) (phs A (wsA v w) (a_se A 2)) (nch A (wsA v w))).1.length := rfl
        omega
      by_cases c3 : 24 < (pm A (wsA v w) (a_se A 2)).1.length
      · rw [if_neg (show ¬ J (pm A (wsA v w) (a_se A 2)).1.length ≤ 24 from fun z => by have := (J_le (b := 24) (by omega) (by omega)).mp z; omega), if_pos (Or.inr c3)]
        unfold J_L_act_153
        exact act_car hd hW hN t2 (by omega) hM hP
      · rw [if_pos (show J (pm A (wsA v w) (a_se A 2)).1.length ≤ 24 from (J_le (b := 24) (by omega) (by omega)).mpr (by omega)), if_neg (show ¬ (t = 255 ∨ 24 < (pm A (wsA v w) (a_se A 2)).1.length) from fun z => z.elim c2 c3)]
        have hf := fb_255 hM c2
        obtain ⟨d', so2, p2, pa', y1, y2, y3, y4⟩ := backup_V hd hW hN t2 (by omega) (by omega) hP so' p' hf (by omega)
        rw [y1, Option.bind_some, z0_z]
        dsimp only
        have hadd := add_T ⟨t, ht256⟩ ⟨_, hf⟩
        dsimp only at hadd
        rw [hadd]
        have hMn := pm_MI hW hN t2.2.1 (by omega) (by omega) (a_se A 2) _ (Nat.le_refl _)
        have hn1 : 1 ≤ nch A (wsA v w) := (kst_all (d := a_se A 0) t2.2.1 (by omega) (by omega)).2.1
        exact ⟨x1, d', so2, p2, cr, pa', rfl, y2, y3, MSK_add hM hf (by rw [show (pm A (wsA v w) (a_se A 2)).2.2.1.length = nch A (wsA v w) from hMn.2.1]; exact hn1), t2, by show (wsA v w).length ≤ 30; omega, y4⟩
  rw [if_neg (show ¬ (((lob v 3 : Nat) : Int) < 0 ∨ 2 < ((lob v 3 : Nat) : Int)) by omega), if_neg c]
  by_cases c0 : lob v 3 = 0
  · have hth : F_L_isThere (J t) (J (lwn (s4 v) 8)) = some (if t.testBit (lwn (s4 v) 8) = true then 1 else 0) := isThere_T ⟨t, hM.1⟩ ⟨_, b8⟩
    rw [if_pos (show J (lob v 3) = 0 by rw [c0]; rfl), if_pos c0, hth, Option.bind_some]
    by_cases c3 : t.testBit (lwn (s4 v) 8) = true
    · rw [if_pos c3, if_pos c3, if_neg (show ¬ (1 : Int32) = 0 by decide)]
      have h1 : 1 ≤ (a_bs A (lwn (s4 v) 8)).length := by
        have := hM.2 _ b8
        rw [c3] at this
        exact of_decide_eq_true this.symm
      obtain ⟨u, d', pa', y1, y2, y3, y4⟩ := delete_V hd hW hP b8 h1
      rw [y1, Option.bind_some, z0_z]
      dsimp only
      have hdel := del_T ⟨t, hM.1⟩ ⟨_, b8⟩
      dsimp only at hdel
      rw [hdel]
      exact ⟨x, d', so, p0, cr, pa', rfl, y2, WF_mono y3 (by omega), MSK_del hM b8, ht, h30, y4⟩
    · rw [if_neg c3, if_neg c3, if_pos rfl]
      exact act_car hd hW hN ht h30 hM hP
  rw [if_neg (show ¬ J (lob v 3) = 0 from fun z => c0 ((J_eq (b := 0) (by omega) (by omega)).mp z)), if_neg c0]
  by_cases c1 : lob v 3 = 1
  · rw [if_pos (show J (lob v 3) = 1 by rw [c1]; rfl), if_pos c1]
    exact act_car hd hW hN ht h30 hM hP
  rw [if_neg (show ¬ J (lob v 3) = 1 from fun z => c1 ((J_eq (b := 1) (by omega) (by omega)).mp z)), if_neg c1, hl5, Option.bind_some, Option.bind_some]
  have fin : ∀ u : Nat, lo5 (lwn (s4 v) 5) ≤ u → u ≤ hi5 (lwn (s4 v) 5) → ACT n H (t, aset A (lwn (s4 v) 5) u, ws) A (J_L_act_116 d pa (J (lwn (s4 v) 5)) (J t) x so p0 cr (J u)) := by
    intro u h1 h2
    obtain ⟨d', pa', y1, y2, y3, y4⟩ := set_V hd hW hP b5 h1 h2
    unfold J_L_act_116
    rw [y1, Option.bind_some, z0_z]
    exact ⟨x, d', so, p0, cr, pa', rfl, y2, WF_mono y3 (by omega), MSK_set hM, ht, h30, y4⟩
  by_cases c5 : lwn (s4 v) 5 = 3
  · have h100 : F_L_low w 100 = some (J (lwn w 100)) := low_V w (n := 100) (by omega) (by omega)
    have b100 := lwn_lt w (n := 100) (by omega)
    rw [if_pos (show J (lwn (s4 v) 5) = 3 by rw [c5]; rfl), if_pos c5, h100, Option.bind_some, show (1 : Int32) + J (lwn w 100) = J (1 + lwn w 100) from J_add 1 _]
    refine fin _ ?_ ?_
    · rw [c5]
      show 1 ≤ _
      omega
    · rw [c5]
      show _ ≤ 100
      omega
  · have h3 : F_L_low w 3 = some (J (lwn w 3)) := low_V w (n := 3) (by omega) (by omega)
    have b3 := lwn_lt w (n := 3) (by omega)
    rw [if_neg (show ¬ J (lwn (s4 v) 5) = 3 from fun z => c5 ((J_eq (b := 3) (by omega) (by omega)).mp z)), if_neg c5, h3, Option.bind_some, show (2 : Int32) + J (lwn w 3) = J (2 + lwn w 3) from J_add 2 _]
    refine fin _ ?_ ?_
    · unfold lo5
      repeat (first | omega | split)
    · unfold hi5
      rcases (show lwn (s4 v) 5 = 0 ∨ lwn (s4 v) 5 = 1 ∨ lwn (s4 v) 5 = 2 ∨ lwn (s4 v) 5 = 4 by omega) with z | z | z | z <;> rw [z] <;> simp <;> omega
