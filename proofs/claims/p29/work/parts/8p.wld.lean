/-! THE PURE SIDE: wouldPut, bestLimit -/
/-- the chunks of a stream -/
def kst (d : Nat) (ws : List Nat) (i : Nat) : List Nat := (cutG d [] ws)[i]?.getD []
theorem kst_all {d : Nat} {ws : List Nat} (hv : vl ws) (h1 : 1 ≤ ws.length) (h30 : ws.length ≤ 30) : (cutG d [] ws).length ≤ 15 ∧ 1 ≤ (cutG d [] ws).length ∧ ∀ i, i < (cutG d [] ws).length → vch (kst d ws i) := by
  have hlen := cutG_len d ws []
  simp only [List.length_nil] at hlen
  have hne := cutG_ne d ws [] (fun q => by rw [q] at h1; simp at h1)
  refine ⟨by omega, ?_, fun i hi => ?_⟩
  · rcases Nat.lt_or_ge 0 (cutG d [] ws).length with z | z
    · exact z
    · exact absurd (List.length_eq_zero_iff.mp (by omega)) hne
  · unfold kst
    rw [List.getElem?_eq_getElem hi]
    exact cutG_v d ws [] (by simp) (fun x hx => by cases hx) hv _ (List.getElem_mem hi)
theorem AH_kst {f : Nat → Int32} {d : Nat} {ws : List Nat} {g : List Nat → Int32} (h : AH f ((cutG d [] ws).map g)) {i : Nat} (hi : i < (cutG d [] ws).length) : f i = g (kst d ws i) := by
  refine h i _ ?_
  unfold kst
  rw [List.getElem?_map, List.getElem?_eq_getElem hi]
  rfl
theorem planWith_A {d : DKT} {A : AT} {N : Nat} {wo cd : Nat → Int32} {ch : Int32} {ws : List Nat} {p0 : PLT} (hd : DR d A) (hW : WF A N) (hN : N ≤ 600) (hwo : AH wo (ws.map J)) (hv : vl ws) (h1 : 1 ≤ ws.length) (h30 : ws.length ≤ 30) : ∃ sd p2, F_X8_planWith (wo, cd, J ws.length, ch) p0 d = some (sd, p2) ∧ SMc sd (kst (a_se A 0) ws) (cutG (a_se A 0) [] ws).length ∧ pl_chunks p2 = J (cutG (a_se A 0) [] ws).length ∧ pl_puts p2 = J (mk (a_se A 1) (a_cs A) (a_nx A) (kst (a_se A 0) ws) (kh (fun j => hm (a_cs A) (kst (a_se A 0) ws j)) (cutG (a_se A 0) [] ws).length (a_se A 2)) (cutG (a_se A 0) [] ws).length).2.2.2 ∧ pl_newContainers p2 = J ((mk (a_se A 1) (a_cs A) (a_nx A) (kst (a_se A 0) ws) (kh (fun j => hm (a_cs A) (kst (a_se A 0) ws j)) (cutG (a_se A 0) [] ws).length (a_se A 2)) (cutG (a_se A 0) [] ws).length).1.length - (a_cs A).length) ∧ ∀ j, j < (cutG (a_se A 0) [] ws).length → pl_entries p2 j = J (ex (mk (a_se A 1) (a_cs A) (a_nx A) (kst (a_se A 0) ws) (kh (fun j => hm (a_cs A) (kst (a_se A 0) ws j)) (cutG (a_se A 0) [] ws).length (a_se A 2)) (cutG (a_se A 0) [] ws).length).1 (rf (mk (a_se A 1) (a_cs A) (a_nx A) (kst (a_se A 0) ws) (kh (fun j => hm (a_cs A) (kst (a_se A 0) ws j)) (cutG (a_se A 0) [] ws).length (a_se A 2)) (cutG (a_se A 0) [] ws).length).2.2.1 j)) := by
  have hl := WF_len hW
  have hn := WF_Wn hW
  obtain ⟨w1, w2, w3, w4, w5, w6⟩ := hW
  have s0 := w3.1
  have s1 := w3.2.1
  have s2 := w3.2.2.2.2.1
  have s3 := w3.2.2.2.2.2.1
  obtain ⟨k15, k1, kv⟩ := kst_all (d := a_se A 0) hv h1 h30
  obtain ⟨f', c1, c2⟩ := cut_J (wo := wo) (cd := cd) (ch := ch) hwo hv h30 (d := a_se A 0) (by omega) (by omega)
  have hS : SMc (wo, f', J ws.length, J (cutG (a_se A 0) [] ws).length) (kst (a_se A 0) ws) (cutG (a_se A 0) [] ws).length := ⟨k15, rfl, fun i hi => ⟨AH_kst c2 hi, kv i hi⟩⟩
  obtain ⟨p2, z1, z2, z3, z4, z5⟩ := layOut_P (p0 := p0) hd.1 hn w1 w3 hl (by omega) hS (lim := a_se A 2) s2 s3
  refine ⟨(wo, f', J ws.length, J (cutG (a_se A 0) [] ws).length), p2, ?_, hS, z2, z3, z4, fun j hj => (z5 j hj).2⟩
  unfold F_X8_planWith
  rw [show F_X1_settingAt d 0 = some (J (a_se A 0)) from settingAt_D (i := 0) hd.1 (by omega)]
  simp only [Option.bind_some]
  rw [c1]
  simp only [Option.bind_some]
  rw [show F_X1_settingAt d 2 = some (J (a_se A 2)) from settingAt_D (i := 2) hd.1 (by omega)]
  simp only [Option.bind_some]
  rw [z1]
  rfl
theorem fil_back {s s' a : Nat → Int32} {k : Nat} (hk : k < 1270) : fil s' (fil a s 1270) 1270 k = s k := by
  rw [fil_at, if_pos hk, fil_at, if_pos hk]
theorem wouldPut_A {d : DKT} {m : MDT} {A : AT} {n : Nat} {tx : TXT} (hN : n ≤ 600) (ht : TI tx (md_text m) (md_length m)) (hd : DR d A) (hm : MR (md_s m) A) (hW : WF A n) (so : SMT) (p0 : PLT) (x : Int32) : (∃ v so' p' m', F_X8_wouldPut tx d so p0 x = some (0, v, so', p') ∧ F_X9_wouldPut m x = some (v, m') ∧ md_thrown m' = 0 ∧ SM m m') ∨ (∃ so' m', F_X8_wouldPut tx d so p0 x = some (1, 0, so', p0) ∧ F_X9_wouldPut m x = some (0, m') ∧ md_thrown m' = 1 ∧ SM m m') := by
  have hl := WF_len hW
  unfold F_X8_wouldPut F_X9_wouldPut
  rcases rd ht so (md_begins m) (md_lengths m) (md_streams m) x with ⟨e1, b, l, ss, e2⟩ | ⟨p, ws, wo, hx, hp, hv, hl1, hl30, e1, e2, b, l, ss, e3, e4⟩
  · right
    rw [e1, e2]
    simp only [Option.bind_some]
    rw [if_pos trivial]
    exact ⟨_, _, rfl, rfl, rfl, SM_rf rfl rfl rfl rfl rfl rfl rfl⟩
  left
  have s0 := hW.2.2.1.1
  have s1 := hW.2.2.1.2.1
  obtain ⟨sd, p2, z1, z2, z3, z4, z5, z6⟩ := planWith_A (p0 := p0) (cd := sm_codes so) (ch := 0) hd hW hN e2 hv hl1 hl30
  obtain ⟨lt', f2, c3, c4⟩ := e4 (md_s m) (md_letters m) (md_chunks m) (md_letterMany m) (md_chunkMany m) (a_se A 0) (hm.1.1 0 (by omega)) (by omega) (by omega)
  obtain ⟨k15, k1, kv⟩ := kst_all (d := a_se A 0) hv hl1 hl30
  obtain ⟨s', hf, hg, mi, ma, y1, y2, y3, y4⟩ := makes_M (hm0 := md_homes m) (dr0 := md_dropped m) (mi0 := md_madeIn m) (ma0 := md_madeAt m) (pm0 := md_putMany m) (ck := f2) (ks := kst (a_se A 0) ws) (lim := a_se A 2) hm.1 hW.1 hW.2.2.1 hl (by have := hW.2.2.2.2.2; omega) k15 (fun j hj => ⟨AH_kst c4 hj, kv j hj⟩) hW.2.2.1.2.2.2.2.2.1
  have hgd : ∀ (x : Option (Int32 × MDT)), gd 2 1270 x = x := fun x => gd_J (a := 2) (by omega) (by omega)
  have hs2 : md_s m (Int32.toNatClampNeg 2) = J (a_se A 2) := hm.1.1 2 (by omega)
  rw [e1, e3]
  simp only [Option.bind_some]
  rw [if_neg (show ¬ (1 : Int32) = 0 by decide), if_neg (show ¬ (1 : Int32) = 0 by decide), z1, c3, putAside_M]
  simp only [Option.bind_some]
  rw [hgd, hs2, y1]
  simp only [Option.bind_some]
  rw [takeBack_M, z4]
  simp only [Option.bind_some]
  exact ⟨_, _, _, _, rfl, rfl, rfl, ⟨fun k hk => fil_back hk, rfl, rfl, rfl, rfl, rfl, rfl⟩⟩
theorem i_wouldPut {n : Nat} {st : STT} {q1 q2 q3 : Int32} (hN : n < 512) (h : Inv n st) : ∃ st', F_T_wouldPut st q1 q2 q3 = some st' ∧ Inv (n + 1) st' := by
  obtain ⟨A, H, Sl, h1, h2, h3, h4, h5⟩ := id h
  unfold F_T_wouldPut F_X9_thrown
  rcases wouldPut_A (by omega) h1 h2 h3 h4 (S_stream st) (S_plan st) q1 with ⟨v, so', p', m', a1, a2, a3, a4⟩ | ⟨so', m', a1, a2, a3, a4⟩
  · rw [a1, a2]
    simp only [Option.bind_some]
    rw [if_pos (by decide), if_pos (by exact a3), if_pos (by rfl), if_pos (by rfl)]
    exact ⟨_, rfl, Inv_SM h a4 _ _ _ _ _ _⟩
  · rw [a1, a2]
    simp only [Option.bind_some]
    rw [if_pos (by decide), if_pos (by exact a3), if_neg (by decide)]
    exact ⟨_, rfl, Inv_SM h a4 _ _ _ _ _ _⟩
/-- the best of the limits up to k, and what it costs -/
def bst (c : Nat → Nat) : Nat → Int32 × Nat
  | 0 => (NN, 0)
  | k + 1 => if (bst c k).1 = NN ∨ c (k + 1) < (bst c k).2 then (J (k + 1), c (k + 1)) else bst c k
theorem bst_le (c : Nat → Nat) (hc : ∀ k, c k ≤ 30) : ∀ k, (bst c k).2 ≤ 30 := by
  intro k
  induction k with
  | zero => exact Nat.zero_le _
  | succ k ih =>
    unfold bst
    split
    · exact hc _
    · exact ih
theorem ur_le (rm : Nat) (path : Nat → Nat) : ∀ k, (ur rm path k).2.2 ≤ k := by
  intro k
  induction k with
  | zero => exact Nat.le_refl _
  | succ k ih =>
    show (ur rm path k).2.2 + (if ua (ur rm path k) (path k) < (ur rm path k).1 then 0 else 1) ≤ k + 1
    split <;> omega
/-- what a backup with this limit would cost -/
noncomputable def cst (A : AT) (ks : Nat → List Nat) (n lim : Nat) : Nat := (mk (a_se A 1) (a_cs A) (a_nx A) ks (kh (fun j => hm (a_cs A) (ks j)) n lim) n).2.2.2 + (ur (a_se A 4) (fun i => (rf (mk (a_se A 1) (a_cs A) (a_nx A) ks (kh (fun j => hm (a_cs A) (ks j)) n lim) n).2.2.1 i).1) n).2.2
theorem mk_MI {A : AT} {N n lim : Nat} {ks : Nat → List Nat} (hW : WF A N) (hN : N ≤ 600) (h15 : n ≤ 15) (hv : ∀ j, j < n → vch (ks j)) : MI (a_cs A) (a_nx A) n (mk (a_se A 1) (a_cs A) (a_nx A) ks (kh (fun j => hm (a_cs A) (ks j)) n lim) n) := by
  obtain ⟨w1, w2, w3, w4, w5, w6⟩ := hW
  refine MI_all w1 hv w3.2.2.1 w3.2.2.2.1 (by omega) (fun j p _ hp => ?_) n (Nat.le_refl _)
  unfold kh at hp
  split at hp
  · cases hp
  · obtain ⟨h1, h2, h3⟩ := lastP_some hp
    exact ⟨h1, of_decide_eq_true h2⟩
theorem best8 {d : DKT} {A : AT} {N n : Nat} {sd : SMT} {ks : Nat → List Nat} (hd : DR d A) (hW : WF A N) (hN : N ≤ 600) (hS : SMc sd ks n) : ∀ (x k fuel : Nat) (p0 : PLT) (so : SOT), k + x = 9 → x < fuel → ∃ p' so', lp (B_X8_bestLimit_45 sd d) fuel ((bst (cst A ks n) k).1, J (bst (cst A ks n) k).2, J (k + 1), p0, so) = some (0, (bst (cst A ks n) 9).1, sd, p', so') := by
  have hl := WF_len hW
  have hn := WF_Wn hW
  have hst : 1 ≤ a_se A 4 ∧ a_se A 4 ≤ 4 := ⟨hW.2.2.1.2.2.2.2.2.2.2.2.1, hW.2.2.1.2.2.2.2.2.2.2.2.2⟩
  have hc30 : ∀ k, cst A ks n k ≤ 30 := by
    intro k
    have h1 := (mk_MI (lim := k) hW hN hS.1 (fun j hj => (hS.2.2 j hj).2)).2.2.2.2.2.2.2.1
    have h2 := ur_le (a_se A 4) (fun i => (rf (mk (a_se A 1) (a_cs A) (a_nx A) ks (kh (fun j => hm (a_cs A) (ks j)) n k) n).2.2.1 i).1) n
    have h3 := hS.1
    unfold cst
    omega
  intro x
  induction x with
  | zero =>
    intro k fuel p0 so hk hf
    obtain ⟨fuel, rfl⟩ : ∃ q, fuel = q + 1 := ⟨fuel - 1, by omega⟩
    obtain rfl : k = 9 := by omega
    refine ⟨p0, so, ?_⟩
    show B_X8_bestLimit_45 _ _ _ _ = _
    unfold B_X8_bestLimit_45
    rw [if_pos (show (9 : Int32) < J (9 + 1) by decide)]
  | succ x ih =>
    intro k fuel p0 so hk hf
    obtain ⟨fuel, rfl⟩ : ∃ q, fuel = q + 1 := ⟨fuel - 1, by omega⟩
    obtain ⟨p2, z1, z2, z3, z4, z5⟩ := layOut_P (p0 := p0) hd.1 hn hW.1 hW.2.2.1 hl (by have := hW.2.2.2.2.2; omega) hS (lim := k + 1) (by omega) (by omega)
    have hM := mk_MI (lim := k + 1) hW hN hS.1 (fun j hj => (hS.2.2 j hj).2)
    have hMl := MI_len hM
    have hpm := hM.2.2.2.2.2.2.2.1
    have h15 := hS.1
    obtain ⟨so1, o1, o2⟩ := open_S (d := so) hst.1 hst.2
    have hRV := hM.2.2.1
    obtain ⟨so2, q1, q2⟩ := plan_pass (d := p2) (s := so1) (N := n) hst.1 hst.2 h15 z2 (path := fun i => pl (mk (a_se A 1) (a_cs A) (a_nx A) ks (kh (fun j => hm (a_cs A) (ks j)) n (k + 1)) n).1 (rf (mk (a_se A 1) (a_cs A) (a_nx A) ks (kh (fun j => hm (a_cs A) (ks j)) n (k + 1)) n).2.2.1 i).1) (fun i hi => ⟨(z5 i hi).1, by have := (pl_RV hM.1 (hRV i hi)).1; omega⟩) o2
    have hmap := (ur_map (rm := a_se A 4) (path := fun i => (rf (mk (a_se A 1) (a_cs A) (a_nx A) ks (kh (fun j => hm (a_cs A) (ks j)) n (k + 1)) n).2.2.1 i).1) (path2 := fun i => pl (mk (a_se A 1) (a_cs A) (a_nx A) ks (kh (fun j => hm (a_cs A) (ks j)) n (k + 1)) n).1 (rf (mk (a_se A 1) (a_cs A) (a_nx A) ks (kh (fun j => hm (a_cs A) (ks j)) n (k + 1)) n).2.2.1 i).1) (g := pl (mk (a_se A 1) (a_cs A) (a_nx A) ks (kh (fun j => hm (a_cs A) (ks j)) n (k + 1)) n).1) (N := n) (fun i _ => rfl) (fun i j hi hj he => pl_inj hM.1 (hRV i hi) (hRV j hj) he)).2.2
    rw [hmap] at q2
    have hcost : pl_puts p2 + so_loads so2 = J (cst A ks n (k + 1)) := by rw [z3, q2, J_add]; rfl
    obtain ⟨p', so', y⟩ := ih (k + 1) fuel p2 so2 (by omega) (by omega)
    refine ⟨p', so', ?_⟩
    rw [show bst (cst A ks n) (k + 1) = if (bst (cst A ks n) k).1 = NN ∨ cst A ks n (k + 1) < (bst (cst A ks n) k).2 then (J (k + 1), cst A ks n (k + 1)) else bst (cst A ks n) k from rfl] at y
    have hb := bst_le (cst A ks n) hc30 k
    have hck := hc30 (k + 1)
    have e4 : (-1 : Int32) = NN := rfl
    show B_X8_bestLimit_45 _ _ (lp _ fuel) _ = _
    generalize lp (B_X8_bestLimit_45 sd d) fuel = self at y ⊢
    unfold B_X8_bestLimit_45
    dsimp only
    rw [if_neg (show ¬ (9 : Int32) < J (k + 1) from fun w => by have := (J_lt (a := 9) (by omega) (by omega)).mp w; omega), z1]
    simp only [Option.bind_some]
    rw [show F_X1_settingAt d 4 = some (J (a_se A 4)) from settingAt_D (i := 4) hd.1 (by omega)]
    simp only [Option.bind_some]
    rw [o1]
    simp only [Option.bind_some]
    rw [q1]
    simp only [Option.bind_some]
    rw [hcost, e4, show J (k + 1) + 1 = J (k + 1 + 1) from J_add _ 1]
    by_cases w1 : (bst (cst A ks n) k).1 = NN
    · rw [if_pos (Or.inl w1)] at y
      rw [if_pos w1]
      exact y
    · rw [if_neg w1]
      by_cases w2 : cst A ks n (k + 1) < (bst (cst A ks n) k).2
      · rw [if_pos (Or.inr w2)] at y
        rw [if_neg (show ¬ J (bst (cst A ks n) k).2 ≤ J (cst A ks n (k + 1)) by rw [J_le (by omega) (by omega)]; omega)]
        exact y
      · rw [if_neg (fun w => w.elim w1 w2)] at y
        rw [if_pos (show J (bst (cst A ks n) k).2 ≤ J (cst A ks n (k + 1)) by rw [J_le (by omega) (by omega)]; omega)]
        exact y
theorem best9 {m : MDT} {A : AT} {N n : Nat} {v7 : Int32 × (Nat → Int32) × (Nat → Int32) × Int32} {lt ck as : Nat → Int32} {lm : Int32} {ks : Nat → List Nat} (hMR : MR (md_s m) A) (hW : WF A N) (hN : N ≤ 600) (h15 : n ≤ 15) (hk : ∀ j, j < n → ck j = J (c9 (ks j)) ∧ vch (ks j)) (has : as = fil (md_aside m) (md_s m) 1270) : ∀ (x k fuel : Nat) (s hf hg mi ma pa sto : Nat → Int32) (pm : Int32), k + x = 9 → (∀ j, j < 1270 → s j = md_s m j) → x < fuel → ∃ s' hf' hg' mi' ma' pm' pa' sto', lp (B_X9_bestLimit_35 as m v7 (lt, lm, ck, J n)) fuel ((bst (cst A ks n) k).1, J (bst (cst A ks n) k).2, J (k + 1), s, hf, hg, mi, ma, pm, pa, sto) = some ((bst (cst A ks n) 9).1, (0, s', as, (md_base m), (md_saved m), (md_savedMany m), (md_slots m), (md_hasSlot m), (md_text m), (md_length m), v7.2.1, v7.2.2.1, v7.2.2.2, lt, lm, ck, J n, hf', hg', mi', ma', pm', pa', sto', (md_thinOnes m))) ∧ ∀ j, j < 1270 → s' j = md_s m j := by
  have hl := WF_len hW
  have hst : 1 ≤ a_se A 4 ∧ a_se A 4 ≤ 4 := ⟨hW.2.2.1.2.2.2.2.2.2.2.2.1, hW.2.2.1.2.2.2.2.2.2.2.2.2⟩
  have hc30 : ∀ k, cst A ks n k ≤ 30 := by
    intro k
    have h1 := (mk_MI (lim := k) hW hN h15 (fun j hj => (hk j hj).2)).2.2.2.2.2.2.2.1
    have h2 := ur_le (a_se A 4) (fun i => (rf (mk (a_se A 1) (a_cs A) (a_nx A) ks (kh (fun j => hm (a_cs A) (ks j)) n k) n).2.2.1 i).1) n
    unfold cst
    omega
  intro x
  induction x with
  | zero =>
    intro k fuel s hf hg mi ma pa sto pm hk2 hs hfu
    obtain ⟨fuel, rfl⟩ : ∃ q, fuel = q + 1 := ⟨fuel - 1, by omega⟩
    obtain rfl : k = 9 := by omega
    refine ⟨s, hf, hg, mi, ma, pm, pa, sto, ?_, hs⟩
    show B_X9_bestLimit_35 _ _ _ _ _ _ = _
    unfold B_X9_bestLimit_35
    rw [if_pos (show (10 : Int32) ≤ J (9 + 1) by decide)]
  | succ x ih =>
    intro k fuel s hf hg mi ma pa sto pm hk2 hs hfu
    obtain ⟨fuel, rfl⟩ : ∃ q, fuel = q + 1 := ⟨fuel - 1, by omega⟩
    have hms := MR_congr hW hMR hs
    obtain ⟨s2, hf2, hg2, mi2, ma2, y1, y2, y3, y4⟩ := makes_M (hm0 := hf) (dr0 := hg) (mi0 := mi) (ma0 := ma) (pm0 := pm) (ck := ck) (ks := ks) (lim := k + 1) hms.1 hW.1 hW.2.2.1 hl (by have := hW.2.2.2.2.2; omega) h15 hk (by omega)
    have hM := mk_MI (lim := k + 1) hW hN h15 (fun j hj => (hk j hj).2)
    have hRV := hM.2.2.1
    obtain ⟨sto2, q1⟩ := loadsBy_M (s := s2) (pa := fil pa mi2 n) (sto := sto) (N := n) hst.1 hst.2 (y2.1 4 (by omega)) (by omega) (path := fun i => (rf (mk (a_se A 1) (a_cs A) (a_nx A) ks (kh (fun j => hm (a_cs A) (ks j)) n (k + 1)) n).2.2.1 i).1) (fun i hi => ⟨by rw [fil_at, if_pos hi]; exact (y4 i hi).1, (RV_small hM.1 (hRV i hi)).1⟩)
    have hback : ∀ j, j < 1270 → fil s2 as 1270 j = md_s m j := fun j hj => by rw [has]; exact fil_back hj
    obtain ⟨s', hf', hg', mi', ma', pm', pa', sto', y, y0⟩ := ih (k + 1) fuel (fil s2 as 1270) hf2 hg2 mi2 ma2 (fil pa mi2 n) sto2 (J (mk (a_se A 1) (a_cs A) (a_nx A) ks (kh (fun j => hm (a_cs A) (ks j)) n (k + 1)) n).2.2.2) (by omega) hback (by omega)
    refine ⟨s', hf', hg', mi', ma', pm', pa', sto', ?_, y0⟩
    rw [show bst (cst A ks n) (k + 1) = if (bst (cst A ks n) k).1 = NN ∨ cst A ks n (k + 1) < (bst (cst A ks n) k).2 then (J (k + 1), cst A ks n (k + 1)) else bst (cst A ks n) k from rfl] at y
    have hb := bst_le (cst A ks n) hc30 k
    have hck := hc30 (k + 1)
    have e4 : (-1 : Int32) = NN := rfl
    show B_X9_bestLimit_35 _ _ _ _ (lp _ fuel) _ = _
    generalize lp (B_X9_bestLimit_35 as m v7 (lt, lm, ck, J n)) fuel = self at y ⊢
    unfold B_X9_bestLimit_35
    dsimp only
    rw [if_neg (show ¬ (10 : Int32) ≤ J (k + 1) from fun w => by have := (J_le (a := 10) (by omega) (by omega)).mp w; omega), y1]
    simp only [Option.bind_some]
    refine lp_run (fun j => (J j, fil pa mi2 j)) n (fun self2 j hj => ?_) (fun self2 => ?_) (by unfold FU; omega)
    · unfold B_X9_bestLimit_51
      simp (disch := omega) only [J_add, J_mul, J_sub, J_dec, J_nat, J_lt, J_le, J_eq, gd_J, gz_J, gb_J, J_div, J_mod, md_back, JN, J_neN, J_Nne, J_ltN, J_Nlt, J_leN, J_Nle, N_refl, J01, J_addN, J_pred, F_X9_at, F_X9_backupAt, F_X9_fails, F_X9_thrown, Option.bind_some, if_true, if_false, Nat.add_zero, Nat.zero_add, Nat.mul_zero, Nat.zero_mul, Nat.reduceAdd, Nat.reduceMul, Nat.reduceSub, Nat.reduceEqDiff, Nat.reduceLeDiff, Nat.reduceLT, Nat.reducePow, Nat.not_lt_zero, Nat.zero_le, eq_self, not_true_eq_false, not_false_eq_true, reduceIte, L_0, L_1, L_2, L_3, L_4, L_5, L_6, L_7, L_8, L_9, L_10, L_11, L_12, L_14, L_15, L_16, L_24, L_30, L_31, L_32, L_34, L_40, L_44, L_90, L_96, L_97, L_100, L_120, L_121, L_192, L_997, L_998, L_1000, L_1270, L_10000, L_17780, L_2540, L_32768, L_16510]
      rw [if_neg (by omega)]
      rfl
    · unfold B_X9_bestLimit_51 K_X9_bestLimit_80
      dsimp only
      rw [if_pos (show J n ≤ J n from (J_le (by omega) (by omega)).mpr (Nat.le_refl _)), q1]
      simp only [Option.bind_some]
      rw [takeBack_M]
      simp only [Option.bind_some]
      have hcost : J (mk (a_se A 1) (a_cs A) (a_nx A) ks (kh (fun j => hm (a_cs A) (ks j)) n (k + 1)) n).2.2.2 + J (ur (a_se A 4) (fun i => (rf (mk (a_se A 1) (a_cs A) (a_nx A) ks (kh (fun j => hm (a_cs A) (ks j)) n (k + 1)) n).2.2.1 i).1) n).2.2 = J (cst A ks n (k + 1)) := by rw [J_add]; rfl
      rw [hcost, e4, show J (k + 1) + 1 = J (k + 1 + 1) from J_add _ 1]
      by_cases w1 : (bst (cst A ks n) k).1 = NN
      · rw [if_pos (Or.inl w1)] at y
        rw [if_pos w1]
        exact y
      · rw [if_neg w1]
        by_cases w2 : cst A ks n (k + 1) < (bst (cst A ks n) k).2
        · rw [if_pos (Or.inr w2)] at y
          rw [if_neg (show ¬ J (bst (cst A ks n) k).2 ≤ J (cst A ks n (k + 1)) by rw [J_le (by omega) (by omega)]; omega)]
          exact y
        · rw [if_neg (fun w => w.elim w1 w2)] at y
          rw [if_pos (show J (bst (cst A ks n) k).2 ≤ J (cst A ks n (k + 1)) by rw [J_le (by omega) (by omega)]; omega)]
          exact y
theorem bestLimit_A {d : DKT} {m : MDT} {A : AT} {n : Nat} {tx : TXT} (hN : n ≤ 600) (ht : TI tx (md_text m) (md_length m)) (hd : DR d A) (hm : MR (md_s m) A) (hW : WF A n) (so : SMT) (p0 : PLT) (s0 : SOT) (x : Int32) : (∃ v so' p' s' m', F_X8_bestLimit tx d so p0 s0 x = some (0, v, so', p', s') ∧ F_X9_bestLimit m x = some (v, m') ∧ md_thrown m' = 0 ∧ SM m m') ∨ (∃ so' m', F_X8_bestLimit tx d so p0 s0 x = some (1, 0, so', p0, s0) ∧ F_X9_bestLimit m x = some (0, m') ∧ md_thrown m' = 1 ∧ SM m m') := by
  have hl := WF_len hW
  unfold F_X8_bestLimit F_X9_bestLimit
  rcases rd ht so (md_begins m) (md_lengths m) (md_streams m) x with ⟨e1, b, l, ss, e2⟩ | ⟨p, ws, wo, hx, hp, hv, hl1, hl30, e1, e2, b, l, ss, e3, e4⟩
  · right
    rw [e1, e2]
    simp only [Option.bind_some]
    rw [if_pos trivial]
    exact ⟨_, _, rfl, rfl, rfl, SM_rf rfl rfl rfl rfl rfl rfl rfl⟩
  left
  have s0' := hW.2.2.1.1
  have s1 := hW.2.2.1.2.1
  obtain ⟨f', c1, c2⟩ := cut_J (wo := wo) (cd := sm_codes so) (ch := 0) e2 hv hl30 (d := a_se A 0) (by omega) (by omega)
  obtain ⟨lt', f2, c3, c4⟩ := e4 (md_s m) (md_letters m) (md_chunks m) (md_letterMany m) (md_chunkMany m) (a_se A 0) (hm.1.1 0 (by omega)) (by omega) (by omega)
  obtain ⟨k15, k1, kv⟩ := kst_all (d := a_se A 0) hv hl1 hl30
  have hS : SMc (wo, f', J ws.length, J (cutG (a_se A 0) [] ws).length) (kst (a_se A 0) ws) (cutG (a_se A 0) [] ws).length := ⟨k15, rfl, fun i hi => ⟨AH_kst c2 hi, kv i hi⟩⟩
  obtain ⟨p', so', y1⟩ := best8 hd hW hN hS 9 0 FU p0 s0 (by omega) (by unfold FU; omega)
  obtain ⟨s', hf', hg', mi', ma', pm', pa', sto', y2, y3⟩ := best9 (m := m) (A := A) (N := n) (n := (cutG (a_se A 0) [] ws).length) (v7 := (1, b, l, ss)) (lt := lt') (ck := f2) (lm := J ws.length) (ks := kst (a_se A 0) ws) hm hW hN k15 (fun j hj => ⟨AH_kst c4 hj, kv j hj⟩) rfl 9 0 FU (md_s m) (md_homes m) (md_dropped m) (md_madeIn m) (md_madeAt m) (md_path m) (md_store m) (md_putMany m) (by omega) (fun _ _ => rfl) (by unfold FU; omega)
  rw [e1, e3]
  simp only [Option.bind_some]
  rw [if_neg (show ¬ (1 : Int32) = 0 by decide), if_neg (show ¬ (1 : Int32) = 0 by decide), show F_X1_settingAt d 0 = some (J (a_se A 0)) from settingAt_D (i := 0) hd.1 (by omega), c3, putAside_M]
  simp only [Option.bind_some]
  rw [c1]
  simp only [Option.bind_some]
  have e0 : (((-1 : Int32), (0 : Int32), (1 : Int32), p0, s0) : Int32 × Int32 × Int32 × PLT × SOT) = ((bst (cst A (kst (a_se A 0) ws) (cutG (a_se A 0) [] ws).length) 0).1, J (bst (cst A (kst (a_se A 0) ws) (cutG (a_se A 0) [] ws).length) 0).2, J (0 + 1), p0, s0) := rfl
  have e9 : (((-1 : Int32), (0 : Int32), (1 : Int32), md_s m, md_homes m, md_dropped m, md_madeIn m, md_madeAt m, md_putMany m, md_path m, md_store m) : Int32 × Int32 × Int32 × (Nat → Int32) × (Nat → Int32) × (Nat → Int32) × (Nat → Int32) × (Nat → Int32) × Int32 × (Nat → Int32) × (Nat → Int32)) = ((bst (cst A (kst (a_se A 0) ws) (cutG (a_se A 0) [] ws).length) 0).1, J (bst (cst A (kst (a_se A 0) ws) (cutG (a_se A 0) [] ws).length) 0).2, J (0 + 1), md_s m, md_homes m, md_dropped m, md_madeIn m, md_madeAt m, md_putMany m, md_path m, md_store m) := rfl
  rw [e0, e9, y1, y2]
  exact ⟨_, _, _, _, _, rfl, rfl, rfl, ⟨y3, rfl, rfl, rfl, rfl, rfl, rfl⟩⟩
theorem i_bestLimit {n : Nat} {st : STT} {q1 q2 q3 : Int32} (hN : n < 512) (h : Inv n st) : ∃ st', F_T_bestLimit st q1 q2 q3 = some st' ∧ Inv (n + 1) st' := by
  obtain ⟨A, H, Sl, h1, h2, h3, h4, h5⟩ := id h
  unfold F_T_bestLimit F_X9_thrown
  rcases bestLimit_A (by omega) h1 h2 h3 h4 (S_stream st) (S_plan st) (S_store st) q1 with ⟨v, so', p', s', m', a1, a2, a3, a4⟩ | ⟨so', m', a1, a2, a3, a4⟩
  · rw [a1, a2]
    simp only [Option.bind_some]
    rw [if_pos (by decide), if_pos (by exact a3), if_pos (by rfl), if_pos (by rfl)]
    exact ⟨_, rfl, Inv_SM h a4 _ _ _ _ _ _⟩
  · rw [a1, a2]
    simp only [Option.bind_some]
    rw [if_pos (by decide), if_pos (by exact a3), if_neg (by decide)]
    exact ⟨_, rfl, Inv_SM h a4 _ _ _ _ _ _⟩
