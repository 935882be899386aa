/-! P29, THE PURE SIDE: the best limit is the best by trying each -/
noncomputable def cstW (A : AT) (ws : List Nat) : Nat → Nat := cst A (kst (a_se A 0) ws) (nch A ws)
theorem best_V {d : DKT} {A : AT} {n : Nat} {x : TXT} {ws : List Nat} (hd : DR d A) (hW : WF A n) (hN : n ≤ 600) (ht : TW ws x) (h1 : 1 ≤ ws.length) (h30 : ws.length ≤ 30) (so : SMT) (p0 : PLT) (s0 : SOT) : ∃ so' p' s', F_X8_bestLimit x d so p0 s0 0 = some (0, (bst (cstW A ws) 9).1, so', p', s') := by
  have s0' := hW.2.2.1.1
  have s1 := hW.2.2.1.2.1
  obtain ⟨wo, r1, r2⟩ := rdW ht h1 h30 so
  obtain ⟨f', c1, c2⟩ := cut_J (wo := wo) (cd := sm_codes so) (ch := 0) r2 ht.2.1 h30 (d := a_se A 0) (by omega) (by omega)
  obtain ⟨k15, k1, kv⟩ := kst_all (d := a_se A 0) ht.2.1 h1 h30
  have hS : SMc (wo, f', J ws.length, J (cutG (a_se A 0) [] ws).length) (kst (a_se A 0) ws) (cutG (a_se A 0) [] ws).length := ⟨k15, rfl, fun i hi => ⟨AH_kst c2 hi, kv i hi⟩⟩
  obtain ⟨p', so', y1⟩ := best8 hd hW hN hS 9 0 FU p0 s0 (by omega) (by unfold FU; omega)
  refine ⟨(wo, f', J ws.length, J (cutG (a_se A 0) [] ws).length), p', so', ?_⟩
  unfold F_X8_bestLimit
  rw [r1]
  simp only [Option.bind_some]
  rw [if_neg (show ¬ (1 : Int32) = 0 by decide), show F_X1_settingAt d 0 = some (J (a_se A 0)) from settingAt_D (i := 0) hd.1 (by omega)]
  simp only [Option.bind_some]
  rw [c1]
  simp only [Option.bind_some]
  have e0 : (((-1 : Int32), (0 : Int32), (1 : Int32), p0, s0) : Int32 × Int32 × Int32 × PLT × SOT) = ((bst (cst A (kst (a_se A 0) ws) (cutG (a_se A 0) [] ws).length) 0).1, J (bst (cst A (kst (a_se A 0) ws) (cutG (a_se A 0) [] ws).length) 0).2, J (0 + 1), p0, s0) := rfl
  rw [e0, y1]
  rfl
theorem bst_in (c : Nat → Nat) : ∀ k, 1 ≤ k → ∃ m, 1 ≤ m ∧ m ≤ k ∧ (bst c k).1 = J m := by
  intro k
  induction k with
  | zero => intro h; omega
  | succ k ih =>
    intro _
    show ∃ m, 1 ≤ m ∧ m ≤ k + 1 ∧ (if (bst c k).1 = NN ∨ c (k + 1) < (bst c k).2 then (J (k + 1), c (k + 1)) else bst c k).1 = J m
    by_cases q : (bst c k).1 = NN ∨ c (k + 1) < (bst c k).2
    · rw [if_pos q]
      exact ⟨k + 1, by omega, by omega, rfl⟩
    · rw [if_neg q]
      by_cases z : k = 0
      · subst z
        exact absurd (Or.inl rfl) q
      · obtain ⟨m, m1, m2, m3⟩ := ih (by omega)
        exact ⟨m, m1, by omega, m3⟩
theorem cst_30 {A : AT} {n : Nat} {ws : List Nat} (hW : WF A n) (hN : n ≤ 600) (hv : vl ws) (h1 : 1 ≤ ws.length) (h30 : ws.length ≤ 30) (k : Nat) : cstW A ws k ≤ 30 := by
  have g1 := (pm_MI hW hN hv h1 h30 k _ (Nat.le_refl _)).2.2.2.2.2.2.2.1
  have g2 := ur_le (a_se A 4) (fun i => (rf (pm A ws k).2.2.1 i).1) (nch A ws)
  have g3 : nch A ws ≤ 15 := (kst_all (d := a_se A 0) hv h1 h30).1
  show (pm A ws k).2.2.2 + (ur (a_se A 4) (fun i => (rf (pm A ws k).2.2.1 i).1) (nch A ws)).2.2 ≤ 30
  have g4 : (pm A ws k).2.2.2 ≤ nch A ws := g1
  omega
theorem pm_set (A : AT) (ws : List Nat) (w lim : Nat) : pm (aset A 2 w) ws lim = pm A ws lim := rfl
theorem aset_bs (A : AT) (w : Nat) : a_bs (aset A 2 w) = a_bs A := rfl
theorem aset_2 (A : AT) (w : Nat) : a_se (aset A 2 w) 2 = w := rfl
theorem aset_4 (A : AT) (w b : Nat) (M : MK) : a_se (abak (aset A 2 w) b M) 4 = a_se A 4 := rfl
theorem aset_back (A : AT) (w : Nat) : aset (aset A 2 w) 2 (a_se A 2) = A := by
  unfold aset
  have : (fun j => if j = 2 then a_se A 2 else a_se ((fun j => if j = 2 then w else a_se A j), a_nx A, a_ca A, a_cs A, a_bs A) j) = A.1 := by
    funext j
    by_cases q : j = 2
    · rw [if_pos q, q]; rfl
    · rw [if_neg q]
      show (if j = 2 then w else a_se A j) = _
      rw [if_neg q]; rfl
  show ((fun j => if j = 2 then a_se A 2 else a_se ((fun j => if j = 2 then w else a_se A j), a_nx A, a_ca A, a_cs A, a_bs A) j), A.2.1, A.2.2.1, A.2.2.2.1, A.2.2.2.2) = A
  rw [this]
/-- the best so far, as the law writes it -/
noncomputable def fnd (c : Nat → Nat) (k : Nat) : Int32 := if k = 0 then 0 else (bst c k).1
def BST (A : AT) (o : Option (Int32 × DKT × SMT × PLT × SOT × PAT)) : Prop := ∃ d' so' p' st' pa' H', o = some (1, d', so', p', st', pa') ∧ DR d' A ∧ PC pa' H'
theorem k64_V {d : DKT} {A : AT} {n w : Nat} {c : Nat → Nat} {pa : PAT} {H : List AT} {v8 : Nat × Int32 × SMT × PLT × SOT} {so : SMT} {p : PLT} {st : SOT} (hd : DR d (aset A 2 w)) (hW : WF (aset A 2 w) n) (hWA : WF A n) (hP : PC pa H) (hb : v8.2.1 = (bst c 9).1) : BST A (K_L_isBest_64 (0, J (a_se A 2)) v8 (d, so, p, st, pa)) := by
  obtain ⟨d', pa', y1, y2, y3, y4⟩ := set_V (i := 2) (w := a_se A 2) hd hW hP (by omega) hWA.2.2.1.2.2.2.2.1 hWA.2.2.1.2.2.2.2.2.1
  obtain ⟨m, m1, m2, m3⟩ := bst_in c 9 (by omega)
  rw [aset_back] at y2
  unfold K_L_isBest_64
  dsimp only
  rw [show (2 : Int32) = J 2 from rfl, y1, Option.bind_some, z0_z, hb, m3, if_neg (show ¬ J m ≤ 0 from fun z => by have := (J_le (b := 0) (by omega) (by omega)).mp z; omega), if_neg (show ¬ 10 ≤ J m from fun z => by have := (J_le (a := 10) (by omega) (by omega)).mp z; omega)]
  exact ⟨d', so, p, st, pa', _, rfl, y2, y4⟩
theorem k149_V {d : DKT} {A : AT} {c : Nat → Nat} {pa : PAT} {H : List AT} {v8 : Nat × Int32 × SMT × PLT × SOT} {so : SMT} {p : PLT} {st : SOT} (hd : DR d A) (hP : PC pa H) (hb : v8.2.1 = (bst c 9).1) : BST A (K_L_isBest_149 v8 (0, J (a_se A 2)) (fnd c 9, d, so, p, st, pa)) := by
  unfold K_L_isBest_149
  dsimp only
  rw [if_pos (show fnd c 9 = v8.2.1 by rw [hb]; rfl), show F_X8_setting d 2 = some (0, J (a_se A 2)) from setting_V (i := 2) hd (by omega), Option.bind_some, z0_z, if_pos rfl]
  exact ⟨d, so, p, st, pa, H, rfl, hd, hP⟩
theorem abak_at (A : AT) (b : Nat) (M : MK) : a_bs (abak A b M) b = M.2.2.1 := by
  show (if b = b then M.2.2.1 else a_bs A b) = _
  rw [if_pos rfl]
theorem lp_s {σ ρ : Type} (f : (σ → Option ρ) → σ → Option ρ) (n : Nat) (s : σ) : lp f (n + 1) s = f (lp f n) s := rfl
theorem isBest_go {A : AT} {n t : Nat} {x : TXT} {ws : List Nat} {v8 : Nat × Int32 × SMT × PLT × SOT} (hW : WF A n) (hN : n ≤ 590) (ht : TW ws x) (h1 : 1 ≤ ws.length) (h30 : ws.length ≤ 30) (hM : MSK t A) (hb : v8.2.1 = (bst (cstW A ws) 9).1) : ∀ (y k fuel : Nat) (d : DKT) (so : SMT) (p : PLT) (st : SOT) (pa : PAT) (H : List AT), k + y = 9 → y < fuel → DR d A → PC pa H → BST A (lp (B_L_isBest_21 (J t) x (K_L_isBest_149 v8 (0, J (a_se A 2))) (K_L_isBest_64 (0, J (a_se A 2)) v8)) fuel (J (bst (cstW A ws) k).2, fnd (cstW A ws) k, J (k + 1), d, so, p, st, pa)) := by
  have hc30 := cst_30 hW (by omega) ht.2.1 h1 h30
  intro y
  induction y with
  | zero =>
    intro k fuel d so p st pa H hk hf hd hP
    obtain ⟨fuel, rfl⟩ : ∃ q, fuel = q + 1 := ⟨fuel - 1, by omega⟩
    obtain rfl : k = 9 := by omega
    rw [lp_s]
    unfold B_L_isBest_21
    dsimp only
    rw [if_pos (show (10 : Int32) ≤ J (9 + 1) by decide)]
    exact k149_V hd hP hb
  | succ y ih =>
    intro k fuel d so p st pa H hk hf hd hP
    obtain ⟨fuel, rfl⟩ : ∃ q, fuel = q + 1 := ⟨fuel - 1, by omega⟩
    obtain ⟨d1, pa1, s1, s2, s3, s4⟩ := set_V (i := 2) (w := k + 1) hd hW hP (by omega) (show 1 ≤ k + 1 by omega) (show k + 1 ≤ 9 by omega)
    have s1 : F_X8_set d pa 2 (J (k + 1)) = some (0, J (a_se A 2), d1, pa1) := s1
    have ih' := fun d so p st pa H => ih (k + 1) fuel d so p st pa H (by omega) (by omega)
    clear ih
    rw [lp_s]
    generalize lp (B_L_isBest_21 (J t) x (K_L_isBest_149 v8 (0, J (a_se A 2))) (K_L_isBest_64 (0, J (a_se A 2)) v8)) fuel = self at ih' ⊢
    unfold B_L_isBest_21
    dsimp only
    rw [if_neg (show ¬ 10 ≤ J (k + 1) from fun z => by have := (J_le (a := 10) (by omega) (by omega)).mp z; omega), s1, Option.bind_some, z0_z]
    have no : ∀ (s21 : Int32 × Int32 × Int32 × DKT × SMT × PLT × SOT × PAT) (so2 : SMT) (p2 : PLT), BST A (J_L_isBest_57 (K_L_isBest_64 (0, J (a_se A 2)) v8) (0, J (a_se A 2), d1, pa1) s21 x self (0, so2, p2)) := by
      intro s21 so2 p2
      unfold J_L_isBest_57
      dsimp only
      rw [if_pos rfl]
      exact k64_V s2 s3 hW s4 hb
    have ht256 := hM.1
    by_cases c : t = 255
    · rw [if_pos (show J t = 255 by rw [c]; rfl)]
      unfold J_L_isBest_56
      exact no _ _ _
    rw [if_neg (show ¬ J t = 255 from fun z => c ((J_eq (b := 255) (by omega) (by omega)).mp z))]
    obtain ⟨so', p', cb⟩ := cb_V s2 s3 (by omega) ht h1 h30 so p
    rw [aset_2, pm_set] at cb
    have hMn := pm_MI hW (by omega) ht.2.1 h1 h30 (k + 1) _ (Nat.le_refl _)
    have hMl := MI_len hMn
    have hm8 : (pm A ws (k + 1)).2.2.2 ≤ nch A ws := hMn.2.2.2.2.2.2.2.1
    have hn15 : nch A ws ≤ 15 := (kst_all (d := a_se A 0) ht.2.1 h1 h30).1
    have hn1 : 1 ≤ nch A ws := (kst_all (d := a_se A 0) ht.2.1 h1 h30).2.1
    have hl := WF_len hW
    have hMl : 2 * (pm A ws (k + 1)).1.length ≤ 2 * (a_cs A).length + (pm A ws (k + 1)).2.2.2 + 1 := hMl
    rw [cb, Option.bind_some]
    by_cases c2 : 25 ≤ (pm A ws (k + 1)).1.length
    · rw [if_pos (show 25 ≤ J (pm A ws (k + 1)).1.length from (J_le (a := 25) (by omega) (by omega)).mpr c2)]
      unfold J_L_isBest_56
      exact no _ _ _
    rw [if_neg (show ¬ 25 ≤ J (pm A ws (k + 1)).1.length from fun z => c2 ((J_le (a := 25) (by omega) (by omega)).mp z))]
    clear no
    have hf : fb (a_bs A) < 8 := fb_255 hM c
    obtain ⟨so2, p2, w1⟩ := put_V s2 s3 (by omega) ht h1 h30 so' p'
    rw [aset_2, pm_set] at w1
    obtain ⟨d2, so3, p3, pa2, b1, b2, b3, b4⟩ := backup_V s2 s3 (by omega) ht h1 h30 s4 so2 p2 (by rw [aset_bs]; exact hf) (by rw [aset_2, pm_set]; omega)
    rw [aset_bs] at b1
    rw [aset_bs, aset_2, pm_set] at b2 b3
    have eb : a_bs (abak (aset A 2 (k + 1)) (fb (a_bs A)) (pm A ws (k + 1))) (fb (a_bs A)) = (pm A ws (k + 1)).2.2.1 := abak_at _ _ _
    have el : (pm A ws (k + 1)).2.2.1.length = nch A ws := hMn.2.1
    obtain ⟨st', l1⟩ := loads_V (b := fb (a_bs A)) b2 b3 st hf (by
      rw [eb, el]
      exact hn1)
    rw [eb, el, aset_4] at l1
    obtain ⟨v3, d3, pa3, u1, u2, u3⟩ := undo_V (d := d2) b4
    obtain ⟨H', hH'⟩ := tl14_snoc A (tl14_len hP.1)
    rw [hH'] at u3
    obtain ⟨v4, d4, pa4, u4, u5, u6⟩ := undo_V (d := d3) u3
    unfold J_L_isBest_57
    dsimp only
    rw [if_neg (show ¬ (1 : Int32) = 0 by decide), w1, Option.bind_some, z0_z]
    dsimp only
    rw [b1, Option.bind_some, z0_z]
    dsimp only
    rw [l1, Option.bind_some, z0_z]
    dsimp only
    rw [u1, Option.bind_some, z0_z]
    dsimp only
    rw [u4, Option.bind_some, z0_z]
    dsimp only
    rw [J_add, J_s]
    have hcst : (pm A ws (k + 1)).2.2.2 + (ur (a_se A 4) (fun i => (rf (pm A ws (k + 1)).2.2.1 i).1) (nch A ws)).2.2 = cstW A ws (k + 1) := rfl
    rw [hcst]
    have ih2 := ih' d4 so3 p3 st' pa4 H' u5 u6
    have hck := hc30 (k + 1)
    have hbk := bst_le (cstW A ws) hc30 k
    have ef : fnd (cstW A ws) (k + 1) = (bst (cstW A ws) (k + 1)).1 := if_neg (by omega)
    have es : bst (cstW A ws) (k + 1) = if (bst (cstW A ws) k).1 = NN ∨ cstW A ws (k + 1) < (bst (cstW A ws) k).2 then (J (k + 1), cstW A ws (k + 1)) else bst (cstW A ws) k := rfl
    rw [ef] at ih2
    by_cases k0 : k = 0
    · have e1 : bst (cstW A ws) (k + 1) = (J (k + 1), cstW A ws (k + 1)) := by rw [es, if_pos (Or.inl (by rw [k0]; rfl))]
      rw [e1] at ih2
      rw [if_pos (show fnd (cstW A ws) k = 0 from if_pos k0)]
      exact ih2
    · obtain ⟨m, m1, m2, m3⟩ := bst_in (cstW A ws) k (by omega)
      have ek : fnd (cstW A ws) k = (bst (cstW A ws) k).1 := if_neg k0
      have hNN : ¬ (bst (cstW A ws) k).1 = NN := by rw [m3, J_neN (by omega)]; exact id
      rw [if_neg (show ¬ fnd (cstW A ws) k = 0 from fun z => by rw [ek, m3] at z; have := (J_eq (b := 0) (by omega) (by omega)).mp z; omega)]
      by_cases q : cstW A ws (k + 1) < (bst (cstW A ws) k).2
      · have e1 : bst (cstW A ws) (k + 1) = (J (k + 1), cstW A ws (k + 1)) := by rw [es, if_pos (Or.inr q)]
        rw [e1] at ih2
        rw [if_neg (show ¬ J (bst (cstW A ws) k).2 ≤ J (cstW A ws (k + 1)) from fun z => by have := (J_le (by omega) (by omega)).mp z; omega)]
        exact ih2
      · have e1 : bst (cstW A ws) (k + 1) = bst (cstW A ws) k := by rw [es, if_neg (fun z => z.elim hNN q)]
        rw [e1] at ih2
        rw [if_pos (show J (bst (cstW A ws) k).2 ≤ J (cstW A ws (k + 1)) from (J_le (by omega) (by omega)).mpr (by omega)), ek]
        exact ih2
theorem isBest_V {d : DKT} {A : AT} {n t : Nat} {x : TXT} {ws : List Nat} {pa : PAT} {H : List AT} (hd : DR d A) (hW : WF A n) (hN : n ≤ 590) (ht : TW ws x) (h1 : 1 ≤ ws.length) (h30 : ws.length ≤ 30) (hM : MSK t A) (hP : PC pa H) (so : SMT) (p0 : PLT) (st : SOT) : BST A (F_L_isBest x d so p0 st pa (J t)) := by
  obtain ⟨so', p', s', y1⟩ := best_V hd hW (by omega) ht h1 h30 so p0 st
  unfold F_L_isBest
  rw [show F_X8_setting d 2 = some (0, J (a_se A 2)) from setting_V (i := 2) hd (by omega), Option.bind_some, z0_z, y1, Option.bind_some, z0_z]
  dsimp only
  generalize hX : (bst (cstW A ws) 9).1 = X
  have hgo := isBest_go (v8 := (0, X, so', p', s')) hW hN ht h1 h30 hM (by dsimp only; exact hX.symm) 9 0 10 d so' p' s' pa H (by omega) (by omega) hd hP
  have e0 : (J (bst (cstW A ws) 0).2, fnd (cstW A ws) 0, J (0 + 1), d, so', p', s', pa) = ((0 : Int32), (0 : Int32), (1 : Int32), d, so', p', s', pa) := rfl
  rw [e0] at hgo
  exact hgo
