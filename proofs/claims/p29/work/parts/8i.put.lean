/-! THE PURE SIDE: a chunk is put away -/
def room (cs : List Ct) : Prop := 0 < cs.length ∧ si cs (cs.length - 1) < ca cs (cs.length - 1)
def upl (cs : List Ct) (l : List Nat) : List Ct := cs.set (cs.length - 1) (nu cs (cs.length - 1), ca cs (cs.length - 1), (cn cs (cs.length - 1)).2.2 ++ [l])
theorem upl_len (cs : List Ct) (l : List Nat) : (upl cs l).length = cs.length := List.length_set
theorem upl_cn {cs : List Ct} {l : List Nat} (h : 0 < cs.length) (k : Nat) : cn (upl cs l) k = if k = cs.length - 1 then (nu cs (cs.length - 1), ca cs (cs.length - 1), (cn cs (cs.length - 1)).2.2 ++ [l]) else cn cs k := by
  unfold upl
  show (List.set _ _ _)[k]?.getD (0, 0, []) = _
  rw [List.getElem?_set]
  by_cases q : k = cs.length - 1
  · rw [if_pos q, if_pos q.symm, if_pos (by omega)]
    rfl
  · rw [if_neg q, if_neg (fun z => q z.symm)]
    rfl
theorem app_cn (cs : List Ct) (c : Ct) (k : Nat) : cn (cs ++ [c]) k = if k = cs.length then c else cn cs k := by
  show (cs ++ [c])[k]?.getD (0, 0, []) = _
  rw [List.getElem?_append]
  by_cases q : k = cs.length
  · subst q
    rw [if_neg (by omega), if_pos rfl, Nat.sub_self]
    rfl
  · rw [if_neg q]
    by_cases z : k < cs.length
    · rw [if_pos z]; rfl
    · rw [if_neg z, List.getElem?_eq_none (by simp; omega)]
      show (0, 0, []) = cn cs k
      unfold cn
      rw [List.getElem?_eq_none (by omega)]
      rfl
theorem upl_nu {cs : List Ct} {l : List Nat} (h : 0 < cs.length) (k : Nat) : nu (upl cs l) k = nu cs k ∧ ca (upl cs l) k = ca cs k ∧ si (upl cs l) k = si cs k + (if k = cs.length - 1 then 1 else 0) := by
  unfold nu ca si
  rw [upl_cn h]
  by_cases q : k = cs.length - 1
  · rw [if_pos q, if_pos q, q]
    refine ⟨rfl, rfl, ?_⟩
    show ((cn cs (cs.length - 1)).2.2 ++ [l]).length = _
    rw [List.length_append]
    rfl
  · rw [if_neg q, if_neg q]
    exact ⟨rfl, rfl, rfl⟩
theorem upl_ch {cs : List Ct} {l : List Nat} (h : 0 < cs.length) (k i : Nat) : ch (upl cs l) k i = if k = cs.length - 1 ∧ i = si cs k then l else ch cs k i := by
  unfold ch si
  rw [upl_cn h]
  by_cases q : k = cs.length - 1
  · subst q
    rw [if_pos rfl]
    show ((cn cs (cs.length - 1)).2.2 ++ [l])[i]?.getD [] = _
    rw [List.getElem?_append]
    by_cases z : i = (cn cs (cs.length - 1)).2.2.length
    · rw [if_neg (by omega), if_pos ⟨rfl, z⟩, z, Nat.sub_self]
      rfl
    · rw [if_neg (show ¬ (cs.length - 1 = cs.length - 1 ∧ i = (cn cs (cs.length - 1)).2.2.length) from fun w => z w.2)]
      by_cases w : i < (cn cs (cs.length - 1)).2.2.length
      · rw [if_pos w]
      · rw [if_neg w, List.getElem?_eq_none (by simp; omega), List.getElem?_eq_none (by omega)]
  · rw [if_neg q, if_neg (fun w => q w.1)]
theorem app_nu (cs : List Ct) (n c : Nat) (l : List Nat) (k : Nat) : nu (cs ++ [(n, c, [l])]) k = (if k = cs.length then n else nu cs k) ∧ ca (cs ++ [(n, c, [l])]) k = (if k = cs.length then c else ca cs k) ∧ si (cs ++ [(n, c, [l])]) k = (if k = cs.length then 1 else si cs k) := by
  unfold nu ca si
  rw [app_cn]
  by_cases q : k = cs.length
  · rw [if_pos q, if_pos q, if_pos q, if_pos q]
    exact ⟨rfl, rfl, rfl⟩
  · rw [if_neg q, if_neg q, if_neg q, if_neg q]
    exact ⟨rfl, rfl, rfl⟩
theorem app_ch (cs : List Ct) (n c : Nat) (l : List Nat) (k i : Nat) : ch (cs ++ [(n, c, [l])]) k i = if k = cs.length then (if i = 0 then l else []) else ch cs k i := by
  unfold ch
  rw [app_cn]
  by_cases q : k = cs.length
  · rw [if_pos q, if_pos q]
    cases i with
    | zero => rfl
    | succ i => rfl
  · rw [if_neg q, if_neg q]
/-- a chunk put away; the next number then -/
noncomputable def put (cap : Nat) (cs : List Ct) (nx : Nat) (l : List Nat) : List Ct := if 0 < cs.length ∧ si cs (cs.length - 1) < ca cs (cs.length - 1) then upl cs l else cs ++ [(nx, cap, [l])]
noncomputable def putn (cs : List Ct) (nx : Nat) : Nat := if 0 < cs.length ∧ si cs (cs.length - 1) < ca cs (cs.length - 1) then nx else nx + 1
theorem put_yes {cap nx : Nat} {cs : List Ct} {l : List Nat} (h : room cs) : put cap cs nx l = upl cs l ∧ putn cs nx = nx := ⟨if_pos h, if_pos h⟩
theorem put_no {cap nx : Nat} {cs : List Ct} {l : List Nat} (h : ¬ room cs) : put cap cs nx l = cs ++ [(nx, cap, [l])] ∧ putn cs nx = nx + 1 := ⟨if_neg h, if_neg h⟩
/-- what the old containers keep -/
theorem put_old {cap nx k : Nat} {cs : List Ct} {l : List Nat} (hk : k < cs.length) : nu (put cap cs nx l) k = nu cs k ∧ ca (put cap cs nx l) k = ca cs k ∧ si cs k ≤ si (put cap cs nx l) k ∧ (k + 1 < cs.length → si (put cap cs nx l) k = si cs k) ∧ ∀ i, i < si cs k → ch (put cap cs nx l) k i = ch cs k i := by
  by_cases h : room cs
  · rw [(put_yes h).1]
    obtain ⟨h1, h2, h3⟩ := upl_nu (l := l) h.1 k
    refine ⟨h1, h2, by omega, fun q => by rw [h3, if_neg (by omega)]; rfl, fun i hi => ?_⟩
    rw [upl_ch h.1, if_neg (by omega)]
  · rw [(put_no h).1]
    obtain ⟨h1, h2, h3⟩ := app_nu cs nx cap l k
    rw [if_neg (by omega)] at h1 h2 h3
    refine ⟨h1, h2, by omega, fun q => h3, fun i hi => ?_⟩
    rw [app_ch, if_neg (by omega)]
theorem put_len {cap nx : Nat} {cs : List Ct} {l : List Nat} : cs.length ≤ (put cap cs nx l).length ∧ (put cap cs nx l).length ≤ cs.length + 1 ∧ 0 < (put cap cs nx l).length := by
  by_cases h : room cs
  · have := h.1
    rw [(put_yes h).1, upl_len]
    omega
  · rw [(put_no h).1]
    simp
theorem st_ext {cs cs' : List Ct} {n : Nat} (h : ∀ k, k < n → si cs' k = si cs k) : st cs' n = st cs n := sm_ext h
theorem put_st {cap nx : Nat} {cs : List Ct} {l : List Nat} : st (put cap cs nx l) (put cap cs nx l).length = st cs cs.length + 1 := by
  by_cases h : room cs
  · have h0 := h.1
    rw [(put_yes h).1, upl_len]
    have e : cs.length = (cs.length - 1) + 1 := by omega
    rw [e, st_step, st_step, st_ext (cs := cs) fun k hk => by rw [(upl_nu h0 k).2.2, if_neg (by omega)]; rfl, (upl_nu h0 _).2.2, if_pos rfl]
    omega
  · rw [(put_no h).1, List.length_append]
    show st _ (cs.length + 1) = _
    rw [st_step, st_ext (cs := cs) fun k hk => by rw [(app_nu cs nx cap l k).2.2, if_neg (by omega)], (app_nu cs nx cap l _).2.2, if_pos rfl]
theorem put_stk {cap nx k : Nat} {cs : List Ct} {l : List Nat} (hk : k < cs.length) : st (put cap cs nx l) k = st cs k := st_ext fun j hj => (put_old (by omega)).2.2.2.1 (by omega)
/-- the new entry is the last one -/
theorem put_new {cap nx : Nat} {cs : List Ct} {l : List Nat} : ch (put cap cs nx l) ((put cap cs nx l).length - 1) (si (put cap cs nx l) ((put cap cs nx l).length - 1) - 1) = l ∧ 1 ≤ si (put cap cs nx l) ((put cap cs nx l).length - 1) := by
  by_cases h : room cs
  · rw [(put_yes h).1, upl_len, (upl_nu h.1 _).2.2, if_pos rfl]
    refine ⟨?_, by omega⟩
    rw [upl_ch h.1, if_pos ⟨rfl, by omega⟩]
  · have e : (cs ++ [(nx, cap, [l])]).length - 1 = cs.length := by simp
    rw [(put_no h).1, e, (app_nu cs nx cap l _).2.2, if_pos rfl]
    refine ⟨?_, Nat.le_refl _⟩
    rw [app_ch, if_pos rfl, if_pos rfl]
theorem put_Wc {cap nx : Nat} {cs : List Ct} {l : List Nat} (hW : Wc cs nx) (hv : vch l) (h2 : 2 ≤ cap) (h8 : cap ≤ 8) (hx : nx + 1 < 2 ^ 30) : Wc (put cap cs nx l) (putn cs nx) := by
  obtain ⟨w1, w2, w3⟩ := hW
  by_cases h : room cs
  · rw [(put_yes h).1, (put_yes (cap := cap) (l := l) h).2]
    refine ⟨w1, fun k hk => ?_, fun j k hj hk => ?_⟩
    · rw [upl_len] at hk
      obtain ⟨a1, a2, a3, a4, a5, a6⟩ := w2 k hk
      obtain ⟨b1, b2, b3⟩ := upl_nu (l := l) h.1 k
      have hr := h.2
      unfold Wk
      rw [b1, b2, b3]
      refine ⟨by omega, ?_, a3, a4, a5, fun i hi => ?_⟩
      · by_cases q : k = cs.length - 1
        · rw [if_pos q]; subst q; omega
        · rw [if_neg q]; omega
      · rw [upl_ch h.1]
        by_cases q : k = cs.length - 1 ∧ i = si cs k
        · rw [if_pos q]; exact hv
        · rw [if_neg q]
          refine a6 i ?_
          by_cases z : k = cs.length - 1
          · rw [if_pos z] at hi; have : i ≠ si cs k := fun w => q ⟨z, w⟩; omega
          · rw [if_neg z] at hi; omega
    · rw [upl_len] at hk
      rw [(upl_nu h.1 j).1, (upl_nu h.1 k).1]
      exact w3 j k hj hk
  · rw [(put_no h).1, (put_no (cap := cap) (l := l) h).2]
    refine ⟨hx, fun k hk => ?_, fun j k hj hk => ?_⟩
    · rw [List.length_append] at hk
      have hk' : k < cs.length + 1 := hk
      obtain ⟨b1, b2, b3⟩ := app_nu cs nx cap l k
      unfold Wk
      rw [b1, b2, b3]
      by_cases q : k = cs.length
      · rw [if_pos q, if_pos q, if_pos q]
        refine ⟨by omega, by omega, h2, h8, by omega, fun i hi => ?_⟩
        rw [app_ch, if_pos q, if_pos (by omega)]
        exact hv
      · rw [if_neg q, if_neg q, if_neg q]
        obtain ⟨a1, a2, a3, a4, a5, a6⟩ := w2 k (by omega)
        refine ⟨a1, a2, a3, a4, by omega, fun i hi => ?_⟩
        rw [app_ch, if_neg q]
        exact a6 i hi
    · rw [List.length_append] at hk
      have hk' : k < cs.length + 1 := hk
      rw [(app_nu cs nx cap l j).1, (app_nu cs nx cap l k).1, if_neg (by omega)]
      by_cases q : k = cs.length
      · rw [if_pos q]; exact (w2 j (by omega)).2.2.2.2.1
      · rw [if_neg q]; exact w3 j k hj (by omega)
/-- where it went -/
def nrf (cs : List Ct) : Nat × Nat := (nu cs (cs.length - 1), si cs (cs.length - 1) - 1)
theorem put_RV {cap nx : Nat} {cs : List Ct} {l : List Nat} {r : Nat × Nat} (h : RV cs r) : RV (put cap cs nx l) r := by
  obtain ⟨k, h1, h2, h3⟩ := h
  obtain ⟨o1, o2, o3, o4, o5⟩ := put_old (cap := cap) (nx := nx) (l := l) h1
  have := put_len (cap := cap) (nx := nx) (cs := cs) (l := l)
  exact ⟨k, by omega, by rw [o1]; exact h2, by omega⟩
theorem nrf_RV {cap nx : Nat} {cs : List Ct} {l : List Nat} : RV (put cap cs nx l) (nrf (put cap cs nx l)) := by
  have h1 := put_len (cap := cap) (nx := nx) (cs := cs) (l := l)
  have h2 := (put_new (cap := cap) (nx := nx) (cs := cs) (l := l)).2
  exact ⟨(put cap cs nx l).length - 1, by omega, rfl, by show si _ _ - 1 < _; omega⟩
theorem put_pl {cap nx : Nat} {cs : List Ct} {l : List Nat} {r : Nat × Nat} (hW : Wc cs nx) (hW' : Wc (put cap cs nx l) (putn cs nx)) (h : RV cs r) : pl (put cap cs nx l) r.1 = pl cs r.1 ∧ ex (put cap cs nx l) r = ex cs r ∧ cr (put cap cs nx l) r = cr cs r := by
  obtain ⟨p1, p2, p3⟩ := pl_RV hW h
  obtain ⟨o1, o2, o3, o4, o5⟩ := put_old (cap := cap) (nx := nx) (l := l) p1
  have hl := put_len (cap := cap) (nx := nx) (cs := cs) (l := l)
  have e1 : pl (put cap cs nx l) r.1 = pl cs r.1 := by
    rw [← p2, ← o1, pl_at hW' (by omega), o1, p2]
  refine ⟨e1, ?_, ?_⟩
  · unfold ex
    rw [e1, put_stk p1]
  · unfold cr
    rw [e1, o5 _ p3]
theorem nrf_ex {cap nx : Nat} {cs : List Ct} {l : List Nat} (hW' : Wc (put cap cs nx l) (putn cs nx)) : ex (put cap cs nx l) (nrf (put cap cs nx l)) = st cs cs.length ∧ pl (put cap cs nx l) (nrf (put cap cs nx l)).1 = (put cap cs nx l).length - 1 ∧ cr (put cap cs nx l) (nrf (put cap cs nx l)) = l := by
  have hl := put_len (cap := cap) (nx := nx) (cs := cs) (l := l)
  obtain ⟨n1, n2⟩ := put_new (cap := cap) (nx := nx) (cs := cs) (l := l)
  have hs := put_st (cap := cap) (nx := nx) (cs := cs) (l := l)
  have e1 : pl (put cap cs nx l) (nrf (put cap cs nx l)).1 = (put cap cs nx l).length - 1 := pl_at hW' (by omega)
  refine ⟨?_, e1, ?_⟩
  · unfold ex
    rw [e1]
    have e2 : (put cap cs nx l).length = ((put cap cs nx l).length - 1) + 1 := by omega
    rw [e2, st_step] at hs
    show st _ _ + (si _ _ - 1) = _
    omega
  · unfold cr
    rw [e1]
    exact n1
theorem put_kpl {cap nx e : Nat} {cs : List Ct} {l : List Nat} (he : e < st cs cs.length) : kpl (put cap cs nx l) e = kpl cs e ∧ cf (put cap cs nx l) e = cf cs e ∧ pr (put cap cs nx l) e = pr cs e := by
  obtain ⟨k1, k2, k3⟩ := kpl_lt he
  obtain ⟨o1, o2, o3, o4, o5⟩ := put_old (cap := cap) (nx := nx) (l := l) k1
  have hl := put_len (cap := cap) (nx := nx) (cs := cs) (l := l)
  have hst := put_stk (cap := cap) (nx := nx) (l := l) k1
  have e1 : kpl (put cap cs nx l) e = kpl cs e := by
    have := kpl_at (cs := put cap cs nx l) (k := kpl cs e) (i := e - st cs (kpl cs e)) (by omega) (by omega)
    rw [hst, show st cs (kpl cs e) + (e - st cs (kpl cs e)) = e by omega] at this
    exact this
  refine ⟨e1, ?_, ?_⟩
  · unfold cf
    rw [e1, hst, o5 _ k3]
  · unfold pr
    rw [e1, hst, o1]
theorem put_kpn {cap nx : Nat} {cs : List Ct} {l : List Nat} : kpl (put cap cs nx l) (st cs cs.length) = (put cap cs nx l).length - 1 ∧ cf (put cap cs nx l) (st cs cs.length) = l ∧ pr (put cap cs nx l) (st cs cs.length) = nrf (put cap cs nx l) := by
  have hl := put_len (cap := cap) (nx := nx) (cs := cs) (l := l)
  obtain ⟨n1, n2⟩ := put_new (cap := cap) (nx := nx) (cs := cs) (l := l)
  have hs := put_st (cap := cap) (nx := nx) (cs := cs) (l := l)
  have e2 : (put cap cs nx l).length = ((put cap cs nx l).length - 1) + 1 := by omega
  rw [e2, st_step] at hs
  have e3 : st cs cs.length = st (put cap cs nx l) ((put cap cs nx l).length - 1) + (si (put cap cs nx l) ((put cap cs nx l).length - 1) - 1) := by omega
  have e1 := kpl_at (cs := put cap cs nx l) (k := (put cap cs nx l).length - 1) (i := si (put cap cs nx l) ((put cap cs nx l).length - 1) - 1) (by omega) (by omega)
  have e4 := cf_at (cs := put cap cs nx l) (k := (put cap cs nx l).length - 1) (i := si (put cap cs nx l) ((put cap cs nx l).length - 1) - 1) (by omega) (by omega)
  have e5 := pr_at (cs := put cap cs nx l) (k := (put cap cs nx l).length - 1) (i := si (put cap cs nx l) ((put cap cs nx l).length - 1) - 1) (by omega) (by omega)
  rw [← e3] at e1 e4 e5
  exact ⟨e1, by rw [e4]; exact n1, e5⟩
/-- the Model puts away -/
theorem puts_M {s : Nat → Int32} {se : Nat → Nat} {nx : Nat} {cs : List Ct} {l : List Nat} (hR : RMc s se nx cs) (hW : Wc cs nx) (hl : (put (se 1) cs nx l).length ≤ 92) : ∃ s', F_X9_puts s (J (c9 l)) = some s' ∧ RMc s' se (putn cs nx) (put (se 1) cs nx l) ∧ ∀ x, x ≠ 5 → x ≠ 7 → (x < 8 ∨ 8 + 11 * (put (se 1) cs nx l).length ≤ x) → s' x = s x := by
  obtain ⟨r1, r2, r3, r4⟩ := hR
  have hx := hW.1
  by_cases h : room cs
  · rw [(put_yes h).1, upl_len] at hl ⊢
    rw [(put_yes (cap := se 1) (l := l) h).2]
    have h0 := h.1
    have hr := h.2
    obtain ⟨g1, g2, g3, g4⟩ := r4 (cs.length - 1) (by omega)
    obtain ⟨a1, a2, a3, a4, a5, a6⟩ := hW.2.1 (cs.length - 1) (by omega)
    refine ⟨upd (upd s (8 + 11 * (cs.length - 1) + 3 + si cs (cs.length - 1)) (J (c9 l))) (8 + 11 * (cs.length - 1) + 2) (J (si cs (cs.length - 1) + 1)), ?_, ⟨fun i hi => ?_, ?_, ?_, fun k hk => ?_⟩, fun x h5 h7 h8 => ?_⟩
    · have hne : ∀ v, upd s (8 + 11 * (cs.length - 1) + 3 + si cs (cs.length - 1)) v (8 + 11 * (cs.length - 1) + 2) = J (si cs (cs.length - 1)) := fun v => by rw [upd_ne _ _ (by omega)]; exact g3
      unfold F_X9_puts J_X9_puts_119
      simp (disch := omega) only [r3, g3, g2, hne, J_add, J_mul, J_sub, J_dec, J_nat, J_lt, J_le, J_eq, gd_J, gz_J, gb_J, J_div, J_mod, md_back, JN, J_neN, J_Nne, J_ltN, J_Nlt, J_leN, J_Nle, N_refl, J01, J_addN, J_pred, F_X9_at, F_X9_backupAt, F_X9_fails, F_X9_thrown, Option.bind_some, if_true, if_false, Nat.add_zero, Nat.zero_add, Nat.mul_zero, Nat.zero_mul, Nat.reduceAdd, Nat.reduceMul, Nat.reduceSub, Nat.reduceEqDiff, Nat.reduceLeDiff, Nat.reduceLT, Nat.reducePow, Nat.not_lt_zero, Nat.zero_le, eq_self, not_true_eq_false, not_false_eq_true, reduceIte, L_0, L_1, L_2, L_3, L_4, L_5, L_6, L_7, L_8, L_9, L_10, L_11, L_12, L_14, L_15, L_16, L_24, L_30, L_31, L_32, L_34, L_40, L_44, L_90, L_96, L_97, L_100, L_120, L_121, L_192, L_997, L_998, L_1000, L_1270, L_10000, L_17780, L_2540, L_32768, L_16510]
      rw [if_neg (by omega)]
    · rw [upd_ne _ _ (by omega), upd_ne _ _ (by omega)]; exact r1 i hi
    · rw [upd_ne _ _ (by omega), upd_ne _ _ (by omega)]; exact r2
    · rw [upd_ne _ _ (by omega), upd_ne _ _ (by omega), upl_len]; exact r3
    · rw [upl_len] at hk
      obtain ⟨b1, b2, b3⟩ := upl_nu (l := l) h0 k
      unfold RMk
      rw [b1, b2, b3]
      obtain ⟨f1, f2, f3, f4⟩ := r4 k hk
      obtain ⟨c1, c2, c3, c4, c5, c6⟩ := hW.2.1 k hk
      by_cases q : k = cs.length - 1
      · subst q
        refine ⟨by rw [upd_ne _ _ (by omega), upd_ne _ _ (by omega)]; exact f1, by rw [upd_ne _ _ (by omega), upd_ne _ _ (by omega)]; exact f2, by rw [upd_self, if_pos rfl], fun i hi => ?_⟩
        rw [if_pos rfl] at hi
        rw [upd_ne _ _ (by omega), upl_ch h0]
        by_cases z : i = si cs (cs.length - 1)
        · rw [if_pos ⟨rfl, z⟩, z, upd_self]
        · rw [if_neg (fun w => z w.2), upd_ne _ _ (by omega)]
          exact f4 i (by omega)
      · refine ⟨by rw [upd_ne _ _ (by omega), upd_ne _ _ (by omega)]; exact f1, by rw [upd_ne _ _ (by omega), upd_ne _ _ (by omega)]; exact f2, by rw [upd_ne _ _ (by omega), upd_ne _ _ (by omega), if_neg q]; exact f3, fun i hi => ?_⟩
        rw [if_neg q] at hi
        rw [upd_ne _ _ (by omega), upd_ne _ _ (by omega), upl_ch h0, if_neg (fun w => q w.1)]
        exact f4 i hi
    · rw [upd_ne _ _ (by omega), upd_ne _ _ (by omega)]
  · rw [(put_no h).1, List.length_append] at hl ⊢
    have hl' : cs.length + 1 ≤ 92 := hl
    rw [(put_no (cap := se 1) (l := l) h).2]
    have hcap := r1 1 (by omega)
    refine ⟨upd (upd (upd (upd (upd (upd (upd s 7 (J (cs.length + 1))) (8 + 11 * cs.length) (J nx)) (8 + 11 * cs.length + 1) (J (se 1))) (8 + 11 * cs.length + 2) (J 0)) 5 (J (nx + 1))) (8 + 11 * cs.length + 3 + 0) (J (c9 l))) (8 + 11 * cs.length + 2) (J (0 + 1)), ?_, ⟨fun i hi => ?_, ?_, ?_, fun k hk => ?_⟩, fun x h5 h7 h8 => ?_⟩
    · have v1 : ∀ v, upd s 7 v 5 = J nx := fun v => by rw [upd_ne _ _ (by omega)]; exact r2
      have v2 : ∀ v w, upd (upd s 7 v) (8 + 11 * cs.length) w 1 = J (se 1) := fun v w => by rw [upd_ne _ _ (by omega), upd_ne _ _ (by omega)]; exact hcap
      have v3 : ∀ v w u t, upd (upd (upd (upd s 7 v) (8 + 11 * cs.length) w) (8 + 11 * cs.length + 1) u) (8 + 11 * cs.length + 2) t 5 = J nx := fun v w u t => by rw [upd_ne _ _ (by omega), upd_ne _ _ (by omega), upd_ne _ _ (by omega), upd_ne _ _ (by omega)]; exact r2
      have v4 : ∀ v w u t z, upd (upd (upd (upd (upd s 7 v) (8 + 11 * cs.length) w) (8 + 11 * cs.length + 1) u) (8 + 11 * cs.length + 2) t) 5 z (8 + 11 * cs.length + 2) = t := fun v w u t z => by rw [upd_ne _ _ (by omega), upd_self]
      have v5 : ∀ v w u t z y, upd (upd (upd (upd (upd (upd s 7 v) (8 + 11 * cs.length) w) (8 + 11 * cs.length + 1) u) (8 + 11 * cs.length + 2) t) 5 z) (8 + 11 * cs.length + 3) y (8 + 11 * cs.length + 2) = t := fun v w u t z y => by rw [upd_ne _ _ (by omega), upd_ne _ _ (by omega), upd_self]
      have j41 : J_X9_puts_41 s (J (c9 l)) () = some (upd (upd (upd (upd (upd (upd (upd s 7 (J (cs.length + 1))) (8 + 11 * cs.length) (J nx)) (8 + 11 * cs.length + 1) (J (se 1))) (8 + 11 * cs.length + 2) (J 0)) 5 (J (nx + 1))) (8 + 11 * cs.length + 3 + 0) (J (c9 l))) (8 + 11 * cs.length + 2) (J (0 + 1))) := by
        unfold J_X9_puts_41 J_X9_puts_119
        simp (disch := omega) only [r3, v1, v2, v3, v4, v5, J_add, J_mul, J_sub, J_dec, J_nat, J_lt, J_le, J_eq, gd_J, gz_J, gb_J, J_div, J_mod, md_back, JN, J_neN, J_Nne, J_ltN, J_Nlt, J_leN, J_Nle, N_refl, J01, J_addN, J_pred, F_X9_at, F_X9_backupAt, F_X9_fails, F_X9_thrown, Option.bind_some, if_true, if_false, Nat.add_zero, Nat.zero_add, Nat.mul_zero, Nat.zero_mul, Nat.reduceAdd, Nat.reduceMul, Nat.reduceSub, Nat.reduceEqDiff, Nat.reduceLeDiff, Nat.reduceLT, Nat.reducePow, Nat.not_lt_zero, Nat.zero_le, eq_self, not_true_eq_false, not_false_eq_true, reduceIte, L_0, L_1, L_2, L_3, L_4, L_5, L_6, L_7, L_8, L_9, L_10, L_11, L_12, L_14, L_15, L_16, L_24, L_30, L_31, L_32, L_34, L_40, L_44, L_90, L_96, L_97, L_100, L_120, L_121, L_192, L_997, L_998, L_1000, L_1270, L_10000, L_17780, L_2540, L_32768, L_16510]
      unfold F_X9_puts
      by_cases z : cs.length = 0
      · rw [j41]
        have e7 : s (Int32.toNatClampNeg 7) - 1 < 0 := by
          have : s (Int32.toNatClampNeg 7) = J cs.length := r3
          rw [this, z]
          decide
        rw [if_pos e7]
        unfold gd
        rw [if_neg (by decide)]
      · obtain ⟨g1, g2, g3, g4⟩ := r4 (cs.length - 1) (by omega)
        obtain ⟨a1, a2, a3, a4, a5, a6⟩ := hW.2.1 (cs.length - 1) (by omega)
        have hne : ¬ si cs (cs.length - 1) < ca cs (cs.length - 1) := fun w => h ⟨by omega, w⟩
        rw [j41]
        simp (disch := omega) only [r3, g3, g2, J_add, J_mul, J_sub, J_dec, J_nat, J_lt, J_le, J_eq, gd_J, gz_J, gb_J, J_div, J_mod, md_back, JN, J_neN, J_Nne, J_ltN, J_Nlt, J_leN, J_Nle, N_refl, J01, J_addN, J_pred, F_X9_at, F_X9_backupAt, F_X9_fails, F_X9_thrown, Option.bind_some, if_true, if_false, Nat.add_zero, Nat.zero_add, Nat.mul_zero, Nat.zero_mul, Nat.reduceAdd, Nat.reduceMul, Nat.reduceSub, Nat.reduceEqDiff, Nat.reduceLeDiff, Nat.reduceLT, Nat.reducePow, Nat.not_lt_zero, Nat.zero_le, eq_self, not_true_eq_false, not_false_eq_true, reduceIte, L_0, L_1, L_2, L_3, L_4, L_5, L_6, L_7, L_8, L_9, L_10, L_11, L_12, L_14, L_15, L_16, L_24, L_30, L_31, L_32, L_34, L_40, L_44, L_90, L_96, L_97, L_100, L_120, L_121, L_192, L_997, L_998, L_1000, L_1270, L_10000, L_17780, L_2540, L_32768, L_16510]
        rw [if_pos (by omega)]
    · rw [upd_ne _ _ (by omega), upd_ne _ _ (by omega), upd_ne _ _ (by omega), upd_ne _ _ (by omega), upd_ne _ _ (by omega), upd_ne _ _ (by omega), upd_ne _ _ (by omega)]; exact r1 i hi
    · rw [upd_ne _ _ (by omega), upd_ne _ _ (by omega), upd_self]
    · rw [upd_ne _ _ (by omega), upd_ne _ _ (by omega), upd_ne _ _ (by omega), upd_ne _ _ (by omega), upd_ne _ _ (by omega), upd_ne _ _ (by omega), upd_self, List.length_append]
      rfl
    · rw [List.length_append] at hk
      have hk' : k < cs.length + 1 := hk
      obtain ⟨b1, b2, b3⟩ := app_nu cs nx (se 1) l k
      unfold RMk
      rw [b1, b2, b3]
      by_cases q : k = cs.length
      · subst q
        rw [if_pos rfl, if_pos rfl, if_pos rfl]
        refine ⟨?_, ?_, ?_, fun i hi => ?_⟩
        · rw [upd_ne _ _ (by omega), upd_ne _ _ (by omega), upd_ne _ _ (by omega), upd_ne _ _ (by omega), upd_ne _ _ (by omega), upd_self]
        · rw [upd_ne _ _ (by omega), upd_ne _ _ (by omega), upd_ne _ _ (by omega), upd_ne _ _ (by omega), upd_self]
        · rw [upd_self]
        · obtain rfl : i = 0 := by omega
          rw [upd_ne _ _ (by omega), upd_self, app_ch, if_pos rfl, if_pos rfl]
      · rw [if_neg q, if_neg q, if_neg q]
        obtain ⟨f1, f2, f3, f4⟩ := r4 k (by omega)
        obtain ⟨c1, c2, c3, c4, c5, c6⟩ := hW.2.1 k (by omega)
        refine ⟨?_, ?_, ?_, fun i hi => ?_⟩
        · rw [upd_ne _ _ (by omega), upd_ne _ _ (by omega), upd_ne _ _ (by omega), upd_ne _ _ (by omega), upd_ne _ _ (by omega), upd_ne _ _ (by omega), upd_ne _ _ (by omega)]; exact f1
        · rw [upd_ne _ _ (by omega), upd_ne _ _ (by omega), upd_ne _ _ (by omega), upd_ne _ _ (by omega), upd_ne _ _ (by omega), upd_ne _ _ (by omega), upd_ne _ _ (by omega)]; exact f2
        · rw [upd_ne _ _ (by omega), upd_ne _ _ (by omega), upd_ne _ _ (by omega), upd_ne _ _ (by omega), upd_ne _ _ (by omega), upd_ne _ _ (by omega), upd_ne _ _ (by omega)]; exact f3
        · rw [upd_ne _ _ (by omega), upd_ne _ _ (by omega), upd_ne _ _ (by omega), upd_ne _ _ (by omega), upd_ne _ _ (by omega), upd_ne _ _ (by omega), upd_ne _ _ (by omega), app_ch, if_neg q]; exact f4 i hi
    · have h8' : x < 8 ∨ 8 + 11 * (cs.length + 1) ≤ x := h8
      rw [upd_ne _ _ (by omega), upd_ne _ _ (by omega), upd_ne _ _ (by omega), upd_ne _ _ (by omega), upd_ne _ _ (by omega), upd_ne _ _ (by omega), upd_ne _ _ (by omega)]
