/-! THE PURE SIDE: a backup is laid out -/
/-- containers, the next number, the references, how many were put away -/
abbrev MK : Type := List Ct × Nat × List (Nat × Nat) × Nat
noncomputable def mks (cap : Nat) (cs0 : List Ct) (l : List Nat) (h : Option Nat) (b i : Nat) (S : MK) : MK := match h with
  | some p => (S.1, S.2.1, S.2.2.1 ++ [(nu cs0 p, fe cs0 p l)], S.2.2.2)
  | none => if b < i then (S.1, S.2.1, S.2.2.1 ++ [rf S.2.2.1 b], S.2.2.2) else (put cap S.1 S.2.1 l, putn S.1 S.2.1, S.2.2.1 ++ [nrf (put cap S.1 S.2.1 l)], S.2.2.2 + 1)
def bfr (ks : Nat → List Nat) (i : Nat) : Nat := fi (fun j => decide (ks j = ks i)) i
noncomputable def mk (cap : Nat) (cs0 : List Ct) (nx0 : Nat) (ks : Nat → List Nat) (hs : Nat → Option Nat) : Nat → MK
  | 0 => (cs0, nx0, [], 0)
  | i + 1 => mks cap cs0 (ks i) (hs i) (bfr ks i) i (mk cap cs0 nx0 ks hs i)
/-- what holds on the way -/
def MI (cs0 : List Ct) (nx0 i : Nat) (S : MK) : Prop := Wc S.1 S.2.1 ∧ S.2.2.1.length = i ∧ (∀ j, j < i → RV S.1 (rf S.2.2.1 j)) ∧ cs0.length ≤ S.1.length ∧ (∀ k, k < cs0.length → nu S.1 k = nu cs0 k ∧ si cs0 k ≤ si S.1 k ∧ (k + 1 < cs0.length → si S.1 k = si cs0 k) ∧ ∀ x, x < si cs0 k → ch S.1 k x = ch cs0 k x) ∧ st S.1 S.1.length = st cs0 cs0.length + S.2.2.2 ∧ (S.1.length = cs0.length ∨ (cs0.length < S.1.length ∧ 2 * (S.1.length - cs0.length - 1) + si S.1 (S.1.length - 1) ≤ S.2.2.2)) ∧ S.2.2.2 ≤ i ∧ S.2.1 ≤ nx0 + S.2.2.2
theorem rf_snoc {l : List (Nat × Nat)} {a : Nat × Nat} {j : Nat} : rf (l ++ [a]) j = if j = l.length then a else rf l j := by
  unfold rf
  rw [List.getElem?_append]
  by_cases q : j = l.length
  · rw [if_neg (by omega), if_pos q, q, Nat.sub_self]
    rfl
  · rw [if_neg q]
    by_cases z : j < l.length
    · rw [if_pos z]
    · rw [if_neg z, List.getElem?_eq_none (by simp; omega), List.getElem?_eq_none (by omega)]
theorem MI_len {cs0 : List Ct} {nx0 i : Nat} {S : MK} (h : MI cs0 nx0 i S) : 2 * S.1.length ≤ 2 * cs0.length + S.2.2.2 + 1 := by
  obtain ⟨h1, h2, h3, h4, h5, h6, h7, h8, h9⟩ := h
  rcases h7 with q | ⟨q1, q2⟩
  · omega
  · have := (h1.2.1 (S.1.length - 1) (by omega)).1
    omega
theorem MI_step {cap nx0 i b : Nat} {cs0 : List Ct} {l : List Nat} {h : Option Nat} {S : MK} (hS : MI cs0 nx0 i S) (hv : vch l) (h2 : 2 ≤ cap) (h8 : cap ≤ 8) (hx : nx0 + i + 1 < 2 ^ 30) (hh : ∀ p, h = some p → p < cs0.length ∧ fe cs0 p l < si cs0 p) (hb : b ≤ i) : MI cs0 nx0 (i + 1) (mks cap cs0 l h b i S) := by
  obtain ⟨a1, a2, a3, a4, a5, a6, a7, a8, a9⟩ := hS
  cases h with
  | some p =>
    obtain ⟨p1, p2⟩ := hh p rfl
    obtain ⟨o1, o2, o3, o4⟩ := a5 p p1
    refine ⟨a1, ?_, fun j hj => ?_, a4, a5, a6, a7, Nat.le_succ_of_le a8, a9⟩
    · show (S.2.2.1 ++ [_]).length = _
      rw [List.length_append, a2]; rfl
    · show RV S.1 (rf (S.2.2.1 ++ [(nu cs0 p, fe cs0 p l)]) j)
      rw [rf_snoc, a2]
      by_cases q : j = i
      · rw [if_pos q]
        exact ⟨p, by omega, o1.symm, by show fe cs0 p l < _; omega⟩
      · rw [if_neg q]
        exact a3 j (by omega)
  | none =>
    by_cases w : b < i
    · have e : mks cap cs0 l none b i S = (S.1, S.2.1, S.2.2.1 ++ [rf S.2.2.1 b], S.2.2.2) := if_pos w
      rw [e]
      refine ⟨a1, ?_, fun j hj => ?_, a4, a5, a6, a7, Nat.le_succ_of_le a8, a9⟩
      · show (S.2.2.1 ++ [_]).length = _
        rw [List.length_append, a2]; rfl
      · show RV S.1 (rf (S.2.2.1 ++ [rf S.2.2.1 b]) j)
        rw [rf_snoc, a2]
        by_cases q : j = i
        · rw [if_pos q]; exact a3 b w
        · rw [if_neg q]; exact a3 j (by omega)
    · have e : mks cap cs0 l none b i S = (put cap S.1 S.2.1 l, putn S.1 S.2.1, S.2.2.1 ++ [nrf (put cap S.1 S.2.1 l)], S.2.2.2 + 1) := if_neg w
      rw [e]
      have hW' := put_Wc (cap := cap) (l := l) a1 hv h2 h8 (by omega)
      have hl := put_len (cap := cap) (nx := S.2.1) (cs := S.1) (l := l)
      refine ⟨hW', ?_, fun j hj => ?_, by show cs0.length ≤ (put cap S.1 S.2.1 l).length; omega, fun k hk => ?_, ?_, ?_, by show S.2.2.2 + 1 ≤ i + 1; omega, ?_⟩
      · show (S.2.2.1 ++ [_]).length = _
        rw [List.length_append, a2]; rfl
      · show RV (put cap S.1 S.2.1 l) (rf (S.2.2.1 ++ [nrf (put cap S.1 S.2.1 l)]) j)
        rw [rf_snoc, a2]
        by_cases q : j = i
        · rw [if_pos q]; exact nrf_RV
        · rw [if_neg q]; exact put_RV (a3 j (by omega))
      · obtain ⟨o1, o2, o3, o4⟩ := a5 k hk
        obtain ⟨u1, u2, u3, u4, u5⟩ := put_old (cap := cap) (nx := S.2.1) (l := l) (show k < S.1.length by omega)
        exact ⟨u1.trans o1, by show si cs0 k ≤ si (put cap S.1 S.2.1 l) k; omega, fun q => (u4 (by omega)).trans (o3 q), fun x hx2 => (u5 x (by omega)).trans (o4 x hx2)⟩
      · show st (put cap S.1 S.2.1 l) _ = _ + (S.2.2.2 + 1)
        rw [put_st, a6]
        omega
      · show (put cap S.1 S.2.1 l).length = cs0.length ∨ (cs0.length < (put cap S.1 S.2.1 l).length ∧ 2 * ((put cap S.1 S.2.1 l).length - cs0.length - 1) + si (put cap S.1 S.2.1 l) ((put cap S.1 S.2.1 l).length - 1) ≤ S.2.2.2 + 1)
        by_cases r : room S.1
        · rw [(put_yes r).1, upl_len, (upl_nu r.1 _).2.2, if_pos rfl]
          rcases a7 with q | ⟨q1, q2⟩
          · exact Or.inl q
          · exact Or.inr ⟨q1, by omega⟩
        · have e2 : (S.1 ++ [(S.2.1, cap, [l])]).length = S.1.length + 1 := by simp
          rw [(put_no r).1, e2, show S.1.length + 1 - 1 = S.1.length by omega, (app_nu S.1 S.2.1 cap l _).2.2, if_pos rfl]
          right
          refine ⟨by omega, ?_⟩
          rcases a7 with q | ⟨q1, q2⟩
          · omega
          · have hk := a1.2.1 (S.1.length - 1) (by omega)
            have : ¬ si S.1 (S.1.length - 1) < ca S.1 (S.1.length - 1) := fun z => r ⟨by omega, z⟩
            obtain ⟨k1, k2, k3, k4, k5, k6⟩ := hk
            omega
      · show putn S.1 S.2.1 ≤ nx0 + (S.2.2.2 + 1)
        by_cases r : room S.1
        · rw [(put_yes (cap := cap) (l := l) r).2]; omega
        · rw [(put_no (cap := cap) (l := l) r).2]; omega
theorem MI_all {cap nx0 n : Nat} {cs0 : List Ct} {ks : Nat → List Nat} {hs : Nat → Option Nat} (hW : Wc cs0 nx0) (hv : ∀ j, j < n → vch (ks j)) (h2 : 2 ≤ cap) (h8 : cap ≤ 8) (hx : nx0 + n < 2 ^ 30) (hh : ∀ j p, j < n → hs j = some p → p < cs0.length ∧ fe cs0 p (ks j) < si cs0 p) : ∀ i, i ≤ n → MI cs0 nx0 i (mk cap cs0 nx0 ks hs i) := by
  intro i
  induction i with
  | zero =>
    intro _
    exact ⟨hW, rfl, fun j hj => absurd hj (Nat.not_lt_zero _), Nat.le_refl _, fun k hk => ⟨rfl, Nat.le_refl _, fun _ => rfl, fun _ _ => rfl⟩, rfl, Or.inl rfl, Nat.le_refl _, Nat.le_refl _⟩
  | succ i ih =>
    intro hi
    exact MI_step (ih (by omega)) (hv i (by omega)) h2 h8 (by omega) (fun p hp => hh i p (by omega) hp) (fi_spec _ _).1
theorem MI_fe {cs0 : List Ct} {nx0 i p : Nat} {S : MK} {l : List Nat} (h : MI cs0 nx0 i S) (hp : p < cs0.length) (hf : fe cs0 p l < si cs0 p) : fe S.1 p l = fe cs0 p l := by
  obtain ⟨o1, o2, o3, o4⟩ := h.2.2.2.2.1 p hp
  refine fi_eq (by omega) (fun j hj => decide_eq_false fun q => ?_) (fun _ => decide_eq_true ?_)
  · rw [o4 j (by omega)] at q
    have := of_decide_eq_false ((fi_spec (fun e => decide (ch cs0 p e = l)) (si cs0 p)).2.1 j hj)
    exact this q
  · rw [o4 _ hf]
    exact fe_ch hf
theorem MI_st {cs0 : List Ct} {nx0 i p : Nat} {S : MK} (h : MI cs0 nx0 i S) (hp : p < cs0.length) : st S.1 p = st cs0 p := st_ext fun k hk => (h.2.2.2.2.1 k (by omega)).2.2.1 (by omega)
/-- the Model makes a backup's chunks -/
theorem mak27_M {ck : Nat → Int32} {ks : Nat → List Nat} {n i : Nat} {v2 : (Nat → Int32) × (Nat → Int32)} {s12 : Int32 × (Nat → Int32) × (Nat → Int32) × (Nat → Int32) × Int32} {K : Int32 → Option ((Nat → Int32) × (Nat → Int32) × (Nat → Int32) × (Nat → Int32) × (Nat → Int32) × Int32)} (h15 : n ≤ 15) (hi : i < n) (hk : ∀ j, j < n → ck j = J (c9 (ks j)) ∧ vch (ks j)) (h12 : s12.1 = J i) : (v2.1 i = NN → lp (B_X9_makes_27 s12 v2 ck K) FU (NN, dn i) = K (RJ (bfr ks i) i)) ∧ (v2.1 i ≠ NN → lp (B_X9_makes_27 s12 v2 ck K) FU (NN, dn i) = K NN) := by
  have e4 : (-1 : Int32) = NN := rfl
  constructor
  · intro hN
    have hstep : ∀ t, t < i → fi (fun x => decide (ks (t + x) = ks i)) (i - t) + t = if ks t = ks i then t else fi (fun x => decide (ks (t + 1 + x) = ks i)) (i - (t + 1)) + (t + 1) := by
      intro t ht
      by_cases q : ks t = ks i
      · rw [if_pos q, fi_eq (k := 0) (Nat.zero_le _) (fun j hj => absurd hj (Nat.not_lt_zero _)) (fun _ => decide_eq_true q), Nat.zero_add]
      · rw [if_neg q]
        obtain ⟨f1, f2, f3⟩ := fi_spec (fun x => decide (ks (t + 1 + x) = ks i)) (i - (t + 1))
        rw [fi_eq (k := fi (fun x => decide (ks (t + 1 + x) = ks i)) (i - (t + 1)) + 1) (by omega) (fun j hj => ?_) (fun hlt => ?_)]
        · omega
        · cases j with
          | zero => exact decide_eq_false q
          | succ j =>
            have := f2 j (by omega)
            show decide (ks (t + (j + 1)) = ks i) = false
            rw [show t + (j + 1) = t + 1 + j by omega]
            exact this
        · have := f3 (by omega)
          show decide (ks (t + (fi (fun x => decide (ks (t + 1 + x) = ks i)) (i - (t + 1)) + 1)) = ks i) = true
          rw [show t + (fi (fun x => decide (ks (t + 1 + x) = ks i)) (i - (t + 1)) + 1) = t + 1 + fi (fun x => decide (ks (t + 1 + x) = ks i)) (i - (t + 1)) by omega]
          exact this
    have e0 : (NN, dn i) = (fun t => (RJ (fi (fun x => decide (ks (i - t + x) = ks i)) (i - (i - t)) + (i - t)) i, dn (i - t))) 0 := by
      show _ = (RJ (fi (fun x => decide (ks (i - 0 + x) = ks i)) (i - (i - 0)) + (i - 0)) i, dn (i - 0))
      rw [Nat.sub_zero, Nat.sub_self]
      show _ = (RJ (0 + i) i, dn i)
      unfold RJ
      rw [if_neg (by omega)]
    rw [e0]
    refine lp_run (fun t => (RJ (fi (fun x => decide (ks (i - t + x) = ks i)) (i - (i - t)) + (i - t)) i, dn (i - t))) i (fun self t ht => ?_) (fun self => ?_) (by unfold FU; omega)
    · have hs := hstep (i - (t + 1)) (by omega)
      rw [show i - (t + 1) + 1 = i - t by omega] at hs
      have hdn : dn (i - t) = J (i - (t + 1)) := by rw [show i - t = (i - (t + 1)) + 1 by omega, dn_succ]
      obtain ⟨c1, c2⟩ := hk (i - (t + 1)) (by omega)
      obtain ⟨c3, c4⟩ := hk i hi
      have hcmp := c9_eq c2 c4
      rw [hs, hdn]
      generalize fi (fun x => decide (ks (i - t + x) = ks i)) (i - (i - t)) + (i - t) = z
      unfold B_X9_makes_27
      rw [h12]
      simp (disch := omega) only [hN, c1, c3, hcmp, J_add, J_mul, J_sub, J_dec, J_nat, J_lt, J_le, J_eq, gd_J, gz_J, gb_J, J_div, J_mod, md_back, JN, J_neN, J_Nne, J_ltN, J_Nlt, J_leN, J_Nle, N_refl, J01, J_addN, J_pred, F_X9_at, F_X9_backupAt, F_X9_fails, F_X9_thrown, Option.bind_some, if_true, if_false, Nat.add_zero, Nat.zero_add, Nat.mul_zero, Nat.zero_mul, Nat.reduceAdd, Nat.reduceMul, Nat.reduceSub, Nat.reduceEqDiff, Nat.reduceLeDiff, Nat.reduceLT, Nat.reducePow, Nat.not_lt_zero, Nat.zero_le, eq_self, not_true_eq_false, not_false_eq_true, reduceIte, L_0, L_1, L_2, L_3, L_4, L_5, L_6, L_7, L_8, L_9, L_10, L_11, L_12, L_14, L_15, L_16, L_24, L_30, L_31, L_32, L_34, L_40, L_44, L_90, L_96, L_97, L_100, L_120, L_121, L_192, L_997, L_998, L_1000, L_1270, L_10000, L_17780, L_2540, L_32768, L_16510]
      rw [dn_add]
      by_cases q : ks (i - (t + 1)) = ks i
      · rw [if_pos q, if_pos q]
        have : RJ (i - (t + 1)) i = J (i - (t + 1)) := by unfold RJ; rw [if_pos (by omega)]
        rw [this]
      · rw [if_neg q, if_neg q]
    · have e : RJ (fi (fun x => decide (ks (i - i + x) = ks i)) (i - (i - i)) + (i - i)) i = RJ (bfr ks i) i := by
        rw [Nat.sub_self, Nat.sub_zero, Nat.add_zero]
        unfold bfr
        congr 1
        exact fi_ext fun x _ => by rw [Nat.zero_add]
      show B_X9_makes_27 s12 v2 ck K self (RJ (fi (fun x => decide (ks (i - i + x) = ks i)) (i - (i - i)) + (i - i)) i, dn (i - i)) = _
      rw [e, Nat.sub_self]
      unfold B_X9_makes_27
      rw [if_pos (show dn 0 < 0 by decide)]
  · intro hN
    refine lp_run (fun t => (NN, dn i)) 0 (fun self t ht => absurd ht (Nat.not_lt_zero _)) (fun self => ?_) (by unfold FU; omega)
    unfold B_X9_makes_27
    by_cases z : i = 0
    · subst z
      rw [if_pos (show dn 0 < 0 by decide)]
    · have hdn : dn i = J (i - 1) := by rw [show i = (i - 1) + 1 by omega, dn_succ]; rfl
      have h3 : ¬ J (i - 1) < 0 := J_neg (by omega)
      rw [hdn, if_neg h3, h12, gd_J (by omega) (by omega), J_nat (by omega), e4, if_neg hN]
theorem makes_M {s ck hm0 dr0 mi0 ma0 : Nat → Int32} {pm0 : Int32} {se : Nat → Nat} {nx n lim : Nat} {cs : List Ct} {ks : Nat → List Nat} (hR : RMc s se nx cs) (hW : Wc cs nx) (hS : Ws se) (hl : cs.length ≤ 84) (hx : nx + 15 < 2 ^ 30) (h15 : n ≤ 15) (hk : ∀ j, j < n → ck j = J (c9 (ks j)) ∧ vch (ks j)) (hlim9 : lim ≤ 9) : ∃ s' f g mi ma, F_X9_makes s ck (J n) hm0 dr0 mi0 ma0 pm0 (J lim) = some (s', f, g, mi, ma, J (mk (se 1) cs nx ks (kh (fun j => hm cs (ks j)) n lim) n).2.2.2) ∧ RMc s' se (mk (se 1) cs nx ks (kh (fun j => hm cs (ks j)) n lim) n).2.1 (mk (se 1) cs nx ks (kh (fun j => hm cs (ks j)) n lim) n).1 ∧ (∀ x, (x < 5 ∨ x = 6 ∨ 8 + 11 * (mk (se 1) cs nx ks (kh (fun j => hm cs (ks j)) n lim) n).1.length ≤ x) → s' x = s x) ∧ ∀ j, j < n → mi j = J (rf (mk (se 1) cs nx ks (kh (fun j => hm cs (ks j)) n lim) n).2.2.1 j).1 ∧ ma j = J (rf (mk (se 1) cs nx ks (kh (fun j => hm cs (ks j)) n lim) n).2.2.1 j).2 := by
  obtain ⟨f, g, hf1, hf2⟩ := findsHomes_M (hm0 := hm0) (dr0 := dr0) hR hW (show cs.length ≤ 92 by omega) h15 hk hlim9
  have hcap2 : 2 ≤ se 1 := hS.2.2.1
  have hcap8 : se 1 ≤ 8 := hS.2.2.2.1
  have hkm : ∀ j p, kh (fun j => hm cs (ks j)) n lim j = some p → p < cs.length ∧ fe cs p (ks j) < si cs p := by
    intro j p hp
    unfold kh at hp
    split at hp
    · cases hp
    · obtain ⟨h1, h2, h3⟩ := lastP_some hp
      exact ⟨h1, of_decide_eq_true h2⟩
  generalize kh (fun j => hm cs (ks j)) n lim = hs at *
  have hMI := MI_all (cap := se 1) (ks := ks) (hs := hs) (n := n) hW (fun j hj => (hk j hj).2) hcap2 hcap8 (by omega) (fun j p _ hp => hkm j p hp)
  have e4 : (-1 : Int32) = NN := rfl
  have go : ∀ (x i fuel : Nat) (si_ mi ma : Nat → Int32), i + x = n → RMc si_ se (mk (se 1) cs nx ks hs i).2.1 (mk (se 1) cs nx ks hs i).1 → (∀ x, (x < 5 ∨ x = 6 ∨ 8 + 11 * (mk (se 1) cs nx ks hs i).1.length ≤ x) → si_ x = s x) → (∀ j, j < i → mi j = J (rf (mk (se 1) cs nx ks hs i).2.2.1 j).1 ∧ ma j = J (rf (mk (se 1) cs nx ks hs i).2.2.1 j).2) → x < fuel → ∃ s' mi' ma', lp (B_X9_makes_12 (J n) (f, g) ck) fuel (J i, si_, mi, ma, J (mk (se 1) cs nx ks hs i).2.2.2) = some (s', f, g, mi', ma', J (mk (se 1) cs nx ks hs n).2.2.2) ∧ RMc s' se (mk (se 1) cs nx ks hs n).2.1 (mk (se 1) cs nx ks hs n).1 ∧ (∀ x, (x < 5 ∨ x = 6 ∨ 8 + 11 * (mk (se 1) cs nx ks hs n).1.length ≤ x) → s' x = s x) ∧ ∀ j, j < n → mi' j = J (rf (mk (se 1) cs nx ks hs n).2.2.1 j).1 ∧ ma' j = J (rf (mk (se 1) cs nx ks hs n).2.2.1 j).2 := by
    intro x
    induction x with
    | zero =>
      intro i fuel si_ mi ma hi hRi hout hrs hfu
      obtain ⟨fuel, rfl⟩ : ∃ q, fuel = q + 1 := ⟨fuel - 1, by omega⟩
      obtain rfl : i = n := by omega
      refine ⟨si_, mi, ma, ?_, hRi, hout, hrs⟩
      show B_X9_makes_12 _ _ _ _ _ = _
      unfold B_X9_makes_12
      simp (disch := omega) only [Nat.le_refl, J_add, J_mul, J_sub, J_dec, J_nat, J_lt, J_le, J_eq, gd_J, gz_J, gb_J, J_div, J_mod, md_back, JN, J_neN, J_Nne, J_ltN, J_Nlt, J_leN, J_Nle, N_refl, J01, J_addN, J_pred, F_X9_at, F_X9_backupAt, F_X9_fails, F_X9_thrown, Option.bind_some, if_true, if_false, Nat.add_zero, Nat.zero_add, Nat.mul_zero, Nat.zero_mul, Nat.reduceAdd, Nat.reduceMul, Nat.reduceSub, Nat.reduceEqDiff, Nat.reduceLeDiff, Nat.reduceLT, Nat.reducePow, Nat.not_lt_zero, Nat.zero_le, eq_self, not_true_eq_false, not_false_eq_true, reduceIte, L_0, L_1, L_2, L_3, L_4, L_5, L_6, L_7, L_8, L_9, L_10, L_11, L_12, L_14, L_15, L_16, L_24, L_30, L_31, L_32, L_34, L_40, L_44, L_90, L_96, L_97, L_100, L_120, L_121, L_192, L_997, L_998, L_1000, L_1270, L_10000, L_17780, L_2540, L_32768, L_16510]
    | succ x ih =>
      intro i fuel si_ mi ma hi hRi hout hrs hfu
      obtain ⟨fuel, rfl⟩ : ∃ q, fuel = q + 1 := ⟨fuel - 1, by omega⟩
      have hin : i < n := by omega
      have hM := hMI i (by omega)
      have hM1 := hMI (i + 1) (by omega)
      have hlen := MI_len hM
      have hlen1 := MI_len hM1
      obtain ⟨ck1, ck2⟩ := hk i hin
      have hfi := hf2 i hin
      have hmk : mk (se 1) cs nx ks hs (i + 1) = mks (se 1) cs (ks i) (hs i) (bfr ks i) i (mk (se 1) cs nx ks hs i) := rfl
      have ihx := fun a b c => ih (i + 1) fuel a b c (by omega)
      clear ih
      show ∃ s' mi' ma', B_X9_makes_12 _ _ _ (lp _ fuel) _ = _ ∧ _
      generalize lp (B_X9_makes_12 (J n) (f, g) ck) fuel = self at ihx ⊢
      rw [hmk] at hM1 hlen1 ihx
      generalize hSS : mk (se 1) cs nx ks hs i = S at *
      have hdn : J i - 1 = dn i := dn_sub i
      have hcond : ¬ J n ≤ J i := by rw [J_le (by omega) (by omega)]; omega
      have hg16 : ∀ (x : Option ((Nat → Int32) × (Nat → Int32) × (Nat → Int32) × (Nat → Int32) × (Nat → Int32) × Int32)), gd (J i) 16 x = x := fun x => gd_J (by omega) (by omega)
      obtain ⟨m1, m2⟩ := mak27_M (ks := ks) (v2 := (f, g)) (s12 := (J i, si_, mi, ma, J S.2.2.2)) (K := K_X9_makes_71 (J i, si_, mi, ma, J S.2.2.2) (f, g) ck self) h15 hin hk rfl
      unfold B_X9_makes_12
      dsimp only
      rw [if_neg hcond, hdn, e4]
      cases hh : hs i with
      | some p =>
        obtain ⟨p1, p2⟩ := hkm i p hh
        rw [hh] at hfi ihx hM1
        have hfi' : f i = J (nu cs p) := hfi
        have hnp := Wc_nu hW p1
        have hne : f i ≠ NN := by rw [hfi']; intro z; rw [J_neN (by omega)] at z; exact z
        rw [m2 hne]
        obtain ⟨o1, o2, o3, o4⟩ := hM.2.2.2.2.1 p p1
        have hslot := slot_M hRi hM.1 (show S.1.length ≤ 92 by have := hM.2.2.2.2.2.2.2.1; omega) (show p < S.1.length by have := hM.2.2.2.1; omega)
        rw [o1] at hslot
        have hent := entryOf_M hRi hM.1 (show S.1.length ≤ 92 by have := hM.2.2.2.2.2.2.2.1; omega) (show p < S.1.length by have := hM.2.2.2.1; omega) ck2
        rw [MI_fe hM p1 p2] at hent
        have hrj : RJ (fe cs p (ks i)) (si S.1 p) = J (fe cs p (ks i)) := by unfold RJ; rw [if_pos (by omega)]
        rw [hrj] at hent
        obtain ⟨s', mi', ma', y1, y2⟩ := ihx si_ (upd mi i (J (nu cs p))) (upd ma i (J (fe cs p (ks i)))) hRi hout (fun j hj => by
          show _ = J (rf (S.2.2.1 ++ [(nu cs p, fe cs p (ks i))]) j).1 ∧ _ = J (rf (S.2.2.1 ++ [(nu cs p, fe cs p (ks i))]) j).2
          rw [rf_snoc, hM.2.1]
          by_cases q : j = i
          · rw [if_pos q, q, upd_self, upd_self]
            exact ⟨rfl, rfl⟩
          · rw [if_neg q, upd_ne _ _ q, upd_ne _ _ q]
            exact hrs j (by omega)) (by omega)
        refine ⟨s', mi', ma', ?_, y2⟩
        unfold K_X9_makes_71
        dsimp only
        rw [hg16, J_nat (by omega), if_neg (show ¬ f i = -1 from hne), hg16, hg16, hg16, hfi', hslot]
        simp only [Option.bind_some]
        rw [hg16, ck1, hent]
        simp only [Option.bind_some]
        rw [hg16, show J i + 1 = J (i + 1) from J_add i 1]
        exact y1
      | none =>
        rw [hh] at hfi ihx hM1
        have hfi' : f i = NN := hfi
        rw [m1 hfi']
        by_cases w : bfr ks i < i
        · have hrj : RJ (bfr ks i) i = J (bfr ks i) := by unfold RJ; rw [if_pos w]
          have hmks : mks (se 1) cs (ks i) none (bfr ks i) i S = (S.1, S.2.1, S.2.2.1 ++ [rf S.2.2.1 (bfr ks i)], S.2.2.2) := if_pos w
          rw [hmks] at ihx
          obtain ⟨b1, b2⟩ := hrs (bfr ks i) w
          obtain ⟨s', mi', ma', y1, y2⟩ := ihx si_ (upd mi i (J (rf S.2.2.1 (bfr ks i)).1)) (upd ma i (J (rf S.2.2.1 (bfr ks i)).2)) hRi hout (fun j hj => by
            show _ = J (rf (S.2.2.1 ++ [rf S.2.2.1 (bfr ks i)]) j).1 ∧ _ = J (rf (S.2.2.1 ++ [rf S.2.2.1 (bfr ks i)]) j).2
            rw [rf_snoc, hM.2.1]
            by_cases q : j = i
            · rw [if_pos q, q, upd_self, upd_self]
              exact ⟨rfl, rfl⟩
            · rw [if_neg q, upd_ne _ _ q, upd_ne _ _ q]
              exact hrs j (by omega)) (by omega)
          refine ⟨s', mi', ma', ?_, y2⟩
          have hg16b : ∀ (x : Option ((Nat → Int32) × (Nat → Int32) × (Nat → Int32) × (Nat → Int32) × (Nat → Int32) × Int32)), gd (J (bfr ks i)) 16 x = x := fun x => gd_J (by omega) (by omega)
          unfold K_X9_makes_71
          dsimp only
          rw [hrj, hg16, J_nat (by omega), if_pos (show f i = -1 from hfi'), if_neg (show ¬ J (bfr ks i) = -1 by rw [e4, J_neN (by omega)]; exact id), hg16b, hg16, hg16b, hg16, J_nat (by omega), b1, b2, show J i + 1 = J (i + 1) from J_add i 1]
          exact y1
        · have hrj : RJ (bfr ks i) i = NN := by unfold RJ; rw [if_neg w]
          have hmks : mks (se 1) cs (ks i) none (bfr ks i) i S = (put (se 1) S.1 S.2.1 (ks i), putn S.1 S.2.1, S.2.2.1 ++ [nrf (put (se 1) S.1 S.2.1 (ks i))], S.2.2.2 + 1) := if_neg w
          rw [hmks] at ihx hM1
          have hl92 : (put (se 1) S.1 S.2.1 (ks i)).length ≤ 92 := by
            have h1 : 2 * (put (se 1) S.1 S.2.1 (ks i)).length ≤ 2 * cs.length + (S.2.2.2 + 1) + 1 := MI_len hM1
            have h2 := hM.2.2.2.2.2.2.2.1
            omega
          obtain ⟨s2, z1, z2, z3⟩ := puts_M hRi hM.1 hl92
          have hpl := put_len (cap := se 1) (nx := S.2.1) (cs := S.1) (l := ks i)
          obtain ⟨g1, g2, g3, g4⟩ := z2.2.2.2 ((put (se 1) S.1 S.2.1 (ks i)).length - 1) (by omega)
          have hsi := (put_new (cap := se 1) (nx := S.2.1) (cs := S.1) (l := ks i)).2
          obtain ⟨s', mi', ma', y1, y2⟩ := ihx s2 (upd mi i (J (nu (put (se 1) S.1 S.2.1 (ks i)) ((put (se 1) S.1 S.2.1 (ks i)).length - 1)))) (upd ma i (J (si (put (se 1) S.1 S.2.1 (ks i)) ((put (se 1) S.1 S.2.1 (ks i)).length - 1) - 1))) z2 (fun x hx => by
            have hx' : x < 5 ∨ x = 6 ∨ 8 + 11 * (put (se 1) S.1 S.2.1 (ks i)).length ≤ x := hx
            rw [z3 x (by omega) (by omega) (by omega)]
            exact hout x (by omega)) (fun j hj => by
            show _ = J (rf (S.2.2.1 ++ [nrf (put (se 1) S.1 S.2.1 (ks i))]) j).1 ∧ _ = J (rf (S.2.2.1 ++ [nrf (put (se 1) S.1 S.2.1 (ks i))]) j).2
            rw [rf_snoc, hM.2.1]
            by_cases q : j = i
            · rw [if_pos q, q, upd_self, upd_self]
              exact ⟨rfl, rfl⟩
            · rw [if_neg q, upd_ne _ _ q, upd_ne _ _ q]
              exact hrs j (by omega)) (by omega)
          refine ⟨s', mi', ma', ?_, y2⟩
          unfold K_X9_makes_71
          dsimp only
          rw [hrj, hg16, J_nat (by omega), if_pos (show f i = -1 from hfi'), if_pos (show NN = -1 from rfl), hg16, ck1, z1]
          simp (disch := omega) only [z2.2.2.1, g1, g3, J_add, J_mul, J_sub, J_dec, J_nat, J_lt, J_le, J_eq, gd_J, gz_J, gb_J, J_div, J_mod, md_back, JN, J_neN, J_Nne, J_ltN, J_Nlt, J_leN, J_Nle, N_refl, J01, J_addN, J_pred, F_X9_at, F_X9_backupAt, F_X9_fails, F_X9_thrown, Option.bind_some, if_true, if_false, Nat.add_zero, Nat.zero_add, Nat.mul_zero, Nat.zero_mul, Nat.reduceAdd, Nat.reduceMul, Nat.reduceSub, Nat.reduceEqDiff, Nat.reduceLeDiff, Nat.reduceLT, Nat.reducePow, Nat.not_lt_zero, Nat.zero_le, eq_self, not_true_eq_false, not_false_eq_true, reduceIte, L_0, L_1, L_2, L_3, L_4, L_5, L_6, L_7, L_8, L_9, L_10, L_11, L_12, L_14, L_15, L_16, L_24, L_30, L_31, L_32, L_34, L_40, L_44, L_90, L_96, L_97, L_100, L_120, L_121, L_192, L_997, L_998, L_1000, L_1270, L_10000, L_17780, L_2540, L_32768, L_16510]
          exact y1
  obtain ⟨s', mi', ma', y1, y2, y3, y4⟩ := go n 0 FU s mi0 ma0 (by omega) hR (fun x hx => rfl) (fun j hj => absurd hj (Nat.not_lt_zero _)) (by unfold FU; omega)
  refine ⟨s', f, g, mi', ma', ?_, y2, y3, y4⟩
  unfold F_X9_makes
  rw [hf1]
  exact y1
