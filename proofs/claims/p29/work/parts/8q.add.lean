/-! THE PURE SIDE: a backup is made -/
theorem sm_posx {f : Nat → Nat} : ∀ {n : Nat}, 0 < sm f n → ∃ i, i < n ∧ 0 < f i := by
  intro n
  induction n with
  | zero => intro h; exact absurd h (Nat.not_lt_zero _)
  | succ n ih =>
    intro h
    rw [sm_step] at h
    by_cases q : 0 < f n
    · exact ⟨n, by omega, q⟩
    · obtain ⟨i, i1, i2⟩ := ih (by omega)
      exact ⟨i, by omega, i2⟩
theorem cnt_posx {bs : Nat → List (Nat × Nat)} {u : Nat} {r : Nat × Nat} (h : 0 < cnt bs u r) : ∃ b i, b < 8 ∧ i < (bs b).length ∧ rf (bs b) i = r := by
  obtain ⟨b, b1, b2⟩ := sm_posx h
  have hc : 0 < (bs b).count r := by
    by_cases q : b = u
    · rw [if_pos q] at b2; omega
    · rw [if_neg q] at b2; exact b2
  obtain ⟨i, hi⟩ := List.getElem?_of_mem (List.count_pos_iff.mp hc)
  have h1 := (List.getElem?_eq_some_iff.mp hi).1
  refine ⟨b, i, b1, h1, ?_⟩
  have := rf_at h1
  rw [hi] at this
  exact (Option.some.inj this).symm
theorem lv_120 {cs : List Ct} {nx : Nat} {bs : Nat → List (Nat × Nat)} (hW : Wc cs nx) (hb : Wb cs bs) : sm (lv cs bs 8) cs.length ≤ 120 := by
  rw [lv_flat]
  refine Nat.le_trans (cp_inj (Q := fun _ => true) (m := 120) (f := fun e => fi (fun z => decide (z % 15 < (bs (z / 15)).length ∧ rf (bs (z / 15)) (z % 15) = pr cs e)) 120) (fun e he hp => ?_) (fun e e2 he he2 hp hp2 hf => ?_)) (cp_le _ _)
  · obtain ⟨b, i, b1, b2, b3⟩ := cnt_posx (of_decide_eq_true hp)
    have hl := (hb b b1).1
    obtain ⟨f1, f2, f3⟩ := fi_spec (fun z => decide (z % 15 < (bs (z / 15)).length ∧ rf (bs (z / 15)) (z % 15) = pr cs e)) 120
    refine ⟨?_, rfl⟩
    rcases Nat.lt_or_ge (fi (fun z => decide (z % 15 < (bs (z / 15)).length ∧ rf (bs (z / 15)) (z % 15) = pr cs e)) 120) 120 with q | q
    · exact q
    · have := of_decide_eq_false (f2 (b * 15 + i) (by omega))
      rw [show (b * 15 + i) % 15 = i by omega, show (b * 15 + i) / 15 = b by omega] at this
      exact absurd ⟨b2, b3⟩ this
  · have key : ∀ e, e < st cs cs.length → decide (0 < cnt bs 8 (pr cs e)) = true → rf (bs ((fi (fun z => decide (z % 15 < (bs (z / 15)).length ∧ rf (bs (z / 15)) (z % 15) = pr cs e)) 120) / 15)) ((fi (fun z => decide (z % 15 < (bs (z / 15)).length ∧ rf (bs (z / 15)) (z % 15) = pr cs e)) 120) % 15) = pr cs e := by
      intro e he hp
      obtain ⟨b, i, b1, b2, b3⟩ := cnt_posx (of_decide_eq_true hp)
      have hl := (hb b b1).1
      obtain ⟨f1, f2, f3⟩ := fi_spec (fun z => decide (z % 15 < (bs (z / 15)).length ∧ rf (bs (z / 15)) (z % 15) = pr cs e)) 120
      refine (of_decide_eq_true (f3 ?_)).2
      rcases Nat.lt_or_ge (fi (fun z => decide (z % 15 < (bs (z / 15)).length ∧ rf (bs (z / 15)) (z % 15) = pr cs e)) 120) 120 with q | q
      · exact q
      · have := of_decide_eq_false (f2 (b * 15 + i) (by omega))
        rw [show (b * 15 + i) % 15 = i by omega, show (b * 15 + i) / 15 = b by omega] at this
        exact absurd ⟨b2, b3⟩ this
    have k1 := key e he hp
    have k2 := key e2 he2 hp2
    have hf' : fi (fun z => decide (z % 15 < (bs (z / 15)).length ∧ rf (bs (z / 15)) (z % 15) = pr cs e)) 120 = fi (fun z => decide (z % 15 < (bs (z / 15)).length ∧ rf (bs (z / 15)) (z % 15) = pr cs e2)) 120 := hf
    rw [hf', k2] at k1
    rw [← ex_pr hW he, ← ex_pr hW he2, k1]
/-- a backup set to these references -/
def bad (bs : Nat → List (Nat × Nat)) (b : Nat) (l : List (Nat × Nat)) : Nat → List (Nat × Nat) := fun j => if j = b then l else bs j
theorem cnt_snoc {bs : Nat → List (Nat × Nat)} {b : Nat} {l : List (Nat × Nat)} {r q : Nat × Nat} (h : b < 8) : cnt (bad bs b (l ++ [r])) 8 q = cnt (bad bs b l) 8 q + (if r = q then 1 else 0) := by
  rw [cnt_out _ h, cnt_out (bad bs b l) h]
  have e1 : cnt (bad bs b (l ++ [r])) b q = cnt (bad bs b l) b q := by
    refine sm_ext fun i hi => ?_
    by_cases z : i = b
    · rw [if_pos z, if_pos z]
    · rw [if_neg z, if_neg z]
      unfold bad
      rw [if_neg z, if_neg z]
  have e2 : (bad bs b (l ++ [r]) b).count q = (bad bs b l b).count q + (if r = q then 1 else 0) := by
    unfold bad
    rw [if_pos rfl, if_pos rfl, List.count_append, List.count_singleton]
    congr 1
    by_cases z : r = q
    · rw [if_pos z, if_pos (by simp [z])]
    · rw [if_neg z, if_neg (by simp [z])]
  rw [e1, e2]
  omega
theorem mk_st {cap nx0 n : Nat} {cs0 : List Ct} {ks : Nat → List Nat} {hs : Nat → Option Nat} (hM : ∀ i, i ≤ n → MI cs0 nx0 i (mk cap cs0 nx0 ks hs i)) {i : Nat} : ∀ m, i + m ≤ n → ∀ x, x < i → rf (mk cap cs0 nx0 ks hs (i + m)).2.2.1 x = rf (mk cap cs0 nx0 ks hs i).2.2.1 x ∧ ex (mk cap cs0 nx0 ks hs (i + m)).1 (rf (mk cap cs0 nx0 ks hs i).2.2.1 x) = ex (mk cap cs0 nx0 ks hs i).1 (rf (mk cap cs0 nx0 ks hs i).2.2.1 x) := by
  intro m
  induction m with
  | zero => intro _ x _; exact ⟨rfl, rfl⟩
  | succ m ih =>
    intro hm x hx
    obtain ⟨h1, h2⟩ := ih (by omega) x hx
    have hMi := hM (i + m) (by omega)
    have hM1 := hM (i + m + 1) (by omega)
    have hmk : mk cap cs0 nx0 ks hs (i + (m + 1)) = mks cap cs0 (ks (i + m)) (hs (i + m)) (bfr ks (i + m)) (i + m) (mk cap cs0 nx0 ks hs (i + m)) := rfl
    have hmk1 : mk cap cs0 nx0 ks hs (i + m + 1) = mks cap cs0 (ks (i + m)) (hs (i + m)) (bfr ks (i + m)) (i + m) (mk cap cs0 nx0 ks hs (i + m)) := rfl
    have hr := hMi.2.2.1 x (by omega)
    rw [h1] at hr
    rw [hmk1] at hM1
    rw [hmk]
    have hlen := hMi.2.1
    cases hh : hs (i + m) with
    | some p =>
      refine ⟨?_, h2⟩
      show rf ((mk cap cs0 nx0 ks hs (i + m)).2.2.1 ++ [_]) x = _
      rw [rf_snoc, if_neg (by omega), h1]
    | none =>
      rw [hh] at hM1
      by_cases w : bfr ks (i + m) < i + m
      · have e : mks cap cs0 (ks (i + m)) none (bfr ks (i + m)) (i + m) (mk cap cs0 nx0 ks hs (i + m)) = _ := if_pos w
        rw [e]
        refine ⟨?_, h2⟩
        show rf ((mk cap cs0 nx0 ks hs (i + m)).2.2.1 ++ [_]) x = _
        rw [rf_snoc, if_neg (by omega), h1]
      · have e : mks cap cs0 (ks (i + m)) none (bfr ks (i + m)) (i + m) (mk cap cs0 nx0 ks hs (i + m)) = _ := if_neg w
        rw [e] at hM1 ⊢
        refine ⟨?_, ?_⟩
        · show rf ((mk cap cs0 nx0 ks hs (i + m)).2.2.1 ++ [_]) x = _
          rw [rf_snoc, if_neg (by omega), h1]
        · show ex (put cap (mk cap cs0 nx0 ks hs (i + m)).1 (mk cap cs0 nx0 ks hs (i + m)).2.1 (ks (i + m))) _ = _
          rw [(put_pl hMi.1 hM1.1 hr).2.1]
          exact h2
theorem cnt_none {bs : Nat → List (Nat × Nat)} {u : Nat} {r : Nat × Nat} (h : ∀ b i, b < 8 → i < (bs b).length → rf (bs b) i ≠ r) : cnt bs u r = 0 := by
  rcases Nat.lt_or_ge 0 (cnt bs u r) with q | q
  · obtain ⟨b, i, b1, b2, b3⟩ := cnt_posx q
    exact absurd b3 (h b i b1 b2)
  · omega
/-- the desk while a backup is made -/
def ADI (d : DKT) (A : AT) (b : Nat) (S : MK) : Prop := RDc d (a_se A) S.2.1 S.1 ∧ (∀ j, j < 8 → dk_lengths d j = J (a_bs A j).length) ∧ (∀ j, j < 8 → ∀ x, x < (bad (a_bs A) b S.2.2.1 j).length → dk_references d (j * 15 + x) = J (ex S.1 (rf (bad (a_bs A) b S.2.2.1 j) x))) ∧ (∀ e, e < st S.1 S.1.length → dk_uses d e = J (cnt (bad (a_bs A) b S.2.2.1) 8 (pr S.1 e))) ∧ dk_carried d = a_ca A
theorem j49_D {d : DKT} {se : Nat → Nat} {nx b i e n : Nat} {cs : List Ct} {p2 : PLT} {s15 : Int32 × DKT} {self : (Int32 × DKT) → Option (Int32 × DKT)} (hd : RDc d se nx cs) (hn : Wn cs) (hb : b < 8) (hi : i < 15) (h15 : s15.1 = J i) (he : e < st cs cs.length) (hp : pl_entries p2 i = J e) {u : Nat} (hu : dk_uses d e = J u) : J_X1_addBackup_49 s15 (J b) p2 self d = self (J (i + 1), ((dk_settings d), (dk_numbers d), (dk_capacities d), (dk_firsts d), (dk_containers d), (dk_codes d), (dk_places d), (upd (dk_uses d) e (J (u + 1))), (dk_entries d), (upd (dk_references d) (b * 15 + i) (J e)), (dk_lengths d), (dk_nextNumber d), (dk_carried d))) := by
  have hn2 := hn.2
  have hh := hasEntry_D (d := ((dk_settings d), (dk_numbers d), (dk_capacities d), (dk_firsts d), (dk_containers d), (dk_codes d), (dk_places d), (dk_uses d), (dk_entries d), (upd (dk_references d) (b * 15 + i) (J e)), (dk_lengths d), (dk_nextNumber d), (dk_carried d))) hd hn (e := e) (by omega)
  rw [if_pos he] at hh
  unfold J_X1_addBackup_49
  rw [h15]
  simp (disch := omega) only [hp, hh, hu, J_add, J_mul, J_sub, J_dec, J_nat, J_lt, J_le, J_eq, gd_J, gz_J, gb_J, J_div, J_mod, md_back, JN, J_neN, J_Nne, J_ltN, J_Nlt, J_leN, J_Nle, N_refl, J01, J_addN, J_pred, F_X9_at, F_X9_backupAt, F_X9_fails, F_X9_thrown, Option.bind_some, if_true, if_false, Nat.add_zero, Nat.zero_add, Nat.mul_zero, Nat.zero_mul, Nat.reduceAdd, Nat.reduceMul, Nat.reduceSub, Nat.reduceEqDiff, Nat.reduceLeDiff, Nat.reduceLT, Nat.reducePow, Nat.not_lt_zero, Nat.zero_le, eq_self, not_true_eq_false, not_false_eq_true, reduceIte, L_0, L_1, L_2, L_3, L_4, L_5, L_6, L_7, L_8, L_9, L_10, L_11, L_12, L_14, L_15, L_16, L_24, L_30, L_31, L_32, L_34, L_40, L_44, L_90, L_96, L_97, L_100, L_120, L_121, L_192, L_997, L_998, L_1000, L_1270, L_10000, L_17780, L_2540, L_32768, L_16510]
theorem add_step {d : DKT} {A : AT} {N n b i : Nat} {ks : Nat → List Nat} {hs : Nat → Option Nat} {sd : SMT} {p2 : PLT} {K : DKT → Option (Int32 × DKT)} {self : (Int32 × DKT) → Option (Int32 × DKT)} (hW : WF A N) (hN : N ≤ 600) (hb : b < 8) (hS : SMc sd ks n) (hin : i < n) (hch : pl_chunks p2 = J n) (hM : ∀ i, i ≤ n → MI (a_cs A) (a_nx A) i (mk (a_se A 1) (a_cs A) (a_nx A) ks hs i)) (hl24 : (mk (a_se A 1) (a_cs A) (a_nx A) ks hs (i + 1)).1.length ≤ 24) (hst : st (mk (a_se A 1) (a_cs A) (a_nx A) ks hs (i + 1)).1 (mk (a_se A 1) (a_cs A) (a_nx A) ks hs (i + 1)).1.length ≤ 192) (hkm : ∀ j p, hs j = some p → p < (a_cs A).length ∧ fe (a_cs A) p (ks j) < si (a_cs A) p) (hp : pl_entries p2 i = J (ex (mk (a_se A 1) (a_cs A) (a_nx A) ks hs (i + 1)).1 (rf (mk (a_se A 1) (a_cs A) (a_nx A) ks hs (i + 1)).2.2.1 i))) (hD : ADI d A b (mk (a_se A 1) (a_cs A) (a_nx A) ks hs i)) : ∃ d', B_X1_addBackup_15 p2 sd (J b) K self (J i, d) = self (J (i + 1), d') ∧ ADI d' A b (mk (a_se A 1) (a_cs A) (a_nx A) ks hs (i + 1)) := by
  have h15 := hS.1
  have hMi := hM i (by omega)
  have hM1 := hM (i + 1) (by omega)
  have hmk : mk (a_se A 1) (a_cs A) (a_nx A) ks hs (i + 1) = mks (a_se A 1) (a_cs A) (ks i) (hs i) (bfr ks i) i (mk (a_se A 1) (a_cs A) (a_nx A) ks hs i) := rfl
  rw [hmk] at hM1 hl24 hst hp ⊢
  generalize mk (a_se A 1) (a_cs A) (a_nx A) ks hs i = S at *
  obtain ⟨b1, b2, b3, b4, b5⟩ := hD
  have hcond : ¬ pl_chunks p2 ≤ J i := by rw [hch, J_le (by omega) (by omega)]; omega
  have hg15 : ∀ (x : Option (Int32 × DKT)), gd (J i) 15 x = x := fun x => gd_J (by omega) (by omega)
  have hlS := hMi.2.1
  -- no chunk is put away: reference r
  have old : ∀ r, RV S.1 r → mks (a_se A 1) (a_cs A) (ks i) (hs i) (bfr ks i) i S = (S.1, S.2.1, S.2.2.1 ++ [r], S.2.2.2) → ∃ d', B_X1_addBackup_15 p2 sd (J b) K self (J i, d) = self (J (i + 1), d') ∧ ADI d' A b (mks (a_se A 1) (a_cs A) (ks i) (hs i) (bfr ks i) i S) := by
    intro r hr hmks
    rw [hmks] at hl24 hst hp ⊢
    have hp' : pl_entries p2 i = J (ex S.1 r) := by
      rw [hp]
      show J (ex S.1 (rf (S.2.2.1 ++ [r]) i)) = _
      rw [rf_snoc, if_pos hlS.symm]
    have hnS : Wn S.1 := ⟨by have : S.1.length ≤ 24 := hl24; omega, hst⟩
    obtain ⟨x1, x2, x3, x4⟩ := ex_in hMi.1 hr
    have hu := b4 _ x1
    rw [pr_ex hMi.1 hr] at hu
    have hne : ¬ J (ex S.1 r) = J (st S.1 S.1.length) := by
      have := hnS.2
      rw [J_eq (by omega) (by omega)]
      omega
    have h49 := j49_D (s15 := (J i, d)) (self := self) (n := n) b1 hnS hb (by omega) rfl x1 hp' hu
    refine ⟨((dk_settings d), (dk_numbers d), (dk_capacities d), (dk_firsts d), (dk_containers d), (dk_codes d), (dk_places d), (upd (dk_uses d) (ex S.1 r) (J (cnt (bad (a_bs A) b S.2.2.1) 8 r + 1))), (dk_entries d), (upd (dk_references d) (b * 15 + i) (J (ex S.1 r))), (dk_lengths d), (dk_nextNumber d), (dk_carried d)), ?_, ⟨b1, b2, fun j hj x hx => ?_, fun e he => ?_, b5⟩⟩
    · unfold B_X1_addBackup_15
      dsimp only
      rw [if_neg hcond, hg15, J_nat (by omega), hp', if_neg (show ¬ J (ex S.1 r) = dk_entries d by rw [b1.2.2.2.1]; exact hne)]
      exact h49
    · show upd (dk_references d) (b * 15 + i) (J (ex S.1 r)) (j * 15 + x) = J (ex S.1 (rf (bad (a_bs A) b (S.2.2.1 ++ [r]) j) x))
      have hx' : x < (bad (a_bs A) b (S.2.2.1 ++ [r]) j).length := hx
      have hold := b3 j hj x
      unfold bad at hx' hold ⊢
      by_cases q : j = b
      · rw [if_pos q] at hx' hold ⊢
        rw [List.length_append, hlS] at hx'
        have hx2 : x < i + 1 := hx'
        rw [rf_snoc, hlS]
        by_cases z : x = i
        · rw [if_pos z, z, q, upd_self]
        · rw [if_neg z, upd_ne _ _ (by omega)]
          exact hold (by omega)
      · rw [if_neg q] at hx' hold ⊢
        have := (hW.2.1 j hj).1
        rw [upd_ne _ _ (by omega)]
        exact hold hx'
    · have he' : e < st S.1 S.1.length := he
      show upd (dk_uses d) (ex S.1 r) (J (cnt (bad (a_bs A) b S.2.2.1) 8 r + 1)) e = J (cnt (bad (a_bs A) b (S.2.2.1 ++ [r])) 8 (pr S.1 e))
      rw [cnt_snoc hb]
      by_cases q : e = ex S.1 r
      · rw [q, upd_self, pr_ex hMi.1 hr, if_pos rfl]
      · rw [upd_ne _ _ q, if_neg (fun z => q (by rw [z, ex_pr hMi.1 he']))]
        exact b4 e he'
  cases hh : hs i with
  | some p =>
    rw [hh] at old
    obtain ⟨q1, q2⟩ := hkm i p hh
    obtain ⟨o1, o2, o3, o4⟩ := hMi.2.2.2.2.1 p q1
    exact old (nu (a_cs A) p, fe (a_cs A) p (ks i)) ⟨p, by have := hMi.2.2.2.1; omega, o1.symm, by show fe _ _ _ < _; omega⟩ rfl
  | none =>
    rw [hh] at old hM1 hl24 hst hp
    by_cases w : bfr ks i < i
    · exact old (rf S.2.2.1 (bfr ks i)) (hMi.2.2.1 _ w) (if_pos w)
    · have hmks : mks (a_se A 1) (a_cs A) (ks i) none (bfr ks i) i S = (put (a_se A 1) S.1 S.2.1 (ks i), putn S.1 S.2.1, S.2.2.1 ++ [nrf (put (a_se A 1) S.1 S.2.1 (ks i))], S.2.2.2 + 1) := if_neg w
      rw [hmks] at hM1 hl24 hst hp ⊢
      have hW' : Wc (put (a_se A 1) S.1 S.2.1 (ks i)) (putn S.1 S.2.1) := hM1.1
      have hpl := put_len (cap := a_se A 1) (nx := S.2.1) (cs := S.1) (l := ks i)
      have hps := put_st (cap := a_se A 1) (nx := S.2.1) (cs := S.1) (l := ks i)
      have hl24' : (put (a_se A 1) S.1 S.2.1 (ks i)).length ≤ 24 := hl24
      have hst' : st (put (a_se A 1) S.1 S.2.1 (ks i)) (put (a_se A 1) S.1 S.2.1 (ks i)).length ≤ 192 := hst
      have hnS : Wn S.1 := ⟨by omega, by omega⟩
      have hnS' : Wn (put (a_se A 1) S.1 S.2.1 (ks i)) := ⟨by omega, hst'⟩
      obtain ⟨n1, n2, n3⟩ := nrf_ex hW'
      obtain ⟨kn1, kn2, kn3⟩ := put_kpn (cap := a_se A 1) (nx := S.2.1) (cs := S.1) (l := ks i)
      have hp' : pl_entries p2 i = J (st S.1 S.1.length) := by
        rw [hp]
        show J (ex (put (a_se A 1) S.1 S.2.1 (ks i)) (rf (S.2.2.1 ++ [nrf (put (a_se A 1) S.1 S.2.1 (ks i))]) i)) = _
        rw [rf_snoc, if_pos hlS.symm, n1]
      obtain ⟨d2, y1, y2, y3, y4, y5, y6⟩ := putAway_D (l := ks i) b1 hnS hMi.1 (by omega) (by omega)
      have hu0 : dk_uses d2 (st S.1 S.1.length) = J 0 := by rw [y6, if_pos rfl]
      have h49 := j49_D (s15 := (J i, d)) (self := self) (n := n) (p2 := p2) (e := st S.1 S.1.length) y2 hnS' hb (show i < 15 by omega) rfl (by omega) hp' hu0
      have hcnt0 : cnt (bad (a_bs A) b S.2.2.1) 8 (nrf (put (a_se A 1) S.1 S.2.1 (ks i))) = 0 := by
        refine cnt_none fun j x hj hx heq => ?_
        have hrv : RV S.1 (rf (bad (a_bs A) b S.2.2.1 j) x) := by
          unfold bad at hx ⊢
          by_cases q : j = b
          · rw [if_pos q] at hx ⊢
            exact hMi.2.2.1 x (by omega)
          · rw [if_neg q] at hx ⊢
            obtain ⟨k, k1, k2, k3⟩ := (hW.2.1 j hj).2 x hx
            obtain ⟨o1, o2, o3, o4⟩ := hMi.2.2.2.2.1 k k1
            exact ⟨k, by have := hMi.2.2.2.1; omega, by rw [o1]; exact k2, by omega⟩
        have h1 := (put_pl hMi.1 hW' hrv).2.1
        have h2 := (ex_in hMi.1 hrv).1
        rw [heq] at h1 h2
        rw [n1] at h1
        omega
      refine ⟨((dk_settings d2), (dk_numbers d2), (dk_capacities d2), (dk_firsts d2), (dk_containers d2), (dk_codes d2), (dk_places d2), (upd (dk_uses d2) (st S.1 S.1.length) (J (0 + 1))), (dk_entries d2), (upd (dk_references d2) (b * 15 + i) (J (st S.1 S.1.length))), (dk_lengths d2), (dk_nextNumber d2), (dk_carried d2)), ?_, ⟨y2, fun j hj => ?_, fun j hj x hx => ?_, fun e he => ?_, ?_⟩⟩
      · unfold B_X1_addBackup_15
        dsimp only
        rw [if_neg hcond, hg15, J_nat (by omega), hp', b1.2.2.2.1, if_pos rfl, codeAt_S hS hin]
        simp only [Option.bind_some]
        rw [y1]
        simp only [Option.bind_some]
        exact h49
      · show dk_lengths d2 j = _
        rw [y4]; exact b2 j hj
      · show upd (dk_references d2) (b * 15 + i) (J (st S.1 S.1.length)) (j * 15 + x) = J (ex (put (a_se A 1) S.1 S.2.1 (ks i)) (rf (bad (a_bs A) b (S.2.2.1 ++ [nrf (put (a_se A 1) S.1 S.2.1 (ks i))]) j) x))
        have hx' : x < (bad (a_bs A) b (S.2.2.1 ++ [nrf (put (a_se A 1) S.1 S.2.1 (ks i))]) j).length := hx
        have hold := b3 j hj x
        rw [y3]
        unfold bad at hx' hold ⊢
        by_cases q : j = b
        · rw [if_pos q] at hx' hold ⊢
          rw [List.length_append, hlS] at hx'
          have hx2 : x < i + 1 := hx'
          rw [rf_snoc, hlS]
          by_cases z : x = i
          · rw [if_pos z, z, q, upd_self, n1]
          · rw [if_neg z, upd_ne _ _ (by omega), (put_pl hMi.1 hW' (hMi.2.2.1 x (by omega))).2.1]
            exact hold (by omega)
        · rw [if_neg q] at hx' hold ⊢
          have := (hW.2.1 j hj).1
          obtain ⟨k, k1, k2, k3⟩ := (hW.2.1 j hj).2 x hx'
          obtain ⟨o1, o2, o3, o4⟩ := hMi.2.2.2.2.1 k k1
          have hrv : RV S.1 (rf (a_bs A j) x) := ⟨k, by have := hMi.2.2.2.1; omega, by rw [o1]; exact k2, by omega⟩
          rw [upd_ne _ _ (by omega), (put_pl hMi.1 hW' hrv).2.1]
          exact hold hx'
      · have he' : e < st (put (a_se A 1) S.1 S.2.1 (ks i)) (put (a_se A 1) S.1 S.2.1 (ks i)).length := he
        show upd (dk_uses d2) (st S.1 S.1.length) (J (0 + 1)) e = J (cnt (bad (a_bs A) b (S.2.2.1 ++ [nrf (put (a_se A 1) S.1 S.2.1 (ks i))])) 8 (pr (put (a_se A 1) S.1 S.2.1 (ks i)) e))
        rw [cnt_snoc hb]
        by_cases q : e = st S.1 S.1.length
        · rw [q, upd_self, kn3, hcnt0, if_pos rfl]
        · have he2 : e < st S.1 S.1.length := by omega
          obtain ⟨t1, t2, t3⟩ := put_kpl (cap := a_se A 1) (nx := S.2.1) (l := ks i) he2
          rw [upd_ne _ _ q, y6, if_neg q, t3, b4 e he2, if_neg]
          · rfl
          · intro z
            apply q
            have h1 := ex_pr hW' he'
            rw [t3, ← z, n1] at h1
            exact h1.symm
      · show dk_carried d2 = _
        rw [y5]; exact b5
