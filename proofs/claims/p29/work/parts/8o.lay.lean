/-! THE PURE SIDE: the class lays a backup out -/
def rmn (cs : List Ct) : Nat := if 0 < cs.length then ca cs (cs.length - 1) - si cs (cs.length - 1) else 0
theorem rmn_room {cs : List Ct} {nx : Nat} (hW : Wc cs nx) : (rmn cs = 0 ↔ ¬ room cs) ∧ rmn cs ≤ 8 := by
  unfold rmn room
  by_cases z : 0 < cs.length
  · obtain ⟨k1, k2, k3, k4, k5, k6⟩ := hW.2.1 (cs.length - 1) (by omega)
    rw [if_pos z]
    constructor
    · constructor
      · rintro h ⟨h1, h2⟩; omega
      · intro h
        have : ¬ si cs (cs.length - 1) < ca cs (cs.length - 1) := fun w => h ⟨z, w⟩
        omega
    · omega
  · rw [if_neg z]
    exact ⟨⟨fun _ w => z w.1, fun _ => rfl⟩, by omega⟩
theorem rmn_yes {cap nx : Nat} {cs : List Ct} {l : List Nat} (h : room cs) : rmn (put cap cs nx l) = rmn cs - 1 := by
  have h0 := h.1
  unfold rmn
  rw [(put_yes h).1, upl_len, if_pos h0, if_pos h0, (upl_nu h0 _).2.1, (upl_nu h0 _).2.2, if_pos rfl]
  omega
theorem rmn_no {cap nx : Nat} {cs : List Ct} {l : List Nat} (h : ¬ room cs) : rmn (put cap cs nx l) = cap - 1 := by
  have e2 : (cs ++ [(nx, cap, [l])]).length = cs.length + 1 := by simp
  unfold rmn
  rw [(put_no h).1, e2, if_pos (show 0 < cs.length + 1 by omega), show cs.length + 1 - 1 = cs.length by omega, (app_nu cs nx cap l _).2.1, (app_nu cs nx cap l _).2.2, if_pos rfl, if_pos rfl]
theorem repeats_P {p0 : PLT} {sd : SMT} {ks : Nat → List Nat} {n i : Nat} (hs : SMc sd ks n) (hi : i < n) : (bfr ks i < i → F_X4_repeats p0 sd (J i) = some (1, (upd (pl_places p0) i (pl_places p0 (bfr ks i)), upd (pl_entries p0) i (pl_entries p0 (bfr ks i)), pl_chunks p0, pl_puts p0, pl_newContainers p0, pl_rivals p0, pl_votes p0, pl_rivalCount p0))) ∧ (¬ bfr ks i < i → F_X4_repeats p0 sd (J i) = some (0, p0)) := by
  have h15 := hs.1
  obtain ⟨f1, f2, f3⟩ := fi_spec (fun j => decide (ks j = ks i)) i
  have fb : bfr ks i = fi (fun j => decide (ks j = ks i)) i := rfl
  rw [← fb] at f1 f2 f3
  have hstep : ∀ (self : Int32 → Option (Int32 × PLT)) (j : Nat), j < bfr ks i → B_X4_repeats_2 (J i) p0 sd (K_X4_repeats_20 (J i) p0) self (J j) = self (J (j + 1)) := by
    intro self j hj
    have h2 := of_decide_eq_false (f2 j hj)
    have h3 := c8_eq (hs.2.2 j (by omega)).2 (hs.2.2 i hi).2
    unfold B_X4_repeats_2
    simp (disch := omega) only [codeAt_S hs (show j < n by omega), codeAt_S hs hi, h3, J_add, J_mul, J_sub, J_dec, J_nat, J_lt, J_le, J_eq, gd_J, gz_J, gb_J, J_div, J_mod, md_back, JN, J_neN, J_Nne, J_ltN, J_Nlt, J_leN, J_Nle, N_refl, J01, J_addN, J_pred, F_X9_at, F_X9_backupAt, F_X9_fails, F_X9_thrown, Option.bind_some, if_true, if_false, Nat.add_zero, Nat.zero_add, Nat.mul_zero, Nat.zero_mul, Nat.reduceAdd, Nat.reduceMul, Nat.reduceSub, Nat.reduceEqDiff, Nat.reduceLeDiff, Nat.reduceLT, Nat.reducePow, Nat.not_lt_zero, Nat.zero_le, eq_self, not_true_eq_false, not_false_eq_true, reduceIte, L_0, L_1, L_2, L_3, L_4, L_5, L_6, L_7, L_8, L_9, L_10, L_11, L_12, L_14, L_15, L_16, L_24, L_30, L_31, L_32, L_34, L_40, L_44, L_90, L_96, L_97, L_100, L_120, L_121, L_192, L_997, L_998, L_1000, L_1270, L_10000, L_17780, L_2540, L_32768, L_16510]
    rw [if_neg (by omega), if_neg h2]
  constructor
  · intro hlt
    unfold F_X4_repeats
    refine lp_run (fun j => J j) (bfr ks i) hstep (fun self => ?_) (by unfold FU; omega)
    have h2 := of_decide_eq_true (f3 hlt)
    have h3 := c8_eq (hs.2.2 (bfr ks i) (by omega)).2 (hs.2.2 i hi).2
    unfold B_X4_repeats_2 K_X4_repeats_20
    simp (disch := omega) only [codeAt_S hs (show bfr ks i < n by omega), codeAt_S hs hi, h3, J_add, J_mul, J_sub, J_dec, J_nat, J_lt, J_le, J_eq, gd_J, gz_J, gb_J, J_div, J_mod, md_back, JN, J_neN, J_Nne, J_ltN, J_Nlt, J_leN, J_Nle, N_refl, J01, J_addN, J_pred, F_X9_at, F_X9_backupAt, F_X9_fails, F_X9_thrown, Option.bind_some, if_true, if_false, Nat.add_zero, Nat.zero_add, Nat.mul_zero, Nat.zero_mul, Nat.reduceAdd, Nat.reduceMul, Nat.reduceSub, Nat.reduceEqDiff, Nat.reduceLeDiff, Nat.reduceLT, Nat.reducePow, Nat.not_lt_zero, Nat.zero_le, eq_self, not_true_eq_false, not_false_eq_true, reduceIte, L_0, L_1, L_2, L_3, L_4, L_5, L_6, L_7, L_8, L_9, L_10, L_11, L_12, L_14, L_15, L_16, L_24, L_30, L_31, L_32, L_34, L_40, L_44, L_90, L_96, L_97, L_100, L_120, L_121, L_192, L_997, L_998, L_1000, L_1270, L_10000, L_17780, L_2540, L_32768, L_16510]
    rw [if_neg (by omega), if_pos h2]
  · intro hge
    unfold F_X4_repeats
    refine lp_run (fun j => J j) (bfr ks i) hstep (fun self => ?_) (by unfold FU; omega)
    unfold B_X4_repeats_2
    rw [if_pos ((J_le (by omega) (by omega)).mpr (by omega))]
/-- a plan on the way -/
def PL2 (p0 : PLT) (cs0 : List Ct) (n i : Nat) (hs : Nat → Option Nat) (S : MK) : Prop := pl_chunks p0 = J n ∧ pl_puts p0 = J S.2.2.2 ∧ pl_newContainers p0 = J (S.1.length - cs0.length) ∧ (∀ j, i ≤ j → j < n → pl_places p0 j = OJ id (hs j)) ∧ ∀ j, j < i → pl_places p0 j = J (pl S.1 (rf S.2.2.1 j).1) ∧ pl_entries p0 j = J (ex S.1 (rf S.2.2.1 j))
theorem layOut_P {p0 : PLT} {d : DKT} {sd : SMT} {se : Nat → Nat} {nx n lim : Nat} {cs : List Ct} {ks : Nat → List Nat} (hd : RDc d se nx cs) (hn : Wn cs) (hW : Wc cs nx) (hSe : Ws se) (hl : cs.length ≤ 84) (hx : nx + 15 < 2 ^ 30) (hs : SMc sd ks n) (hlim : 1 ≤ lim) (hlim9 : lim ≤ 9) : ∃ p2, F_X4_layOut p0 d sd (J lim) = some p2 ∧ pl_chunks p2 = J n ∧ pl_puts p2 = J (mk (se 1) cs nx ks (kh (fun j => hm cs (ks j)) n lim) n).2.2.2 ∧ pl_newContainers p2 = J ((mk (se 1) cs nx ks (kh (fun j => hm cs (ks j)) n lim) n).1.length - cs.length) ∧ ∀ j, j < n → pl_places p2 j = J (pl (mk (se 1) cs nx ks (kh (fun j => hm cs (ks j)) n lim) n).1 (rf (mk (se 1) cs nx ks (kh (fun j => hm cs (ks j)) n lim) n).2.2.1 j).1) ∧ pl_entries p2 j = J (ex (mk (se 1) cs nx ks (kh (fun j => hm cs (ks j)) n lim) n).1 (rf (mk (se 1) cs nx ks (kh (fun j => hm cs (ks j)) n lim) n).2.2.1 j)) := by
  obtain ⟨p1, y1, y2, y3⟩ := homes_P (p0 := p0) hd hn hW hs hlim hlim9
  have h15 := hs.1
  have hn2 := hn.2
  have hcap2 : 2 ≤ se 1 := hSe.2.2.1
  have hcap8 : se 1 ≤ 8 := hSe.2.2.2.1
  have hroom := roomInLast_D hd hn hW
  have hkm : ∀ j p, kh (fun j => hm cs (ks j)) n lim j = some p → p < cs.length ∧ fe cs p (ks j) < si cs p := by
    intro j p hp
    unfold kh at hp
    split at hp
    · cases hp
    · obtain ⟨h1, h2, h3⟩ := lastP_some hp
      exact ⟨h1, of_decide_eq_true h2⟩
  rw [y1]
  clear y1
  generalize kh (fun j => hm cs (ks j)) n lim = hh at *
  have hMI := MI_all (cap := se 1) (ks := ks) (hs := hh) (n := n) hW (fun j hj => (hs.2.2 j hj).2) hcap2 hcap8 (by omega) (fun j p _ hp => hkm j p hp)
  have go : ∀ (x i fuel : Nat) (p1 : PLT), i + x = n → PL2 p1 cs n i hh (mk (se 1) cs nx ks hh i) → x < fuel → ∃ p2, lp (B_X4_layOut_59 sd d) fuel (J (rmn (mk (se 1) cs nx ks hh i).1), J i, p1) = some p2 ∧ PL2 p2 cs n n hh (mk (se 1) cs nx ks hh n) := by
    intro x
    induction x with
    | zero =>
      intro i fuel p1 hi hP hf
      obtain ⟨fuel, rfl⟩ : ∃ q, fuel = q + 1 := ⟨fuel - 1, by omega⟩
      obtain rfl : i = n := by omega
      refine ⟨p1, ?_, hP⟩
      show B_X4_layOut_59 _ _ _ _ = _
      unfold B_X4_layOut_59
      rw [if_pos (show pl_chunks p1 ≤ J i by rw [hP.1]; exact (J_le (by omega) (by omega)).mpr (Nat.le_refl _))]
    | succ x ih =>
      intro i fuel p1 hi hP hf
      obtain ⟨fuel, rfl⟩ : ∃ q, fuel = q + 1 := ⟨fuel - 1, by omega⟩
      have hin : i < n := by omega
      have hM := hMI i (by omega)
      have hM1 := hMI (i + 1) (by omega)
      have hlen := MI_len hM
      obtain ⟨b1, b2, b3, b4, b5⟩ := hP
      have hpi := b4 i (Nat.le_refl _) hin
      have hv := (hs.2.2 i hin).2
      have hmk : mk (se 1) cs nx ks hh (i + 1) = mks (se 1) cs (ks i) (hh i) (bfr ks i) i (mk (se 1) cs nx ks hh i) := rfl
      have ihx := fun p => ih (i + 1) fuel p (by omega)
      clear ih
      show ∃ p2, B_X4_layOut_59 _ _ (lp _ fuel) _ = _ ∧ _
      generalize lp (B_X4_layOut_59 sd d) fuel = self at ihx ⊢
      rw [hmk] at hM1 ihx
      generalize mk (se 1) cs nx ks hh i = S at *
      obtain ⟨r1, r2⟩ := rmn_room hM.1
      have hSle := hM.2.2.2.1
      have hpm := hM.2.2.2.2.2.2.2.1
      have hcond : ¬ pl_chunks p1 ≤ J i := by rw [b1, J_le (by omega) (by omega)]; omega
      have hg15 : ∀ (x : Option PLT), gd (J i) 15 x = x := fun x => gd_J (by omega) (by omega)
      have e4 : (-1 : Int32) = NN := rfl
      unfold B_X4_layOut_59
      dsimp only
      rw [if_neg hcond, codeAt_S hs hin]
      simp only [Option.bind_some]
      rw [hg15, J_nat (by omega)]
      cases hhi : hh i with
      | some p =>
        obtain ⟨q1, q2⟩ := hkm i p hhi
        have hn1 := hn.1
        rw [hhi] at hpi ihx hM1
        have hpi' : pl_places p1 i = J p := hpi
        have hex : ex S.1 (nu cs p, fe cs p (ks i)) = st cs p + fe cs p (ks i) ∧ pl S.1 (nu cs p) = p := by
          have e1 : pl S.1 (nu cs p) = p := by
            rw [← (hM.2.2.2.2.1 p q1).1]
            exact pl_at hM.1 (by omega)
          refine ⟨?_, e1⟩
          unfold ex
          rw [e1, MI_st hM q1]
        have hne : ¬ pl_places p1 i = -1 := by rw [hpi', e4, J_neN (by omega)]; exact id
        rw [if_neg hne, hg15, hpi', firstEntryWith_D hd hn hW hv q1 q2]
        simp only [Option.bind_some]
        rw [hg15, show J i + 1 = J (i + 1) from J_add i 1]
        obtain ⟨p2, z1, z2⟩ := ihx (pl_places p1, upd (pl_entries p1) i (J (st cs p + fe cs p (ks i))), pl_chunks p1, pl_puts p1, pl_newContainers p1, pl_rivals p1, pl_votes p1, pl_rivalCount p1) ⟨b1, b2, b3, fun j h1 h2 => b4 j (by omega) h2, fun j hj => by
          show pl_places p1 j = J (pl S.1 (rf (S.2.2.1 ++ [(nu cs p, fe cs p (ks i))]) j).1) ∧ upd (pl_entries p1) i (J (st cs p + fe cs p (ks i))) j = J (ex S.1 (rf (S.2.2.1 ++ [(nu cs p, fe cs p (ks i))]) j))
          rw [rf_snoc, hM.2.1]
          by_cases q : j = i
          · rw [if_pos q, q, upd_self, hex.1, hex.2, hpi']
            exact ⟨rfl, rfl⟩
          · rw [if_neg q, upd_ne _ _ q]
            exact b5 j (by omega)⟩ (by omega)
        exact ⟨p2, z1, z2⟩
      | none =>
        rw [hhi] at hpi ihx hM1
        have hpi' : pl_places p1 i = -1 := hpi
        obtain ⟨rp1, rp2⟩ := repeats_P (p0 := p1) hs hin
        rw [if_pos hpi']
        by_cases w : bfr ks i < i
        · have hmks : mks (se 1) cs (ks i) none (bfr ks i) i S = (S.1, S.2.1, S.2.2.1 ++ [rf S.2.2.1 (bfr ks i)], S.2.2.2) := if_pos w
          rw [hmks] at ihx
          obtain ⟨c1, c2⟩ := b5 (bfr ks i) w
          rw [rp1 w]
          simp only [Option.bind_some]
          rw [if_neg (show ¬ (1 : Int32) = 0 by decide), show J i + 1 = J (i + 1) from J_add i 1]
          obtain ⟨p2, z1, z2⟩ := ihx (upd (pl_places p1) i (pl_places p1 (bfr ks i)), upd (pl_entries p1) i (pl_entries p1 (bfr ks i)), pl_chunks p1, pl_puts p1, pl_newContainers p1, pl_rivals p1, pl_votes p1, pl_rivalCount p1) ⟨b1, b2, b3, fun j h1 h2 => by
            show upd (pl_places p1) i _ j = _
            rw [upd_ne _ _ (by omega)]
            exact b4 j (by omega) h2, fun j hj => by
            show upd (pl_places p1) i (pl_places p1 (bfr ks i)) j = J (pl S.1 (rf (S.2.2.1 ++ [rf S.2.2.1 (bfr ks i)]) j).1) ∧ upd (pl_entries p1) i (pl_entries p1 (bfr ks i)) j = J (ex S.1 (rf (S.2.2.1 ++ [rf S.2.2.1 (bfr ks i)]) j))
            rw [rf_snoc, hM.2.1]
            by_cases q : j = i
            · rw [if_pos q, q, upd_self, upd_self]
              exact ⟨c1, c2⟩
            · rw [if_neg q, upd_ne _ _ q, upd_ne _ _ q]
              exact b5 j (by omega)⟩ (by omega)
          exact ⟨p2, z1, z2⟩
        · have hmks : mks (se 1) cs (ks i) none (bfr ks i) i S = (put (se 1) S.1 S.2.1 (ks i), putn S.1 S.2.1, S.2.2.1 ++ [nrf (put (se 1) S.1 S.2.1 (ks i))], S.2.2.2 + 1) := if_neg w
          rw [hmks] at ihx hM1
          have hW' : Wc (put (se 1) S.1 S.2.1 (ks i)) (putn S.1 S.2.1) := hM1.1
          obtain ⟨nx1, nx2, nx3⟩ := nrf_ex hW'
          have hst := hM.2.2.2.2.2.1
          rw [rp2 w]
          simp only [Option.bind_some]
          rw [if_pos trivial]
          have hstep : ∀ rm' nc', (rm' = rmn (put (se 1) S.1 S.2.1 (ks i)) + 1) → (nc' = (put (se 1) S.1 S.2.1 (ks i)).length - cs.length) → 1 ≤ cs.length + nc' → ∃ p2, J_X4_layOut_142 (J (rmn S.1), J i, p1) self (0, p1) d (J rm', J nc') = some p2 ∧ PL2 p2 cs n n hh (mk (se 1) cs nx ks hh n) := by
            intro rm' nc' hrm hnc h1c
            have hpl := put_len (cap := se 1) (nx := S.2.1) (cs := S.1) (l := ks i)
            obtain ⟨p2, z1, z2⟩ := ihx (upd (pl_places p1) i (J (cs.length + nc' - 1)), upd (pl_entries p1) i (J (st cs cs.length + S.2.2.2)), pl_chunks p1, J (S.2.2.2 + 1), J nc', pl_rivals p1, pl_votes p1, pl_rivalCount p1) ⟨b1, rfl, by rw [hnc]; rfl, fun j h1 h2 => by
              show upd (pl_places p1) i _ j = _
              rw [upd_ne _ _ (by omega)]
              exact b4 j (by omega) h2, fun j hj => by
              show upd (pl_places p1) i (J (cs.length + nc' - 1)) j = J (pl (put (se 1) S.1 S.2.1 (ks i)) (rf (S.2.2.1 ++ [nrf (put (se 1) S.1 S.2.1 (ks i))]) j).1) ∧ upd (pl_entries p1) i (J (st cs cs.length + S.2.2.2)) j = J (ex (put (se 1) S.1 S.2.1 (ks i)) (rf (S.2.2.1 ++ [nrf (put (se 1) S.1 S.2.1 (ks i))]) j))
              rw [rf_snoc, hM.2.1]
              by_cases q : j = i
              · rw [if_pos q, q, upd_self, upd_self, nx1, nx2, hst]
                refine ⟨?_, rfl⟩
                congr 1
                omega
              · rw [if_neg q, upd_ne _ _ q, upd_ne _ _ q]
                obtain ⟨t1, t2, t3⟩ := put_pl hM.1 hW' (hM.2.2.1 j (by omega))
                rw [t1, t2]
                exact b5 j (by omega)⟩ (by omega)
            refine ⟨p2, ?_, z2⟩
            unfold J_X4_layOut_142
            dsimp only
            have hcn : dk_containers d + J nc' - 1 = J (cs.length + nc' - 1) := by
              rw [hd.2.2.1, J_add, show (1 : Int32) = J 1 from rfl, J_sub h1c]
            have hen : dk_entries d + pl_puts p1 = J (st cs cs.length + S.2.2.2) := by rw [hd.2.2.2.1, b2, J_add]
            have hpu : pl_puts p1 + 1 = J (S.2.2.2 + 1) := by rw [b2]; exact J_add _ 1
            have hrr : J rm' + -1 = J (rmn (put (se 1) S.1 S.2.1 (ks i))) := by
              show J rm' + NN = _
              rw [hrm, dn_add, dn_succ]
            rw [hg15, hg15, J_nat (by omega), hcn, hen, hpu, hrr, show J i + 1 = J (i + 1) from J_add i 1]
            exact z1
          by_cases r : room S.1
          · have hr0 : ¬ rmn S.1 = 0 := fun z => (r1.mp z) r
            have hlen2 : (put (se 1) S.1 S.2.1 (ks i)).length = S.1.length := by rw [(put_yes r).1, upl_len]
            have hry := rmn_yes (cap := se 1) (nx := S.2.1) (l := ks i) r
            have hr00 : ¬ J (rmn S.1) = 0 := fun z => hr0 (by have := (J_eq (b := 0) (by omega) (by omega)).mp z; exact this)
            rw [if_neg hr00, b3]
            exact hstep (rmn S.1) (S.1.length - cs.length) (by omega) (by omega) (by have := r.1; omega)
          · have hr0 : rmn S.1 = 0 := r1.mpr r
            have hlen2 : (put (se 1) S.1 S.2.1 (ks i)).length = S.1.length + 1 := by rw [(put_no r).1, List.length_append]; rfl
            have hry := rmn_no (cap := se 1) (nx := S.2.1) (l := ks i) r
            rw [if_pos (show J (rmn S.1) = 0 by rw [hr0]; rfl), show F_X1_settingAt d 1 = some (J (se 1)) from settingAt_D (i := 1) hd (by omega)]
            simp only [Option.bind_some]
            rw [b3, show J (S.1.length - cs.length) + 1 = J (S.1.length - cs.length + 1) from J_add _ 1]
            exact hstep (se 1) (S.1.length - cs.length + 1) (by omega) (by omega) (by omega)
  obtain ⟨p2, z1, z2⟩ := go n 0 FU (pl_places p1, pl_entries p1, pl_chunks p1, 0, 0, pl_rivals p1, pl_votes p1, pl_rivalCount p1) (by omega) ⟨y2, rfl, by
    show (0 : Int32) = J (cs.length - cs.length)
    rw [Nat.sub_self]; rfl, fun j _ hj => y3 j hj, fun j hj => absurd hj (Nat.not_lt_zero _)⟩ (by unfold FU; omega)
  obtain ⟨w1, w2, w3, w4, w5⟩ := z2
  refine ⟨p2, ?_, w1, w2, w3, w5⟩
  unfold K_X4_layOut_40
  rw [hroom]
  exact z1
