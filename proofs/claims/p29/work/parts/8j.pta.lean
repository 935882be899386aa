/-! THE PURE SIDE: the class puts away -/
theorem roomInLast_D {d : DKT} {se : Nat → Nat} {nx : Nat} {cs : List Ct} (hd : RDc d se nx cs) (hn : Wn cs) (hW : Wc cs nx) : F_X1_roomInLast d = some (J (if 0 < cs.length then ca cs (cs.length - 1) - si cs (cs.length - 1) else 0)) := by
  have n1 := hn.1
  unfold F_X1_roomInLast
  by_cases z : 0 < cs.length
  · obtain ⟨k1, k2, k3⟩ := hd.2.2.2.2.1 (cs.length - 1) (by omega)
    obtain ⟨a1, a2, a3, a4, a5, a6⟩ := hW.2.1 (cs.length - 1) (by omega)
    have hs : st cs cs.length = st cs (cs.length - 1) + si cs (cs.length - 1) := by
      have e : cs.length = (cs.length - 1) + 1 := by omega
      rw [e, st_step, show cs.length - 1 + 1 - 1 = cs.length - 1 by omega]
    have hsub : st cs cs.length - st cs (cs.length - 1) = si cs (cs.length - 1) := by omega
    rw [if_pos z]
    simp (disch := omega) only [hd.2.2.1, k2, k3, hd.2.2.2.1, hsub, J_add, J_mul, J_sub, J_dec, J_nat, J_lt, J_le, J_eq, gd_J, gz_J, gb_J, J_div, J_mod, md_back, JN, J_neN, J_Nne, J_ltN, J_Nlt, J_leN, J_Nle, N_refl, J01, J_addN, J_pred, F_X9_at, F_X9_backupAt, F_X9_fails, F_X9_thrown, Option.bind_some, if_true, if_false, Nat.add_zero, Nat.zero_add, Nat.mul_zero, Nat.zero_mul, Nat.reduceAdd, Nat.reduceMul, Nat.reduceSub, Nat.reduceEqDiff, Nat.reduceLeDiff, Nat.reduceLT, Nat.reducePow, Nat.not_lt_zero, Nat.zero_le, eq_self, not_true_eq_false, not_false_eq_true, reduceIte, L_0, L_1, L_2, L_3, L_4, L_5, L_6, L_7, L_8, L_9, L_10, L_11, L_12, L_14, L_15, L_16, L_24, L_30, L_31, L_32, L_34, L_40, L_44, L_90, L_96, L_97, L_100, L_120, L_121, L_192, L_997, L_998, L_1000, L_1270, L_10000, L_17780, L_2540, L_32768, L_16510]
  · rw [if_neg z]
    have z0 : cs.length = 0 := by omega
    have e7 : dk_containers d - 1 < 0 := by rw [hd.2.2.1, z0]; decide
    rw [if_pos e7]
    rfl
theorem put11_D {d : DKT} {se : Nat → Nat} {nx : Nat} {cs : List Ct} {l : List Nat} {c : Nat} (hc : dk_containers d = J (c + 1)) (he : dk_entries d = J (st cs cs.length)) (ht : st cs cs.length < 192) : J_X1_putAway_11 (J (c8 l)) d = some (J (st cs cs.length), ((dk_settings d), (dk_numbers d), (dk_capacities d), (dk_firsts d), (dk_containers d), (upd (dk_codes d) (st cs cs.length) (J (c8 l))), (upd (dk_places d) (st cs cs.length) (J c)), (upd (dk_uses d) (st cs cs.length) (J 0)), J (st cs cs.length + 1), (dk_references d), (dk_lengths d), (dk_nextNumber d), (dk_carried d))) := by
  unfold J_X1_putAway_11
  have hp : dk_containers d - J 1 = J c := by rw [hc]; exact J_pred c 1
  simp (disch := omega) only [he, hp, J_add, J_mul, J_sub, J_dec, J_nat, J_lt, J_le, J_eq, gd_J, gz_J, gb_J, J_div, J_mod, md_back, JN, J_neN, J_Nne, J_ltN, J_Nlt, J_leN, J_Nle, N_refl, J01, J_addN, J_pred, F_X9_at, F_X9_backupAt, F_X9_fails, F_X9_thrown, Option.bind_some, if_true, if_false, Nat.add_zero, Nat.zero_add, Nat.mul_zero, Nat.zero_mul, Nat.reduceAdd, Nat.reduceMul, Nat.reduceSub, Nat.reduceEqDiff, Nat.reduceLeDiff, Nat.reduceLT, Nat.reducePow, Nat.not_lt_zero, Nat.zero_le, eq_self, not_true_eq_false, not_false_eq_true, reduceIte, L_0, L_1, L_2, L_3, L_4, L_5, L_6, L_7, L_8, L_9, L_10, L_11, L_12, L_14, L_15, L_16, L_24, L_30, L_31, L_32, L_34, L_40, L_44, L_90, L_96, L_97, L_100, L_120, L_121, L_192, L_997, L_998, L_1000, L_1270, L_10000, L_17780, L_2540, L_32768, L_16510]
  rw [if_pos ht, show st cs cs.length + 1 - 1 = st cs cs.length by omega]
theorem putAway_D {d : DKT} {se : Nat → Nat} {nx : Nat} {cs : List Ct} {l : List Nat} (hd : RDc d se nx cs) (hn : Wn cs) (hW : Wc cs nx) (ht : st cs cs.length < 192) (hl : (put (se 1) cs nx l).length ≤ 100) : ∃ d', F_X1_putAway d (J (c8 l)) = some (J (st cs cs.length), d') ∧ RDc d' se (putn cs nx) (put (se 1) cs nx l) ∧ dk_references d' = dk_references d ∧ dk_lengths d' = dk_lengths d ∧ dk_carried d' = dk_carried d ∧ ∀ e, dk_uses d' e = if e = st cs cs.length then J 0 else dk_uses d e := by
  have hroom := roomInLast_D hd hn hW
  obtain ⟨c1, c2, c3, c4, c5, c6⟩ := hd
  have n1 := hn.1
  obtain ⟨kn1, kn2, kn3⟩ := put_kpn (cap := se 1) (nx := nx) (cs := cs) (l := l)
  have hst := put_st (cap := se 1) (nx := nx) (cs := cs) (l := l)
  have hcodes : ∀ (f g : Nat → Int32) (c : Nat), c = (put (se 1) cs nx l).length - 1 → (∀ e, e < st cs cs.length → f e = dk_codes d e ∧ g e = dk_places d e) → ∀ e, e < st (put (se 1) cs nx l) (put (se 1) cs nx l).length → upd f (st cs cs.length) (J (c8 l)) e = J (c8 (cf (put (se 1) cs nx l) e)) ∧ upd g (st cs cs.length) (J c) e = J (kpl (put (se 1) cs nx l) e) := by
    intro f g c hc hfg e he
    rw [hst] at he
    by_cases q : e = st cs cs.length
    · rw [q, upd_self, upd_self, kn1, kn2, hc]
      exact ⟨rfl, rfl⟩
    · obtain ⟨p1, p2, p3⟩ := put_kpl (cap := se 1) (nx := nx) (l := l) (show e < st cs cs.length by omega)
      rw [upd_ne _ _ q, upd_ne _ _ q, p1, p2, (hfg e (by omega)).1, (hfg e (by omega)).2]
      exact c6 e (by omega)
  unfold F_X1_putAway
  rw [hroom]
  simp only [Option.bind_some]
  by_cases h : room cs
  · have h0 := h.1
    have hr := h.2
    obtain ⟨a1, a2, a3, a4, a5, a6⟩ := hW.2.1 (cs.length - 1) (by omega)
    have hlen : (put (se 1) cs nx l).length = cs.length := by rw [(put_yes h).1, upl_len]
    rw [if_pos h0, if_pos (show 0 < J (ca cs (cs.length - 1) - si cs (cs.length - 1)) from (J_lt (a := 0) (by omega) (by omega)).mpr (by omega)), put11_D (se := se) (nx := nx) (c := cs.length - 1) (by rw [c3]; congr 1; omega) c4 ht]
    refine ⟨_, rfl, ⟨c1, ?_, ?_, ?_, fun k hk => ?_, hcodes _ _ _ (by omega) fun e _ => ⟨rfl, rfl⟩⟩, rfl, rfl, rfl, fun e => rfl⟩
    · rw [(put_yes (cap := se 1) (l := l) h).2]; exact c2
    · show dk_containers d = _
      rw [c3, hlen]
    · rw [hst]; rfl
    · rw [hlen] at hk
      obtain ⟨k1, k2, k3⟩ := c5 k hk
      obtain ⟨o1, o2, o3, o4, o5⟩ := put_old (cap := se 1) (nx := nx) (l := l) hk
      unfold RDk
      rw [o1, o2, put_stk hk]
      exact ⟨k1, k2, k3⟩
  · have hlen : (put (se 1) cs nx l).length = cs.length + 1 := by rw [(put_no h).1, List.length_append]; rfl
    have hnr : ¬ (0 < J (if 0 < cs.length then ca cs (cs.length - 1) - si cs (cs.length - 1) else 0)) := by
      by_cases z : 0 < cs.length
      · obtain ⟨a1, a2, a3, a4, a5, a6⟩ := hW.2.1 (cs.length - 1) (by omega)
        have : ¬ si cs (cs.length - 1) < ca cs (cs.length - 1) := fun w => h ⟨z, w⟩
        rw [if_pos z, show ca cs (cs.length - 1) - si cs (cs.length - 1) = 0 by omega]
        decide
      · rw [if_neg z]
        decide
    have hopen : F_X1_openContainer d = some ((dk_settings d), (upd (dk_numbers d) cs.length (J nx)), (upd (dk_capacities d) cs.length (J (se 1))), (upd (dk_firsts d) cs.length (J (st cs cs.length))), J (cs.length + 1), (dk_codes d), (dk_places d), (dk_uses d), J (st cs cs.length), (dk_references d), (dk_lengths d), J (nx + 1), (dk_carried d)) := by
      unfold F_X1_openContainer
      simp (disch := omega) only [c3, c2, c1 1 (by omega), c4, J_add, J_mul, J_sub, J_dec, J_nat, J_lt, J_le, J_eq, gd_J, gz_J, gb_J, J_div, J_mod, md_back, JN, J_neN, J_Nne, J_ltN, J_Nlt, J_leN, J_Nle, N_refl, J01, J_addN, J_pred, F_X9_at, F_X9_backupAt, F_X9_fails, F_X9_thrown, Option.bind_some, if_true, if_false, Nat.add_zero, Nat.zero_add, Nat.mul_zero, Nat.zero_mul, Nat.reduceAdd, Nat.reduceMul, Nat.reduceSub, Nat.reduceEqDiff, Nat.reduceLeDiff, Nat.reduceLT, Nat.reducePow, Nat.not_lt_zero, Nat.zero_le, eq_self, not_true_eq_false, not_false_eq_true, reduceIte, L_0, L_1, L_2, L_3, L_4, L_5, L_6, L_7, L_8, L_9, L_10, L_11, L_12, L_14, L_15, L_16, L_24, L_30, L_31, L_32, L_34, L_40, L_44, L_90, L_96, L_97, L_100, L_120, L_121, L_192, L_997, L_998, L_1000, L_1270, L_10000, L_17780, L_2540, L_32768, L_16510]
      rw [if_pos (by omega)]
    rw [if_neg hnr, hopen]
    simp only [Option.bind_some]
    rw [put11_D (se := se) (nx := nx) (cs := cs) (c := cs.length) rfl rfl ht]
    refine ⟨_, rfl, ⟨c1, ?_, ?_, ?_, fun k hk => ?_, hcodes _ _ _ (by omega) fun e _ => ⟨rfl, rfl⟩⟩, rfl, rfl, rfl, fun e => rfl⟩
    · rw [(put_no (cap := se 1) (l := l) h).2]; rfl
    · rw [hlen]; rfl
    · rw [hst]; rfl
    · rw [hlen] at hk
      show upd (dk_numbers d) cs.length (J nx) k = J (nu (put (se 1) cs nx l) k) ∧ upd (dk_capacities d) cs.length (J (se 1)) k = J (ca (put (se 1) cs nx l) k) ∧ upd (dk_firsts d) cs.length (J (st cs cs.length)) k = J (st (put (se 1) cs nx l) k)
      by_cases q : k = cs.length
      · have hp := (put_no (cap := se 1) (nx := nx) (l := l) h).1
        obtain ⟨b1, b2, b3⟩ := app_nu cs nx (se 1) l k
        rw [if_pos q] at b1 b2
        rw [hp, b1, b2, q, upd_self, upd_self, upd_self]
        refine ⟨rfl, rfl, ?_⟩
        exact congrArg J (st_ext (cs := cs) (cs' := cs ++ [(nx, se 1, [l])]) fun j hj => by rw [(app_nu cs nx (se 1) l j).2.2, if_neg (by omega)]).symm
      · obtain ⟨k1, k2, k3⟩ := c5 k (by omega)
        obtain ⟨o1, o2, o3, o4, o5⟩ := put_old (cap := se 1) (nx := nx) (l := l) (show k < cs.length by omega)
        rw [upd_ne _ _ q, upd_ne _ _ q, upd_ne _ _ q, o1, o2, put_stk (by omega)]
        exact ⟨k1, k2, k3⟩
