/-! THE PURE SIDE: how the class's desk holds containers and backups; its readers -/
theorem cp_pos {p : Nat → Bool} {i : Nat} : ∀ {n : Nat}, i < n → p i = true → 0 < cp p n := by
  intro n
  induction n with
  | zero => intro h; exact absurd h (Nat.not_lt_zero _)
  | succ n ih =>
    intro h hp
    rw [cp_step]
    by_cases q : i = n
    · subst q; rw [if_pos hp]; omega
    · have := ih (by omega) hp; omega
theorem cp_zero {p : Nat → Bool} : ∀ {n : Nat}, (∀ i, i < n → p i = false) → cp p n = 0 := by
  intro n
  induction n with
  | zero => intro _; rfl
  | succ n ih =>
    intro h
    rw [cp_step, ih (fun i hi => h i (by omega)), h n (by omega)]
    rfl
theorem cp_posx {p : Nat → Bool} {n : Nat} (h : 0 < cp p n) : ∃ i, i < n ∧ p i = true := by
  by_cases q : ∃ i, i < n ∧ p i = true
  · exact q
  · have := cp_zero (p := p) (n := n) (fun i hi => Bool.eq_false_iff.mpr fun z => q ⟨i, hi, z⟩)
    omega
theorem sm_add (f : Nat → Nat) (m : Nat) : ∀ n, sm f (m + n) = sm f m + sm (fun i => f (m + i)) n := by
  intro n
  induction n with
  | zero => rfl
  | succ n ih =>
    show sm f (m + n) + f (m + n) = sm f m + (sm (fun i => f (m + i)) n + f (m + n))
    rw [ih]
    omega
theorem st_step (cs : List Ct) (k : Nat) : st cs (k + 1) = st cs k + si cs k := rfl
theorem st_mono (cs : List Ct) {j k : Nat} (h : j ≤ k) : st cs j ≤ st cs k := sm_mono h
theorem st_in (cs : List Ct) {k n : Nat} (h : k < n) : st cs k + si cs k ≤ st cs n := by
  rw [← st_step]
  exact st_mono cs h
theorem cp_flat (p : Nat → Bool) (cs : List Ct) : ∀ n, cp p (st cs n) = sm (fun k => cp (fun i => p (st cs k + i)) (si cs k)) n := by
  intro n
  induction n with
  | zero => rfl
  | succ n ih => rw [st_step, cp_add, ih]; rfl
theorem sm_flat (f : Nat → Nat) (cs : List Ct) : ∀ n, sm f (st cs n) = sm (fun k => sm (fun i => f (st cs k + i)) (si cs k)) n := by
  intro n
  induction n with
  | zero => rfl
  | succ n ih => rw [st_step, sm_add, ih]; rfl
/-- the place of an entry -/
def kpl (cs : List Ct) (e : Nat) : Nat := fi (fun k => decide (e < st cs (k + 1))) cs.length
theorem kpl_at {cs : List Ct} {k i : Nat} (hk : k < cs.length) (hi : i < si cs k) : kpl cs (st cs k + i) = k := by
  refine fi_eq (by omega) (fun j hj => decide_eq_false ?_) (fun _ => decide_eq_true ?_)
  · have := st_mono cs (show j + 1 ≤ k by omega)
    omega
  · rw [st_step]; omega
theorem kpl_lt {cs : List Ct} {e : Nat} (h : e < st cs cs.length) : kpl cs e < cs.length ∧ st cs (kpl cs e) ≤ e ∧ e - st cs (kpl cs e) < si cs (kpl cs e) := by
  obtain ⟨h1, h2, h3⟩ := fi_spec (fun k => decide (e < st cs (k + 1))) cs.length
  have e1 : kpl cs e = fi (fun k => decide (e < st cs (k + 1))) cs.length := rfl
  rw [← e1] at h1 h2 h3
  have hlt : kpl cs e < cs.length := by
    rcases Nat.lt_or_ge (kpl cs e) cs.length with q | q
    · exact q
    · by_cases z : cs.length = 0
      · rw [z] at h; exact absurd h (Nat.not_lt_zero _)
      · have := of_decide_eq_false (h2 (cs.length - 1) (by omega))
        rw [show cs.length - 1 + 1 = cs.length by omega] at this
        omega
  have h4 := of_decide_eq_true (h3 hlt)
  rw [st_step] at h4
  have h5 : st cs (kpl cs e) ≤ e := by
    by_cases z : kpl cs e = 0
    · rw [z]; exact Nat.zero_le _
    · have := of_decide_eq_false (h2 (kpl cs e - 1) (by omega))
      rw [show kpl cs e - 1 + 1 = kpl cs e by omega] at this
      omega
  exact ⟨hlt, h5, by omega⟩
/-- the chunk of an entry -/
def cf (cs : List Ct) (e : Nat) : List Nat := ch cs (kpl cs e) (e - st cs (kpl cs e))
theorem cf_at {cs : List Ct} {k i : Nat} (hk : k < cs.length) (hi : i < si cs k) : cf cs (st cs k + i) = ch cs k i := by
  unfold cf
  rw [kpl_at hk hi, Nat.add_sub_cancel_left]
theorem cf_v {cs : List Ct} {nx e : Nat} (hW : Wc cs nx) (h : e < st cs cs.length) : vch (cf cs e) := by
  obtain ⟨h1, h2, h3⟩ := kpl_lt h
  exact (hW.2.1 _ h1).2.2.2.2.2 _ h3
/-- the entry of a reference -/
def ex (cs : List Ct) (r : Nat × Nat) : Nat := st cs (pl cs r.1) + r.2
def RDk (d : DKT) (cs : List Ct) (k : Nat) : Prop := dk_numbers d k = J (nu cs k) ∧ dk_capacities d k = J (ca cs k) ∧ dk_firsts d k = J (st cs k)
def RDc (d : DKT) (se : Nat → Nat) (nx : Nat) (cs : List Ct) : Prop := (∀ i, i < 5 → dk_settings d i = J (se i)) ∧ dk_nextNumber d = J nx ∧ dk_containers d = J cs.length ∧ dk_entries d = J (st cs cs.length) ∧ (∀ k, k < cs.length → RDk d cs k) ∧ ∀ e, e < st cs cs.length → dk_codes d e = J (c8 (cf cs e)) ∧ dk_places d e = J (kpl cs e)
def RDb (d : DKT) (cs : List Ct) (bs : Nat → List (Nat × Nat)) : Prop := ∀ b, b < 8 → dk_lengths d b = J (bs b).length ∧ ∀ i, i < (bs b).length → dk_references d (b * 15 + i) = J (ex cs (rf (bs b) i))
def RDu (d : DKT) (cs : List Ct) (bs : Nat → List (Nat × Nat)) : Prop := ∀ k, k < cs.length → ∀ i, i < si cs k → dk_uses d (st cs k + i) = J (cnt bs 8 (nu cs k, i))
/-- what a desk has room for -/
def Wn (cs : List Ct) : Prop := cs.length ≤ 100 ∧ st cs cs.length ≤ 192
theorem ex_in {cs : List Ct} {nx : Nat} {r : Nat × Nat} (hW : Wc cs nx) (h : RV cs r) : ex cs r < st cs cs.length ∧ kpl cs (ex cs r) = pl cs r.1 ∧ cf cs (ex cs r) = ch cs (pl cs r.1) r.2 ∧ vch (ch cs (pl cs r.1) r.2) := by
  obtain ⟨h1, h2, h3⟩ := pl_RV hW h
  have h4 := st_in cs h1
  refine ⟨by unfold ex; omega, kpl_at h1 h3, cf_at h1 h3, (hW.2.1 _ h1).2.2.2.2.2 _ h3⟩
theorem MMAX_J (x : Nat) (h : x < 2 ^ 31) : MMAX 0 (J x) = J x := by
  unfold MMAX
  by_cases q : (0 : Int32) < J x
  · rw [if_pos q]
  · rw [if_neg q]
    have : ¬ 0 < x := fun z => q ((J_lt (a := 0) (by decide) h).mpr z)
    rw [show x = 0 by omega]
    rfl
theorem settingAt_D {d : DKT} {se : Nat → Nat} {nx : Nat} {cs : List Ct} (hd : RDc d se nx cs) {i : Nat} (hi : i < 5) : F_X1_settingAt d (J i) = some (J (se i)) := by
  unfold F_X1_settingAt
  simp (disch := omega) only [hd.1 i hi, J_add, J_mul, J_sub, J_dec, J_nat, J_lt, J_le, J_eq, gd_J, gz_J, gb_J, J_div, J_mod, md_back, JN, J_neN, J_Nne, J_ltN, J_Nlt, J_leN, J_Nle, N_refl, J01, J_addN, J_pred, F_X9_at, F_X9_backupAt, F_X9_fails, F_X9_thrown, Option.bind_some, if_true, if_false, Nat.add_zero, Nat.zero_add, Nat.mul_zero, Nat.zero_mul, Nat.reduceAdd, Nat.reduceMul, Nat.reduceSub, Nat.reduceEqDiff, Nat.reduceLeDiff, Nat.reduceLT, Nat.reducePow, Nat.not_lt_zero, Nat.zero_le, eq_self, not_true_eq_false, not_false_eq_true, reduceIte, L_0, L_1, L_2, L_3, L_4, L_5, L_6, L_7, L_8, L_9, L_10, L_11, L_12, L_14, L_15, L_16, L_24, L_30, L_31, L_32, L_34, L_40, L_44, L_90, L_96, L_97, L_100, L_120, L_121, L_192, L_997, L_998, L_1000, L_1270, L_10000, L_17780, L_2540, L_32768, L_16510]
  rw [if_neg (by omega)]
theorem hasPlace_D {d : DKT} {se : Nat → Nat} {nx : Nat} {cs : List Ct} (hd : RDc d se nx cs) (hn : Wn cs) {k : Nat} (hk : k < 2 ^ 31) : F_X1_hasPlace d (J k) = some (J (if k < cs.length then 1 else 0)) := by
  have h1 := hn.1
  unfold F_X1_hasPlace
  simp (disch := omega) only [hd.2.2.1, J_add, J_mul, J_sub, J_dec, J_nat, J_lt, J_le, J_eq, gd_J, gz_J, gb_J, J_div, J_mod, md_back, JN, J_neN, J_Nne, J_ltN, J_Nlt, J_leN, J_Nle, N_refl, J01, J_addN, J_pred, F_X9_at, F_X9_backupAt, F_X9_fails, F_X9_thrown, Option.bind_some, if_true, if_false, Nat.add_zero, Nat.zero_add, Nat.mul_zero, Nat.zero_mul, Nat.reduceAdd, Nat.reduceMul, Nat.reduceSub, Nat.reduceEqDiff, Nat.reduceLeDiff, Nat.reduceLT, Nat.reducePow, Nat.not_lt_zero, Nat.zero_le, eq_self, not_true_eq_false, not_false_eq_true, reduceIte, L_0, L_1, L_2, L_3, L_4, L_5, L_6, L_7, L_8, L_9, L_10, L_11, L_12, L_14, L_15, L_16, L_24, L_30, L_31, L_32, L_34, L_40, L_44, L_90, L_96, L_97, L_100, L_120, L_121, L_192, L_997, L_998, L_1000, L_1270, L_10000, L_17780, L_2540, L_32768, L_16510]
  by_cases q : k < cs.length
  · rw [if_neg (by omega), if_pos q]
  · rw [if_pos (by omega), if_neg q]
theorem numberAt_D {d : DKT} {se : Nat → Nat} {nx : Nat} {cs : List Ct} (hd : RDc d se nx cs) (hn : Wn cs) {k : Nat} (hk : k < cs.length) : F_X1_numberAt d (J k) = some (J (nu cs k)) := by
  have h1 := hn.1
  unfold F_X1_numberAt
  rw [hasPlace_D hd hn (by omega), if_pos hk]
  simp (disch := omega) only [(hd.2.2.2.2.1 k hk).1, J_add, J_mul, J_sub, J_dec, J_nat, J_lt, J_le, J_eq, gd_J, gz_J, gb_J, J_div, J_mod, md_back, JN, J_neN, J_Nne, J_ltN, J_Nlt, J_leN, J_Nle, N_refl, J01, J_addN, J_pred, F_X9_at, F_X9_backupAt, F_X9_fails, F_X9_thrown, Option.bind_some, if_true, if_false, Nat.add_zero, Nat.zero_add, Nat.mul_zero, Nat.zero_mul, Nat.reduceAdd, Nat.reduceMul, Nat.reduceSub, Nat.reduceEqDiff, Nat.reduceLeDiff, Nat.reduceLT, Nat.reducePow, Nat.not_lt_zero, Nat.zero_le, eq_self, not_true_eq_false, not_false_eq_true, reduceIte, L_0, L_1, L_2, L_3, L_4, L_5, L_6, L_7, L_8, L_9, L_10, L_11, L_12, L_14, L_15, L_16, L_24, L_30, L_31, L_32, L_34, L_40, L_44, L_90, L_96, L_97, L_100, L_120, L_121, L_192, L_997, L_998, L_1000, L_1270, L_10000, L_17780, L_2540, L_32768, L_16510]
theorem capacityAt_D {d : DKT} {se : Nat → Nat} {nx : Nat} {cs : List Ct} (hd : RDc d se nx cs) (hn : Wn cs) {k : Nat} (hk : k < cs.length) : F_X1_capacityAt d (J k) = some (J (ca cs k)) := by
  have h1 := hn.1
  unfold F_X1_capacityAt
  rw [hasPlace_D hd hn (by omega), if_pos hk]
  simp (disch := omega) only [(hd.2.2.2.2.1 k hk).2.1, J_add, J_mul, J_sub, J_dec, J_nat, J_lt, J_le, J_eq, gd_J, gz_J, gb_J, J_div, J_mod, md_back, JN, J_neN, J_Nne, J_ltN, J_Nlt, J_leN, J_Nle, N_refl, J01, J_addN, J_pred, F_X9_at, F_X9_backupAt, F_X9_fails, F_X9_thrown, Option.bind_some, if_true, if_false, Nat.add_zero, Nat.zero_add, Nat.mul_zero, Nat.zero_mul, Nat.reduceAdd, Nat.reduceMul, Nat.reduceSub, Nat.reduceEqDiff, Nat.reduceLeDiff, Nat.reduceLT, Nat.reducePow, Nat.not_lt_zero, Nat.zero_le, eq_self, not_true_eq_false, not_false_eq_true, reduceIte, L_0, L_1, L_2, L_3, L_4, L_5, L_6, L_7, L_8, L_9, L_10, L_11, L_12, L_14, L_15, L_16, L_24, L_30, L_31, L_32, L_34, L_40, L_44, L_90, L_96, L_97, L_100, L_120, L_121, L_192, L_997, L_998, L_1000, L_1270, L_10000, L_17780, L_2540, L_32768, L_16510]
theorem firstEntryAt_D {d : DKT} {se : Nat → Nat} {nx : Nat} {cs : List Ct} (hd : RDc d se nx cs) (hn : Wn cs) {k : Nat} (hk : k ≤ cs.length) : F_X1_firstEntryAt d (J k) = some (J (st cs k)) := by
  have h1 := hn.1
  unfold F_X1_firstEntryAt
  simp (disch := omega) only [hd.2.2.1, J_add, J_mul, J_sub, J_dec, J_nat, J_lt, J_le, J_eq, gd_J, gz_J, gb_J, J_div, J_mod, md_back, JN, J_neN, J_Nne, J_ltN, J_Nlt, J_leN, J_Nle, N_refl, J01, J_addN, J_pred, F_X9_at, F_X9_backupAt, F_X9_fails, F_X9_thrown, Option.bind_some, if_true, if_false, Nat.add_zero, Nat.zero_add, Nat.mul_zero, Nat.zero_mul, Nat.reduceAdd, Nat.reduceMul, Nat.reduceSub, Nat.reduceEqDiff, Nat.reduceLeDiff, Nat.reduceLT, Nat.reducePow, Nat.not_lt_zero, Nat.zero_le, eq_self, not_true_eq_false, not_false_eq_true, reduceIte, L_0, L_1, L_2, L_3, L_4, L_5, L_6, L_7, L_8, L_9, L_10, L_11, L_12, L_14, L_15, L_16, L_24, L_30, L_31, L_32, L_34, L_40, L_44, L_90, L_96, L_97, L_100, L_120, L_121, L_192, L_997, L_998, L_1000, L_1270, L_10000, L_17780, L_2540, L_32768, L_16510]
  by_cases q : k < cs.length
  · rw [if_neg (by omega)]
    simp (disch := omega) only [(hd.2.2.2.2.1 k q).2.2, J_add, J_mul, J_sub, J_dec, J_nat, J_lt, J_le, J_eq, gd_J, gz_J, gb_J, J_div, J_mod, md_back, JN, J_neN, J_Nne, J_ltN, J_Nlt, J_leN, J_Nle, N_refl, J01, J_addN, J_pred, F_X9_at, F_X9_backupAt, F_X9_fails, F_X9_thrown, Option.bind_some, if_true, if_false, Nat.add_zero, Nat.zero_add, Nat.mul_zero, Nat.zero_mul, Nat.reduceAdd, Nat.reduceMul, Nat.reduceSub, Nat.reduceEqDiff, Nat.reduceLeDiff, Nat.reduceLT, Nat.reducePow, Nat.not_lt_zero, Nat.zero_le, eq_self, not_true_eq_false, not_false_eq_true, reduceIte, L_0, L_1, L_2, L_3, L_4, L_5, L_6, L_7, L_8, L_9, L_10, L_11, L_12, L_14, L_15, L_16, L_24, L_30, L_31, L_32, L_34, L_40, L_44, L_90, L_96, L_97, L_100, L_120, L_121, L_192, L_997, L_998, L_1000, L_1270, L_10000, L_17780, L_2540, L_32768, L_16510]
  · rw [if_pos (by omega), hd.2.2.2.1, show k = cs.length by omega]
theorem sizeAt_D {d : DKT} {se : Nat → Nat} {nx : Nat} {cs : List Ct} (hd : RDc d se nx cs) (hn : Wn cs) {k : Nat} (hk : k < cs.length) : F_X1_sizeAt d (J k) = some (J (si cs k)) := by
  unfold F_X1_sizeAt
  simp (disch := omega) only [firstEntryAt_D hd hn (show k + 1 ≤ cs.length by omega), firstEntryAt_D hd hn (show k ≤ cs.length by omega), J_add, J_mul, J_sub, J_dec, J_nat, J_lt, J_le, J_eq, gd_J, gz_J, gb_J, J_div, J_mod, md_back, JN, J_neN, J_Nne, J_ltN, J_Nlt, J_leN, J_Nle, N_refl, J01, J_addN, J_pred, F_X9_at, F_X9_backupAt, F_X9_fails, F_X9_thrown, Option.bind_some, if_true, if_false, Nat.add_zero, Nat.zero_add, Nat.mul_zero, Nat.zero_mul, Nat.reduceAdd, Nat.reduceMul, Nat.reduceSub, Nat.reduceEqDiff, Nat.reduceLeDiff, Nat.reduceLT, Nat.reducePow, Nat.not_lt_zero, Nat.zero_le, eq_self, not_true_eq_false, not_false_eq_true, reduceIte, L_0, L_1, L_2, L_3, L_4, L_5, L_6, L_7, L_8, L_9, L_10, L_11, L_12, L_14, L_15, L_16, L_24, L_30, L_31, L_32, L_34, L_40, L_44, L_90, L_96, L_97, L_100, L_120, L_121, L_192, L_997, L_998, L_1000, L_1270, L_10000, L_17780, L_2540, L_32768, L_16510]
  rw [st_step, J_sub (by omega), Nat.add_sub_cancel_left]
theorem hasEntry_D {d : DKT} {se : Nat → Nat} {nx : Nat} {cs : List Ct} (hd : RDc d se nx cs) (hn : Wn cs) {e : Nat} (he : e < 2 ^ 31) : F_X1_hasEntry d (J e) = some (J (if e < st cs cs.length then 1 else 0)) := by
  have h1 := hn.2
  unfold F_X1_hasEntry
  simp (disch := omega) only [hd.2.2.2.1, J_add, J_mul, J_sub, J_dec, J_nat, J_lt, J_le, J_eq, gd_J, gz_J, gb_J, J_div, J_mod, md_back, JN, J_neN, J_Nne, J_ltN, J_Nlt, J_leN, J_Nle, N_refl, J01, J_addN, J_pred, F_X9_at, F_X9_backupAt, F_X9_fails, F_X9_thrown, Option.bind_some, if_true, if_false, Nat.add_zero, Nat.zero_add, Nat.mul_zero, Nat.zero_mul, Nat.reduceAdd, Nat.reduceMul, Nat.reduceSub, Nat.reduceEqDiff, Nat.reduceLeDiff, Nat.reduceLT, Nat.reducePow, Nat.not_lt_zero, Nat.zero_le, eq_self, not_true_eq_false, not_false_eq_true, reduceIte, L_0, L_1, L_2, L_3, L_4, L_5, L_6, L_7, L_8, L_9, L_10, L_11, L_12, L_14, L_15, L_16, L_24, L_30, L_31, L_32, L_34, L_40, L_44, L_90, L_96, L_97, L_100, L_120, L_121, L_192, L_997, L_998, L_1000, L_1270, L_10000, L_17780, L_2540, L_32768, L_16510]
  by_cases q : e < st cs cs.length
  · rw [if_neg (by omega), if_pos q]
  · rw [if_pos (by omega), if_neg q]
theorem usesOf_D {d : DKT} {se : Nat → Nat} {nx : Nat} {cs : List Ct} {bs : Nat → List (Nat × Nat)} (hd : RDc d se nx cs) (hu : RDu d cs bs) (hn : Wn cs) {k i : Nat} (hk : k < cs.length) (hi : i < si cs k) : F_X1_usesOfEntry d (J (st cs k + i)) = some (J (cnt bs 8 (nu cs k, i))) := by
  have h1 := hn.2
  have h2 := st_in cs hk
  unfold F_X1_usesOfEntry
  rw [hasEntry_D hd hn (by omega), if_pos (by omega)]
  simp (disch := omega) only [hu k hk i hi, J_add, J_mul, J_sub, J_dec, J_nat, J_lt, J_le, J_eq, gd_J, gz_J, gb_J, J_div, J_mod, md_back, JN, J_neN, J_Nne, J_ltN, J_Nlt, J_leN, J_Nle, N_refl, J01, J_addN, J_pred, F_X9_at, F_X9_backupAt, F_X9_fails, F_X9_thrown, Option.bind_some, if_true, if_false, Nat.add_zero, Nat.zero_add, Nat.mul_zero, Nat.zero_mul, Nat.reduceAdd, Nat.reduceMul, Nat.reduceSub, Nat.reduceEqDiff, Nat.reduceLeDiff, Nat.reduceLT, Nat.reducePow, Nat.not_lt_zero, Nat.zero_le, eq_self, not_true_eq_false, not_false_eq_true, reduceIte, L_0, L_1, L_2, L_3, L_4, L_5, L_6, L_7, L_8, L_9, L_10, L_11, L_12, L_14, L_15, L_16, L_24, L_30, L_31, L_32, L_34, L_40, L_44, L_90, L_96, L_97, L_100, L_120, L_121, L_192, L_997, L_998, L_1000, L_1270, L_10000, L_17780, L_2540, L_32768, L_16510]
theorem codeOf_D {d : DKT} {se : Nat → Nat} {nx : Nat} {cs : List Ct} (hd : RDc d se nx cs) (hn : Wn cs) {e : Nat} (he : e < st cs cs.length) : F_X1_codeOfEntry d (J e) = some (J (c8 (cf cs e))) := by
  have h1 := hn.2
  unfold F_X1_codeOfEntry
  rw [hasEntry_D hd hn (by omega), if_pos he]
  simp (disch := omega) only [(hd.2.2.2.2.2 e he).1, J_add, J_mul, J_sub, J_dec, J_nat, J_lt, J_le, J_eq, gd_J, gz_J, gb_J, J_div, J_mod, md_back, JN, J_neN, J_Nne, J_ltN, J_Nlt, J_leN, J_Nle, N_refl, J01, J_addN, J_pred, F_X9_at, F_X9_backupAt, F_X9_fails, F_X9_thrown, Option.bind_some, if_true, if_false, Nat.add_zero, Nat.zero_add, Nat.mul_zero, Nat.zero_mul, Nat.reduceAdd, Nat.reduceMul, Nat.reduceSub, Nat.reduceEqDiff, Nat.reduceLeDiff, Nat.reduceLT, Nat.reducePow, Nat.not_lt_zero, Nat.zero_le, eq_self, not_true_eq_false, not_false_eq_true, reduceIte, L_0, L_1, L_2, L_3, L_4, L_5, L_6, L_7, L_8, L_9, L_10, L_11, L_12, L_14, L_15, L_16, L_24, L_30, L_31, L_32, L_34, L_40, L_44, L_90, L_96, L_97, L_100, L_120, L_121, L_192, L_997, L_998, L_1000, L_1270, L_10000, L_17780, L_2540, L_32768, L_16510]
theorem placeOf_D {d : DKT} {se : Nat → Nat} {nx : Nat} {cs : List Ct} (hd : RDc d se nx cs) (hn : Wn cs) {e : Nat} (he : e < st cs cs.length) : F_X1_placeOfEntry d (J e) = some (J (kpl cs e)) := by
  have h1 := hn.2
  unfold F_X1_placeOfEntry
  rw [hasEntry_D hd hn (by omega), if_pos he]
  simp (disch := omega) only [(hd.2.2.2.2.2 e he).2, J_add, J_mul, J_sub, J_dec, J_nat, J_lt, J_le, J_eq, gd_J, gz_J, gb_J, J_div, J_mod, md_back, JN, J_neN, J_Nne, J_ltN, J_Nlt, J_leN, J_Nle, N_refl, J01, J_addN, J_pred, F_X9_at, F_X9_backupAt, F_X9_fails, F_X9_thrown, Option.bind_some, if_true, if_false, Nat.add_zero, Nat.zero_add, Nat.mul_zero, Nat.zero_mul, Nat.reduceAdd, Nat.reduceMul, Nat.reduceSub, Nat.reduceEqDiff, Nat.reduceLeDiff, Nat.reduceLT, Nat.reducePow, Nat.not_lt_zero, Nat.zero_le, eq_self, not_true_eq_false, not_false_eq_true, reduceIte, L_0, L_1, L_2, L_3, L_4, L_5, L_6, L_7, L_8, L_9, L_10, L_11, L_12, L_14, L_15, L_16, L_24, L_30, L_31, L_32, L_34, L_40, L_44, L_90, L_96, L_97, L_100, L_120, L_121, L_192, L_997, L_998, L_1000, L_1270, L_10000, L_17780, L_2540, L_32768, L_16510]
theorem placeOfNumber_D {d : DKT} {se : Nat → Nat} {nx : Nat} {cs : List Ct} (hd : RDc d se nx cs) (hn : Wn cs) (x : Int32) : F_X1_placeOfNumber d x = some (RJ (fi (fun j => decide (J (nu cs j) = x)) cs.length) cs.length) := by
  have h1 := hn.1
  obtain ⟨f1, f2, f3⟩ := fi_spec (fun j => decide (J (nu cs j) = x)) cs.length
  unfold F_X1_placeOfNumber
  refine lp_run (fun j => J j) (fi (fun j => decide (J (nu cs j) = x)) cs.length) (fun self j hj => ?_) (fun self => ?_) (by unfold FU; omega)
  · have g := hd.2.2.2.2.1 j (by omega)
    have g2 := of_decide_eq_false (f2 j hj)
    unfold B_X1_placeOfNumber_2
    simp (disch := omega) only [hd.2.2.1, g.1, J_add, J_mul, J_sub, J_dec, J_nat, J_lt, J_le, J_eq, gd_J, gz_J, gb_J, J_div, J_mod, md_back, JN, J_neN, J_Nne, J_ltN, J_Nlt, J_leN, J_Nle, N_refl, J01, J_addN, J_pred, F_X9_at, F_X9_backupAt, F_X9_fails, F_X9_thrown, Option.bind_some, if_true, if_false, Nat.add_zero, Nat.zero_add, Nat.mul_zero, Nat.zero_mul, Nat.reduceAdd, Nat.reduceMul, Nat.reduceSub, Nat.reduceEqDiff, Nat.reduceLeDiff, Nat.reduceLT, Nat.reducePow, Nat.not_lt_zero, Nat.zero_le, eq_self, not_true_eq_false, not_false_eq_true, reduceIte, L_0, L_1, L_2, L_3, L_4, L_5, L_6, L_7, L_8, L_9, L_10, L_11, L_12, L_14, L_15, L_16, L_24, L_30, L_31, L_32, L_34, L_40, L_44, L_90, L_96, L_97, L_100, L_120, L_121, L_192, L_997, L_998, L_1000, L_1270, L_10000, L_17780, L_2540, L_32768, L_16510]
    rw [if_neg (by omega), if_neg g2]
  · generalize fi (fun j => decide (J (nu cs j) = x)) cs.length = k at *
    unfold B_X1_placeOfNumber_2 RJ
    simp (disch := omega) only [hd.2.2.1, J_add, J_mul, J_sub, J_dec, J_nat, J_lt, J_le, J_eq, gd_J, gz_J, gb_J, J_div, J_mod, md_back, JN, J_neN, J_Nne, J_ltN, J_Nlt, J_leN, J_Nle, N_refl, J01, J_addN, J_pred, F_X9_at, F_X9_backupAt, F_X9_fails, F_X9_thrown, Option.bind_some, if_true, if_false, Nat.add_zero, Nat.zero_add, Nat.mul_zero, Nat.zero_mul, Nat.reduceAdd, Nat.reduceMul, Nat.reduceSub, Nat.reduceEqDiff, Nat.reduceLeDiff, Nat.reduceLT, Nat.reducePow, Nat.not_lt_zero, Nat.zero_le, eq_self, not_true_eq_false, not_false_eq_true, reduceIte, L_0, L_1, L_2, L_3, L_4, L_5, L_6, L_7, L_8, L_9, L_10, L_11, L_12, L_14, L_15, L_16, L_24, L_30, L_31, L_32, L_34, L_40, L_44, L_90, L_96, L_97, L_100, L_120, L_121, L_192, L_997, L_998, L_1000, L_1270, L_10000, L_17780, L_2540, L_32768, L_16510]
    by_cases q : k < cs.length
    · have g := hd.2.2.2.2.1 k q
      have g2 := of_decide_eq_true (f3 q)
      rw [if_neg (by omega), if_pos q]
      simp (disch := omega) only [g.1, J_add, J_mul, J_sub, J_dec, J_nat, J_lt, J_le, J_eq, gd_J, gz_J, gb_J, J_div, J_mod, md_back, JN, J_neN, J_Nne, J_ltN, J_Nlt, J_leN, J_Nle, N_refl, J01, J_addN, J_pred, F_X9_at, F_X9_backupAt, F_X9_fails, F_X9_thrown, Option.bind_some, if_true, if_false, Nat.add_zero, Nat.zero_add, Nat.mul_zero, Nat.zero_mul, Nat.reduceAdd, Nat.reduceMul, Nat.reduceSub, Nat.reduceEqDiff, Nat.reduceLeDiff, Nat.reduceLT, Nat.reducePow, Nat.not_lt_zero, Nat.zero_le, eq_self, not_true_eq_false, not_false_eq_true, reduceIte, L_0, L_1, L_2, L_3, L_4, L_5, L_6, L_7, L_8, L_9, L_10, L_11, L_12, L_14, L_15, L_16, L_24, L_30, L_31, L_32, L_34, L_40, L_44, L_90, L_96, L_97, L_100, L_120, L_121, L_192, L_997, L_998, L_1000, L_1270, L_10000, L_17780, L_2540, L_32768, L_16510]
      rw [if_pos g2]
    · rw [if_pos (by omega), if_neg q]
theorem livingAt_D {d : DKT} {se : Nat → Nat} {nx : Nat} {cs : List Ct} {bs : Nat → List (Nat × Nat)} (hd : RDc d se nx cs) (hu : RDu d cs bs) (hn : Wn cs) (hb : Wb cs bs) {k : Nat} (hk : k < cs.length) : F_X1_livingAt d (J k) = some (J (lv cs bs 8 k)) := by
  have h1 := hn.2
  have h2 := st_in cs hk
  unfold F_X1_livingAt
  simp (disch := omega) only [firstEntryAt_D hd hn (show k + 1 ≤ cs.length by omega), firstEntryAt_D hd hn (show k ≤ cs.length by omega), J_add, J_mul, J_sub, J_dec, J_nat, J_lt, J_le, J_eq, gd_J, gz_J, gb_J, J_div, J_mod, md_back, JN, J_neN, J_Nne, J_ltN, J_Nlt, J_leN, J_Nle, N_refl, J01, J_addN, J_pred, F_X9_at, F_X9_backupAt, F_X9_fails, F_X9_thrown, Option.bind_some, if_true, if_false, Nat.add_zero, Nat.zero_add, Nat.mul_zero, Nat.zero_mul, Nat.reduceAdd, Nat.reduceMul, Nat.reduceSub, Nat.reduceEqDiff, Nat.reduceLeDiff, Nat.reduceLT, Nat.reducePow, Nat.not_lt_zero, Nat.zero_le, eq_self, not_true_eq_false, not_false_eq_true, reduceIte, L_0, L_1, L_2, L_3, L_4, L_5, L_6, L_7, L_8, L_9, L_10, L_11, L_12, L_14, L_15, L_16, L_24, L_30, L_31, L_32, L_34, L_40, L_44, L_90, L_96, L_97, L_100, L_120, L_121, L_192, L_997, L_998, L_1000, L_1270, L_10000, L_17780, L_2540, L_32768, L_16510]
  rw [st_step]
  refine lp_run (fun i => (J (cp (fun i => decide (0 < cnt bs 8 (nu cs k, i))) i), J (st cs k + i))) (si cs k) (fun self i hi => ?_) (fun self => ?_) (by unfold FU; omega)
  · have hc := cnt_le hb 8 (nu cs k, i)
    unfold B_X1_livingAt_17
    simp (disch := omega) only [usesOf_D hd hu hn hk hi, J_add, J_mul, J_sub, J_dec, J_nat, J_lt, J_le, J_eq, gd_J, gz_J, gb_J, J_div, J_mod, md_back, JN, J_neN, J_Nne, J_ltN, J_Nlt, J_leN, J_Nle, N_refl, J01, J_addN, J_pred, F_X9_at, F_X9_backupAt, F_X9_fails, F_X9_thrown, Option.bind_some, if_true, if_false, Nat.add_zero, Nat.zero_add, Nat.mul_zero, Nat.zero_mul, Nat.reduceAdd, Nat.reduceMul, Nat.reduceSub, Nat.reduceEqDiff, Nat.reduceLeDiff, Nat.reduceLT, Nat.reducePow, Nat.not_lt_zero, Nat.zero_le, eq_self, not_true_eq_false, not_false_eq_true, reduceIte, L_0, L_1, L_2, L_3, L_4, L_5, L_6, L_7, L_8, L_9, L_10, L_11, L_12, L_14, L_15, L_16, L_24, L_30, L_31, L_32, L_34, L_40, L_44, L_90, L_96, L_97, L_100, L_120, L_121, L_192, L_997, L_998, L_1000, L_1270, L_10000, L_17780, L_2540, L_32768, L_16510]
    rw [if_neg (by omega)]
    by_cases q : 0 < cnt bs 8 (nu cs k, i)
    · rw [cp_yes (by exact decide_eq_true q), if_neg (by omega)]
      rfl
    · rw [cp_no (by exact decide_eq_false q), if_pos (by omega)]
      rfl
  · unfold B_X1_livingAt_17
    simp (disch := omega) only [Nat.le_refl, J_add, J_mul, J_sub, J_dec, J_nat, J_lt, J_le, J_eq, gd_J, gz_J, gb_J, J_div, J_mod, md_back, JN, J_neN, J_Nne, J_ltN, J_Nlt, J_leN, J_Nle, N_refl, J01, J_addN, J_pred, F_X9_at, F_X9_backupAt, F_X9_fails, F_X9_thrown, Option.bind_some, if_true, if_false, Nat.add_zero, Nat.zero_add, Nat.mul_zero, Nat.zero_mul, Nat.reduceAdd, Nat.reduceMul, Nat.reduceSub, Nat.reduceEqDiff, Nat.reduceLeDiff, Nat.reduceLT, Nat.reducePow, Nat.not_lt_zero, Nat.zero_le, eq_self, not_true_eq_false, not_false_eq_true, reduceIte, L_0, L_1, L_2, L_3, L_4, L_5, L_6, L_7, L_8, L_9, L_10, L_11, L_12, L_14, L_15, L_16, L_24, L_30, L_31, L_32, L_34, L_40, L_44, L_90, L_96, L_97, L_100, L_120, L_121, L_192, L_997, L_998, L_1000, L_1270, L_10000, L_17780, L_2540, L_32768, L_16510]
    rfl
theorem isThin_D {d : DKT} {se : Nat → Nat} {nx : Nat} {cs : List Ct} {bs : Nat → List (Nat × Nat)} (hd : RDc d se nx cs) (hu : RDu d cs bs) (hn : Wn cs) (hb : Wb cs bs) (hW : Wc cs nx) (hS : Ws se) {k : Nat} (hk : k < cs.length) : F_X1_isThin d (J k) = some (J (if thn se cs bs k then 1 else 0)) := by
  have h1 := hn.1
  obtain ⟨w1, w2, w3, w4, w5, w6⟩ := hW.2.1 k hk
  have h2 := lv_le cs bs 8 k
  have h3 := hd.1 3 (by omega)
  obtain ⟨-, -, -, -, -, -, s3, s4, -⟩ := hS
  have h4 : se 3 * si cs k ≤ 100 * 8 := Nat.mul_le_mul s4 (by omega)
  unfold F_X1_isThin thn
  simp (disch := omega) only [hd.2.2.1, livingAt_D hd hu hn hb hk, sizeAt_D hd hn hk, h3, J_add, J_mul, J_sub, J_dec, J_nat, J_lt, J_le, J_eq, gd_J, gz_J, gb_J, J_div, J_mod, md_back, JN, J_neN, J_Nne, J_ltN, J_Nlt, J_leN, J_Nle, N_refl, J01, J_addN, J_pred, F_X9_at, F_X9_backupAt, F_X9_fails, F_X9_thrown, Option.bind_some, if_true, if_false, Nat.add_zero, Nat.zero_add, Nat.mul_zero, Nat.zero_mul, Nat.reduceAdd, Nat.reduceMul, Nat.reduceSub, Nat.reduceEqDiff, Nat.reduceLeDiff, Nat.reduceLT, Nat.reducePow, Nat.not_lt_zero, Nat.zero_le, eq_self, not_true_eq_false, not_false_eq_true, reduceIte, L_0, L_1, L_2, L_3, L_4, L_5, L_6, L_7, L_8, L_9, L_10, L_11, L_12, L_14, L_15, L_16, L_24, L_30, L_31, L_32, L_34, L_40, L_44, L_90, L_96, L_97, L_100, L_120, L_121, L_192, L_997, L_998, L_1000, L_1270, L_10000, L_17780, L_2540, L_32768, L_16510]
  by_cases q1 : k + 1 < cs.length
  · rw [if_pos (by omega)]
    by_cases q2 : 100 * lv cs bs 8 k < se 3 * si cs k
    · rw [if_neg (by omega), if_pos (decide_eq_true ⟨q1, q2⟩)]
    · rw [if_pos (by omega), if_neg (by simp; omega)]
  · rw [if_neg (by omega), if_neg (by simp; omega)]
theorem thin_D {d : DKT} {se : Nat → Nat} {nx : Nat} {cs : List Ct} {bs : Nat → List (Nat × Nat)} (hd : RDc d se nx cs) (hu : RDu d cs bs) (hn : Wn cs) (hb : Wb cs bs) (hW : Wc cs nx) (hS : Ws se) : F_X1_thinContainers d = some (J (cp (thn se cs bs) cs.length)) := by
  have h1 := hn.1
  unfold F_X1_thinContainers
  refine lp_run (fun i => (J (cp (thn se cs bs) i), J i)) cs.length (fun self i hi => ?_) (fun self => ?_) (by unfold FU; omega)
  · unfold B_X1_thinContainers_4
    simp (disch := omega) only [hd.2.2.1, isThin_D hd hu hn hb hW hS hi, J_add, J_mul, J_sub, J_dec, J_nat, J_lt, J_le, J_eq, gd_J, gz_J, gb_J, J_div, J_mod, md_back, JN, J_neN, J_Nne, J_ltN, J_Nlt, J_leN, J_Nle, N_refl, J01, J_addN, J_pred, F_X9_at, F_X9_backupAt, F_X9_fails, F_X9_thrown, Option.bind_some, if_true, if_false, Nat.add_zero, Nat.zero_add, Nat.mul_zero, Nat.zero_mul, Nat.reduceAdd, Nat.reduceMul, Nat.reduceSub, Nat.reduceEqDiff, Nat.reduceLeDiff, Nat.reduceLT, Nat.reducePow, Nat.not_lt_zero, Nat.zero_le, eq_self, not_true_eq_false, not_false_eq_true, reduceIte, L_0, L_1, L_2, L_3, L_4, L_5, L_6, L_7, L_8, L_9, L_10, L_11, L_12, L_14, L_15, L_16, L_24, L_30, L_31, L_32, L_34, L_40, L_44, L_90, L_96, L_97, L_100, L_120, L_121, L_192, L_997, L_998, L_1000, L_1270, L_10000, L_17780, L_2540, L_32768, L_16510]
    rw [if_neg (by omega)]
    by_cases q : thn se cs bs i = true
    · rw [cp_yes q, if_pos q]
      simp (disch := omega) only [J_add, J_mul, J_sub, J_dec, J_nat, J_lt, J_le, J_eq, gd_J, gz_J, gb_J, J_div, J_mod, md_back, JN, J_neN, J_Nne, J_ltN, J_Nlt, J_leN, J_Nle, N_refl, J01, J_addN, J_pred, F_X9_at, F_X9_backupAt, F_X9_fails, F_X9_thrown, Option.bind_some, if_true, if_false, Nat.add_zero, Nat.zero_add, Nat.mul_zero, Nat.zero_mul, Nat.reduceAdd, Nat.reduceMul, Nat.reduceSub, Nat.reduceEqDiff, Nat.reduceLeDiff, Nat.reduceLT, Nat.reducePow, Nat.not_lt_zero, Nat.zero_le, eq_self, not_true_eq_false, not_false_eq_true, reduceIte, L_0, L_1, L_2, L_3, L_4, L_5, L_6, L_7, L_8, L_9, L_10, L_11, L_12, L_14, L_15, L_16, L_24, L_30, L_31, L_32, L_34, L_40, L_44, L_90, L_96, L_97, L_100, L_120, L_121, L_192, L_997, L_998, L_1000, L_1270, L_10000, L_17780, L_2540, L_32768, L_16510]
    · rw [cp_no (Bool.eq_false_iff.mpr q), if_neg q]
      simp (disch := omega) only [J_add, J_mul, J_sub, J_dec, J_nat, J_lt, J_le, J_eq, gd_J, gz_J, gb_J, J_div, J_mod, md_back, JN, J_neN, J_Nne, J_ltN, J_Nlt, J_leN, J_Nle, N_refl, J01, J_addN, J_pred, F_X9_at, F_X9_backupAt, F_X9_fails, F_X9_thrown, Option.bind_some, if_true, if_false, Nat.add_zero, Nat.zero_add, Nat.mul_zero, Nat.zero_mul, Nat.reduceAdd, Nat.reduceMul, Nat.reduceSub, Nat.reduceEqDiff, Nat.reduceLeDiff, Nat.reduceLT, Nat.reducePow, Nat.not_lt_zero, Nat.zero_le, eq_self, not_true_eq_false, not_false_eq_true, reduceIte, L_0, L_1, L_2, L_3, L_4, L_5, L_6, L_7, L_8, L_9, L_10, L_11, L_12, L_14, L_15, L_16, L_24, L_30, L_31, L_32, L_34, L_40, L_44, L_90, L_96, L_97, L_100, L_120, L_121, L_192, L_997, L_998, L_1000, L_1270, L_10000, L_17780, L_2540, L_32768, L_16510]
  · unfold B_X1_thinContainers_4
    simp (disch := omega) only [hd.2.2.1, Nat.le_refl, J_add, J_mul, J_sub, J_dec, J_nat, J_lt, J_le, J_eq, gd_J, gz_J, gb_J, J_div, J_mod, md_back, JN, J_neN, J_Nne, J_ltN, J_Nlt, J_leN, J_Nle, N_refl, J01, J_addN, J_pred, F_X9_at, F_X9_backupAt, F_X9_fails, F_X9_thrown, Option.bind_some, if_true, if_false, Nat.add_zero, Nat.zero_add, Nat.mul_zero, Nat.zero_mul, Nat.reduceAdd, Nat.reduceMul, Nat.reduceSub, Nat.reduceEqDiff, Nat.reduceLeDiff, Nat.reduceLT, Nat.reducePow, Nat.not_lt_zero, Nat.zero_le, eq_self, not_true_eq_false, not_false_eq_true, reduceIte, L_0, L_1, L_2, L_3, L_4, L_5, L_6, L_7, L_8, L_9, L_10, L_11, L_12, L_14, L_15, L_16, L_24, L_30, L_31, L_32, L_34, L_40, L_44, L_90, L_96, L_97, L_100, L_120, L_121, L_192, L_997, L_998, L_1000, L_1270, L_10000, L_17780, L_2540, L_32768, L_16510]
theorem living_D {d : DKT} {se : Nat → Nat} {nx : Nat} {cs : List Ct} {bs : Nat → List (Nat × Nat)} (hd : RDc d se nx cs) (hu : RDu d cs bs) (hn : Wn cs) (hb : Wb cs bs) : F_X1_living d = some (J (sm (lv cs bs 8) cs.length)) := by
  have h1 := hn.2
  have e1 : sm (lv cs bs 8) cs.length = cp (fun e => decide (0 < cnt bs 8 (nu cs (kpl cs e), e - st cs (kpl cs e)))) (st cs cs.length) := by
    rw [cp_flat]
    refine sm_ext fun k hk => cp_ext fun i hi => ?_
    show _ = decide (0 < cnt bs 8 (nu cs (kpl cs (st cs k + i)), st cs k + i - st cs (kpl cs (st cs k + i))))
    rw [kpl_at hk hi, Nat.add_sub_cancel_left]
  rw [e1]
  unfold F_X1_living
  refine lp_run (fun e => (J (cp (fun e => decide (0 < cnt bs 8 (nu cs (kpl cs e), e - st cs (kpl cs e)))) e), J e)) (st cs cs.length) (fun self e he => ?_) (fun self => ?_) (by unfold FU; omega)
  · obtain ⟨k1, k2, k3⟩ := kpl_lt he
    have hc := cnt_le hb 8 (nu cs (kpl cs e), e - st cs (kpl cs e))
    have h2 := hu _ k1 _ k3
    rw [show st cs (kpl cs e) + (e - st cs (kpl cs e)) = e by omega] at h2
    unfold B_X1_living_4
    simp (disch := omega) only [hd.2.2.2.1, h2, J_add, J_mul, J_sub, J_dec, J_nat, J_lt, J_le, J_eq, gd_J, gz_J, gb_J, J_div, J_mod, md_back, JN, J_neN, J_Nne, J_ltN, J_Nlt, J_leN, J_Nle, N_refl, J01, J_addN, J_pred, F_X9_at, F_X9_backupAt, F_X9_fails, F_X9_thrown, Option.bind_some, if_true, if_false, Nat.add_zero, Nat.zero_add, Nat.mul_zero, Nat.zero_mul, Nat.reduceAdd, Nat.reduceMul, Nat.reduceSub, Nat.reduceEqDiff, Nat.reduceLeDiff, Nat.reduceLT, Nat.reducePow, Nat.not_lt_zero, Nat.zero_le, eq_self, not_true_eq_false, not_false_eq_true, reduceIte, L_0, L_1, L_2, L_3, L_4, L_5, L_6, L_7, L_8, L_9, L_10, L_11, L_12, L_14, L_15, L_16, L_24, L_30, L_31, L_32, L_34, L_40, L_44, L_90, L_96, L_97, L_100, L_120, L_121, L_192, L_997, L_998, L_1000, L_1270, L_10000, L_17780, L_2540, L_32768, L_16510]
    rw [if_neg (by omega)]
    by_cases q : 0 < cnt bs 8 (nu cs (kpl cs e), e - st cs (kpl cs e))
    · rw [cp_yes (by exact decide_eq_true q), if_neg (by omega)]
    · rw [cp_no (by exact decide_eq_false q), if_pos (by omega)]
  · unfold B_X1_living_4
    simp (disch := omega) only [hd.2.2.2.1, Nat.le_refl, J_add, J_mul, J_sub, J_dec, J_nat, J_lt, J_le, J_eq, gd_J, gz_J, gb_J, J_div, J_mod, md_back, JN, J_neN, J_Nne, J_ltN, J_Nlt, J_leN, J_Nle, N_refl, J01, J_addN, J_pred, F_X9_at, F_X9_backupAt, F_X9_fails, F_X9_thrown, Option.bind_some, if_true, if_false, Nat.add_zero, Nat.zero_add, Nat.mul_zero, Nat.zero_mul, Nat.reduceAdd, Nat.reduceMul, Nat.reduceSub, Nat.reduceEqDiff, Nat.reduceLeDiff, Nat.reduceLT, Nat.reducePow, Nat.not_lt_zero, Nat.zero_le, eq_self, not_true_eq_false, not_false_eq_true, reduceIte, L_0, L_1, L_2, L_3, L_4, L_5, L_6, L_7, L_8, L_9, L_10, L_11, L_12, L_14, L_15, L_16, L_24, L_30, L_31, L_32, L_34, L_40, L_44, L_90, L_96, L_97, L_100, L_120, L_121, L_192, L_997, L_998, L_1000, L_1270, L_10000, L_17780, L_2540, L_32768, L_16510]
theorem fe_lt {cs : List Ct} {k : Nat} {l : List Nat} : fe cs k l < si cs k ↔ ∃ i, i < si cs k ∧ ch cs k i = l := by
  obtain ⟨f1, f2, f3⟩ := fi_spec (fun e => decide (ch cs k e = l)) (si cs k)
  have e1 : fe cs k l = fi (fun e => decide (ch cs k e = l)) (si cs k) := rfl
  rw [← e1] at f1 f2 f3
  constructor
  · exact fun h => ⟨_, h, of_decide_eq_true (f3 h)⟩
  · rintro ⟨i, h1, h2⟩
    rcases Nat.lt_or_ge (fe cs k l) (si cs k) with q | q
    · exact q
    · have := of_decide_eq_false (f2 i (by omega))
      exact absurd h2 this
theorem fe_ch {cs : List Ct} {k : Nat} {l : List Nat} (h : fe cs k l < si cs k) : ch cs k (fe cs k l) = l := of_decide_eq_true ((fi_spec (fun e => decide (ch cs k e = l)) (si cs k)).2.2 h)
theorem hm_flat (cs : List Ct) (l : List Nat) : hm cs l = (lastP (fun e => decide (cf cs e = l)) (st cs cs.length)).map (kpl cs) := by
  unfold hm
  cases h : lastP (fun e => decide (cf cs e = l)) (st cs cs.length) with
  | none =>
    refine lastP_eq_none fun k hk => decide_eq_false fun q => ?_
    obtain ⟨i, h1, h2⟩ := fe_lt.mp q
    have h3 := st_in cs hk
    have := of_decide_eq_false (lastP_none h (st cs k + i) (by omega))
    rw [cf_at hk h1] at this
    exact this h2
  | some e =>
    obtain ⟨h1, h2, h3⟩ := lastP_some h
    obtain ⟨k1, k2, k3⟩ := kpl_lt h1
    refine lastP_eq_some k1 (decide_eq_true (fe_lt.mpr ⟨_, k3, of_decide_eq_true h2⟩)) (fun j g1 g2 => decide_eq_false fun q => ?_)
    obtain ⟨i, z1, z2⟩ := fe_lt.mp q
    have z3 := st_in cs g2
    have z4 := st_mono cs (show kpl cs e + 1 ≤ j by omega)
    rw [st_step] at z4
    have := of_decide_eq_false (h3 (st cs j + i) (by omega) (by omega))
    rw [cf_at g2 z1] at this
    exact this z2
theorem homeOf_D {d : DKT} {se : Nat → Nat} {nx : Nat} {cs : List Ct} (hd : RDc d se nx cs) (hn : Wn cs) (hW : Wc cs nx) {l : List Nat} (hv : vch l) : F_X1_homeOf d (J (c8 l)) = some (OJ id (hm cs l)) := by
  have h1 := hn.2
  unfold F_X1_homeOf
  have e0 : dk_entries d - J 1 = dn (st cs cs.length) := by rw [hd.2.2.2.1, dn_sub]
  simp (disch := omega) only [e0, J_add, J_mul, J_sub, J_dec, J_nat, J_lt, J_le, J_eq, gd_J, gz_J, gb_J, J_div, J_mod, md_back, JN, J_neN, J_Nne, J_ltN, J_Nlt, J_leN, J_Nle, N_refl, J01, J_addN, J_pred, F_X9_at, F_X9_backupAt, F_X9_fails, F_X9_thrown, Option.bind_some, if_true, if_false, Nat.add_zero, Nat.zero_add, Nat.mul_zero, Nat.zero_mul, Nat.reduceAdd, Nat.reduceMul, Nat.reduceSub, Nat.reduceEqDiff, Nat.reduceLeDiff, Nat.reduceLT, Nat.reducePow, Nat.not_lt_zero, Nat.zero_le, eq_self, not_true_eq_false, not_false_eq_true, reduceIte, L_0, L_1, L_2, L_3, L_4, L_5, L_6, L_7, L_8, L_9, L_10, L_11, L_12, L_14, L_15, L_16, L_24, L_30, L_31, L_32, L_34, L_40, L_44, L_90, L_96, L_97, L_100, L_120, L_121, L_192, L_997, L_998, L_1000, L_1270, L_10000, L_17780, L_2540, L_32768, L_16510]
  have e5 : OJ id (hm cs l) = OJ (kpl cs) (lastP (fun e => decide (cf cs e = l)) (st cs cs.length)) := by
    rw [hm_flat]
    cases lastP (fun e => decide (cf cs e = l)) (st cs cs.length) <;> rfl
  rw [e5]
  refine lp_dn dn (fun e => decide (cf cs e = l)) (fun z => some (OJ (kpl cs) z)) (fun self => ?_) (st cs cs.length) FU (fun self e he => ?_) (by unfold FU; omega)
  · rfl
  · obtain ⟨g1, g2⟩ := hd.2.2.2.2.2 e he
    have g3 := c8_eq (cf_v hW he) hv
    rw [dn_succ]
    unfold B_X1_homeOf_7
    have e3 : ¬ J e < 0 := J_neg (by omega)
    have e4 : (-1 : Int32) = NN := rfl
    rw [if_neg e3, e4, dn_add, gd_J (by omega) (by omega), J_nat (by omega), g1]
    simp only [g3]
    by_cases q : cf cs e = l
    · rw [if_pos q, if_pos (decide_eq_true q), gd_J (by omega) (by omega), g2]
      rfl
    · rw [if_neg q, if_neg (by simpa using q)]
theorem firstFrom_D {d : DKT} {se : Nat → Nat} {nx : Nat} {cs : List Ct} (hd : RDc d se nx cs) (hn : Wn cs) (hW : Wc cs nx) {l : List Nat} (hv : vch l) {s N : Nat} (hs : s ≤ N) (hN : N ≤ st cs cs.length) (hno : ∀ e, s ≤ e → e < N → cf cs e ≠ l) (hyes : N < st cs cs.length → cf cs N = l) : F_X1_firstFrom d (J (c8 l)) (J s) = some (RJ N (st cs cs.length)) := by
  have h1 := hn.2
  unfold F_X1_firstFrom
  rw [MMAX_J s (by omega)]
  refine lp_at (fun j => J j) s N hs (fun self e h2 h3 => ?_) (fun self => ?_) (by unfold FU; omega)
  · have g := hd.2.2.2.2.2 e (by omega)
    have g3 := c8_eq (cf_v hW (e := e) (by omega)) hv
    unfold B_X1_firstFrom_6
    simp (disch := omega) only [hd.2.2.2.1, g.1, g3, J_add, J_mul, J_sub, J_dec, J_nat, J_lt, J_le, J_eq, gd_J, gz_J, gb_J, J_div, J_mod, md_back, JN, J_neN, J_Nne, J_ltN, J_Nlt, J_leN, J_Nle, N_refl, J01, J_addN, J_pred, F_X9_at, F_X9_backupAt, F_X9_fails, F_X9_thrown, Option.bind_some, if_true, if_false, Nat.add_zero, Nat.zero_add, Nat.mul_zero, Nat.zero_mul, Nat.reduceAdd, Nat.reduceMul, Nat.reduceSub, Nat.reduceEqDiff, Nat.reduceLeDiff, Nat.reduceLT, Nat.reducePow, Nat.not_lt_zero, Nat.zero_le, eq_self, not_true_eq_false, not_false_eq_true, reduceIte, L_0, L_1, L_2, L_3, L_4, L_5, L_6, L_7, L_8, L_9, L_10, L_11, L_12, L_14, L_15, L_16, L_24, L_30, L_31, L_32, L_34, L_40, L_44, L_90, L_96, L_97, L_100, L_120, L_121, L_192, L_997, L_998, L_1000, L_1270, L_10000, L_17780, L_2540, L_32768, L_16510]
    rw [if_neg (by omega), if_neg (hno e h2 h3)]
  · unfold B_X1_firstFrom_6 RJ
    simp (disch := omega) only [hd.2.2.2.1, J_add, J_mul, J_sub, J_dec, J_nat, J_lt, J_le, J_eq, gd_J, gz_J, gb_J, J_div, J_mod, md_back, JN, J_neN, J_Nne, J_ltN, J_Nlt, J_leN, J_Nle, N_refl, J01, J_addN, J_pred, F_X9_at, F_X9_backupAt, F_X9_fails, F_X9_thrown, Option.bind_some, if_true, if_false, Nat.add_zero, Nat.zero_add, Nat.mul_zero, Nat.zero_mul, Nat.reduceAdd, Nat.reduceMul, Nat.reduceSub, Nat.reduceEqDiff, Nat.reduceLeDiff, Nat.reduceLT, Nat.reducePow, Nat.not_lt_zero, Nat.zero_le, eq_self, not_true_eq_false, not_false_eq_true, reduceIte, L_0, L_1, L_2, L_3, L_4, L_5, L_6, L_7, L_8, L_9, L_10, L_11, L_12, L_14, L_15, L_16, L_24, L_30, L_31, L_32, L_34, L_40, L_44, L_90, L_96, L_97, L_100, L_120, L_121, L_192, L_997, L_998, L_1000, L_1270, L_10000, L_17780, L_2540, L_32768, L_16510]
    by_cases q : N < st cs cs.length
    · have g := hd.2.2.2.2.2 N q
      have g3 := c8_eq (cf_v hW (e := N) q) hv
      rw [if_neg (by omega), if_pos q]
      simp (disch := omega) only [g.1, g3, J_add, J_mul, J_sub, J_dec, J_nat, J_lt, J_le, J_eq, gd_J, gz_J, gb_J, J_div, J_mod, md_back, JN, J_neN, J_Nne, J_ltN, J_Nlt, J_leN, J_Nle, N_refl, J01, J_addN, J_pred, F_X9_at, F_X9_backupAt, F_X9_fails, F_X9_thrown, Option.bind_some, if_true, if_false, Nat.add_zero, Nat.zero_add, Nat.mul_zero, Nat.zero_mul, Nat.reduceAdd, Nat.reduceMul, Nat.reduceSub, Nat.reduceEqDiff, Nat.reduceLeDiff, Nat.reduceLT, Nat.reducePow, Nat.not_lt_zero, Nat.zero_le, eq_self, not_true_eq_false, not_false_eq_true, reduceIte, L_0, L_1, L_2, L_3, L_4, L_5, L_6, L_7, L_8, L_9, L_10, L_11, L_12, L_14, L_15, L_16, L_24, L_30, L_31, L_32, L_34, L_40, L_44, L_90, L_96, L_97, L_100, L_120, L_121, L_192, L_997, L_998, L_1000, L_1270, L_10000, L_17780, L_2540, L_32768, L_16510]
      rw [if_pos (hyes q)]
    · rw [if_pos (by omega), if_neg q]
theorem firstEntryWith_D {d : DKT} {se : Nat → Nat} {nx : Nat} {cs : List Ct} (hd : RDc d se nx cs) (hn : Wn cs) (hW : Wc cs nx) {l : List Nat} (hv : vch l) {k : Nat} (hk : k < cs.length) (hl : fe cs k l < si cs k) : F_X1_firstEntryWith d (J (c8 l)) (J k) = some (J (st cs k + fe cs k l)) := by
  have h2 := st_in cs hk
  unfold F_X1_firstEntryWith
  rw [firstEntryAt_D hd hn (by omega)]
  simp only [Option.bind_some]
  rw [firstFrom_D hd hn hW hv (s := st cs k) (N := st cs k + fe cs k l) (by omega) (by omega)]
  · simp only [Option.bind_some]
    unfold RJ
    rw [if_pos (by omega)]
  · intro e h3 h4
    have h5 := of_decide_eq_false ((fi_spec (fun e => decide (ch cs k e = l)) (si cs k)).2.1 (e - st cs k) (by have : fe cs k l = fi (fun e => decide (ch cs k e = l)) (si cs k) := rfl; omega))
    have h6 := cf_at hk (i := e - st cs k) (by omega)
    rw [show st cs k + (e - st cs k) = e by omega] at h6
    rw [h6]
    exact h5
  · intro _
    rw [cf_at hk hl]
    exact fe_ch hl
