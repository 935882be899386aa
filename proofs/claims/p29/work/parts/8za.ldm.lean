/-! THE PURE SIDE: the Model's references led elsewhere -/
def ld (n o n2 o2 : Nat) (r : Nat × Nat) : Nat × Nat := if r = (n, o) then (n2, o2) else r
def LDi (s s' : Nat → Int32) (ρ : Nat × Nat → Nat × Nat) (bs : Nat → List (Nat × Nat)) (b i : Nat) : Prop := (∀ x, x < 998 → s' x = s x) ∧ ∀ j, j < 8 → s' (998 + 34 * j) = J (min 1 (bs j).length) ∧ s' (998 + 34 * j + 1) = J (bs j).length ∧ ∀ y, y < (bs j).length → s' (998 + 34 * j + 2 + 2 * y) = J (if j < b ∨ (j = b ∧ y < i) then ρ (rf (bs j) y) else rf (bs j) y).1 ∧ s' (998 + 34 * j + 2 + 2 * y + 1) = J (if j < b ∨ (j = b ∧ y < i) then ρ (rf (bs j) y) else rf (bs j) y).2
theorem leads_M {s : Nat → Int32} {nx : Nat} {cs : List Ct} {bs : Nat → List (Nat × Nat)} (hm : RMb s bs) (hW : Wc cs nx) (hb : Wb cs bs) {n o n2 o2 : Nat} (hn : n < 2 ^ 30) (ho : o < 2 ^ 30) : ∃ s', F_X9_leads s (J n) (J o) (J n2) (J o2) = some s' ∧ RMb s' (fun b => (bs b).map (ld n o n2 o2)) ∧ ∀ x, x < 998 → s' x = s x := by
  have inner : ∀ (x b i fuel : Nat) (s1 : Nat → Int32) (s3 : Int32 × (Nat → Int32)) (self : (Int32 × (Nat → Int32)) → Option (Nat → Int32)), s3.1 = J b → b < 8 → i + x = (bs b).length → LDi s s1 (ld n o n2 o2) bs b i → x < fuel → ∃ s2, lp (B_X9_leads_21 (J (998 + 34 * b)) self s3 (J n) (J o) (J n2) (J o2)) fuel (J i, s1) = self (J (b + 1), s2) ∧ LDi s s2 (ld n o n2 o2) bs b (bs b).length := by
    intro x
    induction x with
    | zero =>
      intro b i fuel s1 s3 self hs hb8 hi hI hf
      obtain ⟨fuel, rfl⟩ : ∃ q, fuel = q + 1 := ⟨fuel - 1, by omega⟩
      obtain rfl : i = (bs b).length := by omega
      have h15 := (hb b hb8).1
      refine ⟨s1, ?_, hI⟩
      show B_X9_leads_21 _ _ _ _ _ _ _ _ _ = _
      unfold B_X9_leads_21
      simp (disch := omega) only [(hI.2 b hb8).2.1, Nat.le_refl, hs, J_add, J_mul, J_sub, J_dec, J_nat, J_lt, J_le, J_eq, gd_J, gz_J, gb_J, J_div, J_mod, md_back, JN, J_neN, J_Nne, J_ltN, J_Nlt, J_leN, J_Nle, N_refl, J01, J_addN, J_pred, F_X9_at, F_X9_backupAt, F_X9_fails, F_X9_thrown, Option.bind_some, if_true, if_false, Nat.add_zero, Nat.zero_add, Nat.mul_zero, Nat.zero_mul, Nat.reduceAdd, Nat.reduceMul, Nat.reduceSub, Nat.reduceEqDiff, Nat.reduceLeDiff, Nat.reduceLT, Nat.reducePow, Nat.not_lt_zero, Nat.zero_le, eq_self, not_true_eq_false, not_false_eq_true, reduceIte, L_0, L_1, L_2, L_3, L_4, L_5, L_6, L_7, L_8, L_9, L_10, L_11, L_12, L_14, L_15, L_16, L_24, L_30, L_31, L_32, L_34, L_40, L_44, L_90, L_96, L_97, L_100, L_120, L_121, L_192, L_997, L_998, L_1000, L_1270, L_10000, L_17780, L_2540, L_32768, L_16510]
    | succ x ih =>
      intro b i fuel s1 s3 self hs hb8 hi hI hf
      obtain ⟨fuel, rfl⟩ : ∃ q, fuel = q + 1 := ⟨fuel - 1, by omega⟩
      have h15 := (hb b hb8).1
      have hi2 : i < (bs b).length := by omega
      obtain ⟨r1, r2⟩ := RV_small hW ((hb b hb8).2 i hi2)
      have ihx := fun s1 => ih b (i + 1) fuel s1 s3 self hs hb8 (by omega)
      clear ih
      show ∃ s2, B_X9_leads_21 _ _ _ _ _ _ _ (lp _ fuel) _ = _ ∧ _
      generalize lp (B_X9_leads_21 (J (998 + 34 * b)) self s3 (J n) (J o) (J n2) (J o2)) fuel = slf at ihx ⊢
      obtain ⟨i1, i2⟩ := hI
      obtain ⟨g1, g2, g3⟩ := i2 b hb8
      obtain ⟨k1, k2⟩ := g3 i hi2
      rw [if_neg (by omega)] at k1 k2
      by_cases q : rf (bs b) i = (n, o)
      · have hρ : ld n o n2 o2 (rf (bs b) i) = (n2, o2) := if_pos q
        have q1 : (rf (bs b) i).1 = n := congrArg Prod.fst q
        have q2 : (rf (bs b) i).2 = o := congrArg Prod.snd q
        rw [q1] at k1
        rw [q2] at k2
        have hI2 : LDi s (upd (upd s1 (998 + 34 * b + 2 + 2 * i) (J n2)) (998 + 34 * b + 2 + 2 * i + 1) (J o2)) (ld n o n2 o2) bs b (i + 1) := by
          refine ⟨fun x hx => by rw [upd_ne _ _ (by omega), upd_ne _ _ (by omega)]; exact i1 x hx, fun j hj => ?_⟩
          obtain ⟨t1, t2, t3⟩ := i2 j hj
          have hj15 := (hb j hj).1
          refine ⟨by rw [upd_ne _ _ (by omega), upd_ne _ _ (by omega)]; exact t1, by rw [upd_ne _ _ (by omega), upd_ne _ _ (by omega)]; exact t2, fun y hy => ?_⟩
          by_cases z : j = b ∧ y = i
          · obtain ⟨z1, z2⟩ := z
            rw [z1, z2, if_pos (by omega), hρ]
            refine ⟨?_, ?_⟩
            · rw [upd_ne _ _ (by omega), upd_self]
            · rw [upd_self]
          · obtain ⟨u1, u2⟩ := t3 y hy
            have e : (j < b ∨ (j = b ∧ y < i + 1)) = (j < b ∨ (j = b ∧ y < i)) := propext ⟨fun w => by omega, fun w => by omega⟩
            simp only [e]
            rw [upd_ne _ _ (by omega), upd_ne _ _ (by omega), upd_ne _ _ (by omega), upd_ne _ _ (by omega)]
            exact ⟨u1, u2⟩
        obtain ⟨s2, y1, y2⟩ := ihx _ hI2 (by omega)
        refine ⟨s2, ?_, y2⟩
        unfold B_X9_leads_21
        simp (disch := omega) only [g2, k1, k2, J_add, J_mul, J_sub, J_dec, J_nat, J_lt, J_le, J_eq, gd_J, gz_J, gb_J, J_div, J_mod, md_back, JN, J_neN, J_Nne, J_ltN, J_Nlt, J_leN, J_Nle, N_refl, J01, J_addN, J_pred, F_X9_at, F_X9_backupAt, F_X9_fails, F_X9_thrown, Option.bind_some, if_true, if_false, Nat.add_zero, Nat.zero_add, Nat.mul_zero, Nat.zero_mul, Nat.reduceAdd, Nat.reduceMul, Nat.reduceSub, Nat.reduceEqDiff, Nat.reduceLeDiff, Nat.reduceLT, Nat.reducePow, Nat.not_lt_zero, Nat.zero_le, eq_self, not_true_eq_false, not_false_eq_true, reduceIte, L_0, L_1, L_2, L_3, L_4, L_5, L_6, L_7, L_8, L_9, L_10, L_11, L_12, L_14, L_15, L_16, L_24, L_30, L_31, L_32, L_34, L_40, L_44, L_90, L_96, L_97, L_100, L_120, L_121, L_192, L_997, L_998, L_1000, L_1270, L_10000, L_17780, L_2540, L_32768, L_16510]
        rw [if_neg (by omega)]
        exact y1
      · have hρ : ld n o n2 o2 (rf (bs b) i) = rf (bs b) i := if_neg q
        have hI2 : LDi s s1 (ld n o n2 o2) bs b (i + 1) := by
          refine ⟨i1, fun j hj => ?_⟩
          obtain ⟨t1, t2, t3⟩ := i2 j hj
          refine ⟨t1, t2, fun y hy => ?_⟩
          by_cases z : j = b ∧ y = i
          · obtain ⟨z1, z2⟩ := z
            rw [z1, z2, if_pos (by omega), hρ]
            exact ⟨k1, k2⟩
          · have e : (j < b ∨ (j = b ∧ y < i + 1)) = (j < b ∨ (j = b ∧ y < i)) := propext ⟨fun w => by omega, fun w => by omega⟩
            simp only [e]
            exact t3 y hy
        obtain ⟨s2, y1, y2⟩ := ihx _ hI2 (by omega)
        refine ⟨s2, ?_, y2⟩
        unfold B_X9_leads_21
        simp (disch := omega) only [g2, k1, k2, J_add, J_mul, J_sub, J_dec, J_nat, J_lt, J_le, J_eq, gd_J, gz_J, gb_J, J_div, J_mod, md_back, JN, J_neN, J_Nne, J_ltN, J_Nlt, J_leN, J_Nle, N_refl, J01, J_addN, J_pred, F_X9_at, F_X9_backupAt, F_X9_fails, F_X9_thrown, Option.bind_some, if_true, if_false, Nat.add_zero, Nat.zero_add, Nat.mul_zero, Nat.zero_mul, Nat.reduceAdd, Nat.reduceMul, Nat.reduceSub, Nat.reduceEqDiff, Nat.reduceLeDiff, Nat.reduceLT, Nat.reducePow, Nat.not_lt_zero, Nat.zero_le, eq_self, not_true_eq_false, not_false_eq_true, reduceIte, L_0, L_1, L_2, L_3, L_4, L_5, L_6, L_7, L_8, L_9, L_10, L_11, L_12, L_14, L_15, L_16, L_24, L_30, L_31, L_32, L_34, L_40, L_44, L_90, L_96, L_97, L_100, L_120, L_121, L_192, L_997, L_998, L_1000, L_1270, L_10000, L_17780, L_2540, L_32768, L_16510]
        rw [if_neg (by omega)]
        by_cases q1 : (rf (bs b) i).1 = n
        · rw [if_pos q1, if_neg fun q2 => q (Prod.ext q1 q2)]
          exact y1
        · rw [if_neg q1]
          exact y1
  have outer : ∀ (x b fuel : Nat) (s1 : Nat → Int32), b + x = 8 → LDi s s1 (ld n o n2 o2) bs b 0 → x < fuel → ∃ s2, lp (B_X9_leads_3 (J n) (J o) (J n2) (J o2)) fuel (J b, s1) = some s2 ∧ LDi s s2 (ld n o n2 o2) bs 8 0 := by
    intro x
    induction x with
    | zero =>
      intro b fuel s1 hbx hI hf
      obtain ⟨fuel, rfl⟩ : ∃ q, fuel = q + 1 := ⟨fuel - 1, by omega⟩
      obtain rfl : b = 8 := by omega
      exact ⟨s1, rfl, hI⟩
    | succ x ih =>
      intro b fuel s1 hbx hI hf
      obtain ⟨fuel, rfl⟩ : ∃ q, fuel = q + 1 := ⟨fuel - 1, by omega⟩
      have ihx := fun s1 => ih (b + 1) fuel s1 (by omega)
      clear ih
      show ∃ s2, B_X9_leads_3 _ _ _ _ (lp _ fuel) _ = _ ∧ _
      generalize lp (B_X9_leads_3 (J n) (J o) (J n2) (J o2)) fuel = self at ihx ⊢
      obtain ⟨s2, y1, y2⟩ := inner (bs b).length b 0 FU s1 (J b, s1) self rfl (by omega) (by omega) hI (by have := (hb b (by omega)).1; unfold FU; omega)
      have hI2 : LDi s s2 (ld n o n2 o2) bs (b + 1) 0 := by
        refine ⟨y2.1, fun j hj => ?_⟩
        obtain ⟨t1, t2, t3⟩ := y2.2 j hj
        refine ⟨t1, t2, fun y hy => ?_⟩
        have e : (j < b + 1 ∨ (j = b + 1 ∧ y < 0)) = (j < b ∨ (j = b ∧ y < (bs b).length)) := propext ⟨fun w => by
          rcases Nat.lt_or_ge j b with q | q
          · exact Or.inl q
          · have e : j = b := by omega
            exact Or.inr ⟨e, by rw [← e]; exact hy⟩, fun w => by omega⟩
        simp only [e]
        exact t3 y hy
      obtain ⟨s3, z1, z2⟩ := ihx s2 hI2 (by omega)
      refine ⟨s3, ?_, z2⟩
      unfold B_X9_leads_3
      simp (disch := omega) only [J_add, J_mul, J_sub, J_dec, J_nat, J_lt, J_le, J_eq, gd_J, gz_J, gb_J, J_div, J_mod, md_back, JN, J_neN, J_Nne, J_ltN, J_Nlt, J_leN, J_Nle, N_refl, J01, J_addN, J_pred, F_X9_at, F_X9_backupAt, F_X9_fails, F_X9_thrown, Option.bind_some, if_true, if_false, Nat.add_zero, Nat.zero_add, Nat.mul_zero, Nat.zero_mul, Nat.reduceAdd, Nat.reduceMul, Nat.reduceSub, Nat.reduceEqDiff, Nat.reduceLeDiff, Nat.reduceLT, Nat.reducePow, Nat.not_lt_zero, Nat.zero_le, eq_self, not_true_eq_false, not_false_eq_true, reduceIte, L_0, L_1, L_2, L_3, L_4, L_5, L_6, L_7, L_8, L_9, L_10, L_11, L_12, L_14, L_15, L_16, L_24, L_30, L_31, L_32, L_34, L_40, L_44, L_90, L_96, L_97, L_100, L_120, L_121, L_192, L_997, L_998, L_1000, L_1270, L_10000, L_17780, L_2540, L_32768, L_16510]
      rw [if_neg (by omega)]
      exact y1.trans z1
  have hI0 : LDi s s (ld n o n2 o2) bs 0 0 := by
    refine ⟨fun _ _ => rfl, fun j hj => ⟨(hm j hj).1, (hm j hj).2.1, fun y hy => ?_⟩⟩
    rw [if_neg (by omega)]
    exact (hm j hj).2.2 y hy
  obtain ⟨s', y1, y2, y3⟩ := outer 8 0 FU s rfl hI0 (by unfold FU; omega)
  refine ⟨s', y1, fun b hb8 => ?_, y2⟩
  obtain ⟨t1, t2, t3⟩ := y3 b hb8
  rw [List.length_map]
  refine ⟨t1, t2, fun i hi => ?_⟩
  rw [rf_map hi]
  obtain ⟨u1, u2⟩ := t3 i hi
  rw [if_pos (Or.inl hb8)] at u1 u2
  exact ⟨u1, u2⟩
