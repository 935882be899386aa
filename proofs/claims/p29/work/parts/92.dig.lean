/-! P29, THE PURE SIDE: the law's digest and its row of references, out of the abstract state -/
noncomputable def dg1 (A : AT) : Nat → Int64
  | 0 => 3
  | q + 1 => 31 * dg1 A q + Int32.toInt64 (abv A q)
noncomputable def dg2 (A : AT) : Nat → Int64
  | 0 => dg1 A 10
  | i + 1 => 31 * dg2 A i + Int32.toInt64 (J (a_se A i))
noncomputable def dge (A : AT) (k : Nat) (h : Int64) : Nat → Int64
  | 0 => h
  | e + 1 => 31 * (31 * dge A k h e + Int32.toInt64 (J (sc (ch (a_cs A) k e)))) + Int32.toInt64 (J (cnt (a_bs A) 8 (nu (a_cs A) k, e)))
noncomputable def dg3 (A : AT) : Nat → Int64
  | 0 => dg2 A 5
  | k + 1 => dge A k (31 * dg3 A k + 64 * Int32.toInt64 (J (nu (a_cs A) k)) + Int32.toInt64 (J (ca (a_cs A) k))) (si (a_cs A) k)
/-- a number of all that can be told -/
noncomputable def dgv (A : AT) : Int64 := dg3 A (a_cs A).length
theorem J_s (q : Nat) : J q + 1 = J (q + 1) := J_add q 1
theorem dig101 {d : DKT} {A : AT} {n : Nat} (hd : DR d A) (hW : WF A n) {k : Nat} (hk : k < (a_cs A).length) (self59 : (Int64 × Int32) → Option Int64) (s59 : Int64 × Int32) (h : Int64) : lp (B_L_digest_101 d (0, J (nu (a_cs A) k)) self59 s59) FU (h, 0) = self59 (dge A k h (si (a_cs A) k), s59.2 + 1) := by
  have h9 := si_192 hW hk
  refine lp_run (fun e => (dge A k h e, J e)) (si (a_cs A) k) (fun self e he => ?_) (fun self => ?_) (by unfold FU; omega)
  · unfold B_L_digest_101
    dsimp only
    rw [size_V hd hW hk, entry1_V hd hW hk he, entry2_V hd hW hk he]
    simp only [Option.bind_some, z0_z]
    rw [if_neg (show ¬ J (si (a_cs A) k) ≤ J e from fun w => by have := (J_le (by omega) (by omega)).mp w; omega), J_s]
    rfl
  · unfold B_L_digest_101
    dsimp only
    rw [size_V hd hW hk]
    simp only [Option.bind_some, z0_z]
    rw [if_pos (show J (si (a_cs A) k) ≤ J (si (a_cs A) k) from (J_le (by omega) (by omega)).mpr (Nat.le_refl _))]
theorem dig59 {d : DKT} {A : AT} {n : Nat} (hd : DR d A) (hW : WF A n) : lp (B_L_digest_59 d) FU (dg2 A 5, 0) = some (dgv A) := by
  have hl := WF_len hW
  have ha : F_X8_about d 0 = some (0, J (a_cs A).length) := about_V (q := 0) hd hW (by omega)
  refine lp_run (fun k => (dg3 A k, J k)) (a_cs A).length (fun self k hk => ?_) (fun self => ?_) (by unfold FU; omega)
  · unfold B_L_digest_59
    dsimp only
    rw [ha]
    simp only [Option.bind_some, z0_z]
    rw [if_neg (show ¬ J (a_cs A).length ≤ J k from fun w => by have := (J_le (by omega) (by omega)).mp w; omega), container_V hd hW hk]
    simp only [Option.bind_some, z0_z]
    rw [cap_V hd hW hk]
    simp only [Option.bind_some, z0_z]
    rw [dig101 hd hW hk]
    dsimp only
    rw [J_s]
    rfl
  · unfold B_L_digest_59
    dsimp only
    rw [ha]
    simp only [Option.bind_some, z0_z]
    rw [if_pos (show J (a_cs A).length ≤ J (a_cs A).length from (J_le (by omega) (by omega)).mpr (Nat.le_refl _))]
    rfl
theorem digest_V {d : DKT} {A : AT} {n : Nat} (hd : DR d A) (hW : WF A n) : F_L_digest d = some (dgv A) := by
  unfold F_L_digest
  refine lp_run (fun q => (dg1 A q, J q)) 10 (fun self q hq => ?_) (fun self => ?_) (by unfold FU; omega)
  · unfold B_L_digest_6
    dsimp only
    rw [if_neg (show ¬ 10 ≤ J q from fun w => by have := (J_le (a := 10) (by omega) (by omega)).mp w; omega), about_V hd hW hq]
    simp only [Option.bind_some, z0_z]
    rw [J_s]
    rfl
  · unfold B_L_digest_6 K_L_digest_31
    dsimp only
    rw [if_pos (show (10 : Int32) ≤ J 10 by decide)]
    refine lp_run (fun i => (dg2 A i, J i)) 5 (fun self i hi => ?_) (fun self => ?_) (by unfold FU; omega)
    · unfold B_L_digest_33
      dsimp only
      rw [if_neg (show ¬ 5 ≤ J i from fun w => by have := (J_le (a := 5) (by omega) (by omega)).mp w; omega), setting_V hd hi]
      simp only [Option.bind_some, z0_z]
      rw [J_s]
      rfl
    · unfold B_L_digest_33 K_L_digest_57
      dsimp only
      rw [if_pos (show (5 : Int32) ≤ J 5 by decide)]
      exact dig59 hd hW
/-! the references -/
/-- t tells which backups are there -/
def MSK (t : Nat) (A : AT) : Prop := t < 256 ∧ ∀ b, b < 8 → t.testBit b = decide (1 ≤ (a_bs A b).length)
theorem isThere_T : ∀ (t : Fin 256) (b : Fin 8), F_L_isThere (J t.1) (J b.1) = some (if t.1.testBit b.1 then 1 else 0) := by decide +kernel
noncomputable def rin (l : List (Nat × Nat)) (h : Int64) : Nat → Int64
  | 0 => h
  | i + 1 => 31 * (31 * rin l h i + Int32.toInt64 (J (rf l i).1)) + Int32.toInt64 (J (rf l i).2)
noncomputable def rfo (A : AT) : Nat → Int64
  | 0 => 5
  | b + 1 => rin (a_bs A b) (31 * rfo A b + Int32.toInt64 (J (a_bs A b).length)) (a_bs A b).length
theorem refs_V {d : DKT} {A : AT} {n t : Nat} (hd : DR d A) (hW : WF A n) (hM : MSK t A) (so : SOT) : F_L_references d so (J t) = some (rfo A 8, so) := by
  unfold F_L_references
  refine lp_run (fun b => (rfo A b, J b, so)) 8 (fun self b hb => ?_) (fun self => ?_) (by unfold FU; omega)
  · have h15 := (hW.2.1 b hb).1
    have hin : J_L_references_34 self (rfo A b, J b, so) d (J (a_bs A b).length, so) = self (rfo A (b + 1), J (b + 1), so) := by
      unfold J_L_references_34
      refine lp_run (fun i => (rin (a_bs A b) (31 * rfo A b + Int32.toInt64 (J (a_bs A b).length)) i, J i)) (a_bs A b).length (fun self2 i hi => ?_) (fun self2 => ?_) (by unfold FU; omega)
      · obtain ⟨r1, r2⟩ := ref_V hd hW hb hi
        unfold B_L_references_49
        dsimp only
        rw [if_neg (show ¬ J (a_bs A b).length ≤ J i from fun w => by have := (J_le (by omega) (by omega)).mp w; omega), r1, r2]
        simp only [Option.bind_some, z0_z]
        rw [J_s]
        rfl
      · unfold B_L_references_49
        dsimp only
        rw [if_pos (show J (a_bs A b).length ≤ J (a_bs A b).length from (J_le (by omega) (by omega)).mpr (Nat.le_refl _)), J_s]
        rfl
    have hth : F_L_isThere (J t) (J b) = some (if decide (1 ≤ (a_bs A b).length) = true then 1 else 0) := by
      rw [← hM.2 b hb]
      exact isThere_T ⟨t, hM.1⟩ ⟨b, hb⟩
    unfold B_L_references_7
    dsimp only
    generalize J_L_references_34 self (rfo A b, J b, so) d = G at hin ⊢
    generalize self (rfo A (b + 1), J (b + 1), so) = S1 at hin ⊢
    rw [if_neg (show ¬ 8 ≤ J b from fun w => by have := (J_le (a := 8) (by omega) (by omega)).mp w; omega), hth]
    by_cases c : 1 ≤ (a_bs A b).length
    · rw [decide_eq_true c, if_pos rfl, Option.bind_some, if_neg (show ¬ (1 : Int32) = 0 by decide), chunks_V hd hW so hb c, Option.bind_some]
      show z0 0 (G (J (a_bs A b).length, so)) = S1
      rw [z0_z]
      exact hin
    · rw [show (a_bs A b).length = 0 by omega, show J 0 = 0 from rfl] at hin
      rw [decide_eq_false c, if_neg Bool.false_ne_true, Option.bind_some, if_pos rfl]
      exact hin
  · unfold B_L_references_7
    dsimp only
    rw [if_pos (show (8 : Int32) ≤ J 8 by decide)]
