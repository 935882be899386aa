/-! P29, THE PURE SIDE: what the looks answer, out of the abstract state alone -/
theorem z0_z {α : Type} (x : Option α) : z0 0 x = x := if_pos rfl
theorem e41 : (-1 : Int32) = NN := rfl
noncomputable def abv (A : AT) : Nat → Int32
  | 0 => J (a_cs A).length
  | 1 => J (sm (fun b => min 1 (a_bs A b).length) 8)
  | 2 => J (st (a_cs A) (a_cs A).length)
  | 3 => J (sm (lv (a_cs A) (a_bs A) 8) (a_cs A).length)
  | 4 => J (sm (fun k => cp (un (a_cs A) k) (si (a_cs A) k)) (a_cs A).length)
  | 5 => J (cp (thn (a_se A) (a_cs A) (a_bs A)) (a_cs A).length)
  | 6 => J (sm (fun b => (a_bs A b).length) 8)
  | 7 => J (sm (fun k => sm (fun i => (ch (a_cs A) k i).length) (si (a_cs A) k)) (a_cs A).length)
  | 8 => J (a_nx A)
  | _ => a_ca A
theorem about_V {d : DKT} {A : AT} {n : Nat} (hd : DR d A) (hW : WF A n) {q : Nat} (hq : q < 10) : F_X8_about d (J q) = some (0, abv A q) := by
  obtain ⟨d1, d2, d3, d4⟩ := hd
  have hn := WF_Wn hW
  obtain ⟨w1, w2, w3, w4, w5, w6⟩ := hW
  unfold F_X8_about
  match q, hq with
  | 0, _ => rw [if_neg (by decide), if_pos (by decide)]; rw [d1.2.2.1]; rfl
  | 1, _ => rw [if_neg (by decide), if_neg (by decide), if_pos (by decide)]; rw [backups_D d2 w2]; rfl
  | 2, _ => rw [if_neg (by decide), if_neg (by decide), if_neg (by decide), if_pos (by decide)]; rw [d1.2.2.2.1]; rfl
  | 3, _ => rw [if_neg (by decide), if_neg (by decide), if_neg (by decide), if_neg (by decide), if_pos (by decide)]; rw [living_D d1 d3 hn w2]; rfl
  | 4, _ => rw [if_neg (by decide), if_neg (by decide), if_neg (by decide), if_neg (by decide), if_neg (by decide), if_pos (by decide)]; rw [unlike_D d1 hn w1]; rfl
  | 5, _ => rw [if_neg (by decide), if_neg (by decide), if_neg (by decide), if_neg (by decide), if_neg (by decide), if_neg (by decide), if_pos (by decide)]; rw [thin_D d1 d3 hn w2 w1 w3]; rfl
  | 6, _ => rw [if_neg (by decide), if_neg (by decide), if_neg (by decide), if_neg (by decide), if_neg (by decide), if_neg (by decide), if_neg (by decide), if_pos (by decide)]; rw [allRefs_D d2 w2]; rfl
  | 7, _ => rw [if_neg (by decide), if_neg (by decide), if_neg (by decide), if_neg (by decide), if_neg (by decide), if_neg (by decide), if_neg (by decide), if_neg (by decide), if_pos (by decide)]; rw [allLetters_D d1 hn w1]; rfl
  | 8, _ => rw [if_neg (by decide), if_neg (by decide), if_neg (by decide), if_neg (by decide), if_neg (by decide), if_neg (by decide), if_neg (by decide), if_neg (by decide), if_neg (by decide), if_pos (by decide)]; rw [d1.2.1]; rfl
  | 9, _ => rw [if_neg (by decide), if_neg (by decide), if_neg (by decide), if_neg (by decide), if_neg (by decide), if_neg (by decide), if_neg (by decide), if_neg (by decide), if_neg (by decide), if_neg (by decide)]; rw [d4]; rfl
  | q + 10, h => exact absurd h (by omega)
theorem setting_V {d : DKT} {A : AT} (hd : DR d A) {i : Nat} (hi : i < 5) : F_X8_setting d (J i) = some (0, J (a_se A i)) := by
  unfold F_X8_setting
  rw [if_neg (J_neg (by omega)), if_pos (show J i < 5 from (J_lt (b := 5) (by omega) (by omega)).mpr hi), settingAt_D hd.1 hi]
  rfl
theorem container_V {d : DKT} {A : AT} {n : Nat} (hd : DR d A) (hW : WF A n) {k : Nat} (hk : k < (a_cs A).length) : F_X8_container d (J k) = some (0, J (nu (a_cs A) k)) := by
  have hl := WF_len hW
  unfold F_X8_container
  rw [if_pos (show 0 ≤ J k from (J_le (a := 0) (by omega) (by omega)).mpr (by omega)), numberAt_D hd.1 (WF_Wn hW) hk]
  rfl
theorem place_V {d : DKT} {A : AT} {n : Nat} (hd : DR d A) (hW : WF A n) {k : Nat} (hk : k < (a_cs A).length) : F_X1_placeOfNumber d (J (nu (a_cs A) k)) = some (J k) := by
  have h1 := Wc_nu hW.1 hk
  rw [placeOfNumber_D hd.1 (WF_Wn hW), show fi (fun j => decide (J (nu (a_cs A) j) = J (nu (a_cs A) k))) (a_cs A).length = k from fi_eq (by omega) (fun j hj => decide_eq_false fun q => by
    have h2 := Wc_nu hW.1 (k := j) (by omega)
    have := Wc_inj hW.1 (by omega) hk ((J_eq (by omega) (by omega)).mp q)
    omega) (fun _ => decide_eq_true rfl)]
  unfold RJ
  rw [if_pos hk]
theorem cap_V {d : DKT} {A : AT} {n : Nat} (hd : DR d A) (hW : WF A n) {k : Nat} (hk : k < (a_cs A).length) : F_X8_containerOf d (J (nu (a_cs A) k)) 0 = some (0, J (ca (a_cs A) k)) := by
  have hl := WF_len hW
  unfold F_X8_containerOf
  rw [place_V hd hW hk]
  simp only [Option.bind_some]
  rw [if_neg (show ¬ J k = -1 by rw [e41, J_neN (by omega)]; exact id), if_neg (by decide), if_pos (by decide), capacityAt_D hd.1 (WF_Wn hW) hk]
  rfl
theorem size_V {d : DKT} {A : AT} {n : Nat} (hd : DR d A) (hW : WF A n) {k : Nat} (hk : k < (a_cs A).length) : F_X8_containerOf d (J (nu (a_cs A) k)) 1 = some (0, J (si (a_cs A) k)) := by
  have hl := WF_len hW
  unfold F_X8_containerOf
  rw [place_V hd hW hk]
  simp only [Option.bind_some]
  rw [if_neg (show ¬ J k = -1 by rw [e41, J_neN (by omega)]; exact id), if_neg (by decide), if_neg (by decide), if_pos (by decide), sizeAt_D hd.1 (WF_Wn hW) hk]
  rfl
theorem si_192 {A : AT} {n : Nat} (hW : WF A n) {k : Nat} (hk : k < (a_cs A).length) : st (a_cs A) k + si (a_cs A) k ≤ 192 := by
  have h1 := st_in (a_cs A) hk
  have h2 := hW.2.2.2.2.1
  omega
theorem entry1_V {d : DKT} {A : AT} {n : Nat} (hd : DR d A) (hW : WF A n) {k e : Nat} (hk : k < (a_cs A).length) (he : e < si (a_cs A) k) : F_X8_entry d (J (nu (a_cs A) k)) (J e) 1 = some (0, J (sc (ch (a_cs A) k e))) := by
  have hl := WF_len hW
  have h9 := si_192 hW hk
  have hn := WF_Wn hW
  have hin := st_in (a_cs A) hk
  unfold F_X8_entry
  rw [place_V hd hW hk]
  simp only [Option.bind_some]
  rw [if_neg (show ¬ J k = -1 by rw [e41, J_neN (by omega)]; exact id), if_neg (J_neg (by omega)), sizeAt_D hd.1 hn hk]
  simp only [Option.bind_some]
  rw [if_pos (show J e < J (si (a_cs A) k) from (J_lt (by omega) (by omega)).mpr he), firstEntryAt_D hd.1 hn (by omega)]
  simp only [Option.bind_some]
  rw [if_neg (by decide), if_neg (by decide), if_pos (by decide), J_add, codeOf_D hd.1 hn (by omega), cf_at hk he]
  simp only [Option.bind_some]
  rw [sum_J ((hW.1.2.1 k hk).2.2.2.2.2 e he)]
  rfl
theorem entry2_V {d : DKT} {A : AT} {n : Nat} (hd : DR d A) (hW : WF A n) {k e : Nat} (hk : k < (a_cs A).length) (he : e < si (a_cs A) k) : F_X8_entry d (J (nu (a_cs A) k)) (J e) 2 = some (0, J (cnt (a_bs A) 8 (nu (a_cs A) k, e))) := by
  have hl := WF_len hW
  have h9 := si_192 hW hk
  have hn := WF_Wn hW
  have hin := st_in (a_cs A) hk
  unfold F_X8_entry
  rw [place_V hd hW hk]
  simp only [Option.bind_some]
  rw [if_neg (show ¬ J k = -1 by rw [e41, J_neN (by omega)]; exact id), if_neg (J_neg (by omega)), sizeAt_D hd.1 hn hk]
  simp only [Option.bind_some]
  rw [if_pos (show J e < J (si (a_cs A) k) from (J_lt (by omega) (by omega)).mpr he), firstEntryAt_D hd.1 hn (by omega)]
  simp only [Option.bind_some]
  rw [if_neg (by decide), if_neg (by decide), if_neg (by decide), if_pos (by decide), J_add, usesOf_D hd.1 hd.2.2.1 hn hk he]
  rfl
theorem has_V {d : DKT} {A : AT} {n : Nat} (hd : DR d A) (hW : WF A n) {b : Nat} (h8 : b < 8) (h1 : 1 ≤ (a_bs A b).length) : F_X1_hasBackup d (J b) = some (J 1) := by
  rw [hasBackup_D hd.2.1 hW.2.1 h8, show min 1 (a_bs A b).length = 1 by omega]
theorem chunks_V {d : DKT} {A : AT} {n : Nat} (hd : DR d A) (hW : WF A n) (so : SOT) {b : Nat} (h8 : b < 8) (h1 : 1 ≤ (a_bs A b).length) : F_X8_backupOf d so (J b) 0 = some (0, J (a_bs A b).length, so) := by
  unfold F_X8_backupOf
  rw [has_V hd hW h8 h1]
  simp only [Option.bind_some]
  rw [if_neg (show ¬ J 1 = 0 by decide), if_neg (by decide), if_pos (by decide), chunksOf_D hd.2.1 hW.2.1 h8]
  rfl
theorem loads_V {d : DKT} {A : AT} {n : Nat} (hd : DR d A) (hW : WF A n) (so : SOT) {b : Nat} (h8 : b < 8) (h1 : 1 ≤ (a_bs A b).length) : ∃ so', F_X8_backupOf d so (J b) 3 = some (0, J (ur (a_se A 4) (fun i => (rf (a_bs A b) i).1) (a_bs A b).length).2.2, so') := by
  obtain ⟨so', l1, -⟩ := loads_D (s := so) hd.1 hd.2.1 (WF_Wn hW) hW.1 hW.2.1 hW.2.2.1 h8
  refine ⟨so', ?_⟩
  unfold F_X8_backupOf
  rw [has_V hd hW h8 h1]
  simp only [Option.bind_some]
  rw [if_neg (show ¬ J 1 = 0 by decide), if_neg (by decide), if_neg (by decide), if_neg (by decide), if_neg (by decide), if_pos (by decide), l1, (ur_bk hW.1 hW.2.1 h8 (a_se A 4)).1]
  rfl
theorem ref_V {d : DKT} {A : AT} {n : Nat} (hd : DR d A) (hW : WF A n) {b i : Nat} (h8 : b < 8) (hi : i < (a_bs A b).length) : F_X8_reference d (J b) (J i) 0 = some (0, J (rf (a_bs A b) i).1) ∧ F_X8_reference d (J b) (J i) 1 = some (0, J (rf (a_bs A b) i).2) := by
  have hl := WF_len hW
  have hn := WF_Wn hW
  have h15 := (hW.2.1 b h8).1
  have hRV := (hW.2.1 b h8).2 i hi
  obtain ⟨p1, p2, p3⟩ := pl_RV hW.1 hRV
  have hex := (ex_in hW.1 hRV).1
  have h9 := hW.2.2.2.2.1
  have hne : ¬ J (ex (a_cs A) (rf (a_bs A b) i)) = -1 := by rw [e41, J_neN (by omega)]; exact id
  constructor
  · unfold F_X8_reference
    rw [has_V hd hW h8 (by omega), entryReferred_D hd.2.1 hW.2.1 h8 hi]
    simp only [Option.bind_some]
    rw [if_neg (show ¬ J 1 = 0 by decide), if_neg (J_neg (by omega)), if_neg (by decide), if_pos (by decide), if_neg hne, placeRef_D hd.1 hn hW.1 hRV]
    simp only [Option.bind_some]
    rw [if_pos (by decide), numberAt_D hd.1 hn p1, p2]
    rfl
  · unfold F_X8_reference
    rw [has_V hd hW h8 (by omega), entryReferred_D hd.2.1 hW.2.1 h8 hi]
    simp only [Option.bind_some]
    rw [if_neg (show ¬ J 1 = 0 by decide), if_neg (J_neg (by omega)), if_neg (by decide), if_pos (by decide), if_neg hne, placeRef_D hd.1 hn hW.1 hRV]
    simp only [Option.bind_some]
    rw [if_neg (by decide), firstEntryAt_D hd.1 hn (by omega)]
    simp only [Option.bind_some]
    unfold ex
    rw [J_sub (by omega), show st (a_cs A) (pl (a_cs A) (rf (a_bs A b) i).1) + (rf (a_bs A b) i).2 - st (a_cs A) (pl (a_cs A) (rf (a_bs A b) i).1) = (rf (a_bs A b) i).2 by omega]
