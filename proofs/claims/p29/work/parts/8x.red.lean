/-! THE PURE SIDE: references redirected -/
theorem hasE_D {d : DKT} {n e : Nat} (h : dk_entries d = J n) (hn : n ≤ 192) (he : e < n) : F_X1_hasEntry d (J e) = some 1 := by
  unfold F_X1_hasEntry
  rw [if_neg (show ¬ J e < 0 from J_neg (by omega)), if_neg (show ¬ dk_entries d ≤ J e by rw [h, J_le (by omega) (by omega)]; omega)]
theorem rf_map {ρ : Nat × Nat → Nat × Nat} {l : List (Nat × Nat)} {i : Nat} (h : i < l.length) : rf (l.map ρ) i = ρ (rf l i) := by
  unfold rf
  rw [List.getElem?_map, List.getElem?_eq_getElem h]
  rfl
theorem take_rf {l : List (Nat × Nat)} {i : Nat} (h : i < l.length) : l.take (i + 1) = l.take i ++ [rf l i] := by
  rw [List.take_succ, rf_at h]
  rfl
/-- the first b backups redirected -/
def rdb (ρ : Nat × Nat → Nat × Nat) (bs : Nat → List (Nat × Nat)) (b : Nat) (j : Nat) : List (Nat × Nat) := if j < b then (bs j).map ρ else []
theorem rdb_step (ρ : Nat × Nat → Nat × Nat) (bs : Nat → List (Nat × Nat)) (b : Nat) : bad (rdb ρ bs b) b (((bs b).map ρ).take (bs b).length) = rdb ρ bs (b + 1) := by
  funext j
  unfold bad rdb
  by_cases q : j = b
  · rw [if_pos q, if_pos (by omega), q, List.take_of_length_le (by rw [List.length_map]; exact Nat.le_refl _)]
  · rw [if_neg q]
    by_cases z : j < b
    · rw [if_pos z, if_pos (by omega)]
    · rw [if_neg z, if_neg (by omega)]
theorem rdb_bad0 (ρ : Nat × Nat → Nat × Nat) (bs : Nat → List (Nat × Nat)) (b : Nat) : bad (rdb ρ bs b) b (((bs b).map ρ).take 0) = rdb ρ bs b := by
  funext j
  unfold bad rdb
  by_cases q : j = b
  · rw [if_pos q, if_neg (by omega)]
    rfl
  · rw [if_neg q]
/-- what stands in the arrays when b backups and i references of the next are done -/
def RDi (ρ : Nat × Nat → Nat × Nat) (cs cs' : List Ct) (bs : Nat → List (Nat × Nat)) (b i : Nat) (us rs : Nat → Int32) : Prop := (∀ e, e < st cs' cs'.length → us e = J (cnt (bad (rdb ρ bs b) b (((bs b).map ρ).take i)) 8 (pr cs' e))) ∧ (∀ j, j < 8 → ∀ x, x < (bs j).length → rs (j * 15 + x) = if j < b ∨ (j = b ∧ x < i) then J (ex cs' (ρ (rf (bs j) x))) else J (ex cs (rf (bs j) x)))
theorem redirect_D {d : DKT} {go : Nat → Int32} {ρ : Nat × Nat → Nat × Nat} {se : Nat → Nat} {nx nx' : Nat} {cs cs' : List Ct} {bs : Nat → List (Nat × Nat)} (hd : RDc d se nx' cs') (hW : Wc cs nx) (hW' : Wc cs' nx') (hn : st cs cs.length ≤ 192) (hn' : st cs' cs'.length ≤ 192) (hb : Wb cs bs) (hl : ∀ b, b < 8 → dk_lengths d b = J (bs b).length) (hr : ∀ b, b < 8 → ∀ i, i < (bs b).length → dk_references d (b * 15 + i) = J (ex cs (rf (bs b) i))) (hg : ∀ b, b < 8 → ∀ i, i < (bs b).length → go (ex cs (rf (bs b) i)) = J (ex cs' (ρ (rf (bs b) i))) ∧ RV cs' (ρ (rf (bs b) i))) : ∃ d', F_X1_redirect d 192 go = some d' ∧ RDc d' se nx' cs' ∧ RDb d' cs' (fun b => (bs b).map ρ) ∧ RDu d' cs' (rdb ρ bs 8) ∧ dk_carried d' = dk_carried d := by
  have inner : ∀ (x b i fuel : Nat) (us rs : Nat → Int32) (s25 : Int32 × (Nat → Int32) × (Nat → Int32)) (self : (Int32 × (Nat → Int32) × (Nat → Int32)) → Option DKT), s25.1 = J b → b < 8 → i + x = (bs b).length → RDi ρ cs cs' bs b i us rs → x < fuel → ∃ us' rs', lp (B_X1_redirect_33 s25 d self 192 go) fuel (J i, us, rs) = self (J (b + 1), us', rs') ∧ RDi ρ cs cs' bs b (bs b).length us' rs' := by
    intro x
    induction x with
    | zero =>
      intro b i fuel us rs s25 self hs hb8 hi hI hf
      obtain ⟨fuel, rfl⟩ : ∃ q, fuel = q + 1 := ⟨fuel - 1, by omega⟩
      obtain rfl : i = (bs b).length := by omega
      have h15 := (hb b hb8).1
      refine ⟨us, rs, ?_, hI⟩
      show B_X1_redirect_33 _ _ _ _ _ _ _ = _
      unfold B_X1_redirect_33
      dsimp only
      rw [hs, gd_J (by omega) (by omega), J_nat (by omega), hl b hb8, if_pos ((J_le (by omega) (by omega)).mpr (Nat.le_refl _)), show J b + 1 = J (b + 1) from J_add _ 1]
    | succ x ih =>
      intro b i fuel us rs s25 self hs hb8 hi hI hf
      obtain ⟨fuel, rfl⟩ : ∃ q, fuel = q + 1 := ⟨fuel - 1, by omega⟩
      have h15 := (hb b hb8).1
      have hi2 : i < (bs b).length := by omega
      obtain ⟨g1, g2⟩ := hg b hb8 i hi2
      obtain ⟨e1, e2, e3, e4⟩ := ex_in hW ((hb b hb8).2 i hi2)
      obtain ⟨f1, f2, f3, f4⟩ := ex_in hW' g2
      have ihx := fun us rs => ih b (i + 1) fuel us rs s25 self hs hb8 (by omega)
      clear ih
      show ∃ us' rs', B_X1_redirect_33 _ _ _ _ _ (lp _ fuel) _ = _ ∧ _
      generalize lp (B_X1_redirect_33 s25 d self 192 go) fuel = slf at ihx ⊢
      obtain ⟨i1, i2⟩ := hI
      have hrs : rs (b * 15 + i) = J (ex cs (rf (bs b) i)) := by
        rw [i2 b hb8 i hi2, if_neg (by omega)]
      have hus : us (ex cs' (ρ (rf (bs b) i))) = J (cnt (bad (rdb ρ bs b) b (((bs b).map ρ).take i)) 8 (ρ (rf (bs b) i))) := by
        rw [i1 _ f1, pr_ex hW' g2]
      have hI2 : RDi ρ cs cs' bs b (i + 1) (upd us (ex cs' (ρ (rf (bs b) i))) (J (cnt (bad (rdb ρ bs b) b (((bs b).map ρ).take i)) 8 (ρ (rf (bs b) i)) + 1))) (upd rs (b * 15 + i) (J (ex cs' (ρ (rf (bs b) i))))) := by
        refine ⟨fun e he => ?_, fun j hj y hy => ?_⟩
        · rw [take_rf (by rw [List.length_map]; exact hi2), rf_map hi2, cnt_snoc hb8]
          by_cases q : e = ex cs' (ρ (rf (bs b) i))
          · rw [q, upd_self, pr_ex hW' g2, if_pos rfl]
          · rw [upd_ne _ _ q, if_neg fun z => q (by rw [z, ex_pr hW' he])]
            exact i1 e he
        · have h15' := (hb j hj).1
          by_cases q : j = b ∧ y = i
          · rw [q.1, q.2, upd_self, if_pos (by omega)]
          · rw [upd_ne _ _ (by omega), i2 j hj y hy]
            by_cases z : j < b ∨ (j = b ∧ y < i)
            · rw [if_pos z, if_pos (by omega)]
            · rw [if_neg z, if_neg (by omega)]
      obtain ⟨us', rs', y1, y2⟩ := ihx _ _ hI2 (by omega)
      refine ⟨us', rs', ?_, y2⟩
      have hmul : J b * 15 + J i = J (b * 15 + i) := by
        rw [show J b * 15 = J (b * 15) from J_mul _ 15, J_add]
      unfold B_X1_redirect_33
      dsimp only
      rw [hs, gd_J (by omega) (by omega), J_nat (by omega), hl b hb8, if_neg (show ¬ J (bs b).length ≤ J i by rw [J_le (by omega) (by omega)]; omega), hmul, gd_J (by omega) (by omega), J_nat (by omega)]
      simp only [hrs]
      rw [if_neg (show ¬ J (ex cs (rf (bs b) i)) < 0 from J_neg (by omega)), if_pos (show J (ex cs (rf (bs b) i)) < Int32.ofNat 192 from (J_lt (b := 192) (by omega) (by omega)).mpr (by omega)), gd_J (by omega) (by omega), gd_J (by omega) (by omega), J_nat (by omega), g1]
      rw [hasE_D (d := ((dk_settings d), (dk_numbers d), (dk_capacities d), (dk_firsts d), (dk_containers d), (dk_codes d), (dk_places d), us, (dk_entries d), (upd rs (b * 15 + i) (J (ex cs' (ρ (rf (bs b) i))))), (dk_lengths d), (dk_nextNumber d), (dk_carried d))) (n := st cs' cs'.length) hd.2.2.2.1 hn' f1]
      simp only [Option.bind_some]
      rw [if_neg (show ¬ (1 : Int32) = 0 by decide), gd_J (by omega) (by omega), gd_J (by omega) (by omega), J_nat (by omega), hus, show J i + 1 = J (i + 1) from J_add _ 1, show J (cnt (bad (rdb ρ bs b) b (((bs b).map ρ).take i)) 8 (ρ (rf (bs b) i))) + 1 = J (cnt (bad (rdb ρ bs b) b (((bs b).map ρ).take i)) 8 (ρ (rf (bs b) i)) + 1) from J_add _ 1]
      exact y1
  have outer : ∀ (x b fuel : Nat) (us rs : Nat → Int32), b + x = 8 → RDi ρ cs cs' bs b 0 us rs → x < fuel → ∃ us' rs', lp (B_X1_redirect_25 d 192 go) fuel (J b, us, rs) = some ((dk_settings d), (dk_numbers d), (dk_capacities d), (dk_firsts d), (dk_containers d), (dk_codes d), (dk_places d), us', (dk_entries d), rs', (dk_lengths d), (dk_nextNumber d), (dk_carried d)) ∧ RDi ρ cs cs' bs 8 0 us' rs' := by
    intro x
    induction x with
    | zero =>
      intro b fuel us rs hbx hI hf
      obtain ⟨fuel, rfl⟩ : ∃ q, fuel = q + 1 := ⟨fuel - 1, by omega⟩
      obtain rfl : b = 8 := by omega
      exact ⟨us, rs, rfl, hI⟩
    | succ x ih =>
      intro b fuel us rs hbx hI hf
      obtain ⟨fuel, rfl⟩ : ∃ q, fuel = q + 1 := ⟨fuel - 1, by omega⟩
      have ihx := fun us rs => ih (b + 1) fuel us rs (by omega)
      clear ih
      show ∃ us' rs', B_X1_redirect_25 _ _ _ (lp _ fuel) _ = _ ∧ _
      generalize lp (B_X1_redirect_25 d 192 go) fuel = self at ihx ⊢
      obtain ⟨us1, rs1, y1, y2⟩ := inner (bs b).length b 0 FU us rs (J b, us, rs) self rfl (by omega) (by omega) hI (by have := (hb b (by omega)).1; unfold FU; omega)
      have hI2 : RDi ρ cs cs' bs (b + 1) 0 us1 rs1 := by
        obtain ⟨i1, i2⟩ := y2
        rw [rdb_step] at i1
        refine ⟨fun e he => by rw [rdb_bad0]; exact i1 e he, fun j hj y hy => ?_⟩
        rw [i2 j hj y hy]
        by_cases q : j = b
        · rw [if_pos (Or.inr ⟨q, by rw [← q]; exact hy⟩), if_pos (Or.inl (by omega))]
        · by_cases z : j < b
          · rw [if_pos (Or.inl z), if_pos (Or.inl (by omega))]
          · rw [if_neg (by omega), if_neg (by omega)]
      obtain ⟨us2, rs2, z1, z2⟩ := ihx us1 rs1 hI2 (by omega)
      refine ⟨us2, rs2, ?_, z2⟩
      unfold B_X1_redirect_25
      dsimp only
      rw [if_neg (show ¬ 8 ≤ J b from fun z => by have := (J_le (a := 8) (by omega) (by omega)).mp z; omega)]
      exact y1.trans z1
  have hz : ∃ us0, F_X1_redirect d 192 go = lp (B_X1_redirect_25 d 192 go) FU (0, us0, dk_references d) ∧ ∀ e, e < st cs' cs'.length → us0 e = J 0 := by
    refine ⟨fun e => if e < st cs' cs'.length then J 0 else dk_uses d e, ?_, fun e he => if_pos he⟩
    have e0 : ((0 : Int32), dk_uses d) = (fun i => (J i, fun e => if e < i then J 0 else dk_uses d e)) 0 := by
      show _ = (J 0, fun e => if e < 0 then J 0 else dk_uses d e)
      rw [show (fun e => if e < 0 then J 0 else dk_uses d e) = dk_uses d from funext fun k => if_neg (by omega)]
      rfl
    unfold F_X1_redirect
    rw [e0]
    refine lp_run (fun i => (J i, fun e => if e < i then J 0 else dk_uses d e)) (st cs' cs'.length) (fun self i hi => ?_) (fun self => ?_) (by unfold FU; omega)
    · unfold B_X1_redirect_2
      dsimp only
      rw [if_neg (show ¬ dk_entries d ≤ J i by rw [hd.2.2.2.1, J_le (by omega) (by omega)]; omega), gd_J (by omega) (by omega), J_nat (by omega), show J i + 1 = J (i + 1) from J_add _ 1]
      congr 2
      funext k
      by_cases q : k = i
      · rw [q, upd_self, if_pos (show i < i + 1 by omega)]
        rfl
      · rw [upd_ne _ _ q]
        by_cases z : k < i
        · rw [if_pos z, if_pos (show k < i + 1 by omega)]
        · rw [if_neg z, if_neg (show ¬ k < i + 1 by omega)]
    · unfold B_X1_redirect_2
      dsimp only
      rw [if_pos (show dk_entries d ≤ J (st cs' cs'.length) by rw [hd.2.2.2.1]; exact (J_le (by omega) (by omega)).mpr (Nat.le_refl _))]
      rfl
  obtain ⟨us0, q1, q2⟩ := hz
  have hI0 : RDi ρ cs cs' bs 0 0 us0 (dk_references d) := by
    refine ⟨fun e he => ?_, fun j hj y hy => ?_⟩
    · rw [rdb_bad0, q2 e he, cnt_none fun b i hb8 hi => absurd hi (by unfold rdb; rw [if_neg (by omega)]; exact Nat.not_lt_zero _)]
    · rw [if_neg (by omega)]
      exact hr j hj y hy
  obtain ⟨us', rs', y1, y2, y3⟩ := outer 8 0 FU us0 (dk_references d) rfl hI0 (by unfold FU; omega)
  rw [rdb_bad0] at y2
  refine ⟨_, q1.trans y1, ⟨hd.1, hd.2.1, hd.2.2.1, hd.2.2.2.1, hd.2.2.2.2.1, hd.2.2.2.2.2⟩, fun b hb8 => ⟨?_, fun i hi => ?_⟩, fun k hk i hi => ?_, rfl⟩
  · show dk_lengths d b = J ((bs b).map ρ).length
    rw [List.length_map]
    exact hl b hb8
  · have hi' : i < ((bs b).map ρ).length := hi
    rw [List.length_map] at hi'
    show rs' (b * 15 + i) = J (ex cs' (rf ((bs b).map ρ) i))
    rw [rf_map hi', y3 b hb8 i hi', if_pos (Or.inl hb8)]
  · show us' (st cs' k + i) = _
    have := st_in cs' hk
    rw [y2 _ (by omega), pr_at hk hi]
