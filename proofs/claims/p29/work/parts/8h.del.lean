/-! THE PURE SIDE: delete, ifDeleted -/
theorem cp_one {p q : Nat → Bool} {e : Nat} : ∀ {n : Nat}, e < n → (∀ i, i < n → i ≠ e → p i = q i) → cp q n + (if p e then 1 else 0) = cp p n + (if q e then 1 else 0) := by
  intro n
  induction n with
  | zero => intro h; exact absurd h (Nat.not_lt_zero _)
  | succ n ih =>
    intro h he
    rw [cp_step, cp_step]
    by_cases z : n = e
    · subst z
      rw [cp_ext (p := p) (q := q) fun i hi => he i (by omega) (by omega)]
      omega
    · have := ih (by omega) fun i hi hne => he i (by omega) hne
      rw [he n (by omega) z]
      omega
theorem sm_out {f : Nat → Nat} {b : Nat} : ∀ {n : Nat}, b < n → sm f n = sm (fun j => if j = b then 0 else f j) n + f b := by
  intro n
  induction n with
  | zero => intro h; exact absurd h (Nat.not_lt_zero _)
  | succ n ih =>
    intro h
    rw [sm_step, sm_step]
    by_cases z : n = b
    · subst z
      rw [if_pos rfl, sm_ext (p := f) (q := fun j => if j = n then 0 else f j) fun i hi => by rw [if_neg (by omega)]]
      omega
    · have := ih (by omega)
      rw [if_neg z]
      omega
theorem cnt_out (bs : Nat → List (Nat × Nat)) {b : Nat} (h : b < 8) (r : Nat × Nat) : cnt bs 8 r = cnt bs b r + (bs b).count r := by
  unfold cnt
  rw [sm_out (f := fun j => if j = 8 then 0 else (bs j).count r) h, if_neg (show ¬ b = 8 by omega)]
  have e : sm (fun j => if j = b then 0 else if j = 8 then 0 else (bs j).count r) 8 = sm (fun j => if j = b then 0 else (bs j).count r) 8 := by
    refine sm_ext fun i hi => ?_
    by_cases z : i = b
    · rw [if_pos z, if_pos z]
    · rw [if_neg z, if_neg z, if_neg (show ¬ i = 8 by omega)]
  rw [e]
/-- a backup deleted -/
def bdel (bs : Nat → List (Nat × Nat)) (b : Nat) : Nat → List (Nat × Nat) := fun j => if j = b then [] else bs j
theorem cnt_bdel (bs : Nat → List (Nat × Nat)) {b : Nat} (h : b < 8) (r : Nat × Nat) : cnt (bdel bs b) 8 r = cnt bs b r := by
  unfold cnt bdel
  refine sm_ext fun i hi => ?_
  rw [if_neg (by omega)]
  by_cases z : i = b
  · rw [if_pos z, if_pos z]; rfl
  · rw [if_neg z, if_neg z]
theorem lv_bdel (cs : List Ct) (bs : Nat → List (Nat × Nat)) {b : Nat} (h : b < 8) (k : Nat) : lv cs (bdel bs b) 8 k = lv cs bs b k := by
  unfold lv
  refine cp_ext fun i hi => ?_
  rw [cnt_bdel bs h]
/-- the reference to an entry -/
def pr (cs : List Ct) (e : Nat) : Nat × Nat := (nu cs (kpl cs e), e - st cs (kpl cs e))
theorem pr_at {cs : List Ct} {k i : Nat} (hk : k < cs.length) (hi : i < si cs k) : pr cs (st cs k + i) = (nu cs k, i) := by
  unfold pr
  rw [kpl_at hk hi, Nat.add_sub_cancel_left]
theorem ex_pr {cs : List Ct} {nx e : Nat} (hW : Wc cs nx) (h : e < st cs cs.length) : ex cs (pr cs e) = e := by
  obtain ⟨h1, h2, h3⟩ := kpl_lt h
  unfold ex pr
  rw [pl_at hW h1]
  omega
theorem pr_ex {cs : List Ct} {nx : Nat} {r : Nat × Nat} (hW : Wc cs nx) (h : RV cs r) : pr cs (ex cs r) = r := by
  obtain ⟨h1, h2, h3⟩ := pl_RV hW h
  unfold ex
  rw [pr_at h1 h3, h2]
theorem ex_inj {cs : List Ct} {nx : Nat} {r r2 : Nat × Nat} (hW : Wc cs nx) (h : RV cs r) (h2 : RV cs r2) : ex cs r = ex cs r2 ↔ r = r2 := by
  constructor
  · intro q
    have := congrArg (pr cs) q
    rw [pr_ex hW h, pr_ex hW h2] at this
    exact this
  · intro q; rw [q]
theorem lv_flat (cs : List Ct) (bs : Nat → List (Nat × Nat)) (u : Nat) : sm (lv cs bs u) cs.length = cp (fun e => decide (0 < cnt bs u (pr cs e))) (st cs cs.length) := by
  rw [cp_flat]
  refine sm_ext fun k hk => cp_ext fun i hi => ?_
  rw [pr_at hk hi]
theorem uses_flat {d : DKT} {cs : List Ct} {bs : Nat → List (Nat × Nat)} (hu : RDu d cs bs) {e : Nat} (h : e < st cs cs.length) : dk_uses d e = J (cnt bs 8 (pr cs e)) := by
  obtain ⟨h1, h2, h3⟩ := kpl_lt h
  have := hu _ h1 _ h3
  rw [show st cs (kpl cs e) + (e - st cs (kpl cs e)) = e by omega] at this
  exact this
theorem flat_uses {d : DKT} {cs : List Ct} {bs : Nat → List (Nat × Nat)} (h : ∀ e, e < st cs cs.length → dk_uses d e = J (cnt bs 8 (pr cs e))) : RDu d cs bs := by
  intro k hk i hi
  have h2 := st_in cs hk
  have := h (st cs k + i) (by omega)
  rw [pr_at hk hi] at this
  exact this
theorem tk_count_le (l : List (Nat × Nat)) (i : Nat) (r : Nat × Nat) : (l.take i).count r ≤ l.count r := (List.take_sublist i l).count_le r
/-- what is left of the references when i of them are taken back -/
def ul (cs : List Ct) (bs : Nat → List (Nat × Nat)) (b i e : Nat) : Nat := cnt bs 8 (pr cs e) - ((bs b).take i).count (pr cs e)
/-- how many entries died by then -/
def dy (cs : List Ct) (bs : Nat → List (Nat × Nat)) (b : Nat) : Nat → Nat
  | 0 => 0
  | i + 1 => dy cs bs b i + (if ul cs bs b (i + 1) (ex cs (rf (bs b) i)) = 0 then 1 else 0)
theorem ul_step {cs : List Ct} {nx : Nat} {bs : Nat → List (Nat × Nat)} (hW : Wc cs nx) (hb : Wb cs bs) {b i : Nat} (h8 : b < 8) (hi : i < (bs b).length) : (∀ e, e < st cs cs.length → e ≠ ex cs (rf (bs b) i) → ul cs bs b (i + 1) e = ul cs bs b i e) ∧ ul cs bs b i (ex cs (rf (bs b) i)) = ul cs bs b (i + 1) (ex cs (rf (bs b) i)) + 1 := by
  have hr := (hb b h8).2 i hi
  constructor
  · intro e he hne
    unfold ul
    rw [count_take hi, if_neg]
    · rfl
    · intro q
      apply hne
      rw [q, ex_pr hW he]
  · unfold ul
    rw [pr_ex hW hr, count_take hi, if_pos rfl]
    have h1 := cnt_out bs h8 (rf (bs b) i)
    have h2 := tk_count_le (bs b) (i + 1) (rf (bs b) i)
    rw [count_take hi, if_pos rfl] at h2
    omega
theorem dy_sum {cs : List Ct} {nx : Nat} {bs : Nat → List (Nat × Nat)} (hW : Wc cs nx) (hb : Wb cs bs) {b : Nat} (h8 : b < 8) : ∀ i, i ≤ (bs b).length → dy cs bs b i + cp (fun e => decide (0 < ul cs bs b i e)) (st cs cs.length) = sm (lv cs bs 8) cs.length := by
  intro i
  induction i with
  | zero =>
    intro _
    rw [lv_flat]
    show 0 + _ = _
    rw [Nat.zero_add]
    refine cp_ext fun e he => ?_
    unfold ul
    rw [List.take_zero, List.count_nil, Nat.sub_zero]
  | succ i ih =>
    intro hi
    have h1 := ih (by omega)
    obtain ⟨h2, h3⟩ := ul_step hW hb h8 (show i < (bs b).length by omega)
    have hr := (hb b h8).2 i (by omega)
    have h4 := cp_one (p := fun e => decide (0 < ul cs bs b i e)) (q := fun e => decide (0 < ul cs bs b (i + 1) e)) (ex_in hW hr).1 (fun e he hne => by rw [h2 e he hne])
    show dy cs bs b i + (if ul cs bs b (i + 1) (ex cs (rf (bs b) i)) = 0 then 1 else 0) + _ = _
    rw [if_pos (show decide (0 < ul cs bs b i (ex cs (rf (bs b) i))) = true from decide_eq_true (by omega))] at h4
    by_cases q : ul cs bs b (i + 1) (ex cs (rf (bs b) i)) = 0
    · rw [if_pos q]
      rw [if_neg (show ¬ decide (0 < ul cs bs b (i + 1) (ex cs (rf (bs b) i))) = true by simp; omega)] at h4
      omega
    · rw [if_neg q]
      rw [if_pos (show decide (0 < ul cs bs b (i + 1) (ex cs (rf (bs b) i))) = true from decide_eq_true (by omega))] at h4
      omega
theorem ul_all {cs : List Ct} {bs : Nat → List (Nat × Nat)} {b : Nat} (h8 : b < 8) (e : Nat) : ul cs bs b (bs b).length e = cnt bs b (pr cs e) := by
  unfold ul
  rw [tk_all, cnt_out bs h8]
  omega
def adel (A : AT) (b : Nat) : AT := (a_se A, a_nx A, a_ca A, a_cs A, bdel (a_bs A) b)
theorem adel_WF {A : AT} {n b : Nat} (h8 : b < 8) (hW : WF A n) : WF (adel A b) n := by
  obtain ⟨w1, w2, w3, ⟨g, g1, g2, g3⟩, w5, w6⟩ := hW
  refine ⟨w1, fun j hj => ?_, w3, ⟨g, g1, g2, Nat.le_trans ?_ g3⟩, w5, w6⟩
  · show (bdel (a_bs A) b j).length ≤ 15 ∧ ∀ i, i < (bdel (a_bs A) b j).length → RV (a_cs A) (rf (bdel (a_bs A) b j) i)
    unfold bdel
    by_cases q : j = b
    · rw [if_pos q]
      exact ⟨Nat.zero_le _, fun i hi => absurd hi (Nat.not_lt_zero _)⟩
    · rw [if_neg q]
      exact w2 j hj
  · have : ∀ m, sm (wg g (a_cs A) (bdel (a_bs A) b)) m ≤ sm (wg g (a_cs A) (a_bs A)) m := by
      intro m
      induction m with
      | zero => exact Nat.le_refl _
      | succ m ih =>
        rw [sm_step, sm_step]
        have : wg g (a_cs A) (bdel (a_bs A) b) m ≤ wg g (a_cs A) (a_bs A) m := by
          unfold wg
          split
          · rw [lv_bdel _ _ h8]
            unfold lv
            have : ∀ z, cp (fun i => decide (0 < cnt (a_bs A) b (nu (a_cs A) m, i))) z ≤ cp (fun i => decide (0 < cnt (a_bs A) 8 (nu (a_cs A) m, i))) z := by
              intro z
              induction z with
              | zero => exact Nat.le_refl _
              | succ z ihz =>
                rw [cp_step, cp_step]
                have h2 := cnt_out (a_bs A) h8 (nu (a_cs A) m, z)
                by_cases q : 0 < cnt (a_bs A) b (nu (a_cs A) m, z)
                · rw [if_pos (decide_eq_true q), if_pos (decide_eq_true (by omega))]; omega
                · rw [if_neg (by simpa using q)]; omega
            exact this _
          · exact Nat.le_refl _
        omega
    exact this _
theorem rem_D {d : DKT} {A : AT} {n b : Nat} (hd : DR d A) (hW : WF A n) (h8 : b < 8) (h1 : 1 ≤ (a_bs A b).length) : ∃ d', F_X1_removeBackup d (J b) = some (J (sm (lv (a_cs A) (a_bs A) 8) (a_cs A).length - sm (lv (a_cs A) (a_bs A) b) (a_cs A).length), d') ∧ DR d' (adel A b) := by
  have hn := WF_Wn hW
  obtain ⟨d1, d2, d3, d4⟩ := hd
  obtain ⟨w1, w2, w3, w4, w5, w6⟩ := hW
  obtain ⟨v1, v2⟩ := w2 b h8
  have hc : ∀ u, F_X1_chunksOf ((dk_settings d), (dk_numbers d), (dk_capacities d), (dk_firsts d), (dk_containers d), (dk_codes d), (dk_places d), u, (dk_entries d), (dk_references d), (dk_lengths d), (dk_nextNumber d), (dk_carried d)) (J b) = some (J (a_bs A b).length) := fun u => chunksOf_D (d := ((dk_settings d), (dk_numbers d), (dk_capacities d), (dk_firsts d), (dk_containers d), (dk_codes d), (dk_places d), u, (dk_entries d), (dk_references d), (dk_lengths d), (dk_nextNumber d), (dk_carried d))) d2 w2 h8
  have he : ∀ u i, i < (a_bs A b).length → F_X1_entryReferred ((dk_settings d), (dk_numbers d), (dk_capacities d), (dk_firsts d), (dk_containers d), (dk_codes d), (dk_places d), u, (dk_entries d), (dk_references d), (dk_lengths d), (dk_nextNumber d), (dk_carried d)) (J b) (J i) = some (J (ex (a_cs A) (rf (a_bs A b) i))) := fun u i hi => entryReferred_D (d := ((dk_settings d), (dk_numbers d), (dk_capacities d), (dk_firsts d), (dk_containers d), (dk_codes d), (dk_places d), u, (dk_entries d), (dk_references d), (dk_lengths d), (dk_nextNumber d), (dk_carried d))) d2 w2 h8 hi
  have hh : ∀ u e, e < st (a_cs A) (a_cs A).length → F_X1_hasEntry ((dk_settings d), (dk_numbers d), (dk_capacities d), (dk_firsts d), (dk_containers d), (dk_codes d), (dk_places d), u, (dk_entries d), (dk_references d), (dk_lengths d), (dk_nextNumber d), (dk_carried d)) (J e) = some (J 1) := fun u e h => by
    have := hasEntry_D (d := ((dk_settings d), (dk_numbers d), (dk_capacities d), (dk_firsts d), (dk_containers d), (dk_codes d), (dk_places d), u, (dk_entries d), (dk_references d), (dk_lengths d), (dk_nextNumber d), (dk_carried d))) d1 hn (e := e) (by omega)
    rw [if_pos h] at this
    exact this
  have hb2 : ∀ u, F_X1_hasBackup ((dk_settings d), (dk_numbers d), (dk_capacities d), (dk_firsts d), (dk_containers d), (dk_codes d), (dk_places d), u, (dk_entries d), (dk_references d), (dk_lengths d), (dk_nextNumber d), (dk_carried d)) (J b) = some (J 1) := fun u => by
    have := hasBackup_D (d := ((dk_settings d), (dk_numbers d), (dk_capacities d), (dk_firsts d), (dk_containers d), (dk_codes d), (dk_places d), u, (dk_entries d), (dk_references d), (dk_lengths d), (dk_nextNumber d), (dk_carried d))) d2 w2 h8
    rw [show min 1 (a_bs A b).length = 1 by omega] at this
    exact this
  have hsum := dy_sum w1 w2 h8
  have go : ∀ (m i fuel : Nat) (u : Nat → Int32), i + m = (a_bs A b).length → (∀ e, e < st (a_cs A) (a_cs A).length → u e = J (ul (a_cs A) (a_bs A) b i e)) → m < fuel → ∃ u', lp (B_X1_removeBackup_4 d (J b) (K_X1_removeBackup_63 d (J b))) fuel (J (dy (a_cs A) (a_bs A) b i), J i, u) = some (J (dy (a_cs A) (a_bs A) b (a_bs A b).length), ((dk_settings d), (dk_numbers d), (dk_capacities d), (dk_firsts d), (dk_containers d), (dk_codes d), (dk_places d), u', (dk_entries d), (dk_references d), (upd (dk_lengths d) b (J 0)), (dk_nextNumber d), (dk_carried d))) ∧ ∀ e, e < st (a_cs A) (a_cs A).length → u' e = J (ul (a_cs A) (a_bs A) b (a_bs A b).length e) := by
    intro m
    induction m with
    | zero =>
      intro i fuel u hi hu hf
      obtain ⟨fuel, rfl⟩ : ∃ q, fuel = q + 1 := ⟨fuel - 1, by omega⟩
      obtain rfl : i = (a_bs A b).length := by omega
      refine ⟨u, ?_, hu⟩
      show B_X1_removeBackup_4 _ _ _ _ _ = _
      unfold B_X1_removeBackup_4 K_X1_removeBackup_63
      simp (disch := omega) only [hc u, hb2 u, Nat.le_refl, J_add, J_mul, J_sub, J_dec, J_nat, J_lt, J_le, J_eq, gd_J, gz_J, gb_J, J_div, J_mod, md_back, JN, J_neN, J_Nne, J_ltN, J_Nlt, J_leN, J_Nle, N_refl, J01, J_addN, J_pred, F_X9_at, F_X9_backupAt, F_X9_fails, F_X9_thrown, Option.bind_some, if_true, if_false, Nat.add_zero, Nat.zero_add, Nat.mul_zero, Nat.zero_mul, Nat.reduceAdd, Nat.reduceMul, Nat.reduceSub, Nat.reduceEqDiff, Nat.reduceLeDiff, Nat.reduceLT, Nat.reducePow, Nat.not_lt_zero, Nat.zero_le, eq_self, not_true_eq_false, not_false_eq_true, reduceIte, L_0, L_1, L_2, L_3, L_4, L_5, L_6, L_7, L_8, L_9, L_10, L_11, L_12, L_14, L_15, L_16, L_24, L_30, L_31, L_32, L_34, L_40, L_44, L_90, L_96, L_97, L_100, L_120, L_121, L_192, L_997, L_998, L_1000, L_1270, L_10000, L_17780, L_2540, L_32768, L_16510]
    | succ m ih =>
      intro i fuel u hi hu hf
      obtain ⟨fuel, rfl⟩ : ∃ q, fuel = q + 1 := ⟨fuel - 1, by omega⟩
      have hi2 : i < (a_bs A b).length := by omega
      obtain ⟨s1, s2⟩ := ul_step w1 w2 h8 hi2
      obtain ⟨x1, x2, x3, x4⟩ := ex_in w1 (v2 i hi2)
      have hcl := cnt_le w2 8 (pr (a_cs A) (ex (a_cs A) (rf (a_bs A b) i)))
      have hul : ul (a_cs A) (a_bs A) b (i + 1) (ex (a_cs A) (rf (a_bs A b) i)) ≤ 120 := by unfold ul; omega
      have hu0 := hu _ x1
      rw [s2] at hu0
      obtain ⟨u', y1, y2⟩ := ih (i + 1) fuel (upd u (ex (a_cs A) (rf (a_bs A b) i)) (J (ul (a_cs A) (a_bs A) b (i + 1) (ex (a_cs A) (rf (a_bs A b) i))))) (by omega) (fun e he2 => by
        by_cases q : e = ex (a_cs A) (rf (a_bs A b) i)
        · rw [q, upd_self]
        · rw [upd_ne _ _ q, s1 e he2 q]; exact hu e he2) (by omega)
      refine ⟨u', ?_, y2⟩
      have hdy : dy (a_cs A) (a_bs A) b (i + 1) = dy (a_cs A) (a_bs A) b i + (if ul (a_cs A) (a_bs A) b (i + 1) (ex (a_cs A) (rf (a_bs A b) i)) = 0 then 1 else 0) := rfl
      rw [hdy] at y1
      show B_X1_removeBackup_4 _ _ _ (lp _ fuel) _ = _
      generalize lp (B_X1_removeBackup_4 d (J b) (K_X1_removeBackup_63 d (J b))) fuel = self at y1 ⊢
      generalize ul (a_cs A) (a_bs A) b (i + 1) (ex (a_cs A) (rf (a_bs A b) i)) = w at *
      unfold B_X1_removeBackup_4
      have hs : u (ex (a_cs A) (rf (a_bs A b) i)) - 1 = J w := by rw [hu0]; exact J_pred _ 1
      have hin31 : ex (a_cs A) (rf (a_bs A b) i) < 192 := by omega
      simp only [hc u, he u i hi2, Option.bind_some]
      rw [if_neg (show ¬ J (a_bs A b).length ≤ J i by rw [J_le (by omega) (by omega)]; omega), hh u _ x1]
      simp only [Option.bind_some]
      rw [if_neg (by decide), gd_J hin31 (by omega), gd_J hin31 (by omega), gd_J hin31 (by omega), J_nat (by omega), hs, upd_self, show J i + 1 = J (i + 1) from J_add i 1, show J (dy (a_cs A) (a_bs A) b i) + 1 = J (dy (a_cs A) (a_bs A) b i + 1) from J_add _ 1]
      by_cases q : w = 0
      · rw [if_pos q] at y1
        rw [if_pos (show J w = 0 by rw [q]; rfl)]
        exact y1
      · rw [if_neg q] at y1
        rw [if_neg (show ¬ J w = 0 from fun z => q ((J_eq (b := 0) (by omega) (by omega)).mp z))]
        exact y1
  obtain ⟨u', y1, y2⟩ := go (a_bs A b).length 0 FU (dk_uses d) (by omega) (fun e he2 => by rw [uses_flat d3 he2]; unfold ul; rw [List.take_zero, List.count_nil, Nat.sub_zero]) (by unfold FU; omega)
  refine ⟨((dk_settings d), (dk_numbers d), (dk_capacities d), (dk_firsts d), (dk_containers d), (dk_codes d), (dk_places d), u', (dk_entries d), (dk_references d), (upd (dk_lengths d) b (J 0)), (dk_nextNumber d), (dk_carried d)), ?_, d1, fun j hj => ?_, flat_uses fun e he2 => ?_, d4⟩
  · have hl := hsum (a_bs A b).length (Nat.le_refl _)
    have h3 : cp (fun e => decide (0 < ul (a_cs A) (a_bs A) b (a_bs A b).length e)) (st (a_cs A) (a_cs A).length) = sm (lv (a_cs A) (a_bs A) b) (a_cs A).length := by
      rw [lv_flat]
      exact cp_ext fun e he2 => by rw [ul_all h8]
    rw [h3] at hl
    unfold F_X1_removeBackup
    have y3 : lp (B_X1_removeBackup_4 d (J b) (K_X1_removeBackup_63 d (J b))) FU (0, 0, dk_uses d) = _ := y1
    rw [y3, show dy (a_cs A) (a_bs A) b (a_bs A b).length = sm (lv (a_cs A) (a_bs A) 8) (a_cs A).length - sm (lv (a_cs A) (a_bs A) b) (a_cs A).length by omega]
  · obtain ⟨k1, k2⟩ := d2 j hj
    show upd (dk_lengths d) b (J 0) j = J (bdel (a_bs A) b j).length ∧ ∀ i, i < (bdel (a_bs A) b j).length → dk_references d (j * 15 + i) = J (ex (a_cs A) (rf (bdel (a_bs A) b j) i))
    unfold bdel
    by_cases q : j = b
    · rw [if_pos q, q, upd_self]
      exact ⟨rfl, fun i hi => absurd hi (Nat.not_lt_zero _)⟩
    · rw [if_neg q, upd_ne _ _ q]
      exact ⟨k1, k2⟩
  · show u' e = J (cnt (bdel (a_bs A) b) 8 (pr (a_cs A) e))
    rw [cnt_bdel _ h8, ← ul_all h8]
    exact y2 e he2
theorem rem_M {s : Nat → Int32} {A : AT} {n b : Nat} (hm : MR s A) (hW : WF A n) (h8 : b < 8) : ∃ s', F_X9_removes s (J b) = some s' ∧ MR s' (adel A b) := by
  have hl := WF_len hW
  obtain ⟨⟨r1, r2, r3, r4⟩, r5, r6⟩ := hm
  obtain ⟨w1, w2, w3, w4, w5, w6⟩ := hW
  have hout : ∀ x, x < 998 + 34 * b ∨ 998 + 34 * b + 34 ≤ x → cpo (upd (upd s (998 + 34 * b) (J 0)) (998 + 34 * b + 1) (J 0)) (fun _ => J 0) (998 + 34 * b + 2) 32 x = s x := by
    intro x hx
    unfold cpo
    rw [if_neg (by omega), upd_ne _ _ (by omega), upd_ne _ _ (by omega)]
  refine ⟨cpo (upd (upd s (998 + 34 * b) (J 0)) (998 + 34 * b + 1) (J 0)) (fun _ => J 0) (998 + 34 * b + 2) 32, ?_, ?_⟩
  · unfold F_X9_removes
    simp (disch := omega) only [J_add, J_mul, J_sub, J_dec, J_nat, J_lt, J_le, J_eq, gd_J, gz_J, gb_J, J_div, J_mod, md_back, JN, J_neN, J_Nne, J_ltN, J_Nlt, J_leN, J_Nle, N_refl, J01, J_addN, J_pred, F_X9_at, F_X9_backupAt, F_X9_fails, F_X9_thrown, Option.bind_some, if_true, if_false, Nat.add_zero, Nat.zero_add, Nat.mul_zero, Nat.zero_mul, Nat.reduceAdd, Nat.reduceMul, Nat.reduceSub, Nat.reduceEqDiff, Nat.reduceLeDiff, Nat.reduceLT, Nat.reducePow, Nat.not_lt_zero, Nat.zero_le, eq_self, not_true_eq_false, not_false_eq_true, reduceIte, L_0, L_1, L_2, L_3, L_4, L_5, L_6, L_7, L_8, L_9, L_10, L_11, L_12, L_14, L_15, L_16, L_24, L_30, L_31, L_32, L_34, L_40, L_44, L_90, L_96, L_97, L_100, L_120, L_121, L_192, L_997, L_998, L_1000, L_1270, L_10000, L_17780, L_2540, L_32768, L_16510]
    have e0 : (J 0, upd (upd s (998 + 34 * b) (J 0)) (998 + 34 * b + 1) (J 0)) = (fun j => (J j, cpo (upd (upd s (998 + 34 * b) (J 0)) (998 + 34 * b + 1) (J 0)) (fun _ => J 0) (998 + 34 * b + 2) j)) 0 := by
      show _ = (J 0, cpo _ _ _ 0)
      rw [cpo_0]
    rw [e0]
    refine lp_run (fun j => (J j, cpo (upd (upd s (998 + 34 * b) (J 0)) (998 + 34 * b + 1) (J 0)) (fun _ => J 0) (998 + 34 * b + 2) j)) 32 (fun self j hj => ?_) (fun self => ?_) (by unfold FU; omega)
    · have hst := cpo_step (upd (upd s (998 + 34 * b) (J 0)) (998 + 34 * b + 1) (J 0)) (fun _ => J 0) (998 + 34 * b + 2) j
      unfold B_X9_removes_28
      simp (disch := omega) only [hst, J_add, J_mul, J_sub, J_dec, J_nat, J_lt, J_le, J_eq, gd_J, gz_J, gb_J, J_div, J_mod, md_back, JN, J_neN, J_Nne, J_ltN, J_Nlt, J_leN, J_Nle, N_refl, J01, J_addN, J_pred, F_X9_at, F_X9_backupAt, F_X9_fails, F_X9_thrown, Option.bind_some, if_true, if_false, Nat.add_zero, Nat.zero_add, Nat.mul_zero, Nat.zero_mul, Nat.reduceAdd, Nat.reduceMul, Nat.reduceSub, Nat.reduceEqDiff, Nat.reduceLeDiff, Nat.reduceLT, Nat.reducePow, Nat.not_lt_zero, Nat.zero_le, eq_self, not_true_eq_false, not_false_eq_true, reduceIte, L_0, L_1, L_2, L_3, L_4, L_5, L_6, L_7, L_8, L_9, L_10, L_11, L_12, L_14, L_15, L_16, L_24, L_30, L_31, L_32, L_34, L_40, L_44, L_90, L_96, L_97, L_100, L_120, L_121, L_192, L_997, L_998, L_1000, L_1270, L_10000, L_17780, L_2540, L_32768, L_16510]
      rw [if_neg (by omega)]
    · unfold B_X9_removes_28
      simp (disch := omega) only [Nat.le_refl, J_add, J_mul, J_sub, J_dec, J_nat, J_lt, J_le, J_eq, gd_J, gz_J, gb_J, J_div, J_mod, md_back, JN, J_neN, J_Nne, J_ltN, J_Nlt, J_leN, J_Nle, N_refl, J01, J_addN, J_pred, F_X9_at, F_X9_backupAt, F_X9_fails, F_X9_thrown, Option.bind_some, if_true, if_false, Nat.add_zero, Nat.zero_add, Nat.mul_zero, Nat.zero_mul, Nat.reduceAdd, Nat.reduceMul, Nat.reduceSub, Nat.reduceEqDiff, Nat.reduceLeDiff, Nat.reduceLT, Nat.reducePow, Nat.not_lt_zero, Nat.zero_le, eq_self, not_true_eq_false, not_false_eq_true, reduceIte, L_0, L_1, L_2, L_3, L_4, L_5, L_6, L_7, L_8, L_9, L_10, L_11, L_12, L_14, L_15, L_16, L_24, L_30, L_31, L_32, L_34, L_40, L_44, L_90, L_96, L_97, L_100, L_120, L_121, L_192, L_997, L_998, L_1000, L_1270, L_10000, L_17780, L_2540, L_32768, L_16510]
  · refine ⟨⟨fun i hi => by rw [hout i (by omega)]; exact r1 i hi, by rw [hout 5 (by omega)]; exact r2, by rw [hout 7 (by omega)]; exact r3, fun k hk => ?_⟩, fun j hj => ?_, by rw [hout 6 (by omega)]; exact r6⟩
    · have hk2 : k < (a_cs A).length := hk
      obtain ⟨g1, g2, g3, g4⟩ := r4 k hk2
      obtain ⟨u1, u2, u3, u4, u5, u6⟩ := w1.2.1 k hk2
      exact ⟨by rw [hout _ (by omega)]; exact g1, by rw [hout _ (by omega)]; exact g2, by rw [hout _ (by omega)]; exact g3, fun i hi => by have hi2 : i < si (a_cs A) k := hi; rw [hout _ (by omega)]; exact g4 i hi2⟩
    · obtain ⟨g1, g2, g3⟩ := r5 j hj
      obtain ⟨v1, v2⟩ := w2 j hj
      show _ = J (min 1 (bdel (a_bs A) b j).length) ∧ _ = J (bdel (a_bs A) b j).length ∧ ∀ i, i < (bdel (a_bs A) b j).length → _ = J (rf (bdel (a_bs A) b j) i).1 ∧ _ = J (rf (bdel (a_bs A) b j) i).2
      unfold bdel
      by_cases q : j = b
      · rw [if_pos q, q]
        refine ⟨?_, ?_, fun i hi => absurd hi (Nat.not_lt_zero _)⟩
        · unfold cpo
          rw [if_neg (by omega), upd_ne _ _ (by omega), upd_self]
          rfl
        · unfold cpo
          rw [if_neg (by omega), upd_self]
          rfl
      · rw [if_neg q]
        exact ⟨by rw [hout _ (by omega)]; exact g1, by rw [hout _ (by omega)]; exact g2, fun i hi => by rw [hout _ (by omega), hout _ (by omega)]; exact g3 i hi⟩
theorem drop_mem {l : List (Nat × Nat)} {i : Nat} {r : Nat × Nat} : r ∈ l.drop i ↔ ∃ j, i ≤ j ∧ j < l.length ∧ rf l j = r := by
  constructor
  · intro h
    obtain ⟨k, hk⟩ := List.getElem?_of_mem h
    rw [List.getElem?_drop] at hk
    have h1 := (List.getElem?_eq_some_iff.mp hk).1
    refine ⟨i + k, by omega, h1, ?_⟩
    unfold rf
    rw [hk]
    rfl
  · rintro ⟨j, h1, h2, h3⟩
    refine List.mem_of_getElem? (i := j - i) ?_
    rw [List.getElem?_drop, show i + (j - i) = j by omega, rf_at h2, h3]
/-- whether reference i is the last one of its backup to its entry, and no other backup has one -/
def lr (bs : Nat → List (Nat × Nat)) (b i : Nat) : Bool := decide (rf (bs b) i ∉ (bs b).drop (i + 1) ∧ (bs b).count (rf (bs b) i) = cnt bs 8 (rf (bs b) i))
theorem lastRef_D {d : DKT} {A : AT} {n b i : Nat} (hd : DR d A) (hW : WF A n) (h8 : b < 8) (hi : i < (a_bs A b).length) : F_X1_isLastReferrer d (J b) (J i) = some (J (if lr (a_bs A) b i then 1 else 0)) := by
  have hn := WF_Wn hW
  obtain ⟨d1, d2, d3, d4⟩ := hd
  obtain ⟨w1, w2, w3, w4, w5, w6⟩ := hW
  obtain ⟨v1, v2⟩ := w2 b h8
  obtain ⟨x1, x2, x3, x4⟩ := ex_in w1 (v2 i hi)
  have hn2 := hn.2
  have hcmp : ∀ j, j < (a_bs A b).length → ((J (ex (a_cs A) (rf (a_bs A b) j)) = J (ex (a_cs A) (rf (a_bs A b) i))) ↔ rf (a_bs A b) j = rf (a_bs A b) i) := by
    intro j hj
    have := (ex_in w1 (v2 j hj)).1
    rw [J_eq (by omega) (by omega)]
    exact ex_inj w1 (v2 j hj) (v2 i hi)
  have huse : F_X1_usesOfEntry d (J (ex (a_cs A) (rf (a_bs A b) i))) = some (J (cnt (a_bs A) 8 (rf (a_bs A b) i))) := by
    obtain ⟨p1, p2, p3⟩ := pl_RV w1 (v2 i hi)
    have := usesOf_D d1 d3 hn p1 p3
    rw [p2] at this
    exact this
  have hc8 := cnt_le w2 8 (rf (a_bs A b) i)
  have hcb := List.count_le_length (a := rf (a_bs A b) i) (l := a_bs A b)
  obtain ⟨f1, f2, f3⟩ := fi_spec (fun j => decide (i < j ∧ rf (a_bs A b) j = rf (a_bs A b) i)) (a_bs A b).length
  unfold F_X1_isLastReferrer
  rw [entryReferred_D d2 w2 h8 hi]
  simp only [Option.bind_some]
  refine lp_run (fun j => (J (((a_bs A b).take j).count (rf (a_bs A b) i)), J j)) (fi (fun j => decide (i < j ∧ rf (a_bs A b) j = rf (a_bs A b) i)) (a_bs A b).length) (fun self j hj => ?_) (fun self => ?_) (by unfold FU; omega)
  · have h2 := of_decide_eq_false (f2 j hj)
    have hj2 : j < (a_bs A b).length := by omega
    rw [count_take hj2]
    unfold B_X1_isLastReferrer_13
    simp (disch := omega) only [chunksOf_D d2 w2 h8, entryReferred_D d2 w2 h8 hj2, hcmp j hj2, J_add, J_mul, J_sub, J_dec, J_nat, J_lt, J_le, J_eq, gd_J, gz_J, gb_J, J_div, J_mod, md_back, JN, J_neN, J_Nne, J_ltN, J_Nlt, J_leN, J_Nle, N_refl, J01, J_addN, J_pred, F_X9_at, F_X9_backupAt, F_X9_fails, F_X9_thrown, Option.bind_some, if_true, if_false, Nat.add_zero, Nat.zero_add, Nat.mul_zero, Nat.zero_mul, Nat.reduceAdd, Nat.reduceMul, Nat.reduceSub, Nat.reduceEqDiff, Nat.reduceLeDiff, Nat.reduceLT, Nat.reducePow, Nat.not_lt_zero, Nat.zero_le, eq_self, not_true_eq_false, not_false_eq_true, reduceIte, L_0, L_1, L_2, L_3, L_4, L_5, L_6, L_7, L_8, L_9, L_10, L_11, L_12, L_14, L_15, L_16, L_24, L_30, L_31, L_32, L_34, L_40, L_44, L_90, L_96, L_97, L_100, L_120, L_121, L_192, L_997, L_998, L_1000, L_1270, L_10000, L_17780, L_2540, L_32768, L_16510]
    rw [if_neg (by omega)]
    by_cases q : rf (a_bs A b) j = rf (a_bs A b) i
    · rw [if_pos q, if_pos q, if_pos (show j ≤ i by rcases Nat.lt_or_ge i j with z | z; exact absurd ⟨z, q⟩ h2; exact z)]
    · rw [if_neg q, if_neg q]
      rfl
  · generalize fi (fun j => decide (i < j ∧ rf (a_bs A b) j = rf (a_bs A b) i)) (a_bs A b).length = N at *
    unfold B_X1_isLastReferrer_13 K_X1_isLastReferrer_54
    by_cases q : N < (a_bs A b).length
    · obtain ⟨z1, z2⟩ := of_decide_eq_true (f3 q)
      simp (disch := omega) only [chunksOf_D d2 w2 h8, entryReferred_D d2 w2 h8 q, hcmp N q, J_add, J_mul, J_sub, J_dec, J_nat, J_lt, J_le, J_eq, gd_J, gz_J, gb_J, J_div, J_mod, md_back, JN, J_neN, J_Nne, J_ltN, J_Nlt, J_leN, J_Nle, N_refl, J01, J_addN, J_pred, F_X9_at, F_X9_backupAt, F_X9_fails, F_X9_thrown, Option.bind_some, if_true, if_false, Nat.add_zero, Nat.zero_add, Nat.mul_zero, Nat.zero_mul, Nat.reduceAdd, Nat.reduceMul, Nat.reduceSub, Nat.reduceEqDiff, Nat.reduceLeDiff, Nat.reduceLT, Nat.reducePow, Nat.not_lt_zero, Nat.zero_le, eq_self, not_true_eq_false, not_false_eq_true, reduceIte, L_0, L_1, L_2, L_3, L_4, L_5, L_6, L_7, L_8, L_9, L_10, L_11, L_12, L_14, L_15, L_16, L_24, L_30, L_31, L_32, L_34, L_40, L_44, L_90, L_96, L_97, L_100, L_120, L_121, L_192, L_997, L_998, L_1000, L_1270, L_10000, L_17780, L_2540, L_32768, L_16510]
      rw [if_neg (by omega), if_pos z2, if_neg (by omega), if_neg]
      intro w
      exact (of_decide_eq_true w).1 (drop_mem.mpr ⟨N, by omega, q, z2⟩)
    · obtain rfl : N = (a_bs A b).length := by omega
      simp (disch := omega) only [chunksOf_D d2 w2 h8, Nat.le_refl, huse, tk_all, J_add, J_mul, J_sub, J_dec, J_nat, J_lt, J_le, J_eq, gd_J, gz_J, gb_J, J_div, J_mod, md_back, JN, J_neN, J_Nne, J_ltN, J_Nlt, J_leN, J_Nle, N_refl, J01, J_addN, J_pred, F_X9_at, F_X9_backupAt, F_X9_fails, F_X9_thrown, Option.bind_some, if_true, if_false, Nat.add_zero, Nat.zero_add, Nat.mul_zero, Nat.zero_mul, Nat.reduceAdd, Nat.reduceMul, Nat.reduceSub, Nat.reduceEqDiff, Nat.reduceLeDiff, Nat.reduceLT, Nat.reducePow, Nat.not_lt_zero, Nat.zero_le, eq_self, not_true_eq_false, not_false_eq_true, reduceIte, L_0, L_1, L_2, L_3, L_4, L_5, L_6, L_7, L_8, L_9, L_10, L_11, L_12, L_14, L_15, L_16, L_24, L_30, L_31, L_32, L_34, L_40, L_44, L_90, L_96, L_97, L_100, L_120, L_121, L_192, L_997, L_998, L_1000, L_1270, L_10000, L_17780, L_2540, L_32768, L_16510]
      by_cases z : (a_bs A b).count (rf (a_bs A b) i) = cnt (a_bs A) 8 (rf (a_bs A b) i)
      · rw [if_pos z, if_pos]
        exact decide_eq_true ⟨fun w => (drop_mem.mp w).elim fun j hj => of_decide_eq_false (f2 j hj.2.1) ⟨by omega, hj.2.2⟩, z⟩
      · rw [if_neg z, if_neg]
        intro w
        exact z (of_decide_eq_true w).2
theorem dying_D {d : DKT} {A : AT} {n b : Nat} (hd : DR d A) (hW : WF A n) (h8 : b < 8) : F_X1_dyingWith d (J b) = some (J (cp (lr (a_bs A) b) (a_bs A b).length)) := by
  have hv := (hW.2.1 b h8).1
  unfold F_X1_dyingWith
  refine lp_run (fun i => (J (cp (lr (a_bs A) b) i), J i)) (a_bs A b).length (fun self i hi => ?_) (fun self => ?_) (by unfold FU; omega)
  · unfold B_X1_dyingWith_4
    simp (disch := omega) only [chunksOf_D hd.2.1 hW.2.1 h8, lastRef_D hd hW h8 hi, J_add, J_mul, J_sub, J_dec, J_nat, J_lt, J_le, J_eq, gd_J, gz_J, gb_J, J_div, J_mod, md_back, JN, J_neN, J_Nne, J_ltN, J_Nlt, J_leN, J_Nle, N_refl, J01, J_addN, J_pred, F_X9_at, F_X9_backupAt, F_X9_fails, F_X9_thrown, Option.bind_some, if_true, if_false, Nat.add_zero, Nat.zero_add, Nat.mul_zero, Nat.zero_mul, Nat.reduceAdd, Nat.reduceMul, Nat.reduceSub, Nat.reduceEqDiff, Nat.reduceLeDiff, Nat.reduceLT, Nat.reducePow, Nat.not_lt_zero, Nat.zero_le, eq_self, not_true_eq_false, not_false_eq_true, reduceIte, L_0, L_1, L_2, L_3, L_4, L_5, L_6, L_7, L_8, L_9, L_10, L_11, L_12, L_14, L_15, L_16, L_24, L_30, L_31, L_32, L_34, L_40, L_44, L_90, L_96, L_97, L_100, L_120, L_121, L_192, L_997, L_998, L_1000, L_1270, L_10000, L_17780, L_2540, L_32768, L_16510]
    rw [if_neg (by omega)]
    by_cases q : lr (a_bs A) b i = true
    · rw [cp_yes q, if_pos q]
      simp (disch := omega) only [J_add, J_mul, J_sub, J_dec, J_nat, J_lt, J_le, J_eq, gd_J, gz_J, gb_J, J_div, J_mod, md_back, JN, J_neN, J_Nne, J_ltN, J_Nlt, J_leN, J_Nle, N_refl, J01, J_addN, J_pred, F_X9_at, F_X9_backupAt, F_X9_fails, F_X9_thrown, Option.bind_some, if_true, if_false, Nat.add_zero, Nat.zero_add, Nat.mul_zero, Nat.zero_mul, Nat.reduceAdd, Nat.reduceMul, Nat.reduceSub, Nat.reduceEqDiff, Nat.reduceLeDiff, Nat.reduceLT, Nat.reducePow, Nat.not_lt_zero, Nat.zero_le, eq_self, not_true_eq_false, not_false_eq_true, reduceIte, L_0, L_1, L_2, L_3, L_4, L_5, L_6, L_7, L_8, L_9, L_10, L_11, L_12, L_14, L_15, L_16, L_24, L_30, L_31, L_32, L_34, L_40, L_44, L_90, L_96, L_97, L_100, L_120, L_121, L_192, L_997, L_998, L_1000, L_1270, L_10000, L_17780, L_2540, L_32768, L_16510]
    · rw [cp_no (Bool.eq_false_iff.mpr q), if_neg q]
      simp (disch := omega) only [J_add, J_mul, J_sub, J_dec, J_nat, J_lt, J_le, J_eq, gd_J, gz_J, gb_J, J_div, J_mod, md_back, JN, J_neN, J_Nne, J_ltN, J_Nlt, J_leN, J_Nle, N_refl, J01, J_addN, J_pred, F_X9_at, F_X9_backupAt, F_X9_fails, F_X9_thrown, Option.bind_some, if_true, if_false, Nat.add_zero, Nat.zero_add, Nat.mul_zero, Nat.zero_mul, Nat.reduceAdd, Nat.reduceMul, Nat.reduceSub, Nat.reduceEqDiff, Nat.reduceLeDiff, Nat.reduceLT, Nat.reducePow, Nat.not_lt_zero, Nat.zero_le, eq_self, not_true_eq_false, not_false_eq_true, reduceIte, L_0, L_1, L_2, L_3, L_4, L_5, L_6, L_7, L_8, L_9, L_10, L_11, L_12, L_14, L_15, L_16, L_24, L_30, L_31, L_32, L_34, L_40, L_44, L_90, L_96, L_97, L_100, L_120, L_121, L_192, L_997, L_998, L_1000, L_1270, L_10000, L_17780, L_2540, L_32768, L_16510]
  · unfold B_X1_dyingWith_4
    simp (disch := omega) only [chunksOf_D hd.2.1 hW.2.1 h8, Nat.le_refl, J_add, J_mul, J_sub, J_dec, J_nat, J_lt, J_le, J_eq, gd_J, gz_J, gb_J, J_div, J_mod, md_back, JN, J_neN, J_Nne, J_ltN, J_Nlt, J_leN, J_Nle, N_refl, J01, J_addN, J_pred, F_X9_at, F_X9_backupAt, F_X9_fails, F_X9_thrown, Option.bind_some, if_true, if_false, Nat.add_zero, Nat.zero_add, Nat.mul_zero, Nat.zero_mul, Nat.reduceAdd, Nat.reduceMul, Nat.reduceSub, Nat.reduceEqDiff, Nat.reduceLeDiff, Nat.reduceLT, Nat.reducePow, Nat.not_lt_zero, Nat.zero_le, eq_self, not_true_eq_false, not_false_eq_true, reduceIte, L_0, L_1, L_2, L_3, L_4, L_5, L_6, L_7, L_8, L_9, L_10, L_11, L_12, L_14, L_15, L_16, L_24, L_30, L_31, L_32, L_34, L_40, L_44, L_90, L_96, L_97, L_100, L_120, L_121, L_192, L_997, L_998, L_1000, L_1270, L_10000, L_17780, L_2540, L_32768, L_16510]
theorem cp_or {p q t : Nat → Bool} : ∀ {n : Nat}, (∀ i, i < n → (p i = (q i || t i)) ∧ ¬ (q i = true ∧ t i = true)) → cp p n = cp q n + cp t n := by
  intro n
  induction n with
  | zero => intro _; rfl
  | succ n ih =>
    intro h
    obtain ⟨h1, h2⟩ := h n (by omega)
    rw [cp_step, cp_step, cp_step, ih fun i hi => h i (by omega), h1]
    cases hq : q n <;> cases htt : t n
    · rfl
    · rfl
    · simp; omega
    · exact absurd ⟨hq, htt⟩ h2
/-- the entries that would die, by reference i -/
def td (cs : List Ct) (bs : Nat → List (Nat × Nat)) (b i e : Nat) : Bool := decide (pr cs e ∈ bs b ∧ pr cs e ∉ (bs b).drop i ∧ (bs b).count (pr cs e) = cnt bs 8 (pr cs e))
theorem td_sum {cs : List Ct} {nx : Nat} {bs : Nat → List (Nat × Nat)} (hW : Wc cs nx) (hb : Wb cs bs) {b : Nat} (h8 : b < 8) : ∀ i, i ≤ (bs b).length → cp (td cs bs b i) (st cs cs.length) = cp (lr bs b) i := by
  intro i
  induction i with
  | zero =>
    intro _
    refine cp_zero fun e he => decide_eq_false ?_
    rintro ⟨h1, h2, h3⟩
    exact h2 (by rw [List.drop_zero]; exact h1)
  | succ i ih =>
    intro hi
    have hi2 : i < (bs b).length := by omega
    have hr := (hb b h8).2 i hi2
    have x1 := (ex_in hW hr).1
    have h4 := cp_one (p := td cs bs b i) (q := td cs bs b (i + 1)) x1 (fun e he hne => by
      unfold td
      have hner : pr cs e ≠ rf (bs b) i := fun w => hne (by rw [← w, ex_pr hW he])
      have : pr cs e ∉ (bs b).drop i ↔ pr cs e ∉ (bs b).drop (i + 1) := by
        rw [drop_mem, drop_mem]
        constructor
        · rintro h ⟨j, j1, j2, j3⟩
          exact h ⟨j, by omega, j2, j3⟩
        · rintro h ⟨j, j1, j2, j3⟩
          by_cases z : j = i
          · subst z; exact hner j3.symm
          · exact h ⟨j, by omega, j2, j3⟩
      rw [decide_eq_decide, this])
    have t1 : td cs bs b i (ex cs (rf (bs b) i)) = false := decide_eq_false (by
      rintro ⟨g1, g2, g3⟩
      rw [pr_ex hW hr] at g2
      exact g2 (drop_mem.mpr ⟨i, Nat.le_refl _, hi2, rfl⟩))
    have t2 : td cs bs b (i + 1) (ex cs (rf (bs b) i)) = lr bs b i := by
      unfold td lr
      rw [pr_ex hW hr, decide_eq_decide]
      exact ⟨fun g => g.2, fun g => ⟨rf_mem hi2, g⟩⟩
    rw [t1, t2] at h4
    rw [cp_step, ← ih (by omega)]
    simpa using h4
theorem dying_A {A : AT} {n b : Nat} (hW : WF A n) (h8 : b < 8) : sm (lv (a_cs A) (a_bs A) 8) (a_cs A).length = sm (lv (a_cs A) (a_bs A) b) (a_cs A).length + cp (lr (a_bs A) b) (a_bs A b).length := by
  rw [← td_sum hW.1 hW.2.1 h8 _ (Nat.le_refl _), lv_flat, lv_flat]
  refine cp_or fun e he => ?_
  have h1 := cnt_out (a_bs A) h8 (pr (a_cs A) e)
  have h2 : pr (a_cs A) e ∈ a_bs A b ↔ 0 < (a_bs A b).count (pr (a_cs A) e) := List.count_pos_iff.symm
  have h3 : pr (a_cs A) e ∉ (a_bs A b).drop (a_bs A b).length := by rw [List.drop_length]; exact fun w => by cases w
  unfold td
  constructor
  · by_cases q : 0 < cnt (a_bs A) b (pr (a_cs A) e)
    · rw [decide_eq_true (show 0 < cnt (a_bs A) 8 (pr (a_cs A) e) by omega), decide_eq_true q]
      rfl
    · rw [decide_eq_false q]
      show _ = decide _
      refine decide_eq_decide.mpr ⟨fun w => ⟨h2.mpr (by omega), h3, by omega⟩, fun w => ?_⟩
      have := h2.mp w.1
      omega
  · rintro ⟨z1, z2⟩
    have y1 := of_decide_eq_true z1
    have y2 := (of_decide_eq_true z2).2.2
    omega
theorem i_ifDeleted {n : Nat} {st : STT} {q1 q2 q3 : Int32} (h : Inv n st) : ∃ st', F_T_ifDeleted st q1 q2 q3 = some st' ∧ Inv (n + 1) st' := by
  obtain ⟨A, H, Sl, h1, h2, h3, h4, h5, h6, h7, h8⟩ := id h
  have hl := WF_len h4
  unfold F_T_ifDeleted F_X9_thrown F_X8_ifDeleted F_X9_ifDeleted
  rcases hasB h2.2.1 h3.2.1 h4.2.1 q1 with ⟨b, hb8, rfl, hb1, e1, e2⟩ | ⟨e1, e2⟩
  rotate_left
  · rw [e1, e2]
    simp only [Option.bind_some, F_X9_fails]
    rw [if_pos (show J 0 = 0 from rfl), if_pos (show J 0 = 0 from rfl)]
    simp only [Option.bind_some]
    rw [if_pos (by decide), if_pos (by rfl), if_neg (by decide)]
    exact ⟨_, rfl, Inv_SE h ⟨rfl, rfl, rfl, rfl, fun _ _ => rfl, rfl, rfl, rfl, rfl, rfl, rfl⟩⟩
  · have e4 : (-1 : Int32) = NN := rfl
    have l1 := livingBut_M h3.1 h3.2.1 h4.1 h4.2.1 (show (a_cs A).length ≤ 92 by omega) but_8
    have l2 := livingBut_M h3.1 h3.2.1 h4.1 h4.2.1 (show (a_cs A).length ≤ 92 by omega) (but_b hb8)
    have l4 := dying_A h4 hb8
    have l6 : J (sm (lv (a_cs A) (a_bs A) 8) (a_cs A).length) - J (sm (lv (a_cs A) (a_bs A) b) (a_cs A).length) = J (cp (lr (a_bs A) b) (a_bs A b).length) := by
      rw [J_sub (by omega), l4, Nat.add_sub_cancel_left]
    rw [e1, e2]
    simp only [Option.bind_some]
    rw [if_neg (show ¬ J 1 = 0 by decide), if_neg (show ¬ J 1 = 0 by decide), dying_D h2 h4 hb8, e4, l1, l2]
    simp only [Option.bind_some]
    rw [if_pos (by decide), if_pos (by rfl), if_pos (by rfl), l6, if_pos (by rfl)]
    exact ⟨_, rfl, Inv_SE h ⟨rfl, rfl, rfl, rfl, fun _ _ => rfl, rfl, rfl, rfl, rfl, rfl, rfl⟩⟩
theorem i_delete {n : Nat} {st : STT} {q1 q2 q3 : Int32} (h : Inv n st) : ∃ st', F_T_delete st q1 q2 q3 = some st' ∧ Inv (n + 1) st' := by
  obtain ⟨A, H, Sl, h1, h2, h3, h4, h5, h6, h7, h8⟩ := id h
  have hl := WF_len h4
  unfold F_T_delete F_X9_thrown F_X8_delete F_X9_delete
  rcases hasB h2.2.1 h3.2.1 h4.2.1 q1 with ⟨b, hb8, rfl, hb1, e1, e2⟩ | ⟨e1, e2⟩
  rotate_left
  · rw [e1, e2]
    simp only [Option.bind_some, F_X9_fails]
    rw [if_pos (show J 0 = 0 from rfl), if_pos (show J 0 = 0 from rfl)]
    simp only [Option.bind_some]
    rw [if_pos (by decide), if_pos (by rfl), if_neg (by decide)]
    exact ⟨_, rfl, Inv_SE h ⟨rfl, rfl, rfl, rfl, fun _ _ => rfl, rfl, rfl, rfl, rfl, rfl, rfl⟩⟩
  · have hp : MR (fil (md_aside (S_md st)) (md_s (S_md st)) 1270) A := MR_fil h4 h3
    obtain ⟨pa', sv', k', r1, r2, r3⟩ := remember_A h5 h6 h2 hp h4
    obtain ⟨d', c1, c2⟩ := rem_D h2 h4 hb8 hb1
    obtain ⟨s', m1, m2⟩ := rem_M h3 h4 hb8
    have hW' := adel_WF hb8 h4
    have e4 : (-1 : Int32) = NN := rfl
    have l1 := livingBut_M h3.1 h3.2.1 h4.1 h4.2.1 (show (a_cs A).length ≤ 92 by omega) but_8
    have l2 := livingBut_M m2.1 m2.2.1 hW'.1 hW'.2.1 (show (a_cs A).length ≤ 92 by omega) but_8
    have l3 : sm (lv (a_cs (adel A b)) (a_bs (adel A b)) 8) (a_cs (adel A b)).length = sm (lv (a_cs A) (a_bs A) b) (a_cs A).length := sm_ext fun k hk => lv_bdel _ _ hb8 k
    have l4 := dying_A h4 hb8
    have l6 : J (sm (lv (a_cs A) (a_bs A) 8) (a_cs A).length) - J (sm (lv (a_cs A) (a_bs A) b) (a_cs A).length) = J (sm (lv (a_cs A) (a_bs A) 8) (a_cs A).length - sm (lv (a_cs A) (a_bs A) b) (a_cs A).length) := J_sub (by omega)
    rw [l3] at l2
    rw [e1, e2]
    simp only [Option.bind_some]
    rw [if_neg (show ¬ J 1 = 0 by decide), if_neg (show ¬ J 1 = 0 by decide), r1, putAside_M, e4, l1, m1]
    simp only [Option.bind_some]
    rw [c1, r2, l2]
    simp only [Option.bind_some]
    rw [if_pos (by decide), if_pos (by rfl), if_pos (by rfl), l6, if_pos (by rfl)]
    exact ⟨_, rfl, adel A b, psh H A, Sl, h1, c2, m2, WF_mono hW' (by omega), r3, fun B hB => (psh_mem hB).elim (fun z => WF_mono (h6 B z) (by omega)) (fun z => by rw [z]; exact WF_mono h4 (by omega)), h7, fun i h hi hh => WF_mono (h8 i h hi hh) (by omega)⟩
