/-! THE PURE SIDE: simulate: its numbers, its streams -/
theorem rnd_J (z : Int64) : ∃ k, k < 2 ^ 31 ∧ Int64.toInt32 (UInt64.toInt64 (Int64.toUInt64 z >>> (Int64.toUInt64 (Int32.toInt64 33) &&& Int64.toUInt64 63))) = J k := by
  generalize Int64.toUInt64 z = u
  have hb : (Int64.toUInt64 (Int32.toInt64 33) &&& Int64.toUInt64 63) = 33 := by decide
  rw [hb]
  have h1 : (u >>> 33).toNat = u.toNat / 2 ^ 33 := by
    rw [UInt64.toNat_shiftRight, Nat.shiftRight_eq_div_pow]
    rfl
  have h2 : u.toNat < 2 ^ 64 := UInt64.toNat_lt u
  refine ⟨(u >>> 33).toNat, by rw [h1]; omega, ?_⟩
  have h3 : UInt64.toInt64 (u >>> 33) = YL (u >>> 33).toNat := by
    apply Int64.toBitVec_inj.mp
    show (u >>> 33).toBitVec = BitVec.ofNat 64 (u >>> 33).toBitVec.toNat
    rw [BitVec.ofNat_toNat, BitVec.setWidth_eq]
  rw [h3]
  exact YL_32 _
theorem J_aa7 {a : Nat} (ha : a < 2 ^ 31) : J a &&& J 7 = J (a % 8) := J_and ha 3 (by omega)
theorem J_aa3 {a : Nat} (ha : a < 2 ^ 31) : J a &&& J 3 = J (a % 4) := J_and ha 2 (by omega)
/-- the letter at place i of the stream of a number -/
def slt (k i : Nat) : Nat := 1 + (if 6 ≤ i then k / 32768 / 2 ^ i % 4 else k / 2 ^ (3 * (i % 5)) % 8)
theorem slt_b (k i : Nat) : 1 ≤ slt k i ∧ slt k i ≤ 8 := by
  unfold slt
  split
  · have := Nat.mod_lt (k / 32768 / 2 ^ i) (show 0 < 4 by omega)
    omega
  · have := Nat.mod_lt (k / 2 ^ (3 * (i % 5))) (show 0 < 8 by omega)
    omega
def sws (k : Nat) : List Nat := (List.range 12).map (slt k)
theorem sws_len (k : Nat) : (sws k).length = 12 := by
  unfold sws
  rw [List.length_map, List.length_range]
theorem sws_vl (k : Nat) : vl (sws k) := by
  intro w hw
  unfold sws at hw
  obtain ⟨i, -, rfl⟩ := List.mem_map.mp hw
  exact slt_b k i
theorem sws_AH (f0 : Nat → Int32) (k : Nat) : AH (fil f0 (fun i => J (slt k i)) 12) ((sws k).map J) := by
  have h := fil_AH (f0 := f0) (v := fun i => J (slt k i)) (l := (sws k).map J) (fun i x hx => by
    rw [List.getElem?_map] at hx
    unfold sws at hx
    rw [List.getElem?_map] at hx
    by_cases q : i < 12
    · rw [List.getElem?_range q] at hx
      simp at hx
      exact hx
    · rw [List.getElem?_eq_none (by rw [List.length_range]; omega)] at hx
      cases hx)
  rw [List.length_map, sws_len] at h
  exact h
theorem shr6 {k i : Nat} (hk : k < 2 ^ 31) (hi : i < 12) (h6 : 6 ≤ i) : (1 : Int32) + (((J k / 32768) >>> (J i &&& 31)) &&& 3) = J (slt k i) := by
  have h1 : k / 32768 ≤ k := Nat.div_le_self _ _
  have h2 : k / 32768 / 2 ^ i ≤ k / 32768 := Nat.div_le_self _ _
  rw [show (32768 : Int32) = J 32768 from rfl, show (31 : Int32) = J 31 from rfl, show (3 : Int32) = J 3 from rfl, show (1 : Int32) = J 1 from rfl, J_div hk (by omega), J_shr (by omega) (by omega), J_aa3 (by omega), J_add]
  unfold slt
  rw [if_pos h6]
theorem shr5 {k i : Nat} (hk : k < 2 ^ 31) (hi : i < 12) (h6 : ¬ 6 ≤ i) : (1 : Int32) + ((J k >>> ((3 * (J i - J i / 5 * 5)) &&& 31)) &&& 7) = J (slt k i) := by
  have h1 : k / 2 ^ (3 * (i % 5)) ≤ k := Nat.div_le_self _ _
  have h5 := Nat.mod_lt i (show 0 < 5 by omega)
  rw [show (5 : Int32) = J 5 from rfl, show (31 : Int32) = J 31 from rfl, show (3 : Int32) = J 3 from rfl, show (7 : Int32) = J 7 from rfl, show (1 : Int32) = J 1 from rfl, J_div (a := i) (by omega) (by omega), J_mul, J_mod, J_mul, J_shr hk (by omega), J_aa7 (by omega), J_add]
  unfold slt
  rw [if_neg h6]
theorem gz32 {α : Type} (x : Option α) : gz 32768 x = x := gz_J (a := 32768) (by omega) (by omega)
theorem gz5 {α : Type} (x : Option α) : gz 5 x = x := gz_J (a := 5) (by omega) (by omega)
theorem gz8 {α : Type} (x : Option α) : gz 8 x = x := gz_J (a := 8) (by omega) (by omega)
theorem take_J {w cd : Nat → Int32} {i : Nat} (hi : i < 30) (v : Int32) : F_X6_take (w, cd, J i, (0 : Int32)) v = some (upd w i v, cd, J (i + 1), 0) := by
  have h1 : J i < 30 := (J_lt (b := 30) (by omega) (by omega)).mpr hi
  have h2 : ∀ (x : Option SMT), gd (J i) 30 x = x := fun x => gd_J hi (by omega)
  have h3 : (J i).toNatClampNeg = i := J_nat (by omega)
  have h4 : J i + 1 = J (i + 1) := J_add i 1
  unfold F_X6_take sm_letters sm_worths sm_codes sm_chunks
  simp only [h1, h2, h3, h4, if_true]
theorem sstr_s {w cd : Nat → Int32} {k i : Nat} (hk : k < 2 ^ 31) (hi : i < 12) (self : (Int32 × SMT) → Option SMT) : B_X8_simulateStream_9 (J k) self (J i, (w, cd, J i, (0 : Int32))) = self (J (i + 1), (upd w i (J (slt k i)), cd, J (i + 1), (0 : Int32))) := by
  have h4 : J i + 1 = J (i + 1) := J_add i 1
  unfold B_X8_simulateStream_9 J_X8_simulateStream_43
  rw [if_neg (show ¬ (12 : Int32) ≤ J i from fun z => by have := (J_le (a := 12) (by omega) (by omega)).mp z; omega)]
  by_cases h6 : 6 ≤ i
  · rw [if_pos (show (6 : Int32) ≤ J i from (J_le (a := 6) (by omega) (by omega)).mpr h6), gz32]
    simp only [shr6 hk hi h6, take_J (show i < 30 by omega), Option.bind_some, h4]
  · rw [if_neg (show ¬ (6 : Int32) ≤ J i from fun z => h6 ((J_le (a := 6) (by omega) (by omega)).mp z)), gz5]
    simp only [shr5 hk hi h6, take_J (show i < 30 by omega), Option.bind_some, h4]
theorem sstr_l {w cd : Nat → Int32} {k : Nat} (hk : k < 2 ^ 31) : lp (B_X8_simulateStream_9 (J k)) FU (J 0, (w, cd, J 0, (0 : Int32))) = some (fil w (fun i => J (slt k i)) 12, cd, J 12, (0 : Int32)) := by
  refine lp_run (f := B_X8_simulateStream_9 (J k)) (fun i => ((J i, (fil w (fun i => J (slt k i)) i, cd, J i, (0 : Int32))) : Int32 × SMT)) 12 (fun self i hi => ?_) (fun self => ?_) (by unfold FU; omega)
  · exact sstr_s hk hi self
  · unfold B_X8_simulateStream_9
    rw [if_pos (show (12 : Int32) ≤ J 12 from (J_le (a := 12) (b := 12) (by omega) (by omega)).mpr (Nat.le_refl _))]
theorem sstr_D {so : SMT} {k : Nat} (hk : k < 2 ^ 31) : ∃ wo, F_X8_simulateStream so (J k) = some (wo, sm_codes so, J (sws k).length, 0) ∧ AH wo ((sws k).map J) := by
  refine ⟨fil (sm_worths so) (fun i => J (slt k i)) 12, ?_, sws_AH _ k⟩
  rw [sws_len]
  unfold F_X8_simulateStream F_X6_begin
  rw [Option.bind_some, show (0 : Int32) = J 0 from rfl]
  exact sstr_l hk
theorem sstr_M {z : Int64} {s31 : Int64 × Int32 × MDT} {lt0 : Nat → Int32} {k : Nat} (hk : k < 2 ^ 31) (hz : Int64.toInt32 (UInt64.toInt64 (Int64.toUInt64 ((s31.1 * (6364136223846793005)) + (1442695040888963407)) >>> (Int64.toUInt64 (Int32.toInt64 33) &&& Int64.toUInt64 63))) = J k) (K : (Nat → Int32) → Option (Int32 × MDT)) : lp (B_X9_simulate_121 s31 K) FU (0, lt0) = K (fil lt0 (fun i => J (slt k i)) 12) := by
  refine lp_run (fun i => (J i, fil lt0 (fun i => J (slt k i)) i)) 12 (fun self i hi => ?_) (fun self => ?_) (by unfold FU; omega)
  · have hg : ∀ (x : Option (Int32 × MDT)), gd (J i) 30 x = x := fun x => gd_J (by omega) (by omega)
    unfold B_X9_simulate_121
    simp only [hz]
    rw [if_neg (show ¬ (12 : Int32) ≤ J i from fun z => by have := (J_le (a := 12) (by omega) (by omega)).mp z; omega)]
    by_cases h6 : 6 ≤ i
    · rw [if_pos (show (6 : Int32) ≤ J i from (J_le (a := 6) (by omega) (by omega)).mpr h6), gz32, hg, shr6 hk hi h6, J_nat (by omega), show J i + 1 = J (i + 1) from J_add i 1]
      rfl
    · rw [if_neg (show ¬ (6 : Int32) ≤ J i from fun z => h6 ((J_le (a := 6) (by omega) (by omega)).mp z)), gz5, hg, shr5 hk hi h6, J_nat (by omega), show J i + 1 = J (i + 1) from J_add i 1]
      rfl
  · unfold B_X9_simulate_121
    rw [if_pos (show (12 : Int32) ≤ J 12 from (J_le (a := 12) (b := 12) (by omega) (by omega)).mpr (Nat.le_refl _))]
