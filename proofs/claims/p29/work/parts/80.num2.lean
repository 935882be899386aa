/-! THE PURE SIDE: the kit of small numbers -/
def NN : Int32 := -1
theorem JN : -J 1 = NN := rfl
theorem L_0 : (0 : Int32) = J 0 := rfl
theorem L_1 : (1 : Int32) = J 1 := rfl
theorem L_2 : (2 : Int32) = J 2 := rfl
theorem L_3 : (3 : Int32) = J 3 := rfl
theorem L_4 : (4 : Int32) = J 4 := rfl
theorem L_5 : (5 : Int32) = J 5 := rfl
theorem L_6 : (6 : Int32) = J 6 := rfl
theorem L_7 : (7 : Int32) = J 7 := rfl
theorem L_8 : (8 : Int32) = J 8 := rfl
theorem L_9 : (9 : Int32) = J 9 := rfl
theorem L_10 : (10 : Int32) = J 10 := rfl
theorem L_11 : (11 : Int32) = J 11 := rfl
theorem L_12 : (12 : Int32) = J 12 := rfl
theorem L_14 : (14 : Int32) = J 14 := rfl
theorem L_15 : (15 : Int32) = J 15 := rfl
theorem L_16 : (16 : Int32) = J 16 := rfl
theorem L_24 : (24 : Int32) = J 24 := rfl
theorem L_30 : (30 : Int32) = J 30 := rfl
theorem L_31 : (31 : Int32) = J 31 := rfl
theorem L_32 : (32 : Int32) = J 32 := rfl
theorem L_34 : (34 : Int32) = J 34 := rfl
theorem L_40 : (40 : Int32) = J 40 := rfl
theorem L_44 : (44 : Int32) = J 44 := rfl
theorem L_90 : (90 : Int32) = J 90 := rfl
theorem L_96 : (96 : Int32) = J 96 := rfl
theorem L_97 : (97 : Int32) = J 97 := rfl
theorem L_100 : (100 : Int32) = J 100 := rfl
theorem L_120 : (120 : Int32) = J 120 := rfl
theorem L_121 : (121 : Int32) = J 121 := rfl
theorem L_192 : (192 : Int32) = J 192 := rfl
theorem L_997 : (997 : Int32) = J 997 := rfl
theorem L_998 : (998 : Int32) = J 998 := rfl
theorem L_1000 : (1000 : Int32) = J 1000 := rfl
theorem L_1270 : (1270 : Int32) = J 1270 := rfl
theorem L_10000 : (10000 : Int32) = J 10000 := rfl
theorem L_17780 : (17780 : Int32) = J 17780 := rfl
theorem L_2540 : (2540 : Int32) = J 2540 := rfl
theorem L_32768 : (32768 : Int32) = J 32768 := rfl
theorem L_16510 : (16510 : Int32) = J 16510 := rfl
theorem J_toNN : NN.toInt = -1 := rfl
theorem J_neN {a : Nat} (h : a < 2 ^ 31) : (J a = NN) = False := by
  apply eq_false
  intro q
  have := congrArg Int32.toInt q
  rw [J_toInt h, J_toNN] at this
  omega
theorem J_Nne {a : Nat} (h : a < 2 ^ 31) : (NN = J a) = False := by
  apply eq_false
  intro q
  have := congrArg Int32.toInt q
  rw [J_toInt h, J_toNN] at this
  omega
theorem J_ltN {a : Nat} (h : a < 2 ^ 31) : (J a < NN) = False := by
  apply eq_false
  intro q
  have := Int32.lt_iff_toInt_lt.mp q
  rw [J_toInt h, J_toNN] at this
  omega
theorem J_Nlt {a : Nat} (h : a < 2 ^ 31) : (NN < J a) = True := by
  apply eq_true
  apply Int32.lt_iff_toInt_lt.mpr
  rw [J_toInt h, J_toNN]
  omega
theorem J_leN {a : Nat} (h : a < 2 ^ 31) : (J a ≤ NN) = False := by
  apply eq_false
  intro q
  have := Int32.le_iff_toInt_le.mp q
  rw [J_toInt h, J_toNN] at this
  omega
theorem J_Nle {a : Nat} (h : a < 2 ^ 31) : (NN ≤ J a) = True := by
  apply eq_true
  apply Int32.le_iff_toInt_le.mpr
  rw [J_toInt h, J_toNN]
  omega
theorem N_refl : (NN = NN) = True := eq_self NN
theorem J01 : J 0 - J 1 = NN := rfl
theorem J_addN : J 0 + NN = NN := rfl
theorem J_dec {a : Nat} (h : 1 ≤ a) : J a + NN = J (a - 1) := by
  rw [← J_sub h]
  show J a + (-J 1) = _
  rw [Int32.sub_eq_add_neg]
theorem J_pred (a b : Nat) : J (a + b) - J b = J a := by
  rw [J_sub (Nat.le_add_left _ _), Nat.add_sub_cancel]
theorem J_div {a b : Nat} (ha : a < 2 ^ 31) (hb : b < 2 ^ 31) : J a / J b = J (a / b) := (Int32.ofNat_div ha hb).symm
theorem J_mod (a b : Nat) : J a - J (a / b * b) = J (a % b) := by
  have h1 := Nat.div_add_mod a b
  have h2 : a / b * b = b * (a / b) := Nat.mul_comm _ _
  rw [J_sub (by omega)]
  congr 1
  omega
theorem md_back (a b : Nat) : a - a / b * b = a % b := by
  have h1 := Nat.div_add_mod a b
  have h2 : a / b * b = b * (a / b) := Nat.mul_comm _ _
  omega
theorem gz_J {α : Type} {a : Nat} {x : Option α} (h : 1 ≤ a) (ha : a < 2 ^ 31) : gz (J a) x = x := by
  unfold gz
  rw [if_neg]
  show ¬ J a = J 0
  rw [J_eq (b := 0) ha (by decide)]
  omega
theorem gb_J {α : Type} {a : Nat} {x : Option α} (h : a ≤ 1) : gb (J a) x = x := by
  unfold gb
  rw [if_pos]
  rcases Nat.lt_or_ge a 1 with q | q
  · left
    rw [show a = 0 by omega]
    rfl
  · right
    rw [show a = 1 by omega]
    rfl
theorem J_sm : ∀ b : Fin 32, ((J b.1 &&& J 31).toBitVec.smod 32).toNat = b.1 := by decide
theorem J_shr {a b : Nat} (ha : a < 2 ^ 31) (hb : b < 32) : J a >>> (J b &&& J 31) = J (a / 2 ^ b) := by
  apply Int32.toInt_inj.mp
  have h2 : a / 2 ^ b ≤ a := Nat.div_le_self _ _
  rw [J_toInt (by omega)]
  show (BitVec.sshiftRight' (J a).toBitVec ((J b &&& J 31).toBitVec.smod 32)).toInt = _
  rw [BitVec.sshiftRight_eq', J_sm ⟨b, hb⟩, BitVec.toInt_sshiftRight]
  show (J a).toInt >>> b = _
  rw [J_toInt ha, Int.shiftRight_eq_div_pow]
  rfl
theorem J_bv {a : Nat} (ha : a < 2 ^ 31) : (J a).toBitVec.toNat = a := by
  show (BitVec.ofNat 32 a).toNat = a
  rw [BitVec.toNat_ofNat]
  exact Nat.mod_eq_of_lt (by omega)
theorem J_and {a : Nat} (ha : a < 2 ^ 31) (k : Nat) (hk : k < 31) : J a &&& J (2 ^ k - 1) = J (a % 2 ^ k) := by
  apply Int32.toBitVec_inj.mp
  apply BitVec.eq_of_toNat_eq
  have hk2 : 2 ^ k < 2 ^ 31 := Nat.pow_lt_pow_right (by omega) hk
  have h3 : a % 2 ^ k < 2 ^ k := Nat.mod_lt _ (Nat.two_pow_pos k)
  rw [Int32.toBitVec_and, BitVec.toNat_and, J_bv ha, J_bv (by omega), J_bv (by omega), Nat.and_two_pow_sub_one_eq_mod]
/-- a loop without another way out, from any place on -/
theorem lp_at {σ ρ : Type} {f : (σ → Option ρ) → σ → Option ρ} (st : Nat → σ) (i N : Nat) {r : Option ρ} (hi : i ≤ N) (hs : ∀ (self : σ → Option ρ) (j : Nat), i ≤ j → j < N → f self (st j) = self (st (j + 1))) (he : ∀ self : σ → Option ρ, f self (st N) = r) (hN : N < FU) : lp f FU (st i) = r := by
  have h := lp_run (f := f) (r := r) (fun j => st (i + j)) (N - i) (fun self j hj => by
    have := hs self (i + j) (by omega) (by omega)
    exact this) (fun self => by
    show f self (st (i + (N - i))) = r
    rw [show i + (N - i) = N by omega]
    exact he self) (by omega)
  exact h
/-- how many of the first N are so -/
def cp (p : Nat → Bool) : Nat → Nat
  | 0 => 0
  | n + 1 => cp p n + (if p n then 1 else 0)
/-- the sum of the first N -/
def sm (f : Nat → Nat) : Nat → Nat
  | 0 => 0
  | n + 1 => sm f n + f n
theorem cp_le (p : Nat → Bool) : ∀ n, cp p n ≤ n := by
  intro n
  induction n with
  | zero => exact Nat.le_refl _
  | succ n ih =>
    show cp p n + _ ≤ n + 1
    split <;> omega
theorem cp_ext {p q : Nat → Bool} : ∀ {n : Nat}, (∀ i, i < n → p i = q i) → cp p n = cp q n := by
  intro n
  induction n with
  | zero => intro _; rfl
  | succ n ih =>
    intro h
    show cp p n + _ = cp q n + _
    rw [ih fun i hi => h i (by omega), h n (by omega)]
theorem sm_ext {p q : Nat → Nat} : ∀ {n : Nat}, (∀ i, i < n → p i = q i) → sm p n = sm q n := by
  intro n
  induction n with
  | zero => intro _; rfl
  | succ n ih =>
    intro h
    show sm p n + _ = sm q n + _
    rw [ih fun i hi => h i (by omega), h n (by omega)]
theorem sm_le {f : Nat → Nat} {B : Nat} : ∀ {n : Nat}, (∀ i, i < n → f i ≤ B) → sm f n ≤ n * B := by
  intro n
  induction n with
  | zero => intro _; exact Nat.zero_le _
  | succ n ih =>
    intro h
    have h1 := ih fun i hi => h i (by omega)
    have h2 := h n (by omega)
    have h3 : (n + 1) * B = n * B + B := Nat.succ_mul n B
    show sm f n + f n ≤ _
    omega
theorem sm_mono {f : Nat → Nat} {m : Nat} : ∀ {n : Nat}, m ≤ n → sm f m ≤ sm f n := by
  intro n
  induction n with
  | zero => intro h; rw [show m = 0 by omega]; exact Nat.le_refl _
  | succ n ih =>
    intro h
    rcases Nat.lt_or_ge m (n + 1) with q | q
    · have := ih (by omega)
      show sm f m ≤ sm f n + f n
      omega
    · rw [show m = n + 1 by omega]; exact Nat.le_refl _
theorem cp_add (p : Nat → Bool) (m : Nat) : ∀ n, cp p (m + n) = cp p m + cp (fun i => p (m + i)) n := by
  intro n
  induction n with
  | zero => rfl
  | succ n ih =>
    show cp p (m + n) + (if p (m + n) then 1 else 0) = cp p m + (cp (fun i => p (m + i)) n + (if p (m + n) then 1 else 0))
    rw [ih]
    omega
/-- a row of numbers holds a list -/
def AH (f : Nat → Int32) (l : List Int32) : Prop := ∀ i x, l[i]? = some x → f i = x
theorem AH_nil (f : Nat → Int32) : AH f [] := fun i x h => by simp at h
theorem AH_app {f : Nat → Int32} {l : List Int32} {k : Nat} {v : Int32} (h : AH f l) (hk : k = l.length) : AH (upd f k v) (l ++ [v]) := by
  intro i x hx
  rw [List.getElem?_append] at hx
  by_cases q : i < l.length
  · rw [if_pos q] at hx
    rw [upd_ne f v (by omega)]
    exact h i x hx
  · rw [if_neg q] at hx
    have : i = k := by
      rcases Nat.lt_or_ge 0 (i - l.length) with z | z
      · rw [List.getElem?_eq_none (by simp; omega)] at hx
        cases hx
      · omega
    subst this
    rw [show i - l.length = 0 by omega] at hx
    simp at hx
    rw [upd_self, hx]
