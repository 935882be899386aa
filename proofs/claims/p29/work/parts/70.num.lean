/-! THE PURE SIDE: small numbers as Int32, and loops -/
def J (n : Nat) : Int32 := Int32.ofNat n
theorem J_add (a b : Nat) : J a + J b = J (a + b) := by
  unfold J
  exact (Int32.ofNat_add a b).symm
theorem J_mul (a b : Nat) : J a * J b = J (a * b) := by
  unfold J
  exact (Int32.ofNat_mul a b).symm
theorem J_toInt {a : Nat} (h : a < 2 ^ 31) : (J a).toInt = (a : Int) := Int32.toInt_ofNat_of_lt h
theorem J_nat {a : Nat} (h : a < 2 ^ 31) : (J a).toNatClampNeg = a := Int32.toNatClampNeg_ofNat_of_lt h
theorem J_lt {a b : Nat} (ha : a < 2 ^ 31) (hb : b < 2 ^ 31) : (J a < J b) ↔ a < b := Int32.ofNat_lt_ofNat ha hb
theorem J_le {a b : Nat} (ha : a < 2 ^ 31) (hb : b < 2 ^ 31) : (J a ≤ J b) ↔ a ≤ b := Int32.ofNat_le_ofNat ha hb
theorem J_eq {a b : Nat} (ha : a < 2 ^ 31) (hb : b < 2 ^ 31) : (J a = J b) ↔ a = b := by
  constructor
  · intro h
    have h1 := congrArg Int32.toInt h
    rw [J_toInt ha, J_toInt hb] at h1
    omega
  · intro h
    rw [h]
theorem J_neg {a : Nat} (ha : a < 2 ^ 31) : ¬ J a < 0 := by
  intro h
  have h1 := (J_lt ha (by decide)).mp (show J a < J 0 from h)
  omega
theorem J_sub {a b : Nat} (h : b ≤ a) : J a - J b = J (a - b) := by
  have h1 : J (a - b) + J b = J a := by rw [J_add, Nat.sub_add_cancel h]
  rw [← h1]
  simp [Int32.add_sub_cancel]
/-- a guard at a small number -/
theorem gd_J {α : Type} {a n : Nat} {x : Option α} (h : a < n) (ha : a < 2 ^ 31) : gd (J a) n x = x := by
  unfold gd
  rw [J_nat ha]
  exact if_neg fun q => q.elim (J_neg ha) (fun q => by omega)
/-- a loop that meets its specification -/
theorem lp_wf {σ ρ : Type} {f : (σ → Option ρ) → σ → Option ρ} (P : σ → Prop) (mu : σ → Nat) (g : σ → Option ρ) (h : ∀ (self : σ → Option ρ) (s : σ), P s → (∀ s', P s' → mu s' < mu s → self s' = g s') → f self s = g s) : ∀ (fuel : Nat) (s : σ), P s → mu s < fuel → lp f fuel s = g s := by
  intro fuel
  induction fuel with
  | zero => intro s _ hm; omega
  | succ n ih => exact fun s hP hm => h (lp f n) s hP fun s' hP' hm' => ih s' hP' (by omega)
/-- a loop that counts from i to N -/
theorem lp_cnt {σ ρ : Type} {f : (σ → Option ρ) → σ → Option ρ} (st : Nat → σ) (g : Nat → Option ρ) (N : Nat) (h : ∀ (self : σ → Option ρ) (i : Nat), i ≤ N → (i < N → self (st (i + 1)) = g (i + 1)) → f self (st i) = g i) : ∀ (fuel i : Nat), i ≤ N → N - i < fuel → lp f fuel (st i) = g i := by
  intro fuel
  induction fuel with
  | zero => intro i _ hm; omega
  | succ n ih => exact fun i hi hm => h (lp f n) i hi fun hlt => ih (i + 1) hlt (by omega)
/-- a loop without another way out -/
theorem lp_run {σ ρ : Type} {f : (σ → Option ρ) → σ → Option ρ} (st : Nat → σ) (N : Nat) {r : Option ρ} (hs : ∀ (self : σ → Option ρ) (i : Nat), i < N → f self (st i) = self (st (i + 1))) (he : ∀ self : σ → Option ρ, f self (st N) = r) (hN : N < FU) : lp f FU (st 0) = r :=
  lp_cnt st (fun _ => r) N (fun self i hi hself => by
    by_cases h : i < N
    · rw [hs self i h, hself h]
    · rw [show i = N by omega, he self]) FU 0 (Nat.zero_le _) (by omega)
