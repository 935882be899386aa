/-! THE PURE SIDE: carrying forward: what is kept, what waits -/
def klb (T : Nat → Bool) (k : Nat) : Bool := !(T k)
/-- the containers that are not thin, of the first n -/
def kl (T : Nat → Bool) (cs : List Ct) : Nat → List Ct
  | 0 => []
  | n + 1 => if T n then kl T cs n else kl T cs n ++ [cn cs n]
theorem kl_thin {T : Nat → Bool} {cs : List Ct} {n : Nat} (h : T n = true) : kl T cs (n + 1) = kl T cs n := if_pos h
theorem kl_keep {T : Nat → Bool} {cs : List Ct} {n : Nat} (h : T n = false) : kl T cs (n + 1) = kl T cs n ++ [cn cs n] := if_neg (by rw [h]; decide)
theorem kl_len {T : Nat → Bool} {cs : List Ct} : ∀ n, (kl T cs n).length = cp (klb T) n := by
  intro n
  induction n with
  | zero => rfl
  | succ n ih =>
    cases h : T n with
    | true => rw [kl_thin h, cp_no (show klb T n = false by unfold klb; rw [h]; rfl), ih]
    | false =>
      rw [kl_keep h, cp_yes (show klb T n = true by unfold klb; rw [h]; rfl), List.length_append, ih]
      rfl
theorem cp_mono (p : Nat → Bool) {a b : Nat} (h : a ≤ b) : cp p a ≤ cp p b := by
  obtain ⟨m, rfl⟩ : ∃ m, b = a + m := ⟨b - a, by omega⟩
  rw [cp_add]
  omega
theorem cp_lt {p : Nat → Bool} {a b : Nat} (h : a < b) (hp : p a = true) : cp p a < cp p b := by
  have := cp_mono p (show a + 1 ≤ b by omega)
  rw [cp_yes hp] at this
  omega
theorem kl_at {T : Nat → Bool} {cs : List Ct} : ∀ {n k : Nat}, k < n → T k = false → cn (kl T cs n) (cp (klb T) k) = cn cs k := by
  intro n
  induction n with
  | zero => intro k h; exact absurd h (Nat.not_lt_zero _)
  | succ n ih =>
    intro k hk hT
    cases h : T n with
    | true =>
      rw [kl_thin h]
      refine ih ?_ hT
      rcases Nat.lt_or_ge k n with q | q
      · exact q
      · rw [show k = n by omega, h] at hT; cases hT
    | false =>
      rw [kl_keep h, app_cn, kl_len]
      by_cases q : k = n
      · rw [q, if_pos rfl]
      · have := cp_lt (p := klb T) (show k < n by omega) (show klb T k = true by unfold klb; rw [hT]; rfl)
        rw [if_neg (by omega)]
        exact ih (by omega) hT
theorem kl_sur {T : Nat → Bool} : ∀ {n j : Nat}, j < cp (klb T) n → ∃ k, k < n ∧ T k = false ∧ cp (klb T) k = j := by
  intro n
  induction n with
  | zero => intro j h; exact absurd h (Nat.not_lt_zero _)
  | succ n ih =>
    intro j hj
    cases h : T n with
    | true =>
      rw [cp_no (show klb T n = false by unfold klb; rw [h]; rfl)] at hj
      obtain ⟨k, k1, k2, k3⟩ := ih hj
      exact ⟨k, by omega, k2, k3⟩
    | false =>
      rw [cp_yes (show klb T n = true by unfold klb; rw [h]; rfl)] at hj
      by_cases q : j = cp (klb T) n
      · exact ⟨n, by omega, h, q.symm⟩
      · obtain ⟨k, k1, k2, k3⟩ := ih (j := j) (by omega)
        exact ⟨k, by omega, k2, k3⟩
theorem kl_f {T : Nat → Bool} {cs : List Ct} {n k : Nat} (hk : k < n) (hT : T k = false) : nu (kl T cs n) (cp (klb T) k) = nu cs k ∧ ca (kl T cs n) (cp (klb T) k) = ca cs k ∧ si (kl T cs n) (cp (klb T) k) = si cs k ∧ ∀ i, ch (kl T cs n) (cp (klb T) k) i = ch cs k i := by
  unfold nu ca si ch
  rw [kl_at hk hT]
  exact ⟨rfl, rfl, rfl, fun _ => rfl⟩
theorem kl_Wc {T : Nat → Bool} {cs : List Ct} {nx n : Nat} (hW : Wc cs nx) (hn : n ≤ cs.length) : Wc (kl T cs n) nx := by
  refine ⟨hW.1, fun j hj => ?_, fun i j hij hj => ?_⟩
  · rw [kl_len] at hj
    obtain ⟨k, k1, k2, k3⟩ := kl_sur hj
    obtain ⟨f1, f2, f3, f4⟩ := kl_f (cs := cs) k1 k2
    rw [k3] at f1 f2 f3 f4
    obtain ⟨w1, w2, w3, w4, w5, w6⟩ := hW.2.1 k (by omega)
    unfold Wk
    rw [f1, f2, f3]
    exact ⟨w1, w2, w3, w4, w5, fun i hi => by rw [f4]; exact w6 i hi⟩
  · rw [kl_len] at hj
    obtain ⟨k, k1, k2, k3⟩ := kl_sur hj
    obtain ⟨k', k1', k2', k3'⟩ := kl_sur (show i < cp (klb T) n by omega)
    rw [← k3, ← k3', (kl_f k1 k2).1, (kl_f k1' k2').1]
    refine hW.2.2 k' k ?_ (by omega)
    rcases Nat.lt_or_ge k' k with q | q
    · exact q
    · have := cp_mono (klb T) q
      omega
/-- what is kept before a container -/
theorem kl_st {T : Nat → Bool} {cs : List Ct} {n : Nat} : ∀ m, m ≤ n → st (kl T cs n) (cp (klb T) m) = sm (fun k => if T k then 0 else si cs k) m := by
  intro m
  induction m with
  | zero => intro _; rfl
  | succ m ih =>
    intro hm
    rw [sm_step]
    cases h : T m with
    | true =>
      rw [cp_no (show klb T m = false by unfold klb; rw [h]; rfl), ih (by omega), if_pos rfl]
      rfl
    | false =>
      rw [cp_yes (show klb T m = true by unfold klb; rw [h]; rfl), st_step, ih (by omega), (kl_f (cs := cs) (show m < n by omega) h).2.2.1, if_neg (by decide)]
theorem kl_stn {T : Nat → Bool} {cs : List Ct} (n : Nat) : st (kl T cs n) (kl T cs n).length = sm (fun k => if T k then 0 else si cs k) n := by
  rw [kl_len, kl_st n (Nat.le_refl _)]
theorem kl_st_le {T : Nat → Bool} {cs : List Ct} : ∀ n, sm (fun k => if T k then 0 else si cs k) n ≤ st cs n := by
  intro n
  induction n with
  | zero => exact Nat.le_refl _
  | succ n ih =>
    rw [sm_step, st_step]
    split <;> omega
theorem kl_RV {T : Nat → Bool} {cs : List Ct} {nx : Nat} {r : Nat × Nat} (hW : Wc cs nx) (h : RV cs r) (hT : T (pl cs r.1) = false) : RV (kl T cs cs.length) r ∧ pl (kl T cs cs.length) r.1 = cp (klb T) (pl cs r.1) ∧ ex (kl T cs cs.length) r = sm (fun k => if T k then 0 else si cs k) (pl cs r.1) + r.2 ∧ cr (kl T cs cs.length) r = cr cs r := by
  obtain ⟨p1, p2, p3⟩ := pl_RV hW h
  obtain ⟨f1, f2, f3, f4⟩ := kl_f (cs := cs) p1 hT
  have hlt : cp (klb T) (pl cs r.1) < (kl T cs cs.length).length := by
    rw [kl_len]
    exact cp_lt p1 (by unfold klb; rw [hT]; rfl)
  have e1 : pl (kl T cs cs.length) r.1 = cp (klb T) (pl cs r.1) := by
    have := pl_at (kl_Wc (T := T) hW (Nat.le_refl _)) hlt
    rw [f1, p2] at this
    exact this
  refine ⟨⟨_, hlt, by rw [f1, p2], by omega⟩, e1, ?_, ?_⟩
  · unfold ex
    rw [e1, kl_st _ (by omega)]
  · unfold cr
    rw [e1, f4]
/-- chunks put away one after the other -/
noncomputable def pw (cap : Nat) (g : Nat → List Nat) (cs0 : List Ct) (nx0 : Nat) : Nat → List Ct × Nat
  | 0 => (cs0, nx0)
  | w + 1 => (put cap (pw cap g cs0 nx0 w).1 (pw cap g cs0 nx0 w).2 (g w), putn (pw cap g cs0 nx0 w).1 (pw cap g cs0 nx0 w).2)
theorem pw_step (cap : Nat) (g : Nat → List Nat) (cs0 : List Ct) (nx0 w : Nat) : pw cap g cs0 nx0 (w + 1) = (put cap (pw cap g cs0 nx0 w).1 (pw cap g cs0 nx0 w).2 (g w), putn (pw cap g cs0 nx0 w).1 (pw cap g cs0 nx0 w).2) := rfl
theorem putn_le (cs : List Ct) (nx : Nat) : nx ≤ putn cs nx ∧ putn cs nx ≤ nx + 1 := by
  unfold putn
  split <;> omega
theorem pw_all {cap nx0 m : Nat} {g : Nat → List Nat} {cs0 : List Ct} (hW : Wc cs0 nx0) (hg : ∀ w, w < m → vch (g w)) (h2 : 2 ≤ cap) (h8 : cap ≤ 8) (hx : nx0 + m < 2 ^ 30) : ∀ w, w ≤ m → Wc (pw cap g cs0 nx0 w).1 (pw cap g cs0 nx0 w).2 ∧ (pw cap g cs0 nx0 w).2 ≤ nx0 + w ∧ nx0 ≤ (pw cap g cs0 nx0 w).2 ∧ st (pw cap g cs0 nx0 w).1 (pw cap g cs0 nx0 w).1.length = st cs0 cs0.length + w ∧ cs0.length ≤ (pw cap g cs0 nx0 w).1.length ∧ (pw cap g cs0 nx0 w).1.length ≤ cs0.length + w := by
  intro w
  induction w with
  | zero => intro _; exact ⟨hW, Nat.le_refl _, Nat.le_refl _, rfl, Nat.le_refl _, Nat.le_refl _⟩
  | succ w ih =>
    intro hw
    obtain ⟨a1, a2, a3, a4, a5, a6⟩ := ih (by omega)
    rw [pw_step]
    have hp := putn_le (pw cap g cs0 nx0 w).1 (pw cap g cs0 nx0 w).2
    have hl := put_len (cap := cap) (nx := (pw cap g cs0 nx0 w).2) (cs := (pw cap g cs0 nx0 w).1) (l := g w)
    refine ⟨put_Wc a1 (hg w (by omega)) h2 h8 (by omega), ?_, ?_, ?_, ?_, ?_⟩
    · show putn _ _ ≤ _; omega
    · show _ ≤ putn _ _; omega
    · show st (put _ _ _ _) (put _ _ _ _).length = _
      rw [put_st, a4]; omega
    · show _ ≤ (put _ _ _ _).length; omega
    · show (put _ _ _ _).length ≤ _; omega
theorem pw_mono {cap nx0 m : Nat} {g : Nat → List Nat} {cs0 : List Ct} (hA : ∀ w, w ≤ m → Wc (pw cap g cs0 nx0 w).1 (pw cap g cs0 nx0 w).2) {w : Nat} : ∀ x, w + x ≤ m → ∀ r, RV (pw cap g cs0 nx0 w).1 r → RV (pw cap g cs0 nx0 (w + x)).1 r ∧ pl (pw cap g cs0 nx0 (w + x)).1 r.1 = pl (pw cap g cs0 nx0 w).1 r.1 ∧ ex (pw cap g cs0 nx0 (w + x)).1 r = ex (pw cap g cs0 nx0 w).1 r ∧ cr (pw cap g cs0 nx0 (w + x)).1 r = cr (pw cap g cs0 nx0 w).1 r := by
  intro x
  induction x with
  | zero => intro _ r hr; exact ⟨hr, rfl, rfl, rfl⟩
  | succ x ih =>
    intro hx r hr
    obtain ⟨h1, h2, h3, h4⟩ := ih (by omega) r hr
    have hW1 := hA (w + x + 1) (by omega)
    rw [pw_step] at hW1
    obtain ⟨t1, t2, t3⟩ := put_pl (hA (w + x) (by omega)) hW1 h1
    show RV (pw cap g cs0 nx0 (w + x + 1)).1 r ∧ pl (pw cap g cs0 nx0 (w + x + 1)).1 r.1 = _ ∧ ex (pw cap g cs0 nx0 (w + x + 1)).1 r = _ ∧ cr (pw cap g cs0 nx0 (w + x + 1)).1 r = _
    rw [pw_step]
    exact ⟨put_RV h1, t1.trans h2, t2.trans h3, t3.trans h4⟩
/-- which entries wait -/
def wtg (T : Nat → Bool) (cs : List Ct) (bs : Nat → List (Nat × Nat)) (e : Nat) : Bool := T (kpl cs e) && decide (0 < cnt bs 8 (pr cs e))
/-- the one that is number w of those that are so -/
def nth (p : Nat → Bool) (n w : Nat) : Nat := fi (fun e => decide (cp p (e + 1) = w + 1)) n
theorem nth_at {p : Nat → Bool} {n e : Nat} (he : e < n) (hp : p e = true) : nth p n (cp p e) = e := by
  refine fi_eq (by omega) (fun j hj => decide_eq_false ?_) (fun _ => decide_eq_true (cp_yes hp))
  have := cp_mono p (show j + 1 ≤ e by omega)
  omega
theorem nth_of {p : Nat → Bool} {n w : Nat} (hw : w < cp p n) : nth p n w < n ∧ p (nth p n w) = true ∧ cp p (nth p n w) = w := by
  have key : ∀ n, w < cp p n → ∃ e, e < n ∧ p e = true ∧ cp p e = w := by
    intro n
    induction n with
    | zero => intro h; exact absurd h (Nat.not_lt_zero _)
    | succ n ih =>
      intro h
      cases hp : p n with
      | false =>
        rw [cp_no hp] at h
        obtain ⟨e, e1, e2, e3⟩ := ih h
        exact ⟨e, by omega, e2, e3⟩
      | true =>
        rw [cp_yes hp] at h
        by_cases q : w = cp p n
        · exact ⟨n, by omega, hp, q.symm⟩
        · obtain ⟨e, e1, e2, e3⟩ := ih (by omega)
          exact ⟨e, by omega, e2, e3⟩
  obtain ⟨e, e1, e2, e3⟩ := key n hw
  have := nth_at e1 e2
  rw [e3] at this
  rw [this]
  exact ⟨e1, e2, e3⟩
