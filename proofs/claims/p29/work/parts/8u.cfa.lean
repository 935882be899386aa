/-! THE PURE SIDE: the class carries forward: thin ones, waiting ones, taking out -/
theorem usesE_D {d : DKT} {se : Nat → Nat} {nx e : Nat} {cs : List Ct} {bs : Nat → List (Nat × Nat)} (hd : RDc d se nx cs) (hu : RDu d cs bs) (hn : Wn cs) (he : e < st cs cs.length) : F_X1_usesOfEntry d (J e) = some (J (cnt bs 8 (pr cs e))) := by
  obtain ⟨k1, k2, k3⟩ := kpl_lt he
  have := usesOf_D hd hu hn k1 k3
  rw [show st cs (kpl cs e) + (e - st cs (kpl cs e)) = e by omega] at this
  exact this
def CRw (c : CRT) (T p : Nat → Bool) (cs : List Ct) (m : Nat) : Prop := (∀ k, k < cs.length → cr_thin c k = J (if T k then 1 else 0)) ∧ cr_waitingCount c = J m ∧ ∀ w, w < m → cr_waiting c w = J (nth p (st cs cs.length) w) ∧ cr_waitingCodes c w = J (c8 (cf cs (nth p (st cs cs.length) w)))
theorem collectLiving_P {c : CRT} {d : DKT} {A : AT} {N k : Nat} {T : Nat → Bool} (hd : DR d A) (hW : WF A N) (hk : k < (a_cs A).length) (hT : T k = true) (hC : CRw c T (wtg T (a_cs A) (a_bs A)) (a_cs A) (cp (wtg T (a_cs A) (a_bs A)) (st (a_cs A) k))) : ∃ c', F_X0_collectLiving c d (J (st (a_cs A) k)) (J (st (a_cs A) (k + 1))) = some c' ∧ CRw c' T (wtg T (a_cs A) (a_bs A)) (a_cs A) (cp (wtg T (a_cs A) (a_bs A)) (st (a_cs A) (k + 1))) ∧ cr_goesTo c' = cr_goesTo c := by
  have hn := WF_Wn hW
  have hn2 := hn.2
  have hin := st_in (a_cs A) hk
  obtain ⟨c1, c2, c3⟩ := hC
  have hWk := hW.1.2.1 k hk
  have go : ∀ (x i fuel : Nat) (wa wc : Nat → Int32), i + x = si (a_cs A) k → (∀ w, w < cp (wtg T (a_cs A) (a_bs A)) (st (a_cs A) k + i) → wa w = J (nth (wtg T (a_cs A) (a_bs A)) (st (a_cs A) (a_cs A).length) w) ∧ wc w = J (c8 (cf (a_cs A) (nth (wtg T (a_cs A) (a_bs A)) (st (a_cs A) (a_cs A).length) w)))) → x < fuel → ∃ wa' wc', lp (B_X0_collectLiving_3 (J (st (a_cs A) k + si (a_cs A) k)) c d) fuel (J (st (a_cs A) k + i), wa, wc, J (cp (wtg T (a_cs A) (a_bs A)) (st (a_cs A) k + i))) = some (cr_thin c, cr_goesTo c, wa', wc', J (cp (wtg T (a_cs A) (a_bs A)) (st (a_cs A) k + si (a_cs A) k))) ∧ ∀ w, w < cp (wtg T (a_cs A) (a_bs A)) (st (a_cs A) k + si (a_cs A) k) → wa' w = J (nth (wtg T (a_cs A) (a_bs A)) (st (a_cs A) (a_cs A).length) w) ∧ wc' w = J (c8 (cf (a_cs A) (nth (wtg T (a_cs A) (a_bs A)) (st (a_cs A) (a_cs A).length) w))) := by
    intro x
    induction x with
    | zero =>
      intro i fuel wa wc hi hw hf
      obtain ⟨fuel, rfl⟩ : ∃ q, fuel = q + 1 := ⟨fuel - 1, by omega⟩
      obtain rfl : i = si (a_cs A) k := by omega
      refine ⟨wa, wc, ?_, hw⟩
      show B_X0_collectLiving_3 _ _ _ _ _ = _
      unfold B_X0_collectLiving_3
      rw [if_pos (show J (st (a_cs A) k + si (a_cs A) k) ≤ J (st (a_cs A) k + si (a_cs A) k) from (J_le (by omega) (by omega)).mpr (Nat.le_refl _))]
    | succ x ih =>
      intro i fuel wa wc hi hw hf
      obtain ⟨fuel, rfl⟩ : ∃ q, fuel = q + 1 := ⟨fuel - 1, by omega⟩
      have hi2 : i < si (a_cs A) k := by omega
      have het : st (a_cs A) k + i < st (a_cs A) (a_cs A).length := by omega
      have huse := usesE_D hd.1 hd.2.2.1 hn het
      have hcode := codeOf_D hd.1 hn het
      have hc120 := cnt_le hW.2.1 8 (pr (a_cs A) (st (a_cs A) k + i))
      have hcl := cp_le (wtg T (a_cs A) (a_bs A)) (st (a_cs A) k + i)
      have hp : wtg T (a_cs A) (a_bs A) (st (a_cs A) k + i) = decide (0 < cnt (a_bs A) 8 (pr (a_cs A) (st (a_cs A) k + i))) := by
        unfold wtg
        rw [kpl_at hk hi2, hT, Bool.true_and]
      have ihx := ih (i + 1) fuel
      clear ih
      show ∃ wa' wc', B_X0_collectLiving_3 _ _ _ (lp _ fuel) _ = _ ∧ _
      generalize lp (B_X0_collectLiving_3 (J (st (a_cs A) k + si (a_cs A) k)) c d) fuel = self at ihx ⊢
      rw [← Nat.add_assoc] at ihx
      unfold B_X0_collectLiving_3
      dsimp only
      rw [if_neg (show ¬ J (st (a_cs A) k + si (a_cs A) k) ≤ J (st (a_cs A) k + i) by rw [J_le (by omega) (by omega)]; omega), huse]
      simp only [Option.bind_some]
      rw [show J (st (a_cs A) k + i) + 1 = J (st (a_cs A) k + i + 1) from J_add _ 1]
      by_cases q : 0 < cnt (a_bs A) 8 (pr (a_cs A) (st (a_cs A) k + i))
      · have hpt : wtg T (a_cs A) (a_bs A) (st (a_cs A) k + i) = true := by rw [hp]; exact decide_eq_true q
        have hnth := nth_at het hpt
        rw [cp_yes hpt] at ihx
        rw [if_neg (show ¬ J (cnt (a_bs A) 8 (pr (a_cs A) (st (a_cs A) k + i))) = 0 from fun z => by have := (J_eq (b := 0) (by omega) (by omega)).mp z; omega), if_pos (show J (cp (wtg T (a_cs A) (a_bs A)) (st (a_cs A) k + i)) < 192 from (J_lt (b := 192) (by omega) (by omega)).mpr (by omega)), gd_J (by omega) (by omega), hcode]
        simp only [Option.bind_some]
        rw [gd_J (by omega) (by omega), J_nat (by omega), show J (cp (wtg T (a_cs A) (a_bs A)) (st (a_cs A) k + i)) + 1 = J (cp (wtg T (a_cs A) (a_bs A)) (st (a_cs A) k + i) + 1) from J_add _ 1]
        refine ihx _ _ (by omega) (fun w hw2 => ?_) (by omega)
        by_cases z : w = cp (wtg T (a_cs A) (a_bs A)) (st (a_cs A) k + i)
        · rw [z, upd_self, upd_self, hnth]
          exact ⟨rfl, rfl⟩
        · rw [upd_ne _ _ z, upd_ne _ _ z]
          exact hw w (by omega)
      · have hpf : wtg T (a_cs A) (a_bs A) (st (a_cs A) k + i) = false := by rw [hp]; exact decide_eq_false q
        rw [cp_no hpf] at ihx
        rw [if_pos (show J (cnt (a_bs A) 8 (pr (a_cs A) (st (a_cs A) k + i))) = 0 by rw [show cnt (a_bs A) 8 (pr (a_cs A) (st (a_cs A) k + i)) = 0 by omega]; rfl)]
        exact ihx wa wc (by omega) hw (by omega)
  obtain ⟨wa', wc', y1, y2⟩ := go (si (a_cs A) k) 0 FU (cr_waiting c) (cr_waitingCodes c) (by omega) c3 (by unfold FU; omega)
  refine ⟨(cr_thin c, cr_goesTo c, wa', wc', J (cp (wtg T (a_cs A) (a_bs A)) (st (a_cs A) k + si (a_cs A) k))), ?_, ⟨c1, rfl, y2⟩, rfl⟩
  unfold F_X0_collectLiving
  rw [c2, st_step]
  exact y1
theorem wtg_not {T : Nat → Bool} {cs : List Ct} {bs : Nat → List (Nat × Nat)} {k : Nat} (hk : k < cs.length) (hT : T k = false) : cp (wtg T cs bs) (st cs (k + 1)) = cp (wtg T cs bs) (st cs k) := by
  rw [st_step, cp_add, cp_zero (p := fun i => wtg T cs bs (st cs k + i)) fun i hi => ?_]
  · rfl
  · unfold wtg
    rw [kpl_at hk hi, hT]
    rfl
theorem collectWaiting_P {c : CRT} {d : DKT} {A : AT} {N : Nat} {T : Nat → Bool} (hd : DR d A) (hW : WF A N) (hC : ∀ k, k < (a_cs A).length → cr_thin c k = J (if T k then 1 else 0)) : ∃ c', F_X0_collectWaiting c d = some c' ∧ CRw c' T (wtg T (a_cs A) (a_bs A)) (a_cs A) (cp (wtg T (a_cs A) (a_bs A)) (st (a_cs A) (a_cs A).length)) ∧ cr_goesTo c' = cr_goesTo c := by
  have hn := WF_Wn hW
  have hn1 := hn.1
  have go : ∀ (x k fuel : Nat) (c : CRT), k + x = (a_cs A).length → CRw c T (wtg T (a_cs A) (a_bs A)) (a_cs A) (cp (wtg T (a_cs A) (a_bs A)) (st (a_cs A) k)) → x < fuel → ∃ c', lp (B_X0_collectWaiting_7 d) fuel (J k, c) = some c' ∧ CRw c' T (wtg T (a_cs A) (a_bs A)) (a_cs A) (cp (wtg T (a_cs A) (a_bs A)) (st (a_cs A) (a_cs A).length)) ∧ cr_goesTo c' = cr_goesTo c := by
    intro x
    induction x with
    | zero =>
      intro k fuel c hk hc hf
      obtain ⟨fuel, rfl⟩ : ∃ q, fuel = q + 1 := ⟨fuel - 1, by omega⟩
      obtain rfl : k = (a_cs A).length := by omega
      refine ⟨c, ?_, hc, rfl⟩
      show B_X0_collectWaiting_7 _ _ _ = _
      unfold B_X0_collectWaiting_7
      rw [if_pos (show dk_containers d ≤ J (a_cs A).length by rw [hd.1.2.2.1]; exact (J_le (by omega) (by omega)).mpr (Nat.le_refl _))]
    | succ x ih =>
      intro k fuel c hk hc hf
      obtain ⟨fuel, rfl⟩ : ∃ q, fuel = q + 1 := ⟨fuel - 1, by omega⟩
      have hk2 : k < (a_cs A).length := by omega
      have ihx := fun c' => ih (k + 1) fuel c' (by omega)
      clear ih
      show ∃ c', B_X0_collectWaiting_7 _ (lp _ fuel) _ = _ ∧ _
      generalize lp (B_X0_collectWaiting_7 d) fuel = self at ihx ⊢
      unfold B_X0_collectWaiting_7
      dsimp only
      rw [if_neg (show ¬ dk_containers d ≤ J k by rw [hd.1.2.2.1, J_le (by omega) (by omega)]; omega), gd_J (by omega) (by omega), J_nat (by omega), hc.1 k hk2, show J k + 1 = J (k + 1) from J_add _ 1]
      cases hT : T k with
      | true =>
        obtain ⟨c', y1, y2, y3⟩ := collectLiving_P hd hW hk2 hT hc
        obtain ⟨c2, z1, z2, z3⟩ := ihx c' y2 (by omega)
        refine ⟨c2, ?_, z2, z3.trans y3⟩
        rw [if_pos rfl, if_neg (show ¬ J 1 = 0 by decide), firstEntryAt_D hd.1 hn (by omega), firstEntryAt_D hd.1 hn (by omega)]
        simp only [Option.bind_some]
        rw [y1]
        exact z1
      | false =>
        rw [← wtg_not (bs := a_bs A) hk2 hT] at hc
        obtain ⟨c2, z1, z2, z3⟩ := ihx c hc (by omega)
        refine ⟨c2, ?_, z2, z3⟩
        rw [if_neg (show ¬ (false = true) from Bool.false_ne_true), if_pos (show J 0 = 0 from rfl)]
        exact z1
  obtain ⟨c', y1, y2, y3⟩ := go (a_cs A).length 0 FU (cr_thin c, cr_goesTo c, cr_waiting c, cr_waitingCodes c, 0) (by omega) ⟨hC, rfl, fun w hw => absurd hw (Nat.not_lt_zero _)⟩ (by unfold FU; omega)
  exact ⟨c', y1, y2, y3⟩
/-- the desk while the thin containers are taken out, p of them seen -/
def TOi (d0 d : DKT) (c : CRT) (T : Nat → Bool) (A : AT) (p : Nat) : Prop := RDc d (a_se A) (a_nx A) (kl T (a_cs A) p) ∧ (∀ k, p ≤ k → k < (a_cs A).length → RDk d (a_cs A) k) ∧ (∀ e, st (a_cs A) p ≤ e → e < st (a_cs A) (a_cs A).length → dk_codes d e = J (c8 (cf (a_cs A) e))) ∧ dk_references d = dk_references d0 ∧ dk_lengths d = dk_lengths d0 ∧ dk_carried d = dk_carried d0 ∧ ∀ e, e < st (a_cs A) p → T (kpl (a_cs A) e) = false → cr_goesTo c e = J (sm (fun k => if T k then 0 else si (a_cs A) k) (kpl (a_cs A) e) + (e - st (a_cs A) (kpl (a_cs A) e)))
theorem keep_P {d0 d : DKT} {c : CRT} {A : AT} {N p : Nat} {T : Nat → Bool} (hW : WF A N) (hp : p < (a_cs A).length) (hT : T p = false) (hI : TOi d0 d c T A p) : ∃ c' d', F_X0_keepContainer c d (J p) (J (st (a_cs A) p)) (J (st (a_cs A) (p + 1))) = some (c', d') ∧ TOi d0 d' c' T A (p + 1) ∧ cr_thin c' = cr_thin c ∧ cr_waiting c' = cr_waiting c ∧ cr_waitingCodes c' = cr_waitingCodes c ∧ cr_waitingCount c' = cr_waitingCount c := by
  obtain ⟨⟨r1, r2, r3, r4, r5, r6⟩, i2, i3, i4, i5, i6, i7⟩ := hI
  have hn := WF_Wn hW
  have hn1 := hn.1
  have hn2 := hn.2
  have hin := st_in (a_cs A) hp
  have hkl := kl_len (T := T) (cs := a_cs A) p
  have hcl := cp_le (klb T) p
  have hst := kl_stn (T := T) (cs := a_cs A) p
  have hsl := kl_st_le (T := T) (cs := a_cs A) p
  obtain ⟨k1, k2, k3⟩ := i2 p (Nat.le_refl _) hp
  generalize hS0 : st (kl T (a_cs A) p) (kl T (a_cs A) p).length = S0 at *
  generalize ha : (kl T (a_cs A) p).length = a at *
  have hgp : ∀ (x : Option (CRT × DKT)), gd (J p) 121 x = x := fun x => gd_J (by omega) (by omega)
  have hga : ∀ (x : Option (CRT × DKT)), gd (J a) 121 x = x := fun x => gd_J (by omega) (by omega)
  have hloop : lp (B_X0_keepContainer_56 (J (st (a_cs A) (p + 1))) c d (J p)) FU (J (st (a_cs A) p), cr_goesTo c, dk_codes d, dk_places d, J S0) = some (((cr_thin c), (fun x => if st (a_cs A) p ≤ x ∧ x < st (a_cs A) p + si (a_cs A) p then J (S0 + (x - st (a_cs A) p)) else cr_goesTo c x), (cr_waiting c), (cr_waitingCodes c), (cr_waitingCount c)), ((dk_settings d), (upd (dk_numbers d) a (J (nu (a_cs A) p))), (upd (dk_capacities d) a (J (ca (a_cs A) p))), (upd (dk_firsts d) a (J S0)), J (a + 1), (fun x => if S0 ≤ x ∧ x < S0 + si (a_cs A) p then dk_codes d (st (a_cs A) p + (x - S0)) else dk_codes d x), (fun x => if S0 ≤ x ∧ x < S0 + si (a_cs A) p then J a else dk_places d x), (dk_uses d), J (S0 + si (a_cs A) p), (dk_references d), (dk_lengths d), (dk_nextNumber d), (dk_carried d))) := by
    have e0 : (J (st (a_cs A) p), cr_goesTo c, dk_codes d, dk_places d, J S0) = (fun i => (J (st (a_cs A) p + i), (fun x => if st (a_cs A) p ≤ x ∧ x < st (a_cs A) p + i then J (S0 + (x - st (a_cs A) p)) else cr_goesTo c x), (fun x => if S0 ≤ x ∧ x < S0 + i then dk_codes d (st (a_cs A) p + (x - S0)) else dk_codes d x), (fun x => if S0 ≤ x ∧ x < S0 + i then J a else dk_places d x), J (S0 + i))) 0 := by
      show _ = (J (st (a_cs A) p), (fun x => if st (a_cs A) p ≤ x ∧ x < st (a_cs A) p + 0 then J (S0 + (x - st (a_cs A) p)) else cr_goesTo c x), (fun x => if S0 ≤ x ∧ x < S0 + 0 then dk_codes d (st (a_cs A) p + (x - S0)) else dk_codes d x), (fun x => if S0 ≤ x ∧ x < S0 + 0 then J a else dk_places d x), J S0)
      have f1 : (fun x => if st (a_cs A) p ≤ x ∧ x < st (a_cs A) p + 0 then J (S0 + (x - st (a_cs A) p)) else cr_goesTo c x) = cr_goesTo c := funext fun x => if_neg (by omega)
      have f2 : (fun x => if S0 ≤ x ∧ x < S0 + 0 then dk_codes d (st (a_cs A) p + (x - S0)) else dk_codes d x) = dk_codes d := funext fun x => if_neg (by omega)
      have f3 : (fun x => if S0 ≤ x ∧ x < S0 + 0 then J a else dk_places d x) = dk_places d := funext fun x => if_neg (by omega)
      rw [f1, f2, f3]
    rw [e0]
    refine lp_run (fun i => (J (st (a_cs A) p + i), (fun x => if st (a_cs A) p ≤ x ∧ x < st (a_cs A) p + i then J (S0 + (x - st (a_cs A) p)) else cr_goesTo c x), (fun x => if S0 ≤ x ∧ x < S0 + i then dk_codes d (st (a_cs A) p + (x - S0)) else dk_codes d x), (fun x => if S0 ≤ x ∧ x < S0 + i then J a else dk_places d x), J (S0 + i))) (si (a_cs A) p) (fun self i hi => ?_) (fun self => ?_) (by unfold FU; omega)
    · have u1 : upd (fun x => if st (a_cs A) p ≤ x ∧ x < st (a_cs A) p + i then J (S0 + (x - st (a_cs A) p)) else cr_goesTo c x) (st (a_cs A) p + i) (J (S0 + i)) = (fun x => if st (a_cs A) p ≤ x ∧ x < st (a_cs A) p + (i + 1) then J (S0 + (x - st (a_cs A) p)) else cr_goesTo c x) := by
        funext x
        by_cases q : x = st (a_cs A) p + i
        · rw [q, upd_self, if_pos (by omega), Nat.add_sub_cancel_left]
        · rw [upd_ne _ _ q]
          by_cases z : st (a_cs A) p ≤ x ∧ x < st (a_cs A) p + i
          · rw [if_pos z, if_pos (by omega)]
          · rw [if_neg z, if_neg (by omega)]
      have u2 : upd (fun x => if S0 ≤ x ∧ x < S0 + i then dk_codes d (st (a_cs A) p + (x - S0)) else dk_codes d x) (S0 + i) ((fun x => if S0 ≤ x ∧ x < S0 + i then dk_codes d (st (a_cs A) p + (x - S0)) else dk_codes d x) (st (a_cs A) p + i)) = (fun x => if S0 ≤ x ∧ x < S0 + (i + 1) then dk_codes d (st (a_cs A) p + (x - S0)) else dk_codes d x) := by
        funext x
        by_cases q : x = S0 + i
        · rw [q, upd_self, if_pos (show S0 ≤ S0 + i ∧ S0 + i < S0 + (i + 1) by omega), Nat.add_sub_cancel_left]
          show (if S0 ≤ st (a_cs A) p + i ∧ st (a_cs A) p + i < S0 + i then _ else _) = _
          rw [if_neg (by omega)]
        · rw [upd_ne _ _ q]
          by_cases z : S0 ≤ x ∧ x < S0 + i
          · rw [if_pos z, if_pos (by omega)]
          · rw [if_neg z, if_neg (by omega)]
      have u3 : upd (fun x => if S0 ≤ x ∧ x < S0 + i then J a else dk_places d x) (S0 + i) (J a) = (fun x => if S0 ≤ x ∧ x < S0 + (i + 1) then J a else dk_places d x) := by
        funext x
        by_cases q : x = S0 + i
        · rw [q, upd_self, if_pos (by omega)]
        · rw [upd_ne _ _ q]
          by_cases z : S0 ≤ x ∧ x < S0 + i
          · rw [if_pos z, if_pos (by omega)]
          · rw [if_neg z, if_neg (by omega)]
      unfold B_X0_keepContainer_56
      dsimp only
      rw [if_neg (show ¬ J (st (a_cs A) (p + 1)) ≤ J (st (a_cs A) p + i) by rw [st_step, J_le (by omega) (by omega)]; omega), gd_J (by omega) (by omega), gd_J (by omega) (by omega), gd_J (by omega) (by omega), gd_J (by omega) (by omega), J_nat (by omega), J_nat (by omega), r3, u1, u3, show J (st (a_cs A) p + i) + 1 = J (st (a_cs A) p + (i + 1)) from J_add _ 1, show J (S0 + i) + 1 = J (S0 + (i + 1)) from J_add _ 1]
      rw [show (if S0 ≤ st (a_cs A) p + i ∧ st (a_cs A) p + i < S0 + i then dk_codes d (st (a_cs A) p + (st (a_cs A) p + i - S0)) else dk_codes d (st (a_cs A) p + i)) = (fun x => if S0 ≤ x ∧ x < S0 + i then dk_codes d (st (a_cs A) p + (x - S0)) else dk_codes d x) (st (a_cs A) p + i) from rfl, u2]
    · unfold B_X0_keepContainer_56
      dsimp only
      rw [if_pos (show J (st (a_cs A) (p + 1)) ≤ J (st (a_cs A) p + si (a_cs A) p) by rw [st_step]; exact (J_le (by omega) (by omega)).mpr (Nat.le_refl _)), r3, J_nat (by omega), J_nat (by omega), k1, k2, r4, show J a + 1 = J (a + 1) from J_add _ 1]
  have hkeep := kl_keep (cs := a_cs A) hT
  have hlen1 : (kl T (a_cs A) (p + 1)).length = a + 1 := by rw [hkeep, List.length_append, ha]; rfl
  have hstk : ∀ j, j ≤ a → st (kl T (a_cs A) (p + 1)) j = st (kl T (a_cs A) p) j := fun j hj => st_ext fun k hk => by
    unfold si
    rw [hkeep, app_cn, ha, if_neg (by omega)]
  have hsi : si (kl T (a_cs A) (p + 1)) a = si (a_cs A) p ∧ nu (kl T (a_cs A) (p + 1)) a = nu (a_cs A) p ∧ ca (kl T (a_cs A) (p + 1)) a = ca (a_cs A) p ∧ ∀ i, ch (kl T (a_cs A) (p + 1)) a i = ch (a_cs A) p i := by
    unfold si nu ca ch
    rw [hkeep, app_cn, ha, if_pos rfl]
    exact ⟨rfl, rfl, rfl, fun _ => rfl⟩
  have hst1 : st (kl T (a_cs A) (p + 1)) (kl T (a_cs A) (p + 1)).length = S0 + si (a_cs A) p := by
    rw [hlen1, st_step, hstk a (Nat.le_refl _), hsi.1, hS0]
  refine ⟨((cr_thin c), (fun x => if st (a_cs A) p ≤ x ∧ x < st (a_cs A) p + si (a_cs A) p then J (S0 + (x - st (a_cs A) p)) else cr_goesTo c x), (cr_waiting c), (cr_waitingCodes c), (cr_waitingCount c)), ((dk_settings d), (upd (dk_numbers d) a (J (nu (a_cs A) p))), (upd (dk_capacities d) a (J (ca (a_cs A) p))), (upd (dk_firsts d) a (J S0)), J (a + 1), (fun x => if S0 ≤ x ∧ x < S0 + si (a_cs A) p then dk_codes d (st (a_cs A) p + (x - S0)) else dk_codes d x), (fun x => if S0 ≤ x ∧ x < S0 + si (a_cs A) p then J a else dk_places d x), (dk_uses d), J (S0 + si (a_cs A) p), (dk_references d), (dk_lengths d), (dk_nextNumber d), (dk_carried d)), ?_, ⟨⟨r1, r2, by rw [hlen1]; rfl, by rw [hst1]; rfl, fun j hj => ?_, fun e he => ?_⟩, fun k hk1 hk2 => ?_, fun e he1 he2 => ?_, i4, i5, i6, fun e he hTe => ?_⟩, rfl, rfl, rfl, rfl⟩
  · unfold F_X0_keepContainer
    rw [r3, r4, hgp, hga, hgp, hga, hga]
    exact hloop
  · rw [hlen1] at hj
    show upd (dk_numbers d) a (J (nu (a_cs A) p)) j = J (nu (kl T (a_cs A) (p + 1)) j) ∧ upd (dk_capacities d) a (J (ca (a_cs A) p)) j = J (ca (kl T (a_cs A) (p + 1)) j) ∧ upd (dk_firsts d) a (J S0) j = J (st (kl T (a_cs A) (p + 1)) j)
    by_cases q : j = a
    · rw [q, upd_self, upd_self, upd_self, hsi.2.1, hsi.2.2.1, hstk a (Nat.le_refl _), hS0]
      exact ⟨rfl, rfl, rfl⟩
    · obtain ⟨x1, x2, x3⟩ := r5 j (by omega)
      have e1 : nu (kl T (a_cs A) (p + 1)) j = nu (kl T (a_cs A) p) j ∧ ca (kl T (a_cs A) (p + 1)) j = ca (kl T (a_cs A) p) j := by
        unfold nu ca
        rw [hkeep, app_cn, ha, if_neg q]
        exact ⟨rfl, rfl⟩
      rw [upd_ne _ _ q, upd_ne _ _ q, upd_ne _ _ q, e1.1, e1.2, hstk j (by omega)]
      exact ⟨x1, x2, x3⟩
  · rw [hst1] at he
    show (if S0 ≤ e ∧ e < S0 + si (a_cs A) p then dk_codes d (st (a_cs A) p + (e - S0)) else dk_codes d e) = J (c8 (cf (kl T (a_cs A) (p + 1)) e)) ∧ (if S0 ≤ e ∧ e < S0 + si (a_cs A) p then J a else dk_places d e) = J (kpl (kl T (a_cs A) (p + 1)) e)
    by_cases q : S0 ≤ e
    · have hx := cf_at (cs := kl T (a_cs A) (p + 1)) (k := a) (i := e - S0) (by omega) (by rw [hsi.1]; omega)
      have hy := kpl_at (cs := kl T (a_cs A) (p + 1)) (k := a) (i := e - S0) (by omega) (by rw [hsi.1]; omega)
      rw [hstk a (Nat.le_refl _), hS0, show S0 + (e - S0) = e by omega] at hx hy
      rw [if_pos (by omega), if_pos (by omega), hx, hy, hsi.2.2.2, i3 _ (by omega) (by omega), cf_at hp (by omega)]
      exact ⟨rfl, rfl⟩
    · have he2 : e < st (kl T (a_cs A) p) (kl T (a_cs A) p).length := by rw [ha, hS0]; omega
      obtain ⟨y1, y2, y3⟩ := kpl_lt he2
      rw [ha] at y1
      have e1 : si (kl T (a_cs A) (p + 1)) (kpl (kl T (a_cs A) p) e) = si (kl T (a_cs A) p) (kpl (kl T (a_cs A) p) e) ∧ ∀ i, ch (kl T (a_cs A) (p + 1)) (kpl (kl T (a_cs A) p) e) i = ch (kl T (a_cs A) p) (kpl (kl T (a_cs A) p) e) i := by
        unfold si ch
        rw [hkeep, app_cn, ha, if_neg (by omega)]
        exact ⟨rfl, fun _ => rfl⟩
      have hx := cf_at (cs := kl T (a_cs A) (p + 1)) (k := kpl (kl T (a_cs A) p) e) (i := e - st (kl T (a_cs A) p) (kpl (kl T (a_cs A) p) e)) (by omega) (by rw [e1.1]; exact y3)
      have hy := kpl_at (cs := kl T (a_cs A) (p + 1)) (k := kpl (kl T (a_cs A) p) e) (i := e - st (kl T (a_cs A) p) (kpl (kl T (a_cs A) p) e)) (by omega) (by rw [e1.1]; exact y3)
      rw [hstk _ (by omega), show st (kl T (a_cs A) p) (kpl (kl T (a_cs A) p) e) + (e - st (kl T (a_cs A) p) (kpl (kl T (a_cs A) p) e)) = e by omega] at hx hy
      rw [if_neg (by omega), if_neg (by omega), hx, hy, e1.2]
      exact r6 e (by omega)
  · obtain ⟨x1, x2, x3⟩ := i2 k (by omega) hk2
    show upd (dk_numbers d) a (J (nu (a_cs A) p)) k = _ ∧ upd (dk_capacities d) a (J (ca (a_cs A) p)) k = _ ∧ upd (dk_firsts d) a (J S0) k = _
    rw [upd_ne _ _ (by omega), upd_ne _ _ (by omega), upd_ne _ _ (by omega)]
    exact ⟨x1, x2, x3⟩
  · rw [st_step] at he1
    show (if S0 ≤ e ∧ e < S0 + si (a_cs A) p then dk_codes d (st (a_cs A) p + (e - S0)) else dk_codes d e) = _
    rw [if_neg (by omega)]
    exact i3 e (by omega) he2
  · rw [st_step] at he
    show (if st (a_cs A) p ≤ e ∧ e < st (a_cs A) p + si (a_cs A) p then J (S0 + (e - st (a_cs A) p)) else cr_goesTo c e) = _
    by_cases q : st (a_cs A) p ≤ e
    · have hkp : kpl (a_cs A) e = p := by
        have := kpl_at hp (i := e - st (a_cs A) p) (by omega)
        rw [show st (a_cs A) p + (e - st (a_cs A) p) = e by omega] at this
        exact this
      rw [if_pos (by omega), hkp, hst]
    · rw [if_neg (by omega)]
      exact i7 e (by omega) hTe
