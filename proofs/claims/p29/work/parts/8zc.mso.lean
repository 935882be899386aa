/-! THE PURE SIDE: the Model carries forward, one container after the other: its containers in between -/
theorem ap_cn (P X : List Ct) (k : Nat) : cn (P ++ X) k = if k < P.length then cn P k else cn X (k - P.length) := by
  unfold cn
  rw [List.getElem?_append]
  by_cases q : k < P.length
  · rw [if_pos q, if_pos q]
  · rw [if_neg q, if_neg q]
theorem ap_last {P X : List Ct} (h : X ≠ []) : (P ++ X).length - 1 = P.length + (X.length - 1) ∧ cn (P ++ X) ((P ++ X).length - 1) = cn X (X.length - 1) := by
  have h0 : 0 < X.length := List.length_pos_iff.mpr h
  have e : (P ++ X).length - 1 = P.length + (X.length - 1) := by rw [List.length_append]; omega
  refine ⟨e, ?_⟩
  rw [e, ap_cn, if_neg (by omega), Nat.add_sub_cancel_left]
theorem room_ap {P X : List Ct} (h : X ≠ []) : room (P ++ X) ↔ room X := by
  have h0 : 0 < X.length := List.length_pos_iff.mpr h
  obtain ⟨e1, e2⟩ := ap_last (P := P) h
  unfold room si ca
  rw [e2, List.length_append]
  exact ⟨fun z => ⟨h0, z.2⟩, fun z => ⟨by omega, z.2⟩⟩
theorem put_ap {cap nx : Nat} {P X : List Ct} {l : List Nat} (h : X ≠ []) : put cap (P ++ X) nx l = P ++ put cap X nx l ∧ putn (P ++ X) nx = putn X nx := by
  obtain ⟨e1, e2⟩ := ap_last (P := P) h
  by_cases r : room X
  · have r2 := (room_ap (P := P) h).mpr r
    rw [(put_yes r2).1, (put_yes (cap := cap) (l := l) r2).2, (put_yes r).1, (put_yes (cap := cap) (l := l) r).2]
    refine ⟨?_, rfl⟩
    unfold upl nu ca
    rw [e2, e1, List.set_append_right _ _ (by omega), Nat.add_sub_cancel_left]
  · have r2 : ¬ room (P ++ X) := fun z => r ((room_ap h).mp z)
    rw [(put_no r2).1, (put_no (cap := cap) (l := l) r2).2, (put_no r).1, (put_no (cap := cap) (l := l) r).2, List.append_assoc]
    exact ⟨rfl, rfl⟩
theorem pw_ne {cap nx : Nat} {g : Nat → List Nat} {X : List Ct} (h : X ≠ []) : ∀ w, (pw cap g X nx w).1 ≠ [] := by
  intro w
  induction w with
  | zero => exact h
  | succ w ih =>
    have := (put_len (cap := cap) (nx := (pw cap g X nx w).2) (cs := (pw cap g X nx w).1) (l := g w)).2.2
    rw [pw_step]
    exact List.length_pos_iff.mp this
theorem pw_ap {cap nx : Nat} {g : Nat → List Nat} {P X : List Ct} (h : X ≠ []) : ∀ w, pw cap g (P ++ X) nx w = (P ++ (pw cap g X nx w).1, (pw cap g X nx w).2) := by
  intro w
  induction w with
  | zero => rfl
  | succ w ih =>
    obtain ⟨p1, p2⟩ := put_ap (cap := cap) (nx := (pw cap g X nx w).2) (P := P) (l := g w) (pw_ne (cap := cap) (nx := nx) (g := g) h w)
    rw [pw_step, ih, pw_step]
    exact Prod.ext p1 p2
/-- m containers from the place k on -/
def tlc (cs : List Ct) (k : Nat) : Nat → List Ct
  | 0 => []
  | m + 1 => tlc cs k m ++ [cn cs (k + m)]
theorem tlc_len (cs : List Ct) (k : Nat) : ∀ m, (tlc cs k m).length = m := by
  intro m
  induction m with
  | zero => rfl
  | succ m ih =>
    show (tlc cs k m ++ [_]).length = _
    rw [List.length_append, ih]
    rfl
theorem tlc_front (cs : List Ct) (k : Nat) : ∀ m, tlc cs k (m + 1) = [cn cs k] ++ tlc cs (k + 1) m := by
  intro m
  induction m with
  | zero => rfl
  | succ m ih =>
    show tlc cs k (m + 1) ++ [cn cs (k + (m + 1))] = [cn cs k] ++ (tlc cs (k + 1) m ++ [cn cs (k + 1 + m)])
    rw [ih, List.append_assoc, show k + (m + 1) = k + 1 + m by omega]
theorem tlc_take (cs : List Ct) : ∀ m, m ≤ cs.length → tlc cs 0 m = cs.take m := by
  intro m
  induction m with
  | zero => intro _; rfl
  | succ m ih =>
    intro hm
    show tlc cs 0 m ++ [cn cs (0 + m)] = _
    rw [ih (by omega), List.take_succ, Nat.zero_add]
    unfold cn
    rw [List.getElem?_eq_getElem (show m < cs.length by omega)]
    rfl
theorem tlc_ne {cs : List Ct} {k m : Nat} (h : 0 < m) : tlc cs k m ≠ [] := List.length_pos_iff.mp (by rw [tlc_len]; exact h)
/-- the Model's containers when those below k are done and w ones are put away -/
noncomputable def ms (T : Nat → Bool) (A : AT) (k w : Nat) : List Ct × Nat := (kl T (a_cs A) k ++ (pw (a_se A 1) (fun w => cf (a_cs A) (wn T A w)) (tlc (a_cs A) k ((a_cs A).length - k)) (a_nx A) w).1, (pw (a_se A 1) (fun w => cf (a_cs A) (wn T A w)) (tlc (a_cs A) k ((a_cs A).length - k)) (a_nx A) w).2)
theorem ms_pw {T : Nat → Bool} {A : AT} {k w : Nat} (hk : k < (a_cs A).length) : ms T A k w = pw (a_se A 1) (fun w => cf (a_cs A) (wn T A w)) (kl T (a_cs A) k ++ tlc (a_cs A) k ((a_cs A).length - k)) (a_nx A) w :=
  (pw_ap (tlc_ne (by omega)) w).symm
theorem ms_put {T : Nat → Bool} {A : AT} {k w : Nat} (hk : k < (a_cs A).length) : ms T A k (w + 1) = (put (a_se A 1) (ms T A k w).1 (ms T A k w).2 (cf (a_cs A) (wn T A w)), putn (ms T A k w).1 (ms T A k w).2) := by
  rw [ms_pw hk, ms_pw hk, pw_step]
theorem ms_0 {T : Nat → Bool} {A : AT} : ms T A 0 0 = (a_cs A, a_nx A) := by
  show ([] ++ tlc (a_cs A) 0 ((a_cs A).length - 0), a_nx A) = _
  rw [List.nil_append, Nat.sub_zero, tlc_take _ _ (Nat.le_refl _), List.take_length]
theorem ms_keep {T : Nat → Bool} {A : AT} {k w : Nat} (hk : k + 1 < (a_cs A).length) (hT : T k = false) : ms T A (k + 1) w = ms T A k w := by
  rw [ms_pw hk, ms_pw (by omega), kl_keep hT, show (a_cs A).length - k = ((a_cs A).length - (k + 1)) + 1 by omega, tlc_front, List.append_assoc]
theorem ms_drop {T : Nat → Bool} {A : AT} {k w : Nat} (hk : k + 1 < (a_cs A).length) (hT : T k = true) : (ms T A k w).1.eraseIdx (kl T (a_cs A) k).length = (ms T A (k + 1) w).1 ∧ (ms T A k w).2 = (ms T A (k + 1) w).2 := by
  have h1 : ms T A k w = (kl T (a_cs A) k ++ ([cn (a_cs A) k] ++ (pw (a_se A 1) (fun w => cf (a_cs A) (wn T A w)) (tlc (a_cs A) (k + 1) ((a_cs A).length - (k + 1))) (a_nx A) w).1), (pw (a_se A 1) (fun w => cf (a_cs A) (wn T A w)) (tlc (a_cs A) (k + 1) ((a_cs A).length - (k + 1))) (a_nx A) w).2) := by
    unfold ms
    rw [show (a_cs A).length - k = ((a_cs A).length - (k + 1)) + 1 by omega, tlc_front, pw_ap (tlc_ne (by omega))]
  rw [h1]
  unfold ms
  rw [kl_thin hT]
  refine ⟨?_, rfl⟩
  rw [List.eraseIdx_append_of_length_le (Nat.le_refl _), Nat.sub_self]
  rfl
theorem ms_end {T : Nat → Bool} {A : AT} {k w : Nat} (hk : k + 1 = (a_cs A).length) (hT : T k = false) : ms T A k w = wp T A w := by
  rw [ms_pw (by omega)]
  unfold wp
  rw [← hk, Nat.add_sub_cancel_left, kl_keep hT]
  rfl
/-- the containers of place k is where it should be -/
theorem ms_at {T : Nat → Bool} {A : AT} {k w : Nat} (hk : k + 1 < (a_cs A).length) : (kl T (a_cs A) k).length < (ms T A k w).1.length ∧ cn (ms T A k w).1 (kl T (a_cs A) k).length = cn (a_cs A) k := by
  have h1 : ms T A k w = (kl T (a_cs A) k ++ ([cn (a_cs A) k] ++ (pw (a_se A 1) (fun w => cf (a_cs A) (wn T A w)) (tlc (a_cs A) (k + 1) ((a_cs A).length - (k + 1))) (a_nx A) w).1), (pw (a_se A 1) (fun w => cf (a_cs A) (wn T A w)) (tlc (a_cs A) (k + 1) ((a_cs A).length - (k + 1))) (a_nx A) w).2) := by
    unfold ms
    rw [show (a_cs A).length - k = ((a_cs A).length - (k + 1)) + 1 by omega, tlc_front, pw_ap (tlc_ne (by omega))]
  rw [h1]
  show (kl T (a_cs A) k).length < (kl T (a_cs A) k ++ ([cn (a_cs A) k] ++ _)).length ∧ cn (kl T (a_cs A) k ++ ([cn (a_cs A) k] ++ _)) _ = _
  rw [ap_cn, if_neg (by omega), Nat.sub_self]
  refine ⟨?_, rfl⟩
  rw [List.length_append, List.length_append]
  show _ < _ + (1 + _)
  omega
