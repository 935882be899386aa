/-! THE PURE SIDE: the invariant of a run -/
/-- a state: settings, next number, carried, containers, backups -/
abbrev AT : Type := (Nat → Nat) × Nat × Int32 × List Ct × (Nat → List (Nat × Nat))
def a_se (A : AT) : Nat → Nat := A.1
def a_nx (A : AT) : Nat := A.2.1
def a_ca (A : AT) : Int32 := A.2.2.1
def a_cs (A : AT) : List Ct := A.2.2.2.1
def a_bs (A : AT) : Nat → List (Nat × Nat) := A.2.2.2.2
def DR (d : DKT) (A : AT) : Prop := RDc d (a_se A) (a_nx A) (a_cs A) ∧ RDb d (a_cs A) (a_bs A) ∧ RDu d (a_cs A) (a_bs A) ∧ dk_carried d = a_ca A
def MR (s : Nat → Int32) (A : AT) : Prop := RMc s (a_se A) (a_nx A) (a_cs A) ∧ RMb s (a_bs A) ∧ s 6 = a_ca A
/-- the entries that count: living ones of containers below g, all of others -/
def wg (g : Nat) (cs : List Ct) (bs : Nat → List (Nat × Nat)) (k : Nat) : Nat := if nu cs k < g then lv cs bs 8 k else si cs k
def BI (cs : List Ct) (bs : Nat → List (Nat × Nat)) : Prop := ∃ g, cp (fun k => decide (nu cs k < g)) cs.length ≤ 24 ∧ (∀ k, k + 1 < cs.length → g ≤ nu cs k → 2 ≤ si cs k) ∧ sm (wg g cs bs) cs.length ≤ 120
def WF (A : AT) (n : Nat) : Prop := Wc (a_cs A) (a_nx A) ∧ Wb (a_cs A) (a_bs A) ∧ Ws (a_se A) ∧ BI (a_cs A) (a_bs A) ∧ st (a_cs A) (a_cs A).length ≤ 192 ∧ a_nx A ≤ 120 * n
theorem BI_len {cs : List Ct} {bs : Nat → List (Nat × Nat)} {nx : Nat} (hW : Wc cs nx) (h : BI cs bs) : cs.length ≤ 84 := by
  obtain ⟨g, h1, h2, h3⟩ := h
  have key : ∀ m, m < cs.length → 2 * m ≤ 2 * cp (fun k => decide (nu cs k < g)) m + sm (wg g cs bs) m := by
    intro m
    induction m with
    | zero => intro _; omega
    | succ m ih =>
      intro hm
      have i1 := ih (by omega)
      rw [cp_step, sm_step]
      by_cases q : nu cs m < g
      · rw [if_pos (decide_eq_true q)]; omega
      · have i2 := h2 m hm (by omega)
        have i3 : wg g cs bs m = si cs m := by unfold wg; rw [if_neg q]
        omega
  by_cases z : cs.length = 0
  · omega
  · have k1 := key (cs.length - 1) (by omega)
    have k2 := hW.2.1 (cs.length - 1) (by omega)
    have e1 : cs.length = (cs.length - 1) + 1 := by omega
    have h1' := h1
    have h3' := h3
    rw [e1, cp_step] at h1'
    rw [e1, sm_step] at h3'
    by_cases q : nu cs (cs.length - 1) < g
    · rw [if_pos (decide_eq_true q)] at h1'; omega
    · have i3 : wg g cs bs (cs.length - 1) = si cs (cs.length - 1) := by unfold wg; rw [if_neg q]
      have k3 := k2.1
      omega
theorem WF_Wn {A : AT} {n : Nat} (h : WF A n) : Wn (a_cs A) := ⟨by have := BI_len h.1 h.2.2.2.1; omega, h.2.2.2.2.1⟩
theorem WF_len {A : AT} {n : Nat} (h : WF A n) : (a_cs A).length ≤ 84 := BI_len h.1 h.2.2.2.1
theorem WF_mono {A : AT} {n m : Nat} (h : WF A n) (hm : n ≤ m) : WF A m := ⟨h.1, h.2.1, h.2.2.1, h.2.2.2.1, h.2.2.2.2.1, by have := h.2.2.2.2.2; omega⟩
theorem MR_congr {s s' : Nat → Int32} {A : AT} {n : Nat} (hW : WF A n) (h : MR s A) (he : ∀ k, k < 1270 → s' k = s k) : MR s' A := by
  obtain ⟨⟨r1, r2, r3, r4⟩, r5, r6⟩ := h
  have hl := WF_len hW
  refine ⟨⟨fun i hi => by rw [he i (by omega)]; exact r1 i hi, by rw [he 5 (by omega)]; exact r2, by rw [he 7 (by omega)]; exact r3, fun k hk => ?_⟩, fun b hb => ?_, by rw [he 6 (by omega)]; exact r6⟩
  · obtain ⟨g1, g2, g3, g4⟩ := r4 k hk
    obtain ⟨w1, w2, w3, w4, w5, w6⟩ := hW.1.2.1 k hk
    exact ⟨by rw [he _ (by omega)]; exact g1, by rw [he _ (by omega)]; exact g2, by rw [he _ (by omega)]; exact g3, fun i hi => by rw [he _ (by omega)]; exact g4 i hi⟩
  · obtain ⟨g1, g2, g3⟩ := r5 b hb
    obtain ⟨v1, v2⟩ := hW.2.1 b hb
    exact ⟨by rw [he _ (by omega)]; exact g1, by rw [he _ (by omega)]; exact g2, fun i hi => by rw [he _ (by omega), he _ (by omega)]; exact g3 i hi⟩
/-- the remembered states, oldest first -/
def PR (pa : PAT) (sv : Nat → Int32) (k : Int32) (H : List AT) : Prop := H.length ≤ 14 ∧ pa_count pa = J H.length ∧ k = J H.length ∧ (∃ o, o < 14 ∧ pa_oldest pa = J o ∧ ∀ i A, H[i]? = some A → pa_has pa ((o + i) % 14) = true ∧ DR (pa_ds pa ((o + i) % 14)) A) ∧ ∀ i A, H[i]? = some A → MR (fun k => sv (1270 * i + k)) A
def SR (sv : SVT) (sl hs : Nat → Int32) (Sl : Nat → Option AT) : Prop := ∀ i, i < 2 → (Sl i = none → sv.1 i = false ∧ hs i = J 0) ∧ ∀ A, Sl i = some A → sv.1 i = true ∧ hs i = J 1 ∧ DR (sv.2 i) A ∧ MR (fun k => sl (1270 * i + k)) A
def Inv (n : Nat) (st : STT) : Prop := ∃ (A : AT) (H : List AT) (Sl : Nat → Option AT), TI (S_tx st) (md_text (S_md st)) (md_length (S_md st)) ∧ DR (S_desk st) A ∧ MR (md_s (S_md st)) A ∧ WF A n ∧ PR (S_past st) (md_saved (S_md st)) (md_savedMany (S_md st)) H ∧ (∀ h ∈ H, WF h n) ∧ SR (S_saved st) (md_slots (S_md st)) (md_hasSlot (S_md st)) Sl ∧ ∀ i h, i < 2 → Sl i = some h → WF h n
/-- a call that changes none of this -/
def SE (st st' : STT) : Prop := S_tx st' = S_tx st ∧ S_desk st' = S_desk st ∧ S_past st' = S_past st ∧ S_saved st' = S_saved st ∧ (∀ k, k < 1270 → md_s (S_md st') k = md_s (S_md st) k) ∧ md_saved (S_md st') = md_saved (S_md st) ∧ md_savedMany (S_md st') = md_savedMany (S_md st) ∧ md_slots (S_md st') = md_slots (S_md st) ∧ md_hasSlot (S_md st') = md_hasSlot (S_md st) ∧ md_text (S_md st') = md_text (S_md st) ∧ md_length (S_md st') = md_length (S_md st)
theorem Inv_SE {n : Nat} {st st' : STT} (h : Inv n st) (he : SE st st') : Inv (n + 1) st' := by
  obtain ⟨A, H, Sl, h1, h2, h3, h4, h5, h6, h7, h8⟩ := h
  obtain ⟨e1, e2, e3, e4, e5, e6, e7, e8, e9, e10, e11⟩ := he
  refine ⟨A, H, Sl, by rw [e1, e10, e11]; exact h1, by rw [e2]; exact h2, MR_congr h4 h3 e5, WF_mono h4 (by omega), by rw [e3, e6, e7]; exact h5, fun h hh => WF_mono (h6 h hh) (by omega), by rw [e4, e8, e9]; exact h7, fun i h hi hh => WF_mono (h8 i h hi hh) (by omega)⟩
theorem Inv_TI {n : Nat} {st st' : STT} (h : Inv n st) (ht : TI (S_tx st') (md_text (S_md st')) (md_length (S_md st'))) (he : SD st st') : Inv (n + 1) st' := by
  obtain ⟨A, H, Sl, h1, h2, h3, h4, h5, h6, h7, h8⟩ := h
  obtain ⟨e1, e2, e3, e4, e5, e6, e7, e8, e9⟩ := he
  exact ⟨A, H, Sl, ht, by rw [e1]; exact h2, by rw [e4]; exact h3, WF_mono h4 (by omega), by rw [e2, e6, e7]; exact h5, fun h hh => WF_mono (h6 h hh) (by omega), by rw [e3, e8, e9]; exact h7, fun i h hi hh => WF_mono (h8 i h hi hh) (by omega)⟩
theorem i_append {n : Nat} {st : STT} {q1 q2 q3 : Int32} (h : Inv n st) : ∃ st', F_T_append st q1 q2 q3 = some st' ∧ Inv (n + 1) st' := by
  obtain ⟨st', h1, h2, h3⟩ := a_append (q1 := q1) (q2 := q2) (q3 := q3) h.choose_spec.choose_spec.choose_spec.1
  exact ⟨st', h1, Inv_TI h h2 h3⟩
theorem i_clearText {n : Nat} {st : STT} {q1 q2 q3 : Int32} (h : Inv n st) : ∃ st', F_T_clearText st q1 q2 q3 = some st' ∧ Inv (n + 1) st' := by
  obtain ⟨st', h1, h2, h3⟩ := a_clearText (q1 := q1) (q2 := q2) (q3 := q3) h.choose_spec.choose_spec.choose_spec.1
  exact ⟨st', h1, Inv_TI h h2 h3⟩
theorem i_errorPosition {n : Nat} {st : STT} {q1 q2 q3 : Int32} (h : Inv n st) : ∃ st', F_T_errorPosition st q1 q2 q3 = some st' ∧ Inv (n + 1) st' := by
  obtain ⟨st', h1, h2, h3⟩ := a_errorPosition (q1 := q1) (q2 := q2) (q3 := q3) h.choose_spec.choose_spec.choose_spec.1
  exact ⟨st', h1, Inv_TI h h2 h3⟩
theorem neg_toInt {q : Int32} (h : q < 0) : q.toInt < 0 := Int32.lt_iff_toInt_lt.mp h
/-- a number is below 0, or small -/
theorem J_cases (q : Int32) : q < 0 ∨ ∃ k, k < 2 ^ 31 ∧ q = J k := by
  by_cases h : q < 0
  · exact Or.inl h
  · exact Or.inr (J_of h)
theorem in_neg {q : Int32} (h : q < 0) (b : Int32) : F_X9_in q 0 b = some (J 0) := by
  unfold F_X9_in
  rw [if_pos h]
  rfl
theorem in_nn {k a b : Nat} (hk : k < 2 ^ 31) (ha : a < 2 ^ 31) (hb : b < 2 ^ 31) : F_X9_in (J k) (J a) (J b) = some (J (if a ≤ k ∧ k ≤ b then 1 else 0)) := by
  rw [in_J hk ha hb]
  split <;> rfl
