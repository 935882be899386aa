/-! WORLDS OF SEVERAL PARTS: a list of parts, joined -/
def kflat : List va_W → va_W
  | [] => []
  | [w] => w
  | w :: v :: ws => w ++ kflat (v :: ws)
theorem kflat_eq : ∀ L : List va_W, kflat L = L.flatten
  | [] => rfl
  | [w] => by simp [kflat]
  | w :: v :: ws => by rw [kflat, kflat_eq (v :: ws)]; rfl
theorem kP_iff {D : va_G} {cl : List vw_C} {ws : va_W} {H : Heap} : va_P D cl ws H ↔ ∀ q ∈ ws, va_at D cl q H := ⟨fun h q hq => by obtain ⟨k, hk⟩ := List.getElem?_of_mem hq; exact h k q hk, fun h k q hk => h q (List.mem_of_getElem? hk)⟩
theorem kD_iff {A : Nat → Prop} {ws : va_W} : va_D A ws ↔ (ws.map Prod.fst).Nodup ∧ ∀ q ∈ ws, A q.1 := by
  constructor
  · intro h
    refine ⟨?_, fun q hq => by obtain ⟨k, hk⟩ := List.getElem?_of_mem hq; exact h.2 k q hk⟩
    rw [List.nodup_iff_pairwise_ne, List.pairwise_iff_getElem]
    intro i j hi hj hij he
    rw [List.length_map] at hi hj
    rw [List.getElem_map, List.getElem_map] at he
    have := h.1 i j _ _ (List.getElem?_eq_getElem hi) (List.getElem?_eq_getElem hj) he
    omega
  · rintro ⟨h1, h2⟩
    refine ⟨fun i j p q hi hj hpq => ?_, fun k q hk => h2 q (List.mem_of_getElem? hk)⟩
    have li := (List.getElem?_eq_some_iff.mp hi).1
    refine (List.getElem?_inj (l := ws.map Prod.fst) (by rw [List.length_map]; exact li) h1).mp ?_
    rw [List.getElem?_map, List.getElem?_map, hi, hj]
    exact congrArg some hpq
theorem kA_iff {ws : va_W} {sz q : Nat} : va_A ws sz q ↔ q ∈ ws.map Prod.fst ∨ sz ≤ q := by
  constructor
  · rintro (⟨k, e, h⟩ | h)
    · exact Or.inl (List.mem_map.mpr ⟨(q, e), List.mem_of_getElem? h, rfl⟩)
    · exact Or.inr h
  · rintro (h | h)
    · obtain ⟨⟨q', e⟩, h1, h2⟩ := List.mem_map.mp h
      obtain ⟨k, hk⟩ := List.getElem?_of_mem h1
      cases h2
      exact Or.inl ⟨k, e, hk⟩
    · exact Or.inr h
/-- the parts that a call doesn't take -/
def krem (is : List Nat) (L : List va_W) : List va_W := ((List.range L.length).filter (fun i => decide (i ∉ is))).filterMap (fun i => L[i]?)
theorem klist {α : Type} (L : List α) : (List.range L.length).filterMap (fun i => L[i]?) = L := by
  induction L with
  | nil => rfl
  | cons a L ih =>
    rw [List.length_cons, List.range_succ_eq_map, List.filterMap_cons, List.filterMap_map]
    show a :: _ = _
    congr 1
theorem kfm {α β : Type} {f : α → Option β} {is : List α} {cs : List β} (h : is.map f = cs.map some) : is.filterMap f = cs := by
  induction is generalizing cs with
  | nil => cases cs with
    | nil => rfl
    | cons c cs => simp at h
  | cons i is ih =>
    cases cs with
    | nil => simp at h
    | cons c cs =>
      simp only [List.map_cons, List.cons.injEq] at h
      rw [List.filterMap_cons, h.1]
      show c :: _ = _
      rw [ih h.2]
theorem kperm {L cs : List va_W} {is : List Nat} (hn : is.Nodup) (hC : is.map (fun i => L[i]?) = cs.map some) : L.Perm (cs ++ krem is L) := by
  have hb : ∀ i ∈ is, i < L.length := fun i hi => by
    have h1 : L[i]? ∈ is.map (fun i => L[i]?) := List.mem_map.mpr ⟨i, hi, rfl⟩
    rw [hC] at h1
    obtain ⟨c, -, hc⟩ := List.mem_map.mp h1
    exact (List.getElem?_eq_some_iff.mp hc.symm).1
  have hp : (List.range L.length).Perm (is ++ (List.range L.length).filter (fun i => decide (i ∉ is))) := by
    refine (List.perm_ext_iff_of_nodup List.nodup_range ?_).mpr ?_
    · refine List.nodup_append.mpr ⟨hn, List.nodup_range.filter _, ?_⟩
      intro a ha b hb2 hab
      subst hab
      simp only [List.mem_filter, decide_eq_true_eq] at hb2
      exact hb2.2 ha
    · intro a
      simp only [List.mem_append, List.mem_filter, List.mem_range, decide_eq_true_eq]
      constructor
      · intro h
        by_cases ha : a ∈ is
        · exact Or.inl ha
        · exact Or.inr ⟨h, ha⟩
      · rintro (h | h)
        · exact hb a h
        · exact h.1
  have h2 := hp.filterMap (fun i => L[i]?)
  rw [klist, List.filterMap_append, kfm hC] at h2
  exact h2
theorem kfmc {α β : Type} {f g : α → Option β} {l : List α} (h : ∀ a ∈ l, f a = g a) : l.filterMap f = l.filterMap g := by
  induction l with
  | nil => rfl
  | cons a l ih => rw [List.filterMap_cons, List.filterMap_cons, h a List.mem_cons_self, ih fun b hb => h b (List.mem_cons_of_mem _ hb)]
def kputL : List va_W → List Nat → List va_W → List va_W
  | W, i :: is, q :: w1 => kputL (W.set i q) is w1
  | W, [], _ => W
  | W, _ :: _, [] => W
theorem kputL_len : ∀ (is : List Nat) (w1 W : List va_W), (kputL W is w1).length = W.length := by
  intro is
  induction is with
  | nil => intro w1 W; simp only [kputL]
  | cons a is ih =>
    intro w1 W
    cases w1 with
    | nil => simp only [kputL]
    | cons q w1 => simp only [kputL]; rw [ih, List.length_set]
theorem kputL_spec : ∀ (is : List Nat) (w1 W : List va_W), is.Nodup → is.length = w1.length → (∀ i ∈ is, i < W.length) → (∀ i : Nat, i ∉ is → (kputL W is w1)[i]? = W[i]?) ∧ is.map (fun i => (kputL W is w1)[i]?) = w1.map some := by
  intro is
  induction is with
  | nil =>
    intro w1 W _ hl _
    cases w1 with
    | nil => exact ⟨fun i _ => by simp only [kputL], rfl⟩
    | cons q w1 => simp at hl
  | cons a is ih =>
    intro w1 W hn hl hb
    cases w1 with
    | nil => simp at hl
    | cons q w1 =>
      obtain ⟨h1, h2⟩ := ih w1 (W.set a q) (List.nodup_cons.mp hn).2 (by simpa using hl) (fun i hi => by rw [List.length_set]; exact hb i (List.mem_cons_of_mem _ hi))
      refine ⟨fun i hi => ?_, ?_⟩
      · have hi1 : i ∉ is := fun h => hi (List.mem_cons_of_mem _ h)
        have hia : a ≠ i := fun h => hi (by rw [h]; exact List.mem_cons_self)
        show (kputL (W.set a q) is w1)[i]? = _
        rw [h1 i hi1, List.getElem?_set_ne hia]
      · show (kputL (W.set a q) is w1)[a]? :: is.map (fun i => (kputL (W.set a q) is w1)[i]?) = some q :: w1.map some
        rw [h2, h1 a (List.nodup_cons.mp hn).1, List.getElem?_set_self (hb a List.mem_cons_self)]
theorem krem_put {is : List Nat} {w1 L : List va_W} (hn : is.Nodup) (hl : is.length = w1.length) (hb : ∀ i ∈ is, i < L.length) : krem is (kputL L is w1) = krem is L := by
  unfold krem
  rw [kputL_len]
  refine kfmc ?_
  intro i hi
  simp only [List.mem_filter, decide_eq_true_eq] at hi
  exact (kputL_spec is w1 L hn hl hb).1 i hi.2
section KJ
variable {A0 : Nat → Prop} {D : va_G} {cl : List vw_C} {L cs cs' : List va_W} {H H1 : Heap} {is : List Nat}
theorem kbound (hC : is.map (fun i => L[i]?) = cs.map some) : ∀ i ∈ is, i < L.length := fun i hi => by
  have h1 : L[i]? ∈ is.map (fun i => L[i]?) := List.mem_map.mpr ⟨i, hi, rfl⟩
  rw [hC] at h1
  obtain ⟨c, -, hc⟩ := List.mem_map.mp h1
  exact (List.getElem?_eq_some_iff.mp hc.symm).1
theorem kflat_perm (hn : is.Nodup) (hC : is.map (fun i => L[i]?) = cs.map some) : (kflat L).Perm (kflat cs ++ (krem is L).flatten) := by
  rw [kflat_eq, kflat_eq, ← List.flatten_append]
  exact (kperm hn hC).flatten
theorem kpreP (hP : va_P D cl (kflat L) H) (hn : is.Nodup) (hC : is.map (fun i => L[i]?) = cs.map some) : va_P D cl (kflat cs) H :=
  kP_iff.mpr fun q hq => kP_iff.mp hP q ((kflat_perm hn hC).mem_iff.mpr (List.mem_append_left _ hq))
theorem kpreD (hD : va_D A0 (kflat L)) (hn : is.Nodup) (hC : is.map (fun i => L[i]?) = cs.map some) : va_D A0 (kflat cs) := by
  obtain ⟨h1, h2⟩ := kD_iff.mp hD
  have h3 : ((kflat cs ++ (krem is L).flatten).map Prod.fst).Nodup := ((kflat_perm hn hC).map Prod.fst).nodup_iff.mp h1
  rw [List.map_append] at h3
  exact kD_iff.mpr ⟨(List.nodup_append.mp h3).1, fun q hq => h2 q ((kflat_perm hn hC).mem_iff.mpr (List.mem_append_left _ hq))⟩
theorem kpreF {H0 : Heap} {locs : List Loc} (hD : va_D A0 (kflat L)) (hS : va_S A0 H0 H locs) (hA : ∀ q, H0.size ≤ q → A0 q) (hn : is.Nodup) (hC : is.map (fun i => L[i]?) = cs.map some) : ∀ q, va_A (kflat cs) H.size q → A0 q := by
  intro q h
  rcases kA_iff.mp h with h | h
  · obtain ⟨z, h1, h2⟩ := List.mem_map.mp h
    rw [← h2]
    exact (kD_iff.mp (kpreD hD hn hC)).2 z h1
  · exact hA q (Nat.le_trans hS.1 h)
theorem kjoinL (hP : va_P D cl (kflat L) H) (hD : va_D A0 (kflat L)) (hn : is.Nodup) (hC : is.map (fun i => L[i]?) = cs.map some) (hl : is.length = cs'.length)
    (hk : ∀ q : Nat, q < H.size → ¬ va_A (kflat cs) H.size q → H1[q]? = H[q]?) (hF : ∀ q, va_A (kflat cs) H.size q → A0 q) (hP1 : va_P D cl (kflat cs') H1) (hD1 : va_D (va_A (kflat cs) H.size) (kflat cs')) : va_P D cl (kflat (kputL L is cs')) H1 ∧ va_D A0 (kflat (kputL L is cs')) := by
  have hb := kbound hC
  have hp := kflat_perm hn hC
  have hp1 : (kflat (kputL L is cs')).Perm (kflat cs' ++ (krem is L).flatten) := by
    have := kflat_perm (L := kputL L is cs') (cs := cs') hn (kputL_spec is cs' L hn hl hb).2
    rwa [krem_put hn hl hb] at this
  obtain ⟨d1, d2⟩ := kD_iff.mp hD
  have d3 : ((kflat cs ++ (krem is L).flatten).map Prod.fst).Nodup := (hp.map Prod.fst).nodup_iff.mp d1
  rw [List.map_append] at d3
  obtain ⟨-, d5, d6⟩ := List.nodup_append.mp d3
  obtain ⟨e1, e2⟩ := kD_iff.mp hD1
  have hR : ∀ q ∈ (krem is L).flatten, va_at D cl q H ∧ A0 q.1 ∧ q.1 < H.size ∧ ¬ va_A (kflat cs) H.size q.1 := by
    intro q hq
    have hm : q ∈ kflat L := hp.mem_iff.mpr (List.mem_append_right _ hq)
    have ha := kP_iff.mp hP q hm
    refine ⟨ha, d2 q hm, ha.lt, fun h => ?_⟩
    rcases kA_iff.mp h with h | h
    · exact d6 q.1 h q.1 (List.mem_map.mpr ⟨q, hq, rfl⟩) rfl
    · have := ha.lt
      omega
  refine ⟨kP_iff.mpr fun q hq => ?_, kD_iff.mpr ⟨?_, fun q hq => ?_⟩⟩
  · rcases List.mem_append.mp (hp1.mem_iff.mp hq) with h | h
    · exact kP_iff.mp hP1 q h
    · obtain ⟨a1, -, a3, a4⟩ := hR q h
      exact a1.kept (hk q.1 a3 a4)
  · rw [(hp1.map Prod.fst).nodup_iff, List.map_append]
    refine List.nodup_append.mpr ⟨e1, d5, ?_⟩
    intro x hx y hy hxy
    subst hxy
    obtain ⟨z, z1, z2⟩ := List.mem_map.mp hx
    obtain ⟨z', z3, z4⟩ := List.mem_map.mp hy
    have h1 := e2 z z1
    rw [z2, ← z4] at h1
    exact (hR z' z3).2.2.2 h1
  · rcases List.mem_append.mp (hp1.mem_iff.mp hq) with h | h
    · exact hF q.1 (e2 q h)
    · exact (hR q h).2.1
end KJ
