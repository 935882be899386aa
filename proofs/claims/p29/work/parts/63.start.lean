/-! THE LAW'S START -/
theorem hBIG : ∀ w ∈ BIG, w ∈ lw_tbl := fun w h => (List.mem_filter.mp h).1
theorem tb1 {w : Cond} (i : Nat) (hi : tables_1_1[i]? = some w) : w ∈ lw_tbl := by
  have h : w ∈ tables_1_1 := List.mem_of_getElem? hi
  exact List.mem_append_right _ (show w ∈ tables_1_1 ++ (tables_1_2 ++ (tables_1_3 ++ tables_1_4)) from List.mem_append_left _ h)
theorem tb2 {w : Cond} (i : Nat) (hi : tables_1_2[i]? = some w) : w ∈ lw_tbl := by
  have h : w ∈ tables_1_2 := List.mem_of_getElem? hi
  exact List.mem_append_right _ (show w ∈ tables_1_1 ++ (tables_1_2 ++ (tables_1_3 ++ tables_1_4)) from List.mem_append_right _ (List.mem_append_left _ h))
theorem tb3 {w : Cond} (i : Nat) (hi : tables_1_3[i]? = some w) : w ∈ lw_tbl := by
  have h : w ∈ tables_1_3 := List.mem_of_getElem? hi
  exact List.mem_append_right _ (show w ∈ tables_1_1 ++ (tables_1_2 ++ (tables_1_3 ++ tables_1_4)) from List.mem_append_right _ (List.mem_append_right _ (List.mem_append_left _ h)))
theorem tb4 {w : Cond} (i : Nat) (hi : tables_1_4[i]? = some w) : w ∈ lw_tbl := by
  have h : w ∈ tables_1_4 := List.mem_of_getElem? hi
  exact List.mem_append_right _ (show w ∈ tables_1_1 ++ (tables_1_2 ++ (tables_1_3 ++ tables_1_4)) from List.mem_append_right _ (List.mem_append_right _ (List.mem_append_right _ (h))))
section KST
variable {s : State} {args : Array Value}
theorem kArr {ty : FieldType} (h : (Cond.arrayClass ty).before args s = true) (hty : ∀ C, ty ≠ .object C) : ∃ cA : ClassId, ArrOfT s cA ty ∧ va_RA s cA ty := by
  obtain ⟨cA, k, comp, f1, f2, f3⟩ := Cond.arrayClass_spec h
  refine ⟨cA, fun N z => ⟨(fun k h => by cases h), k, f2, comp, f3⟩, ?_⟩
  cases ty with
  | object C => exact absurd rfl (hty C)
  | _ => exact f1
theorem kArrO {C : String} (h : (Cond.arrayOver (.object C)).before args s = true) : ∃ cA : ClassId, ArrOfT s cA (.object C) ∧ va_RA s cA (.object C) := by
  obtain ⟨comp, cA, k, h1, h2, h3, h4, h5⟩ := Cond.arrayOver_spec h
  exact ⟨cA, fun N z => ⟨(fun k h => by cases h), k, h3, comp, h4⟩, k, comp, h3, h4, h1, h5⟩
theorem lawK (hts : ∀ w ∈ lw_tbl, w.before args s = true) : ∃ (D : va_G) (t : Nat → ClassId), va_K D vwCl (TY t) s := by
  have hB : ∀ w ∈ BIG, w.before args s = true := fun w h => hts w (hBIG w h)
  obtain ⟨c0, i0, k0⟩ := u_known (C := RX0) (T := TX0) (N := 5) (n := 5) hB inlX0 (hB _ w_38)
  obtain ⟨c1, i1, k1⟩ := u_known (C := RX1) (T := TX1) (N := 13) (n := 13) hB inlX1 (hB _ w_16)
  obtain ⟨c2, i2, k2⟩ := u_known (C := RX3) (T := TX3) (N := 3) (n := 3) hB inlX3 (hB _ w_21)
  obtain ⟨c3, i3, k3⟩ := u_known (C := RX4) (T := TX4) (N := 8) (n := 8) hB inlX4 (hB _ w_30)
  obtain ⟨c4, i4, k4⟩ := u_known (C := RX5) (T := TX5) (N := 6) (n := 6) hB inlX5 (hB _ w_34)
  obtain ⟨c5, i5, k5⟩ := u_known (C := RX6) (T := TX6) (N := 4) (n := 4) hB inlX6 (hB _ w_26)
  obtain ⟨c6, i6, k6⟩ := u_known (C := RX7) (T := TX7) (N := 2) (n := 2) hB inlX7 (hB _ w_12)
  obtain ⟨c7, i7, k7⟩ := u_known (C := RX8) (T := TX8) (N := 9) (n := 9) hB inlX8 (hB _ w_1)
  obtain ⟨t0, a0⟩ := kArr (hB _ w_56) (fun C h => by cases h)
  obtain ⟨t1, a1⟩ := kArr (hB _ w_44) (fun C h => by cases h)
  obtain ⟨t2, a2⟩ := kArr (hB _ w_89) (fun C h => by cases h)
  obtain ⟨t3, a3⟩ := kArrO (hts _ (tb1 118 rfl) : (Cond.arrayOver (.object "ChunkCarriers$Desk")).before args s = true)
  refine ⟨(fun k => [c0, c1, c2, c3, c4, c5, c6, c7].getD k 0, fun k => [i0, i1, i2, i3, i4, i5, i6, i7].getD k (fun _ => 0)), fun k => [t0, t1, t2, t3].getD k 0, ⟨fun k q hq => ?_, fun k q hq => ?_⟩⟩
  · match k, hq with
    | 0, hq => cases hq; exact k0
    | 1, hq => cases hq; exact k1
    | 2, hq => cases hq; exact k2
    | 3, hq => cases hq; exact k3
    | 4, hq => cases hq; exact k4
    | 5, hq => cases hq; exact k5
    | 6, hq => cases hq; exact k6
    | 7, hq => cases hq; exact k7
    | k + 8, hq => simp [vwCl] at hq
  · match k, hq with
    | 0, hq => cases hq; exact a0
    | 1, hq => cases hq; exact a1
    | 2, hq => cases hq; exact a2
    | 3, hq => cases hq; exact a3
    | k + 4, hq => simp [TY] at hq
theorem kStOf {n : String} {f : Nat → Int32} (hl : (Cond.laysStatic "ChunkCarriers" n "[I").before args s = true) (hini : (Cond.initialized "ChunkCarriers").before args s = true) (harr : (Cond.arrayOf (.static "ChunkCarriers" n "[I") .int).before args s = true) (hlen : (Cond.eq (.length (.static "ChunkCarriers" n "[I")) (.int 5)).before args s = true) (hel : ∀ j : Nat, j < 5 → (Cond.eq (.elem (.static "ChunkCarriers" n "[I") (.int (Int32.ofNat j))) (.int (f j))).before args s = true) : ∃ q : Nat, (Term.static "ChunkCarriers" n "[I").eval args s none [] s = some (.ref q) ∧ va_Z "ChunkCarriers" n "[I" (.ref q) (fun q => s.heap.size ≤ q) s s.heap ∧ va_T .int q 5 (fun j => .int (f j)) (fun q => s.heap.size ≤ q) s s.heap := by
  have hA : ∀ a : Nat, a < s.heap.size → ¬ (fun q => s.heap.size ≤ q) a := fun a h => Nat.not_le.mpr h
  obtain ⟨q, h1, h2⟩ := va_Tof (f := fun j => .int (f j)) (N := 5) (A := fun q => s.heap.size ≤ q) (by decide) harr (va_eqt hlen) (fun j hj => va_eqt (hel j hj)) hA
  exact ⟨q, h1, va_Zof hl hini h1 hA, h2⟩
theorem kClOf (hl : (Cond.laysStatic "ChunkCarriers" "FIRST_SETTINGS" "[I").before args s = true) (hini : (Cond.initialized "ChunkCarriers").before args s = true) (harr : (Cond.arrayOf (.static "ChunkCarriers" "FIRST_SETTINGS" "[I") .int).before args s = true) (hlen : (Cond.eq (.length (.static "ChunkCarriers" "FIRST_SETTINGS" "[I")) (.int 5)).before args s = true) (hel : ∀ j : Nat, j < 5 → (Cond.eq (.elem (.static "ChunkCarriers" "FIRST_SETTINGS" "[I") (.int (Int32.ofNat j))) (.int (stF j))).before args s = true) (hex : (Cond.exactly (.static "ChunkCarriers" "FIRST_SETTINGS" "[I") "[I").before args s = true) : kCl (fun q => s.heap.size ≤ q) s s.heap := by
  obtain ⟨q, h1, h2, cell, h3, h4, h5, h6, h7, h8, h9⟩ := kStOf (f := stF) hl hini harr hlen hel
  obtain ⟨a, cc, cell2, k, g1, g2, g3, g4, g5, g6, -⟩ := Cond.exactly_spec hex
  cases h1.symm.trans g1
  cases h3.symm.trans g3
  refine ⟨q, cell, h2, h3, h4, h5, ?_, h8, by rw [g6]; exact g2, h9⟩
  have hev := va_eqt hlen
  have h31 : cell.slots.size < 2 ^ 31 := by
    have hev' : (((Term.static "ChunkCarriers" "FIRST_SETTINGS" "[I").eval args s none [] s).bind fun x => match x with | .ref a => ((s.arrayAt? a).bind fun c => if c.slots.size < 2 ^ 31 then some (Value.int c.slots.size.toInt32) else none) | _ => none) = some (.int 5) := hev
    rw [h1] at hev'
    obtain ⟨c9, hat, hif⟩ := Option.bind_eq_some_iff.mp (show ((s.arrayAt? q).bind fun c => if c.slots.size < 2 ^ 31 then some (Value.int c.slots.size.toInt32) else none) = some (.int 5) from hev')
    cases h3.symm.trans (State.arrayAt?_spec hat).1
    by_cases hz : cell.slots.size < 2 ^ 31
    · exact hz
    · rw [if_neg hz] at hif
      cases hif
  have h10 : (Int32.ofNat cell.slots.size) = Int32.ofNat 5 := h7
  have h11 := congrArg Int32.toInt h10
  rw [Int32.toInt_ofNat_of_lt h31] at h11
  have : ((cell.slots.size : Nat) : Int) = 5 := h11
  omega
end KST
set_option maxRecDepth 100000 in
theorem lawX {s : State} {args : Array Value} (hts : ∀ w ∈ lw_tbl, w.before args s = true) (hgv : (Jvm.Cond.and given_1 narrow_1).before args s = true) : kX (fun q => s.heap.size ≤ q) s s.heap := by
  have hs := flat_of_before _ hgv
  have hA : ∀ a : Nat, a < s.heap.size → ¬ (fun q => s.heap.size ≤ q) a := fun a h => Nat.not_le.mpr h
  have hini := hts _ (hBIG _ w_2)
  have hiT := hts _ (tb1 9 rfl)
  have elFIRST : ∀ j : Nat, j < 5 → (Cond.eq (.elem (.static "ChunkCarriers" "FIRST_SETTINGS" "[I") (.int (Int32.ofNat j))) (.int (stF j))).before args s = true := fun j hj => match j, hj with | 0, _ => hs _ (by decide +kernel) | 1, _ => hs _ (by decide +kernel) | 2, _ => hs _ (by decide +kernel) | 3, _ => hs _ (by decide +kernel) | 4, _ => hs _ (by decide +kernel) | (n + 5), h => absurd h (by omega)
  have elLEAST : ∀ j : Nat, j < 5 → (Cond.eq (.elem (.static "ChunkCarriers" "LEAST_SETTINGS" "[I") (.int (Int32.ofNat j))) (.int (stL j))).before args s = true := fun j hj => match j, hj with | 0, _ => hs _ (by decide +kernel) | 1, _ => hs _ (by decide +kernel) | 2, _ => hs _ (by decide +kernel) | 3, _ => hs _ (by decide +kernel) | 4, _ => hs _ (by decide +kernel) | (n + 5), h => absurd h (by omega)
  have elGREATEST : ∀ j : Nat, j < 5 → (Cond.eq (.elem (.static "ChunkCarriers" "GREATEST_SETTINGS" "[I") (.int (Int32.ofNat j))) (.int (stG j))).before args s = true := fun j hj => match j, hj with | 0, _ => hs _ (by decide +kernel) | 1, _ => hs _ (by decide +kernel) | 2, _ => hs _ (by decide +kernel) | 3, _ => hs _ (by decide +kernel) | 4, _ => hs _ (by decide +kernel) | (n + 5), h => absurd h (by omega)
  refine ⟨kClOf (hts _ (tb1 48 rfl)) hini (hs _ (by decide +kernel)) (hs _ (by decide +kernel)) elFIRST (hs _ (by decide +kernel)), ?_, ?_, ?_, ?_, ?_⟩
  · obtain ⟨q, -, h2, h3⟩ := kStOf (n := "LEAST_SETTINGS") (f := stL) (hts _ (tb3 106 rfl)) hini (hs _ (by decide +kernel)) (hs _ (by decide +kernel)) elLEAST
    exact ⟨q, h2, h3⟩
  · obtain ⟨q, -, h2, h3⟩ := kStOf (n := "GREATEST_SETTINGS") (f := stG) (hts _ (tb3 108 rfl)) hini (hs _ (by decide +kernel)) (hs _ (by decide +kernel)) elGREATEST
    exact ⟨q, h2, h3⟩
  · exact vx_Zqof (hts _ (tb2 65 rfl)) hiT (hs _ (by decide +kernel)) hA
  · exact vx_Zqof (hts _ (tb2 67 rfl)) hiT (hs _ (by decide +kernel)) hA
  · refine ⟨?_, ?_, ?_, ?_, ?_, ?_, ?_⟩
    · unfold NWM
      exact List.forall_mem_cons.mpr ⟨va_Nw.of rfl (hts _ (tb1 43 rfl)), List.forall_mem_cons.mpr ⟨va_Nw.of rfl (hts _ (tb1 113 rfl)), List.forall_mem_cons.mpr ⟨va_Nw.of rfl (hts _ (tb1 132 rfl)), List.forall_mem_cons.mpr ⟨va_Nw.of rfl (hts _ (tb1 152 rfl)), List.forall_mem_cons.mpr ⟨va_Nw.of rfl (hts _ (tb1 187 rfl)), List.forall_mem_cons.mpr ⟨va_Nw.of rfl (hts _ (tb1 214 rfl)), List.forall_mem_cons.mpr ⟨va_Nw.of rfl (hts _ (tb1 28 rfl)), List.forall_mem_cons.mpr ⟨va_Nw.of rfl (hts _ (tb3 114 rfl)), List.forall_mem_cons.mpr ⟨va_Nw.of rfl (hts _ (tb4 91 rfl)), fun _ h => absurd h List.not_mem_nil⟩⟩⟩⟩⟩⟩⟩⟩⟩
    · exact va_Nw.of rfl (hts _ (tb1 47 rfl))
    · exact List.forall_mem_cons.mpr ⟨va_Nw.of rfl (hts _ (tb2 41 rfl)), List.forall_mem_cons.mpr ⟨va_Nw.of rfl (hts _ (tb2 43 rfl)), List.forall_mem_cons.mpr ⟨va_Nw.of rfl (hts _ (tb2 45 rfl)), fun _ h => absurd h List.not_mem_nil⟩⟩⟩
    · exact List.forall_mem_cons.mpr ⟨va_Nw.of rfl (hts _ (tb3 175 rfl)), List.forall_mem_cons.mpr ⟨va_Nw.of rfl (hts _ (tb2 118 rfl)), List.forall_mem_cons.mpr ⟨va_Nw.of rfl (hts _ (tb2 40 rfl)), fun _ h => absurd h List.not_mem_nil⟩⟩⟩
    · exact trivial
    · exact va_AO.of (hts _ (tb1 118 rfl))
    · exact va_Nw.of rfl (hts _ (tb1 54 rfl))
