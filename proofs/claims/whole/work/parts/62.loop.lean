/-! THE LAW'S LOOP -/
def F_turn (st : STT) (q0 q1 q2 q3 : Int32) : Option STT := if q0 &&& 31 = 0 then F_T_append st q1 q2 q3 else if q0 &&& 31 = 1 then F_T_clearText st q1 q2 q3 else if q0 &&& 31 = 2 then F_T_errorPosition st q1 q2 q3 else if q0 &&& 31 = 3 then F_T_chunk st q1 q2 q3 else if q0 &&& 31 = 4 then F_T_about st q1 q2 q3 else if q0 &&& 31 = 5 then F_T_container st q1 q2 q3 else if q0 &&& 31 = 6 then F_T_containerOf st q1 q2 q3 else if q0 &&& 31 = 7 then F_T_entry st q1 q2 q3 else if q0 &&& 31 = 8 then F_T_backupOf st q1 q2 q3 else if q0 &&& 31 = 9 then F_T_reference st q1 q2 q3 else if q0 &&& 31 = 10 then F_T_letter st q1 q2 q3 else if q0 &&& 31 = 11 then F_T_setting st q1 q2 q3 else if q0 &&& 31 = 12 then F_T_backup st q1 q2 q3 else if q0 &&& 31 = 13 then F_T_delete st q1 q2 q3 else if q0 &&& 31 = 14 then F_T_carry st q1 q2 q3 else if q0 &&& 31 = 15 then F_T_set st q1 q2 q3 else if q0 &&& 31 = 16 then F_T_undo st q1 q2 q3 else if q0 &&& 31 = 17 then F_T_ifDeleted st q1 q2 q3 else if q0 &&& 31 = 18 then F_T_ifCarried st q1 q2 q3 else if q0 &&& 31 = 19 then F_T_wouldPut st q1 q2 q3 else if q0 &&& 31 = 20 then F_T_bestLimit st q1 q2 q3 else if q0 &&& 31 = 21 then F_T_worst st q1 q2 q3 else if q0 &&& 31 = 22 then F_T_runScript st q1 q2 q3 else if q0 &&& 31 = 23 then F_T_simulate st q1 q2 q3 else if q0 &&& 31 = 24 then F_T_save st q1 q2 q3 else if q0 &&& 31 = 25 then F_T_restore st q1 q2 q3 else some st
theorem kl_L : ∀ L : Fin 2049, (Int32.ofNat L.1 - 4).toInt = (L.1 : Int) - 4 := by decide +kernel
theorem kl_n : ∀ n : Fin 513, (Int32.ofNat (4 * n.1)).toInt = ((4 * n.1 : Nat) : Int) ∧ ¬ Int32.ofNat (4 * n.1) < 0 ∧ (Int32.ofNat (4 * n.1)).toNatClampNeg = 4 * n.1 := by decide +kernel
theorem kl_1 : ∀ n : Fin 513, ¬ (Int32.ofNat (4 * n.1) + 1 < 0) ∧ (Int32.ofNat (4 * n.1) + 1).toNatClampNeg = 4 * n.1 + 1 := by decide +kernel
theorem kl_2 : ∀ n : Fin 513, ¬ (Int32.ofNat (4 * n.1) + 2 < 0) ∧ (Int32.ofNat (4 * n.1) + 2).toNatClampNeg = 4 * n.1 + 2 := by decide +kernel
theorem kl_3 : ∀ n : Fin 513, ¬ (Int32.ofNat (4 * n.1) + 3 < 0) ∧ (Int32.ofNat (4 * n.1) + 3).toNatClampNeg = 4 * n.1 + 3 := by decide +kernel
theorem kl_4 : ∀ n : Fin 513, Int32.ofNat (4 * n.1) + Int32.ofInt 4 = Int32.ofNat (4 * (n.1 + 1)) := by decide +kernel
theorem kl_in {i : Int32} {k L : Nat} (h0 : ¬ i < 0) (h1 : i.toNatClampNeg = k) (h2 : k < L) : vp_in i L := by
  unfold vp_in
  rintro (h | h)
  · exact h0 h
  · omega
set_option maxHeartbeats 4000000 in
set_option maxRecDepth 100000 in
theorem law_turn {p : Program} {l : Launch} {e : Env} {s : State} {m : MethodId} {args : Array Value} {below : List Frame} {meth : Method} {c : Code} {Q : State → Prop} {D : va_G} {A : Nat → Prop} {t : Nat → ClassId} {h8 h9 ho b L : Nat} {xs : Nat → Int32} {g : Nat → Nat} {aa : Nat → Nat → Nat} {c0 : Cond} (hst : l.stackTraces = false) (hx : p.tables.exec = Jvm.exec) (hb : c.code = cL_law) (hml : c.maxLocals = 7) (hown : s.vm.findClass RL = some m.cls) (hts : ∀ w ∈ c0 :: BIG, w.before args s = true) (hX : kX A s s.heap) (hK : va_K D vwCl (TY t) s) (hA : ∀ q, s.heap.size ≤ q → A q) (hsx : va_X b L xs s s.heap) (hbl : b < s.heap.size) (hbA : ¬ A b) {H : Heap} {locs : List Loc} {cells slots : Nat} {u1 u2 : UAT} {st st' : STT} {ls : Array Slot} {i : Int32} (hS : va_S A s.heap H locs) (hP : va_P D vwCl (kflat (wlaw t h8 h9 ho g aa u1 u2 st)) H) (hD : va_D A (kflat (wlaw t h8 h9 ho g aa u1 u2 st))) (hl : lv_has ls 7 [(4, .int i), (0, .ref b), (1, .ref h8), (2, .ref h9), (3, .ref ho)]) (h0 : vp_in i L) (h1 : vp_in (i + 1) L) (h2 : vp_in (i + 2) L) (h3 : vp_in (i + 3) L) (hF : F_turn st (xs i.toNatClampNeg) (xs (i + 1).toNatClampNeg) (xs (i + 2).toNatClampNeg) (xs (i + 3).toNatClampNeg) = some st') (hcl : cells + 11 ≤ room_1.cells) (hsl : slots + 1091 ≤ room_1.slots)
    (kk : ∀ (ls : Array Slot) (H : Heap) (locs : List Loc) (u1 u2 : UAT), lv_has ls 7 [(4, .int i), (0, .ref b), (1, .ref h8), (2, .ref h9), (3, .ref ho)] → va_P D vwCl (kflat (wlaw t h8 h9 ho g aa u1 u2 st')) H → va_D A (kflat (wlaw t h8 h9 ho g aa u1 u2 st')) → va_S A s.heap H locs → W p l e room_1 s m args below meth c H locs (cells + 11) (slots + 1091) Q (F0 m 1636 ls [])) : W p l e room_1 s m args below meth c H locs cells slots Q (F0 m 32 ls []) := by
  unfold F_turn at hF
  refine lv_aload_n hx hb (kd tdlL_law_0 19 rfl) rfl (lv_at hl 1 rfl) ?_
  refine lv_iload hx hb (kd tdlL_law_0 20 rfl) (lv_at hl 0 rfl) ?_
  refine va_sld hx hb hsx hbl hbA hS h0 (kd tdlL_law_0 21 rfl) ?_
  refine lv_bipush (v := 31) hx hb (kd tdlL_law_0 22 rfl) (by decide) ?_
  refine lv_iand hx hb (kd tdlL_law_0 23 rfl) ?_
  generalize xs i.toNatClampNeg &&& 31 = w0 at hF ⊢
  by_cases hq0 : w0 = 0
  · exact ksw (n := 0) (off := 117) (tgt := 156) hx hb (kd tdlL_law_0 24 rfl) hq0 (by decide) (by decide) rfl (by decide) (tn_append hst hx hb hml hown hts hX hK hA hsx hbl hbA hS hP hD hl h1 h2 h3 (kt hq0 hF) hcl hsl kk)
  replace hF := kf hq0 hF
  by_cases hq1 : w0 = 1
  · exact ksw (n := 1) (off := 173) (tgt := 212) hx hb (kd tdlL_law_0 24 rfl) hq1 (by decide) (by decide) rfl (by decide) (tn_clearText hst hx hb hml hown hts hX hK hA hsx hbl hbA hS hP hD hl h1 h2 h3 (kt hq1 hF) hcl hsl kk)
  replace hF := kf hq1 hF
  by_cases hq2 : w0 = 2
  · exact ksw (n := 2) (off := 186) (tgt := 225) hx hb (kd tdlL_law_0 24 rfl) hq2 (by decide) (by decide) rfl (by decide) (tn_errorPosition hst hx hb hml hown hts hX hK hA hsx hbl hbA hS hP hD hl h1 h2 h3 (kt hq2 hF) hcl hsl kk)
  replace hF := kf hq2 hF
  by_cases hq3 : w0 = 3
  · exact ksw (n := 3) (off := 199) (tgt := 238) hx hb (kd tdlL_law_0 24 rfl) hq3 (by decide) (by decide) rfl (by decide) (tn_chunk hst hx hb hml hown hts hX hK hA hsx hbl hbA hS hP hD hl h1 h2 h3 (kt hq3 hF) hcl hsl kk)
  replace hF := kf hq3 hF
  by_cases hq4 : w0 = 4
  · exact ksw (n := 4) (off := 279) (tgt := 318) hx hb (kd tdlL_law_0 24 rfl) hq4 (by decide) (by decide) rfl (by decide) (tn_about hst hx hb hml hown hts hX hK hA hsx hbl hbA hS hP hD hl h1 h2 h3 (kt hq4 hF) hcl hsl kk)
  replace hF := kf hq4 hF
  by_cases hq5 : w0 = 5
  · exact ksw (n := 5) (off := 335) (tgt := 374) hx hb (kd tdlL_law_0 24 rfl) hq5 (by decide) (by decide) rfl (by decide) (tn_container hst hx hb hml hown hts hX hK hA hsx hbl hbA hS hP hD hl h1 h2 h3 (kt hq5 hF) hcl hsl kk)
  replace hF := kf hq5 hF
  by_cases hq6 : w0 = 6
  · exact ksw (n := 6) (off := 391) (tgt := 430) hx hb (kd tdlL_law_0 24 rfl) hq6 (by decide) (by decide) rfl (by decide) (tn_containerOf hst hx hb hml hown hts hX hK hA hsx hbl hbA hS hP hD hl h1 h2 h3 (kt hq6 hF) hcl hsl kk)
  replace hF := kf hq6 hF
  by_cases hq7 : w0 = 7
  · exact ksw (n := 7) (off := 459) (tgt := 498) hx hb (kd tdlL_law_0 24 rfl) hq7 (by decide) (by decide) rfl (by decide) (tn_entry hst hx hb hml hown hts hX hK hA hsx hbl hbA hS hP hD hl h1 h2 h3 (kt hq7 hF) hcl hsl kk)
  replace hF := kf hq7 hF
  by_cases hq8 : w0 = 8
  · exact ksw (n := 8) (off := 539) (tgt := 578) hx hb (kd tdlL_law_0 24 rfl) hq8 (by decide) (by decide) rfl (by decide) (tn_backupOf hst hx hb hml hown hts hX hK hA hsx hbl hbA hS hP hD hl h1 h2 h3 (kt hq8 hF) hcl hsl kk)
  replace hF := kf hq8 hF
  by_cases hq9 : w0 = 9
  · exact ksw (n := 9) (off := 607) (tgt := 646) hx hb (kd tdlL_law_0 24 rfl) hq9 (by decide) (by decide) rfl (by decide) (tn_reference hst hx hb hml hown hts hX hK hA hsx hbl hbA hS hP hD hl h1 h2 h3 (kt hq9 hF) hcl hsl kk)
  replace hF := kf hq9 hF
  by_cases hq10 : w0 = 10
  · exact ksw (n := 10) (off := 687) (tgt := 726) hx hb (kd tdlL_law_0 24 rfl) hq10 (by decide) (by decide) rfl (by decide) (tn_letter hst hx hb hml hown hts hX hK hA hsx hbl hbA hS hP hD hl h1 h2 h3 (kt hq10 hF) hcl hsl kk)
  replace hF := kf hq10 hF
  by_cases hq11 : w0 = 11
  · exact ksw (n := 11) (off := 755) (tgt := 794) hx hb (kd tdlL_law_0 24 rfl) hq11 (by decide) (by decide) rfl (by decide) (tn_setting hst hx hb hml hown hts hX hK hA hsx hbl hbA hS hP hD hl h1 h2 h3 (kt hq11 hF) hcl hsl kk)
  replace hF := kf hq11 hF
  by_cases hq12 : w0 = 12
  · exact ksw (n := 12) (off := 811) (tgt := 850) hx hb (kd tdlL_law_0 24 rfl) hq12 (by decide) (by decide) rfl (by decide) (tn_backup hst hx hb hml hown hts hX hK hA hsx hbl hbA hS hP hD hl h1 h2 h3 (kt hq12 hF) hcl hsl kk)
  replace hF := kf hq12 hF
  by_cases hq13 : w0 = 13
  · exact ksw (n := 13) (off := 867) (tgt := 906) hx hb (kd tdlL_law_0 24 rfl) hq13 (by decide) (by decide) rfl (by decide) (tn_delete hst hx hb hml hown hts hX hK hA hsx hbl hbA hS hP hD hl h1 h2 h3 (kt hq13 hF) hcl hsl kk)
  replace hF := kf hq13 hF
  by_cases hq14 : w0 = 14
  · exact ksw (n := 14) (off := 923) (tgt := 962) hx hb (kd tdlL_law_0 24 rfl) hq14 (by decide) (by decide) rfl (by decide) (tn_carry hst hx hb hml hown hts hX hK hA hsx hbl hbA hS hP hD hl h1 h2 h3 (kt hq14 hF) hcl hsl kk)
  replace hF := kf hq14 hF
  by_cases hq15 : w0 = 15
  · exact ksw (n := 15) (off := 936) (tgt := 975) hx hb (kd tdlL_law_0 24 rfl) hq15 (by decide) (by decide) rfl (by decide) (tn_set hst hx hb hml hown hts hX hK hA hsx hbl hbA hS hP hD hl h1 h2 h3 (kt hq15 hF) hcl hsl kk)
  replace hF := kf hq15 hF
  by_cases hq16 : w0 = 16
  · exact ksw (n := 16) (off := 1004) (tgt := 1043) hx hb (kd tdlL_law_0 24 rfl) hq16 (by decide) (by decide) rfl (by decide) (tn_undo hst hx hb hml hown hts hX hK hA hsx hbl hbA hS hP hD hl h1 h2 h3 (kt hq16 hF) hcl hsl kk)
  replace hF := kf hq16 hF
  by_cases hq17 : w0 = 17
  · exact ksw (n := 17) (off := 1048) (tgt := 1087) hx hb (kd tdlL_law_0 24 rfl) hq17 (by decide) (by decide) rfl (by decide) (tn_ifDeleted hst hx hb hml hown hts hX hK hA hsx hbl hbA hS hP hD hl h1 h2 h3 (kt hq17 hF) hcl hsl kk)
  replace hF := kf hq17 hF
  by_cases hq18 : w0 = 18
  · exact ksw (n := 18) (off := 1104) (tgt := 1143) hx hb (kd tdlL_law_0 24 rfl) hq18 (by decide) (by decide) rfl (by decide) (tn_ifCarried hst hx hb hml hown hts hX hK hA hsx hbl hbA hS hP hD hl h1 h2 h3 (kt hq18 hF) hcl hsl kk)
  replace hF := kf hq18 hF
  by_cases hq19 : w0 = 19
  · exact ksw (n := 19) (off := 1160) (tgt := 1199) hx hb (kd tdlL_law_0 24 rfl) hq19 (by decide) (by decide) rfl (by decide) (tn_wouldPut hst hx hb hml hown hts hX hK hA hsx hbl hbA hS hP hD hl h1 h2 h3 (kt hq19 hF) hcl hsl kk)
  replace hF := kf hq19 hF
  by_cases hq20 : w0 = 20
  · exact ksw (n := 20) (off := 1216) (tgt := 1255) hx hb (kd tdlL_law_0 24 rfl) hq20 (by decide) (by decide) rfl (by decide) (tn_bestLimit hst hx hb hml hown hts hX hK hA hsx hbl hbA hS hP hD hl h1 h2 h3 (kt hq20 hF) hcl hsl kk)
  replace hF := kf hq20 hF
  by_cases hq21 : w0 = 21
  · exact ksw (n := 21) (off := 1272) (tgt := 1311) hx hb (kd tdlL_law_0 24 rfl) hq21 (by decide) (by decide) rfl (by decide) (tn_worst hst hx hb hml hown hts hX hK hA hsx hbl hbA hS hP hD hl h1 h2 h3 (kt hq21 hF) hcl hsl kk)
  replace hF := kf hq21 hF
  by_cases hq22 : w0 = 22
  · exact ksw (n := 22) (off := 1285) (tgt := 1324) hx hb (kd tdlL_law_0 24 rfl) hq22 (by decide) (by decide) rfl (by decide) (tn_runScript hst hx hb hml hown hts hX hK hA hsx hbl hbA hS hP hD hl h1 h2 h3 (kt hq22 hF) hcl hsl kk)
  replace hF := kf hq22 hF
  by_cases hq23 : w0 = 23
  · exact ksw (n := 23) (off := 1385) (tgt := 1424) hx hb (kd tdlL_law_0 24 rfl) hq23 (by decide) (by decide) rfl (by decide) (tn_simulate hst hx hb hml hown hts hX hK hA hsx hbl hbA hS hP hD hl h1 h2 h3 (kt hq23 hF) hcl hsl kk)
  replace hF := kf hq23 hF
  by_cases hq24 : w0 = 24
  · exact ksw (n := 24) (off := 1485) (tgt := 1524) hx hb (kd tdlL_law_0 24 rfl) hq24 (by decide) (by decide) rfl (by decide) (tn_save hst hx hb hml hown hts hX hK hA hsx hbl hbA hS hP hD hl h1 h2 h3 (kt hq24 hF) hcl hsl kk)
  replace hF := kf hq24 hF
  by_cases hq25 : w0 = 25
  · exact ksw (n := 25) (off := 1541) (tgt := 1580) hx hb (kd tdlL_law_0 24 rfl) hq25 (by decide) (by decide) rfl (by decide) (tn_restore hst hx hb hml hown hts hX hK hA hsx hbl hbA hS hP hD hl h1 h2 h3 (kt hq25 hF) hcl hsl kk)
  replace hF := kf hq25 hF
  have hw : w0.toInt < 0 ∨ 25 < w0.toInt := by
    have n0 : w0.toInt ≠ 0 := kne hq0 (by decide)
    have n1 : w0.toInt ≠ 1 := kne hq1 (by decide)
    have n2 : w0.toInt ≠ 2 := kne hq2 (by decide)
    have n3 : w0.toInt ≠ 3 := kne hq3 (by decide)
    have n4 : w0.toInt ≠ 4 := kne hq4 (by decide)
    have n5 : w0.toInt ≠ 5 := kne hq5 (by decide)
    have n6 : w0.toInt ≠ 6 := kne hq6 (by decide)
    have n7 : w0.toInt ≠ 7 := kne hq7 (by decide)
    have n8 : w0.toInt ≠ 8 := kne hq8 (by decide)
    have n9 : w0.toInt ≠ 9 := kne hq9 (by decide)
    have n10 : w0.toInt ≠ 10 := kne hq10 (by decide)
    have n11 : w0.toInt ≠ 11 := kne hq11 (by decide)
    have n12 : w0.toInt ≠ 12 := kne hq12 (by decide)
    have n13 : w0.toInt ≠ 13 := kne hq13 (by decide)
    have n14 : w0.toInt ≠ 14 := kne hq14 (by decide)
    have n15 : w0.toInt ≠ 15 := kne hq15 (by decide)
    have n16 : w0.toInt ≠ 16 := kne hq16 (by decide)
    have n17 : w0.toInt ≠ 17 := kne hq17 (by decide)
    have n18 : w0.toInt ≠ 18 := kne hq18 (by decide)
    have n19 : w0.toInt ≠ 19 := kne hq19 (by decide)
    have n20 : w0.toInt ≠ 20 := kne hq20 (by decide)
    have n21 : w0.toInt ≠ 21 := kne hq21 (by decide)
    have n22 : w0.toInt ≠ 22 := kne hq22 (by decide)
    have n23 : w0.toInt ≠ 23 := kne hq23 (by decide)
    have n24 : w0.toInt ≠ 24 := kne hq24 (by decide)
    have n25 : w0.toInt ≠ 25 := kne hq25 (by decide)
    omega
  refine lv_tableOut (tgt := 1636) hx hb (kd tdlL_law_0 24 rfl) hw (by decide) ?_
  cases ko hF
  refine W.widen (k := cells + 11) (n := slots + 1091) (Nat.le_add_right _ _) (Nat.le_add_right _ _) ?_
  exact kk ls H locs u1 u2 hl hP hD hS
set_option maxHeartbeats 4000000 in
set_option maxRecDepth 100000 in
theorem law_loop {p : Program} {l : Launch} {e : Env} {s : State} {m : MethodId} {args : Array Value} {below : List Frame} {meth : Method} {c : Code} {Q : State → Prop} {D : va_G} {A : Nat → Prop} {t : Nat → ClassId} {h8 h9 ho b L : Nat} {xs : Nat → Int32} {g : Nat → Nat} {aa : Nat → Nat → Nat} {c0 : Cond} (hst : l.stackTraces = false) (hx : p.tables.exec = Jvm.exec) (hb : c.code = cL_law) (hml : c.maxLocals = 7) (hown : s.vm.findClass RL = some m.cls) (hts : ∀ w ∈ c0 :: BIG, w.before args s = true) (hX : kX A s s.heap) (hK : va_K D vwCl (TY t) s) (hA : ∀ q, s.heap.size ≤ q → A q) (hsx : va_X b L xs s s.heap) (hbl : b < s.heap.size) (hbA : ¬ A b) (hL : L ≤ 2048) (Inv : Nat → STT → Prop) (hI : ∀ (n : Nat) (st : STT), Inv n st → 4 * n + 4 ≤ L → ∃ st' : STT, F_turn st (xs (4 * n)) (xs (4 * n + 1)) (xs (4 * n + 2)) (xs (4 * n + 3)) = some st' ∧ Inv (n + 1) st')
    (kk : ∀ (ls : Array Slot) (H : Heap) (locs : List Loc), va_S A s.heap H locs → W p l e room_1 s m args below meth c H locs 601024 7293034 Q (F0 m 1642 ls [])) :
    ∀ (k n : Nat), n + k = L / 4 → ∀ (st : STT), Inv n st → ∀ (H : Heap) (locs : List Loc) (u1 u2 : UAT) (ls : Array Slot), va_S A s.heap H locs → va_P D vwCl (kflat (wlaw t h8 h9 ho g aa u1 u2 st)) H → va_D A (kflat (wlaw t h8 h9 ho g aa u1 u2 st)) → lv_has ls 7 [(4, .int (Int32.ofNat (4 * n))), (0, .ref b), (1, .ref h8), (2, .ref h9), (3, .ref ho)] → W p l e room_1 s m args below meth c H locs (61 + 11 * n) (27658 + 1091 * n) Q (F0 m 23 ls []) := by
  intro k
  induction k with
  | zero =>
    intro n hn st hInv H locs u1 u2 ls hS hP hD hl
    have hn5 : n < 513 := by omega
    have a1 := (kl_n ⟨n, hn5⟩).1
    have a2 := kl_L ⟨L, by omega⟩
    refine lv_iload hx hb (kd tdlL_law_0 13 rfl) (lv_at hl 0 rfl) ?_
    refine lv_aload_n hx hb (kd tdlL_law_0 14 rfl) rfl (lv_at hl 1 rfl) ?_
    refine va_slen hx hb hsx hbl hbA hS (kd tdlL_law_0 15 rfl) ?_
    refine lv_iconst (v := 4) hx hb (kd tdlL_law_0 16 rfl) (by decide) ?_
    refine lv_isub hx hb (kd tdlL_law_0 17 rfl) ?_
    refine lv_icmp_gt (tgt := 1642) hx hb (kd tdlL_law_0 18 rfl) (by decide) (fun hc => ?_) (fun hc => ?_)
    · exact W.widen (by omega) (by omega) (kk ls H locs hS)
    · exfalso
      apply hc
      rw [Int32.lt_iff_toInt_lt]
      dsimp only at a1 a2
      rw [a1, a2]
      omega
  | succ k ih =>
    intro n hn st hInv H locs u1 u2 ls hS hP hD hl
    have hn5 : n < 513 := by omega
    have hnL : 4 * n + 4 ≤ L := by omega
    have a1 := (kl_n ⟨n, hn5⟩).1
    have a2 := kl_L ⟨L, by omega⟩
    obtain ⟨st', hF, hInv'⟩ := hI n st hInv hnL
    refine lv_iload hx hb (kd tdlL_law_0 13 rfl) (lv_at hl 0 rfl) ?_
    refine lv_aload_n hx hb (kd tdlL_law_0 14 rfl) rfl (lv_at hl 1 rfl) ?_
    refine va_slen hx hb hsx hbl hbA hS (kd tdlL_law_0 15 rfl) ?_
    refine lv_iconst (v := 4) hx hb (kd tdlL_law_0 16 rfl) (by decide) ?_
    refine lv_isub hx hb (kd tdlL_law_0 17 rfl) ?_
    refine lv_icmp_gt (tgt := 1642) hx hb (kd tdlL_law_0 18 rfl) (by decide) (fun hc => ?_) (fun hc => ?_)
    · exfalso
      rw [Int32.lt_iff_toInt_lt] at hc
      dsimp only at a1 a2
      rw [a1, a2] at hc
      omega
    · have b0 := (kl_n ⟨n, hn5⟩).2
      have b1 := kl_1 ⟨n, hn5⟩
      have b2 := kl_2 ⟨n, hn5⟩
      have b3 := kl_3 ⟨n, hn5⟩
      dsimp only at b0 b1 b2 b3
      refine law_turn hst hx hb hml hown hts hX hK hA hsx hbl hbA hS hP hD hl (kl_in b0.1 b0.2 (by omega)) (kl_in b1.1 b1.2 (by omega)) (kl_in b2.1 b2.2 (by omega)) (kl_in b3.1 b3.2 (by omega)) (st' := st') (by rw [b0.2, b1.2, b2.2, b3.2]; exact hF) (by show _ ≤ 601024; omega) (by show _ ≤ 7293034; omega) (fun ls H locs u1 u2 hl hP hD hS => ?_)
      refine lv_iinc (lv' := [(4, .int (Int32.ofNat (4 * (n + 1)))), (0, .ref b), (1, .ref h8), (2, .ref h9), (3, .ref ho)]) (v := Int32.ofNat (4 * (n + 1))) hx hb (kd tdlL_law_21 36 rfl) hl (k := 0) rfl (kl_4 ⟨n, hn5⟩) (by decide) rfl (fun ls hl => ?_)
      refine lv_goto (tgt := 23) hx hb (kd tdlL_law_21 37 rfl) (by decide) ?_
      refine W.widen (k := 61 + 11 * (n + 1)) (n := 27658 + 1091 * (n + 1)) (by omega) (by omega) ?_
      exact ih (n + 1) (by omega) st' hInv' H locs u1 u2 ls hS hP hD hl
