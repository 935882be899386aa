set_option maxHeartbeats 4000000 in
set_option maxRecDepth 100000 in
theorem c_X1_copyFrom (l : Launch) (D : va_G) (t : Nat → ClassId) (h0 : Nat) (a0 : Nat → Nat) (d0 : DKT) (h1 : Nat) (a1 : Nat → Nat) (d1 : DKT) (sz : Nat)  (r : DKT) (hF : F_X1_copyFrom d0 d1 = some r) : Met l yX1_copyFrom wX1_copyFrom ({ frames := 1, cells := 0, slots := 0, locals := 30 } : Room) (kPc D (TY t) ((wdk t h0 a0 d0) ++ (wdk t h1 a1 d1)) [.ref h0, .ref h1] sz) (kQv D (TY t) ((wdk t h0 a0 r) ++ (wdk t h1 a1 d1)) (va_A ((wdk t h0 a0 d0) ++ (wdk t h1 a1 d1)) sz)) 0 0 (va_A ((wdk t h0 a0 d0) ++ (wdk t h1 a1 d1)) sz) := by
  refine kE (cc := cX1_copyFrom) (maxL := 2) (ret := none) (Qx := fun A => kQv D (TY t) ((wdk t h0 a0 r) ++ (wdk t h1 a1 d1)) A) (lv0 := [(0, .ref h0), (1, .ref h1)]) RX1 rfl (by decide) rfl (Nat.le_of_ble_eq_true rfl) rfl ?_
  intro p e s m args below meth c A ls hx hb hml hr hlocks hown hts hA hK hP hD hS hl
  have L18 := hts (.fieldLink RX1 18 "ChunkCarriers$Desk" "settings" "[I") (List.mem_cons_of_mem _ w_55)
  have L23 := hts (.fieldLink RX1 23 "ChunkCarriers$Desk" "numbers" "[I") (List.mem_cons_of_mem _ w_57)
  have L26 := hts (.fieldLink RX1 26 "ChunkCarriers$Desk" "capacities" "[I") (List.mem_cons_of_mem _ w_58)
  have L29 := hts (.fieldLink RX1 29 "ChunkCarriers$Desk" "firsts" "[I") (List.mem_cons_of_mem _ w_59)
  have L32 := hts (.fieldLink RX1 32 "ChunkCarriers$Desk" "codes" "[I") (List.mem_cons_of_mem _ w_60)
  have L35 := hts (.fieldLink RX1 35 "ChunkCarriers$Desk" "places" "[I") (List.mem_cons_of_mem _ w_61)
  have L38 := hts (.fieldLink RX1 38 "ChunkCarriers$Desk" "uses" "[I") (List.mem_cons_of_mem _ w_62)
  have L41 := hts (.fieldLink RX1 41 "ChunkCarriers$Desk" "references" "[I") (List.mem_cons_of_mem _ w_63)
  have L44 := hts (.fieldLink RX1 44 "ChunkCarriers$Desk" "lengths" "[I") (List.mem_cons_of_mem _ w_64)
  have L53 := hts (.fieldLink RX1 53 "ChunkCarriers$Desk" "containers" "I") (List.mem_cons_of_mem _ w_108)
  have L57 := hts (.fieldLink RX1 57 "ChunkCarriers$Desk" "entries" "I") (List.mem_cons_of_mem _ w_109)
  have L60 := hts (.fieldLink RX1 60 "ChunkCarriers$Desk" "nextNumber" "I") (List.mem_cons_of_mem _ w_110)
  have L63 := hts (.fieldLink RX1 63 "ChunkCarriers$Desk" "carried" "I") (List.mem_cons_of_mem _ w_111)
  have inX1_ : ∀ w ∈ wsX10, w ∈ wX1_copyFrom := fun w h => List.mem_cons_of_mem _ (inlX1 w h)
  have hP : va_P D vwCl ((wdkF t h0 a0 (dk_settings d0) (dk_numbers d0) (dk_capacities d0) (dk_firsts d0) (dk_containers d0) (dk_codes d0) (dk_places d0) (dk_uses d0) (dk_entries d0) (dk_references d0) (dk_lengths d0) (dk_nextNumber d0) (dk_carried d0)) ++ (wdkF t h1 a1 (dk_settings d1) (dk_numbers d1) (dk_capacities d1) (dk_firsts d1) (dk_containers d1) (dk_codes d1) (dk_places d1) (dk_uses d1) (dk_entries d1) (dk_references d1) (dk_lengths d1) (dk_nextNumber d1) (dk_carried d1))) s.heap := hP
  have hD : va_D A ((wdkF t h0 a0 (dk_settings d0) (dk_numbers d0) (dk_capacities d0) (dk_firsts d0) (dk_containers d0) (dk_codes d0) (dk_places d0) (dk_uses d0) (dk_entries d0) (dk_references d0) (dk_lengths d0) (dk_nextNumber d0) (dk_carried d0)) ++ (wdkF t h1 a1 (dk_settings d1) (dk_numbers d1) (dk_capacities d1) (dk_firsts d1) (dk_containers d1) (dk_codes d1) (dk_places d1) (dk_uses d1) (dk_entries d1) (dk_references d1) (dk_lengths d1) (dk_nextNumber d1) (dk_carried d1))) := hD
  refine lv_aload_n hx hb (kd tdlX1_copyFrom_0 0 rfl) rfl (lv_at hl 1 rfl) ?_
  refine lv_ifnonnull (tgt := 5) hx hb (kd tdlX1_copyFrom_0 1 rfl) (by decide) ?_
  refine lv_aload_n hx hb (kd tdlX1_copyFrom_0 3 rfl) rfl (lv_at hl 1 rfl) ?_
  refine va_get (D := D) (ci := 1) (v := .ref (a1 0)) (C := RX1) (T := TX1) (N := 13) hx hb hts inX1_ hown hK hP 10 rfl rfl 0 (by decide) L18 (fun _ h9 => h9) rfl (kd tdlX1_copyFrom_0 4 rfl) ?_
  refine lv_iconst (v := 0) hx hb (kd tdlX1_copyFrom_0 5 rfl) (by decide) ?_
  refine lv_aload_n hx hb (kd tdlX1_copyFrom_0 6 rfl) rfl (lv_at hl 0 rfl) ?_
  refine va_get (D := D) (ci := 1) (v := .ref (a0 0)) (C := RX1) (T := TX1) (N := 13) hx hb hts inX1_ hown hK hP 0 rfl rfl 0 (by decide) L18 (fun _ h9 => h9) rfl (kd tdlX1_copyFrom_0 7 rfl) ?_
  refine lv_iconst (v := 0) hx hb (kd tdlX1_copyFrom_0 8 rfl) (by decide) ?_
  refine lv_iconst (v := 5) hx hb (kd tdlX1_copyFrom_0 9 rfl) (by decide) ?_
  obtain ⟨ha16, hb16, hc16, hd16, he16, hF⟩ := kgc hF
  refine va_copyi (D := D) (tys := TY t) (ty := .int) hx hb (hml.trans hl.1.symm) hown (hts _ (List.mem_cons_of_mem _ w_104)) (hts _ (List.mem_cons_of_mem _ w_105)) (hts _ (List.mem_cons_of_mem _ w_106)) (hts _ (List.mem_cons_of_mem _ w_107)) hK hP hD hS 11 1 0 0 rfl rfl rfl rfl rfl ha16 hb16 hc16 hd16 he16 (fun _ _ => rfl) (Nat.le_of_ble_eq_true rfl) (Nat.le_of_ble_eq_true rfl) (kd tdlX1_copyFrom_0 10 rfl) (fun H locs hP hD hS => ?_)
  have hP : va_P D vwCl ((wdkF t h0 a0 (va_cpy (dk_settings d1) (dk_settings d0) (Int32.toNatClampNeg 0) (Int32.toNatClampNeg 0) (Int32.toNatClampNeg 5)) (dk_numbers d0) (dk_capacities d0) (dk_firsts d0) (dk_containers d0) (dk_codes d0) (dk_places d0) (dk_uses d0) (dk_entries d0) (dk_references d0) (dk_lengths d0) (dk_nextNumber d0) (dk_carried d0)) ++ (wdkF t h1 a1 (dk_settings d1) (dk_numbers d1) (dk_capacities d1) (dk_firsts d1) (dk_containers d1) (dk_codes d1) (dk_places d1) (dk_uses d1) (dk_entries d1) (dk_references d1) (dk_lengths d1) (dk_nextNumber d1) (dk_carried d1))) H := hP
  have hD : va_D A ((wdkF t h0 a0 (va_cpy (dk_settings d1) (dk_settings d0) (Int32.toNatClampNeg 0) (Int32.toNatClampNeg 0) (Int32.toNatClampNeg 5)) (dk_numbers d0) (dk_capacities d0) (dk_firsts d0) (dk_containers d0) (dk_codes d0) (dk_places d0) (dk_uses d0) (dk_entries d0) (dk_references d0) (dk_lengths d0) (dk_nextNumber d0) (dk_carried d0)) ++ (wdkF t h1 a1 (dk_settings d1) (dk_numbers d1) (dk_capacities d1) (dk_firsts d1) (dk_containers d1) (dk_codes d1) (dk_places d1) (dk_uses d1) (dk_entries d1) (dk_references d1) (dk_lengths d1) (dk_nextNumber d1) (dk_carried d1))) := hD
  refine lv_aload_n hx hb (kd tdlX1_copyFrom_0 11 rfl) rfl (lv_at hl 1 rfl) ?_
  refine va_get (D := D) (ci := 1) (v := .ref (a1 1)) (C := RX1) (T := TX1) (N := 13) hx hb hts inX1_ hown hK hP 10 rfl rfl 1 (by decide) L23 (fun _ h9 => h9) rfl (kd tdlX1_copyFrom_0 12 rfl) ?_
  refine lv_iconst (v := 0) hx hb (kd tdlX1_copyFrom_0 13 rfl) (by decide) ?_
  refine lv_aload_n hx hb (kd tdlX1_copyFrom_0 14 rfl) rfl (lv_at hl 0 rfl) ?_
  refine va_get (D := D) (ci := 1) (v := .ref (a0 1)) (C := RX1) (T := TX1) (N := 13) hx hb hts inX1_ hown hK hP 0 rfl rfl 1 (by decide) L23 (fun _ h9 => h9) rfl (kd tdlX1_copyFrom_0 15 rfl) ?_
  refine lv_iconst (v := 0) hx hb (kd tdlX1_copyFrom_0 16 rfl) (by decide) ?_
  refine lv_aload_n hx hb (kd tdlX1_copyFrom_0 17 rfl) rfl (lv_at hl 1 rfl) ?_
  refine va_get (D := D) (ci := 1) (v := .int (dk_containers d1)) (C := RX1) (T := TX1) (N := 13) hx hb hts inX1_ hown hK hP 10 rfl rfl 4 (by decide) L53 (fun _ h9 => h9) rfl (kd tdlX1_copyFrom_0 18 rfl) ?_
  obtain ⟨ha33, hb33, hc33, hd33, he33, hF⟩ := kgc hF
  refine va_copyi (D := D) (tys := TY t) (ty := .int) hx hb (hml.trans hl.1.symm) hown (hts _ (List.mem_cons_of_mem _ w_104)) (hts _ (List.mem_cons_of_mem _ w_105)) (hts _ (List.mem_cons_of_mem _ w_106)) (hts _ (List.mem_cons_of_mem _ w_107)) hK hP hD hS 12 2 0 0 rfl rfl rfl rfl rfl ha33 hb33 hc33 hd33 he33 (fun _ _ => rfl) (Nat.le_of_ble_eq_true rfl) (Nat.le_of_ble_eq_true rfl) (kd tdlX1_copyFrom_0 19 rfl) (fun H locs hP hD hS => ?_)
  have hP : va_P D vwCl ((wdkF t h0 a0 (va_cpy (dk_settings d1) (dk_settings d0) (Int32.toNatClampNeg 0) (Int32.toNatClampNeg 0) (Int32.toNatClampNeg 5)) (va_cpy (dk_numbers d1) (dk_numbers d0) (Int32.toNatClampNeg 0) (Int32.toNatClampNeg 0) (Int32.toNatClampNeg (dk_containers d1))) (dk_capacities d0) (dk_firsts d0) (dk_containers d0) (dk_codes d0) (dk_places d0) (dk_uses d0) (dk_entries d0) (dk_references d0) (dk_lengths d0) (dk_nextNumber d0) (dk_carried d0)) ++ (wdkF t h1 a1 (dk_settings d1) (dk_numbers d1) (dk_capacities d1) (dk_firsts d1) (dk_containers d1) (dk_codes d1) (dk_places d1) (dk_uses d1) (dk_entries d1) (dk_references d1) (dk_lengths d1) (dk_nextNumber d1) (dk_carried d1))) H := hP
  have hD : va_D A ((wdkF t h0 a0 (va_cpy (dk_settings d1) (dk_settings d0) (Int32.toNatClampNeg 0) (Int32.toNatClampNeg 0) (Int32.toNatClampNeg 5)) (va_cpy (dk_numbers d1) (dk_numbers d0) (Int32.toNatClampNeg 0) (Int32.toNatClampNeg 0) (Int32.toNatClampNeg (dk_containers d1))) (dk_capacities d0) (dk_firsts d0) (dk_containers d0) (dk_codes d0) (dk_places d0) (dk_uses d0) (dk_entries d0) (dk_references d0) (dk_lengths d0) (dk_nextNumber d0) (dk_carried d0)) ++ (wdkF t h1 a1 (dk_settings d1) (dk_numbers d1) (dk_capacities d1) (dk_firsts d1) (dk_containers d1) (dk_codes d1) (dk_places d1) (dk_uses d1) (dk_entries d1) (dk_references d1) (dk_lengths d1) (dk_nextNumber d1) (dk_carried d1))) := hD
  refine lv_aload_n hx hb (kd tdlX1_copyFrom_0 20 rfl) rfl (lv_at hl 1 rfl) ?_
  refine va_get (D := D) (ci := 1) (v := .ref (a1 2)) (C := RX1) (T := TX1) (N := 13) hx hb hts inX1_ hown hK hP 10 rfl rfl 2 (by decide) L26 (fun _ h9 => h9) rfl (kd tdlX1_copyFrom_0 21 rfl) ?_
  refine lv_iconst (v := 0) hx hb (kd tdlX1_copyFrom_0 22 rfl) (by decide) ?_
  refine lv_aload_n hx hb (kd tdlX1_copyFrom_0 23 rfl) rfl (lv_at hl 0 rfl) ?_
  refine va_get (D := D) (ci := 1) (v := .ref (a0 2)) (C := RX1) (T := TX1) (N := 13) hx hb hts inX1_ hown hK hP 0 rfl rfl 2 (by decide) L26 (fun _ h9 => h9) rfl (kd tdlX1_copyFrom_0 24 rfl) ?_
  refine lv_iconst (v := 0) hx hb (kd tdlX1_copyFrom_0 25 rfl) (by decide) ?_
  refine lv_aload_n hx hb (kd tdlX1_copyFrom_0 26 rfl) rfl (lv_at hl 1 rfl) ?_
  refine va_get (D := D) (ci := 1) (v := .int (dk_containers d1)) (C := RX1) (T := TX1) (N := 13) hx hb hts inX1_ hown hK hP 10 rfl rfl 4 (by decide) L53 (fun _ h9 => h9) rfl (kd tdlX1_copyFrom_0 27 rfl) ?_
  obtain ⟨ha50, hb50, hc50, hd50, he50, hF⟩ := kgc hF
  refine va_copyi (D := D) (tys := TY t) (ty := .int) hx hb (hml.trans hl.1.symm) hown (hts _ (List.mem_cons_of_mem _ w_104)) (hts _ (List.mem_cons_of_mem _ w_105)) (hts _ (List.mem_cons_of_mem _ w_106)) (hts _ (List.mem_cons_of_mem _ w_107)) hK hP hD hS 13 3 0 0 rfl rfl rfl rfl rfl ha50 hb50 hc50 hd50 he50 (fun _ _ => rfl) (Nat.le_of_ble_eq_true rfl) (Nat.le_of_ble_eq_true rfl) (kd tdlX1_copyFrom_0 28 rfl) (fun H locs hP hD hS => ?_)
  have hP : va_P D vwCl ((wdkF t h0 a0 (va_cpy (dk_settings d1) (dk_settings d0) (Int32.toNatClampNeg 0) (Int32.toNatClampNeg 0) (Int32.toNatClampNeg 5)) (va_cpy (dk_numbers d1) (dk_numbers d0) (Int32.toNatClampNeg 0) (Int32.toNatClampNeg 0) (Int32.toNatClampNeg (dk_containers d1))) (va_cpy (dk_capacities d1) (dk_capacities d0) (Int32.toNatClampNeg 0) (Int32.toNatClampNeg 0) (Int32.toNatClampNeg (dk_containers d1))) (dk_firsts d0) (dk_containers d0) (dk_codes d0) (dk_places d0) (dk_uses d0) (dk_entries d0) (dk_references d0) (dk_lengths d0) (dk_nextNumber d0) (dk_carried d0)) ++ (wdkF t h1 a1 (dk_settings d1) (dk_numbers d1) (dk_capacities d1) (dk_firsts d1) (dk_containers d1) (dk_codes d1) (dk_places d1) (dk_uses d1) (dk_entries d1) (dk_references d1) (dk_lengths d1) (dk_nextNumber d1) (dk_carried d1))) H := hP
  have hD : va_D A ((wdkF t h0 a0 (va_cpy (dk_settings d1) (dk_settings d0) (Int32.toNatClampNeg 0) (Int32.toNatClampNeg 0) (Int32.toNatClampNeg 5)) (va_cpy (dk_numbers d1) (dk_numbers d0) (Int32.toNatClampNeg 0) (Int32.toNatClampNeg 0) (Int32.toNatClampNeg (dk_containers d1))) (va_cpy (dk_capacities d1) (dk_capacities d0) (Int32.toNatClampNeg 0) (Int32.toNatClampNeg 0) (Int32.toNatClampNeg (dk_containers d1))) (dk_firsts d0) (dk_containers d0) (dk_codes d0) (dk_places d0) (dk_uses d0) (dk_entries d0) (dk_references d0) (dk_lengths d0) (dk_nextNumber d0) (dk_carried d0)) ++ (wdkF t h1 a1 (dk_settings d1) (dk_numbers d1) (dk_capacities d1) (dk_firsts d1) (dk_containers d1) (dk_codes d1) (dk_places d1) (dk_uses d1) (dk_entries d1) (dk_references d1) (dk_lengths d1) (dk_nextNumber d1) (dk_carried d1))) := hD
  refine lv_aload_n hx hb (kd tdlX1_copyFrom_0 29 rfl) rfl (lv_at hl 1 rfl) ?_
  refine va_get (D := D) (ci := 1) (v := .ref (a1 3)) (C := RX1) (T := TX1) (N := 13) hx hb hts inX1_ hown hK hP 10 rfl rfl 3 (by decide) L29 (fun _ h9 => h9) rfl (kd tdlX1_copyFrom_0 30 rfl) ?_
  refine lv_iconst (v := 0) hx hb (kd tdlX1_copyFrom_0 31 rfl) (by decide) ?_
  refine lv_aload_n hx hb (kd tdlX1_copyFrom_0 32 rfl) rfl (lv_at hl 0 rfl) ?_
  refine va_get (D := D) (ci := 1) (v := .ref (a0 3)) (C := RX1) (T := TX1) (N := 13) hx hb hts inX1_ hown hK hP 0 rfl rfl 3 (by decide) L29 (fun _ h9 => h9) rfl (kd tdlX1_copyFrom_0 33 rfl) ?_
  refine lv_iconst (v := 0) hx hb (kd tdlX1_copyFrom_0 34 rfl) (by decide) ?_
  refine lv_aload_n hx hb (kd tdlX1_copyFrom_0 35 rfl) rfl (lv_at hl 1 rfl) ?_
  refine va_get (D := D) (ci := 1) (v := .int (dk_containers d1)) (C := RX1) (T := TX1) (N := 13) hx hb hts inX1_ hown hK hP 10 rfl rfl 4 (by decide) L53 (fun _ h9 => h9) rfl (kd tdlX1_copyFrom_0 36 rfl) ?_
  obtain ⟨ha67, hb67, hc67, hd67, he67, hF⟩ := kgc hF
  refine va_copyi (D := D) (tys := TY t) (ty := .int) hx hb (hml.trans hl.1.symm) hown (hts _ (List.mem_cons_of_mem _ w_104)) (hts _ (List.mem_cons_of_mem _ w_105)) (hts _ (List.mem_cons_of_mem _ w_106)) (hts _ (List.mem_cons_of_mem _ w_107)) hK hP hD hS 14 4 0 0 rfl rfl rfl rfl rfl ha67 hb67 hc67 hd67 he67 (fun _ _ => rfl) (Nat.le_of_ble_eq_true rfl) (Nat.le_of_ble_eq_true rfl) (kd tdlX1_copyFrom_0 37 rfl) (fun H locs hP hD hS => ?_)
  have hP : va_P D vwCl ((wdkF t h0 a0 (va_cpy (dk_settings d1) (dk_settings d0) (Int32.toNatClampNeg 0) (Int32.toNatClampNeg 0) (Int32.toNatClampNeg 5)) (va_cpy (dk_numbers d1) (dk_numbers d0) (Int32.toNatClampNeg 0) (Int32.toNatClampNeg 0) (Int32.toNatClampNeg (dk_containers d1))) (va_cpy (dk_capacities d1) (dk_capacities d0) (Int32.toNatClampNeg 0) (Int32.toNatClampNeg 0) (Int32.toNatClampNeg (dk_containers d1))) (va_cpy (dk_firsts d1) (dk_firsts d0) (Int32.toNatClampNeg 0) (Int32.toNatClampNeg 0) (Int32.toNatClampNeg (dk_containers d1))) (dk_containers d0) (dk_codes d0) (dk_places d0) (dk_uses d0) (dk_entries d0) (dk_references d0) (dk_lengths d0) (dk_nextNumber d0) (dk_carried d0)) ++ (wdkF t h1 a1 (dk_settings d1) (dk_numbers d1) (dk_capacities d1) (dk_firsts d1) (dk_containers d1) (dk_codes d1) (dk_places d1) (dk_uses d1) (dk_entries d1) (dk_references d1) (dk_lengths d1) (dk_nextNumber d1) (dk_carried d1))) H := hP
  have hD : va_D A ((wdkF t h0 a0 (va_cpy (dk_settings d1) (dk_settings d0) (Int32.toNatClampNeg 0) (Int32.toNatClampNeg 0) (Int32.toNatClampNeg 5)) (va_cpy (dk_numbers d1) (dk_numbers d0) (Int32.toNatClampNeg 0) (Int32.toNatClampNeg 0) (Int32.toNatClampNeg (dk_containers d1))) (va_cpy (dk_capacities d1) (dk_capacities d0) (Int32.toNatClampNeg 0) (Int32.toNatClampNeg 0) (Int32.toNatClampNeg (dk_containers d1))) (va_cpy (dk_firsts d1) (dk_firsts d0) (Int32.toNatClampNeg 0) (Int32.toNatClampNeg 0) (Int32.toNatClampNeg (dk_containers d1))) (dk_containers d0) (dk_codes d0) (dk_places d0) (dk_uses d0) (dk_entries d0) (dk_references d0) (dk_lengths d0) (dk_nextNumber d0) (dk_carried d0)) ++ (wdkF t h1 a1 (dk_settings d1) (dk_numbers d1) (dk_capacities d1) (dk_firsts d1) (dk_containers d1) (dk_codes d1) (dk_places d1) (dk_uses d1) (dk_entries d1) (dk_references d1) (dk_lengths d1) (dk_nextNumber d1) (dk_carried d1))) := hD
  refine lv_aload_n hx hb (kd tdlX1_copyFrom_0 38 rfl) rfl (lv_at hl 0 rfl) ?_
  refine lv_aload_n hx hb (kd tdlX1_copyFrom_0 39 rfl) rfl (lv_at hl 1 rfl) ?_
  refine va_get (D := D) (ci := 1) (v := .int (dk_containers d1)) (C := RX1) (T := TX1) (N := 13) hx hb hts inX1_ hown hK hP 10 rfl rfl 4 (by decide) L53 (fun _ h9 => h9) rfl (kd tdlX1_copyFrom_0 40 rfl) ?_
  refine va_put (D := D) (ci := 1) (v := .int (dk_containers d1)) (ty := .int) (C := RX1) (T := TX1) (N := 13) hx hb hts inX1_ tyX1 tyX1_ok nmX1 hown hK hP hD hS 0 rfl rfl 4 (by decide) L53 (fun _ h9 => h9) rfl (by decide +kernel) rfl rfl (Nat.le_of_ble_eq_true rfl) (kd tdlX1_copyFrom_0 41 rfl) (fun H locs hP hD hS => ?_)
  have hP : va_P D vwCl ((wdkF t h0 a0 (va_cpy (dk_settings d1) (dk_settings d0) (Int32.toNatClampNeg 0) (Int32.toNatClampNeg 0) (Int32.toNatClampNeg 5)) (va_cpy (dk_numbers d1) (dk_numbers d0) (Int32.toNatClampNeg 0) (Int32.toNatClampNeg 0) (Int32.toNatClampNeg (dk_containers d1))) (va_cpy (dk_capacities d1) (dk_capacities d0) (Int32.toNatClampNeg 0) (Int32.toNatClampNeg 0) (Int32.toNatClampNeg (dk_containers d1))) (va_cpy (dk_firsts d1) (dk_firsts d0) (Int32.toNatClampNeg 0) (Int32.toNatClampNeg 0) (Int32.toNatClampNeg (dk_containers d1))) (dk_containers d1) (dk_codes d0) (dk_places d0) (dk_uses d0) (dk_entries d0) (dk_references d0) (dk_lengths d0) (dk_nextNumber d0) (dk_carried d0)) ++ (wdkF t h1 a1 (dk_settings d1) (dk_numbers d1) (dk_capacities d1) (dk_firsts d1) (dk_containers d1) (dk_codes d1) (dk_places d1) (dk_uses d1) (dk_entries d1) (dk_references d1) (dk_lengths d1) (dk_nextNumber d1) (dk_carried d1))) H := hP
  have hD : va_D A ((wdkF t h0 a0 (va_cpy (dk_settings d1) (dk_settings d0) (Int32.toNatClampNeg 0) (Int32.toNatClampNeg 0) (Int32.toNatClampNeg 5)) (va_cpy (dk_numbers d1) (dk_numbers d0) (Int32.toNatClampNeg 0) (Int32.toNatClampNeg 0) (Int32.toNatClampNeg (dk_containers d1))) (va_cpy (dk_capacities d1) (dk_capacities d0) (Int32.toNatClampNeg 0) (Int32.toNatClampNeg 0) (Int32.toNatClampNeg (dk_containers d1))) (va_cpy (dk_firsts d1) (dk_firsts d0) (Int32.toNatClampNeg 0) (Int32.toNatClampNeg 0) (Int32.toNatClampNeg (dk_containers d1))) (dk_containers d1) (dk_codes d0) (dk_places d0) (dk_uses d0) (dk_entries d0) (dk_references d0) (dk_lengths d0) (dk_nextNumber d0) (dk_carried d0)) ++ (wdkF t h1 a1 (dk_settings d1) (dk_numbers d1) (dk_capacities d1) (dk_firsts d1) (dk_containers d1) (dk_codes d1) (dk_places d1) (dk_uses d1) (dk_entries d1) (dk_references d1) (dk_lengths d1) (dk_nextNumber d1) (dk_carried d1))) := hD
  refine lv_aload_n hx hb (kd tdlX1_copyFrom_0 42 rfl) rfl (lv_at hl 1 rfl) ?_
  refine va_get (D := D) (ci := 1) (v := .ref (a1 4)) (C := RX1) (T := TX1) (N := 13) hx hb hts inX1_ hown hK hP 10 rfl rfl 5 (by decide) L32 (fun _ h9 => h9) rfl (kd tdlX1_copyFrom_0 43 rfl) ?_
  refine lv_iconst (v := 0) hx hb (kd tdlX1_copyFrom_0 44 rfl) (by decide) ?_
  refine lv_aload_n hx hb (kd tdlX1_copyFrom_1 0 rfl) rfl (lv_at hl 0 rfl) ?_
  refine va_get (D := D) (ci := 1) (v := .ref (a0 4)) (C := RX1) (T := TX1) (N := 13) hx hb hts inX1_ hown hK hP 0 rfl rfl 5 (by decide) L32 (fun _ h9 => h9) rfl (kd tdlX1_copyFrom_1 1 rfl) ?_
  refine lv_iconst (v := 0) hx hb (kd tdlX1_copyFrom_1 2 rfl) (by decide) ?_
  refine lv_aload_n hx hb (kd tdlX1_copyFrom_1 3 rfl) rfl (lv_at hl 1 rfl) ?_
  refine va_get (D := D) (ci := 1) (v := .int (dk_entries d1)) (C := RX1) (T := TX1) (N := 13) hx hb hts inX1_ hown hK hP 10 rfl rfl 8 (by decide) L57 (fun _ h9 => h9) rfl (kd tdlX1_copyFrom_1 4 rfl) ?_
  obtain ⟨ha92, hb92, hc92, hd92, he92, hF⟩ := kgc hF
  refine va_copyi (D := D) (tys := TY t) (ty := .int) hx hb (hml.trans hl.1.symm) hown (hts _ (List.mem_cons_of_mem _ w_104)) (hts _ (List.mem_cons_of_mem _ w_105)) (hts _ (List.mem_cons_of_mem _ w_106)) (hts _ (List.mem_cons_of_mem _ w_107)) hK hP hD hS 15 5 0 0 rfl rfl rfl rfl rfl ha92 hb92 hc92 hd92 he92 (fun _ _ => rfl) (Nat.le_of_ble_eq_true rfl) (Nat.le_of_ble_eq_true rfl) (kd tdlX1_copyFrom_1 5 rfl) (fun H locs hP hD hS => ?_)
  have hP : va_P D vwCl ((wdkF t h0 a0 (va_cpy (dk_settings d1) (dk_settings d0) (Int32.toNatClampNeg 0) (Int32.toNatClampNeg 0) (Int32.toNatClampNeg 5)) (va_cpy (dk_numbers d1) (dk_numbers d0) (Int32.toNatClampNeg 0) (Int32.toNatClampNeg 0) (Int32.toNatClampNeg (dk_containers d1))) (va_cpy (dk_capacities d1) (dk_capacities d0) (Int32.toNatClampNeg 0) (Int32.toNatClampNeg 0) (Int32.toNatClampNeg (dk_containers d1))) (va_cpy (dk_firsts d1) (dk_firsts d0) (Int32.toNatClampNeg 0) (Int32.toNatClampNeg 0) (Int32.toNatClampNeg (dk_containers d1))) (dk_containers d1) (va_cpy (dk_codes d1) (dk_codes d0) (Int32.toNatClampNeg 0) (Int32.toNatClampNeg 0) (Int32.toNatClampNeg (dk_entries d1))) (dk_places d0) (dk_uses d0) (dk_entries d0) (dk_references d0) (dk_lengths d0) (dk_nextNumber d0) (dk_carried d0)) ++ (wdkF t h1 a1 (dk_settings d1) (dk_numbers d1) (dk_capacities d1) (dk_firsts d1) (dk_containers d1) (dk_codes d1) (dk_places d1) (dk_uses d1) (dk_entries d1) (dk_references d1) (dk_lengths d1) (dk_nextNumber d1) (dk_carried d1))) H := hP
  have hD : va_D A ((wdkF t h0 a0 (va_cpy (dk_settings d1) (dk_settings d0) (Int32.toNatClampNeg 0) (Int32.toNatClampNeg 0) (Int32.toNatClampNeg 5)) (va_cpy (dk_numbers d1) (dk_numbers d0) (Int32.toNatClampNeg 0) (Int32.toNatClampNeg 0) (Int32.toNatClampNeg (dk_containers d1))) (va_cpy (dk_capacities d1) (dk_capacities d0) (Int32.toNatClampNeg 0) (Int32.toNatClampNeg 0) (Int32.toNatClampNeg (dk_containers d1))) (va_cpy (dk_firsts d1) (dk_firsts d0) (Int32.toNatClampNeg 0) (Int32.toNatClampNeg 0) (Int32.toNatClampNeg (dk_containers d1))) (dk_containers d1) (va_cpy (dk_codes d1) (dk_codes d0) (Int32.toNatClampNeg 0) (Int32.toNatClampNeg 0) (Int32.toNatClampNeg (dk_entries d1))) (dk_places d0) (dk_uses d0) (dk_entries d0) (dk_references d0) (dk_lengths d0) (dk_nextNumber d0) (dk_carried d0)) ++ (wdkF t h1 a1 (dk_settings d1) (dk_numbers d1) (dk_capacities d1) (dk_firsts d1) (dk_containers d1) (dk_codes d1) (dk_places d1) (dk_uses d1) (dk_entries d1) (dk_references d1) (dk_lengths d1) (dk_nextNumber d1) (dk_carried d1))) := hD
  refine lv_aload_n hx hb (kd tdlX1_copyFrom_1 6 rfl) rfl (lv_at hl 1 rfl) ?_
  refine va_get (D := D) (ci := 1) (v := .ref (a1 5)) (C := RX1) (T := TX1) (N := 13) hx hb hts inX1_ hown hK hP 10 rfl rfl 6 (by decide) L35 (fun _ h9 => h9) rfl (kd tdlX1_copyFrom_1 7 rfl) ?_
  refine lv_iconst (v := 0) hx hb (kd tdlX1_copyFrom_1 8 rfl) (by decide) ?_
  refine lv_aload_n hx hb (kd tdlX1_copyFrom_1 9 rfl) rfl (lv_at hl 0 rfl) ?_
  refine va_get (D := D) (ci := 1) (v := .ref (a0 5)) (C := RX1) (T := TX1) (N := 13) hx hb hts inX1_ hown hK hP 0 rfl rfl 6 (by decide) L35 (fun _ h9 => h9) rfl (kd tdlX1_copyFrom_1 10 rfl) ?_
  refine lv_iconst (v := 0) hx hb (kd tdlX1_copyFrom_1 11 rfl) (by decide) ?_
  refine lv_aload_n hx hb (kd tdlX1_copyFrom_1 12 rfl) rfl (lv_at hl 1 rfl) ?_
  refine va_get (D := D) (ci := 1) (v := .int (dk_entries d1)) (C := RX1) (T := TX1) (N := 13) hx hb hts inX1_ hown hK hP 10 rfl rfl 8 (by decide) L57 (fun _ h9 => h9) rfl (kd tdlX1_copyFrom_1 13 rfl) ?_
  obtain ⟨ha109, hb109, hc109, hd109, he109, hF⟩ := kgc hF
  refine va_copyi (D := D) (tys := TY t) (ty := .int) hx hb (hml.trans hl.1.symm) hown (hts _ (List.mem_cons_of_mem _ w_104)) (hts _ (List.mem_cons_of_mem _ w_105)) (hts _ (List.mem_cons_of_mem _ w_106)) (hts _ (List.mem_cons_of_mem _ w_107)) hK hP hD hS 16 6 0 0 rfl rfl rfl rfl rfl ha109 hb109 hc109 hd109 he109 (fun _ _ => rfl) (Nat.le_of_ble_eq_true rfl) (Nat.le_of_ble_eq_true rfl) (kd tdlX1_copyFrom_1 14 rfl) (fun H locs hP hD hS => ?_)
  have hP : va_P D vwCl ((wdkF t h0 a0 (va_cpy (dk_settings d1) (dk_settings d0) (Int32.toNatClampNeg 0) (Int32.toNatClampNeg 0) (Int32.toNatClampNeg 5)) (va_cpy (dk_numbers d1) (dk_numbers d0) (Int32.toNatClampNeg 0) (Int32.toNatClampNeg 0) (Int32.toNatClampNeg (dk_containers d1))) (va_cpy (dk_capacities d1) (dk_capacities d0) (Int32.toNatClampNeg 0) (Int32.toNatClampNeg 0) (Int32.toNatClampNeg (dk_containers d1))) (va_cpy (dk_firsts d1) (dk_firsts d0) (Int32.toNatClampNeg 0) (Int32.toNatClampNeg 0) (Int32.toNatClampNeg (dk_containers d1))) (dk_containers d1) (va_cpy (dk_codes d1) (dk_codes d0) (Int32.toNatClampNeg 0) (Int32.toNatClampNeg 0) (Int32.toNatClampNeg (dk_entries d1))) (va_cpy (dk_places d1) (dk_places d0) (Int32.toNatClampNeg 0) (Int32.toNatClampNeg 0) (Int32.toNatClampNeg (dk_entries d1))) (dk_uses d0) (dk_entries d0) (dk_references d0) (dk_lengths d0) (dk_nextNumber d0) (dk_carried d0)) ++ (wdkF t h1 a1 (dk_settings d1) (dk_numbers d1) (dk_capacities d1) (dk_firsts d1) (dk_containers d1) (dk_codes d1) (dk_places d1) (dk_uses d1) (dk_entries d1) (dk_references d1) (dk_lengths d1) (dk_nextNumber d1) (dk_carried d1))) H := hP
  have hD : va_D A ((wdkF t h0 a0 (va_cpy (dk_settings d1) (dk_settings d0) (Int32.toNatClampNeg 0) (Int32.toNatClampNeg 0) (Int32.toNatClampNeg 5)) (va_cpy (dk_numbers d1) (dk_numbers d0) (Int32.toNatClampNeg 0) (Int32.toNatClampNeg 0) (Int32.toNatClampNeg (dk_containers d1))) (va_cpy (dk_capacities d1) (dk_capacities d0) (Int32.toNatClampNeg 0) (Int32.toNatClampNeg 0) (Int32.toNatClampNeg (dk_containers d1))) (va_cpy (dk_firsts d1) (dk_firsts d0) (Int32.toNatClampNeg 0) (Int32.toNatClampNeg 0) (Int32.toNatClampNeg (dk_containers d1))) (dk_containers d1) (va_cpy (dk_codes d1) (dk_codes d0) (Int32.toNatClampNeg 0) (Int32.toNatClampNeg 0) (Int32.toNatClampNeg (dk_entries d1))) (va_cpy (dk_places d1) (dk_places d0) (Int32.toNatClampNeg 0) (Int32.toNatClampNeg 0) (Int32.toNatClampNeg (dk_entries d1))) (dk_uses d0) (dk_entries d0) (dk_references d0) (dk_lengths d0) (dk_nextNumber d0) (dk_carried d0)) ++ (wdkF t h1 a1 (dk_settings d1) (dk_numbers d1) (dk_capacities d1) (dk_firsts d1) (dk_containers d1) (dk_codes d1) (dk_places d1) (dk_uses d1) (dk_entries d1) (dk_references d1) (dk_lengths d1) (dk_nextNumber d1) (dk_carried d1))) := hD
  refine lv_aload_n hx hb (kd tdlX1_copyFrom_1 15 rfl) rfl (lv_at hl 1 rfl) ?_
  refine va_get (D := D) (ci := 1) (v := .ref (a1 6)) (C := RX1) (T := TX1) (N := 13) hx hb hts inX1_ hown hK hP 10 rfl rfl 7 (by decide) L38 (fun _ h9 => h9) rfl (kd tdlX1_copyFrom_1 16 rfl) ?_
  refine lv_iconst (v := 0) hx hb (kd tdlX1_copyFrom_1 17 rfl) (by decide) ?_
  refine lv_aload_n hx hb (kd tdlX1_copyFrom_1 18 rfl) rfl (lv_at hl 0 rfl) ?_
  refine va_get (D := D) (ci := 1) (v := .ref (a0 6)) (C := RX1) (T := TX1) (N := 13) hx hb hts inX1_ hown hK hP 0 rfl rfl 7 (by decide) L38 (fun _ h9 => h9) rfl (kd tdlX1_copyFrom_1 19 rfl) ?_
  refine lv_iconst (v := 0) hx hb (kd tdlX1_copyFrom_1 20 rfl) (by decide) ?_
  refine lv_aload_n hx hb (kd tdlX1_copyFrom_1 21 rfl) rfl (lv_at hl 1 rfl) ?_
  refine va_get (D := D) (ci := 1) (v := .int (dk_entries d1)) (C := RX1) (T := TX1) (N := 13) hx hb hts inX1_ hown hK hP 10 rfl rfl 8 (by decide) L57 (fun _ h9 => h9) rfl (kd tdlX1_copyFrom_1 22 rfl) ?_
  obtain ⟨ha126, hb126, hc126, hd126, he126, hF⟩ := kgc hF
  refine va_copyi (D := D) (tys := TY t) (ty := .int) hx hb (hml.trans hl.1.symm) hown (hts _ (List.mem_cons_of_mem _ w_104)) (hts _ (List.mem_cons_of_mem _ w_105)) (hts _ (List.mem_cons_of_mem _ w_106)) (hts _ (List.mem_cons_of_mem _ w_107)) hK hP hD hS 17 7 0 0 rfl rfl rfl rfl rfl ha126 hb126 hc126 hd126 he126 (fun _ _ => rfl) (Nat.le_of_ble_eq_true rfl) (Nat.le_of_ble_eq_true rfl) (kd tdlX1_copyFrom_1 23 rfl) (fun H locs hP hD hS => ?_)
  have hP : va_P D vwCl ((wdkF t h0 a0 (va_cpy (dk_settings d1) (dk_settings d0) (Int32.toNatClampNeg 0) (Int32.toNatClampNeg 0) (Int32.toNatClampNeg 5)) (va_cpy (dk_numbers d1) (dk_numbers d0) (Int32.toNatClampNeg 0) (Int32.toNatClampNeg 0) (Int32.toNatClampNeg (dk_containers d1))) (va_cpy (dk_capacities d1) (dk_capacities d0) (Int32.toNatClampNeg 0) (Int32.toNatClampNeg 0) (Int32.toNatClampNeg (dk_containers d1))) (va_cpy (dk_firsts d1) (dk_firsts d0) (Int32.toNatClampNeg 0) (Int32.toNatClampNeg 0) (Int32.toNatClampNeg (dk_containers d1))) (dk_containers d1) (va_cpy (dk_codes d1) (dk_codes d0) (Int32.toNatClampNeg 0) (Int32.toNatClampNeg 0) (Int32.toNatClampNeg (dk_entries d1))) (va_cpy (dk_places d1) (dk_places d0) (Int32.toNatClampNeg 0) (Int32.toNatClampNeg 0) (Int32.toNatClampNeg (dk_entries d1))) (va_cpy (dk_uses d1) (dk_uses d0) (Int32.toNatClampNeg 0) (Int32.toNatClampNeg 0) (Int32.toNatClampNeg (dk_entries d1))) (dk_entries d0) (dk_references d0) (dk_lengths d0) (dk_nextNumber d0) (dk_carried d0)) ++ (wdkF t h1 a1 (dk_settings d1) (dk_numbers d1) (dk_capacities d1) (dk_firsts d1) (dk_containers d1) (dk_codes d1) (dk_places d1) (dk_uses d1) (dk_entries d1) (dk_references d1) (dk_lengths d1) (dk_nextNumber d1) (dk_carried d1))) H := hP
  have hD : va_D A ((wdkF t h0 a0 (va_cpy (dk_settings d1) (dk_settings d0) (Int32.toNatClampNeg 0) (Int32.toNatClampNeg 0) (Int32.toNatClampNeg 5)) (va_cpy (dk_numbers d1) (dk_numbers d0) (Int32.toNatClampNeg 0) (Int32.toNatClampNeg 0) (Int32.toNatClampNeg (dk_containers d1))) (va_cpy (dk_capacities d1) (dk_capacities d0) (Int32.toNatClampNeg 0) (Int32.toNatClampNeg 0) (Int32.toNatClampNeg (dk_containers d1))) (va_cpy (dk_firsts d1) (dk_firsts d0) (Int32.toNatClampNeg 0) (Int32.toNatClampNeg 0) (Int32.toNatClampNeg (dk_containers d1))) (dk_containers d1) (va_cpy (dk_codes d1) (dk_codes d0) (Int32.toNatClampNeg 0) (Int32.toNatClampNeg 0) (Int32.toNatClampNeg (dk_entries d1))) (va_cpy (dk_places d1) (dk_places d0) (Int32.toNatClampNeg 0) (Int32.toNatClampNeg 0) (Int32.toNatClampNeg (dk_entries d1))) (va_cpy (dk_uses d1) (dk_uses d0) (Int32.toNatClampNeg 0) (Int32.toNatClampNeg 0) (Int32.toNatClampNeg (dk_entries d1))) (dk_entries d0) (dk_references d0) (dk_lengths d0) (dk_nextNumber d0) (dk_carried d0)) ++ (wdkF t h1 a1 (dk_settings d1) (dk_numbers d1) (dk_capacities d1) (dk_firsts d1) (dk_containers d1) (dk_codes d1) (dk_places d1) (dk_uses d1) (dk_entries d1) (dk_references d1) (dk_lengths d1) (dk_nextNumber d1) (dk_carried d1))) := hD
  refine lv_aload_n hx hb (kd tdlX1_copyFrom_1 24 rfl) rfl (lv_at hl 0 rfl) ?_
  refine lv_aload_n hx hb (kd tdlX1_copyFrom_1 25 rfl) rfl (lv_at hl 1 rfl) ?_
  refine va_get (D := D) (ci := 1) (v := .int (dk_entries d1)) (C := RX1) (T := TX1) (N := 13) hx hb hts inX1_ hown hK hP 10 rfl rfl 8 (by decide) L57 (fun _ h9 => h9) rfl (kd tdlX1_copyFrom_1 26 rfl) ?_
  refine va_put (D := D) (ci := 1) (v := .int (dk_entries d1)) (ty := .int) (C := RX1) (T := TX1) (N := 13) hx hb hts inX1_ tyX1 tyX1_ok nmX1 hown hK hP hD hS 0 rfl rfl 8 (by decide) L57 (fun _ h9 => h9) rfl (by decide +kernel) rfl rfl (Nat.le_of_ble_eq_true rfl) (kd tdlX1_copyFrom_1 27 rfl) (fun H locs hP hD hS => ?_)
  have hP : va_P D vwCl ((wdkF t h0 a0 (va_cpy (dk_settings d1) (dk_settings d0) (Int32.toNatClampNeg 0) (Int32.toNatClampNeg 0) (Int32.toNatClampNeg 5)) (va_cpy (dk_numbers d1) (dk_numbers d0) (Int32.toNatClampNeg 0) (Int32.toNatClampNeg 0) (Int32.toNatClampNeg (dk_containers d1))) (va_cpy (dk_capacities d1) (dk_capacities d0) (Int32.toNatClampNeg 0) (Int32.toNatClampNeg 0) (Int32.toNatClampNeg (dk_containers d1))) (va_cpy (dk_firsts d1) (dk_firsts d0) (Int32.toNatClampNeg 0) (Int32.toNatClampNeg 0) (Int32.toNatClampNeg (dk_containers d1))) (dk_containers d1) (va_cpy (dk_codes d1) (dk_codes d0) (Int32.toNatClampNeg 0) (Int32.toNatClampNeg 0) (Int32.toNatClampNeg (dk_entries d1))) (va_cpy (dk_places d1) (dk_places d0) (Int32.toNatClampNeg 0) (Int32.toNatClampNeg 0) (Int32.toNatClampNeg (dk_entries d1))) (va_cpy (dk_uses d1) (dk_uses d0) (Int32.toNatClampNeg 0) (Int32.toNatClampNeg 0) (Int32.toNatClampNeg (dk_entries d1))) (dk_entries d1) (dk_references d0) (dk_lengths d0) (dk_nextNumber d0) (dk_carried d0)) ++ (wdkF t h1 a1 (dk_settings d1) (dk_numbers d1) (dk_capacities d1) (dk_firsts d1) (dk_containers d1) (dk_codes d1) (dk_places d1) (dk_uses d1) (dk_entries d1) (dk_references d1) (dk_lengths d1) (dk_nextNumber d1) (dk_carried d1))) H := hP
  have hD : va_D A ((wdkF t h0 a0 (va_cpy (dk_settings d1) (dk_settings d0) (Int32.toNatClampNeg 0) (Int32.toNatClampNeg 0) (Int32.toNatClampNeg 5)) (va_cpy (dk_numbers d1) (dk_numbers d0) (Int32.toNatClampNeg 0) (Int32.toNatClampNeg 0) (Int32.toNatClampNeg (dk_containers d1))) (va_cpy (dk_capacities d1) (dk_capacities d0) (Int32.toNatClampNeg 0) (Int32.toNatClampNeg 0) (Int32.toNatClampNeg (dk_containers d1))) (va_cpy (dk_firsts d1) (dk_firsts d0) (Int32.toNatClampNeg 0) (Int32.toNatClampNeg 0) (Int32.toNatClampNeg (dk_containers d1))) (dk_containers d1) (va_cpy (dk_codes d1) (dk_codes d0) (Int32.toNatClampNeg 0) (Int32.toNatClampNeg 0) (Int32.toNatClampNeg (dk_entries d1))) (va_cpy (dk_places d1) (dk_places d0) (Int32.toNatClampNeg 0) (Int32.toNatClampNeg 0) (Int32.toNatClampNeg (dk_entries d1))) (va_cpy (dk_uses d1) (dk_uses d0) (Int32.toNatClampNeg 0) (Int32.toNatClampNeg 0) (Int32.toNatClampNeg (dk_entries d1))) (dk_entries d1) (dk_references d0) (dk_lengths d0) (dk_nextNumber d0) (dk_carried d0)) ++ (wdkF t h1 a1 (dk_settings d1) (dk_numbers d1) (dk_capacities d1) (dk_firsts d1) (dk_containers d1) (dk_codes d1) (dk_places d1) (dk_uses d1) (dk_entries d1) (dk_references d1) (dk_lengths d1) (dk_nextNumber d1) (dk_carried d1))) := hD
  refine lv_aload_n hx hb (kd tdlX1_copyFrom_1 28 rfl) rfl (lv_at hl 1 rfl) ?_
  refine va_get (D := D) (ci := 1) (v := .ref (a1 7)) (C := RX1) (T := TX1) (N := 13) hx hb hts inX1_ hown hK hP 10 rfl rfl 9 (by decide) L41 (fun _ h9 => h9) rfl (kd tdlX1_copyFrom_1 29 rfl) ?_
  refine lv_iconst (v := 0) hx hb (kd tdlX1_copyFrom_1 30 rfl) (by decide) ?_
  refine lv_aload_n hx hb (kd tdlX1_copyFrom_1 31 rfl) rfl (lv_at hl 0 rfl) ?_
  refine va_get (D := D) (ci := 1) (v := .ref (a0 7)) (C := RX1) (T := TX1) (N := 13) hx hb hts inX1_ hown hK hP 0 rfl rfl 9 (by decide) L41 (fun _ h9 => h9) rfl (kd tdlX1_copyFrom_1 32 rfl) ?_
  refine lv_iconst (v := 0) hx hb (kd tdlX1_copyFrom_1 33 rfl) (by decide) ?_
  refine lv_aload_n hx hb (kd tdlX1_copyFrom_1 34 rfl) rfl (lv_at hl 0 rfl) ?_
  refine va_get (D := D) (ci := 1) (v := .ref (a0 7)) (C := RX1) (T := TX1) (N := 13) hx hb hts inX1_ hown hK hP 0 rfl rfl 9 (by decide) L41 (fun _ h9 => h9) rfl (kd tdlX1_copyFrom_1 35 rfl) ?_
  refine va_alen (v := 120) (D := D) (tys := TY t) hx hb hK hP 8 0 rfl rfl rfl (kd tdlX1_copyFrom_1 36 rfl) ?_
  obtain ⟨ha152, hb152, hc152, hd152, he152, hF⟩ := kgc hF
  refine va_copyi (D := D) (tys := TY t) (ty := .int) hx hb (hml.trans hl.1.symm) hown (hts _ (List.mem_cons_of_mem _ w_104)) (hts _ (List.mem_cons_of_mem _ w_105)) (hts _ (List.mem_cons_of_mem _ w_106)) (hts _ (List.mem_cons_of_mem _ w_107)) hK hP hD hS 18 8 0 0 rfl rfl rfl rfl rfl ha152 hb152 hc152 hd152 he152 (fun _ _ => rfl) (Nat.le_of_ble_eq_true rfl) (Nat.le_of_ble_eq_true rfl) (kd tdlX1_copyFrom_1 37 rfl) (fun H locs hP hD hS => ?_)
  have hP : va_P D vwCl ((wdkF t h0 a0 (va_cpy (dk_settings d1) (dk_settings d0) (Int32.toNatClampNeg 0) (Int32.toNatClampNeg 0) (Int32.toNatClampNeg 5)) (va_cpy (dk_numbers d1) (dk_numbers d0) (Int32.toNatClampNeg 0) (Int32.toNatClampNeg 0) (Int32.toNatClampNeg (dk_containers d1))) (va_cpy (dk_capacities d1) (dk_capacities d0) (Int32.toNatClampNeg 0) (Int32.toNatClampNeg 0) (Int32.toNatClampNeg (dk_containers d1))) (va_cpy (dk_firsts d1) (dk_firsts d0) (Int32.toNatClampNeg 0) (Int32.toNatClampNeg 0) (Int32.toNatClampNeg (dk_containers d1))) (dk_containers d1) (va_cpy (dk_codes d1) (dk_codes d0) (Int32.toNatClampNeg 0) (Int32.toNatClampNeg 0) (Int32.toNatClampNeg (dk_entries d1))) (va_cpy (dk_places d1) (dk_places d0) (Int32.toNatClampNeg 0) (Int32.toNatClampNeg 0) (Int32.toNatClampNeg (dk_entries d1))) (va_cpy (dk_uses d1) (dk_uses d0) (Int32.toNatClampNeg 0) (Int32.toNatClampNeg 0) (Int32.toNatClampNeg (dk_entries d1))) (dk_entries d1) (va_cpy (dk_references d1) (dk_references d0) (Int32.toNatClampNeg 0) (Int32.toNatClampNeg 0) (Int32.toNatClampNeg 120)) (dk_lengths d0) (dk_nextNumber d0) (dk_carried d0)) ++ (wdkF t h1 a1 (dk_settings d1) (dk_numbers d1) (dk_capacities d1) (dk_firsts d1) (dk_containers d1) (dk_codes d1) (dk_places d1) (dk_uses d1) (dk_entries d1) (dk_references d1) (dk_lengths d1) (dk_nextNumber d1) (dk_carried d1))) H := hP
  have hD : va_D A ((wdkF t h0 a0 (va_cpy (dk_settings d1) (dk_settings d0) (Int32.toNatClampNeg 0) (Int32.toNatClampNeg 0) (Int32.toNatClampNeg 5)) (va_cpy (dk_numbers d1) (dk_numbers d0) (Int32.toNatClampNeg 0) (Int32.toNatClampNeg 0) (Int32.toNatClampNeg (dk_containers d1))) (va_cpy (dk_capacities d1) (dk_capacities d0) (Int32.toNatClampNeg 0) (Int32.toNatClampNeg 0) (Int32.toNatClampNeg (dk_containers d1))) (va_cpy (dk_firsts d1) (dk_firsts d0) (Int32.toNatClampNeg 0) (Int32.toNatClampNeg 0) (Int32.toNatClampNeg (dk_containers d1))) (dk_containers d1) (va_cpy (dk_codes d1) (dk_codes d0) (Int32.toNatClampNeg 0) (Int32.toNatClampNeg 0) (Int32.toNatClampNeg (dk_entries d1))) (va_cpy (dk_places d1) (dk_places d0) (Int32.toNatClampNeg 0) (Int32.toNatClampNeg 0) (Int32.toNatClampNeg (dk_entries d1))) (va_cpy (dk_uses d1) (dk_uses d0) (Int32.toNatClampNeg 0) (Int32.toNatClampNeg 0) (Int32.toNatClampNeg (dk_entries d1))) (dk_entries d1) (va_cpy (dk_references d1) (dk_references d0) (Int32.toNatClampNeg 0) (Int32.toNatClampNeg 0) (Int32.toNatClampNeg 120)) (dk_lengths d0) (dk_nextNumber d0) (dk_carried d0)) ++ (wdkF t h1 a1 (dk_settings d1) (dk_numbers d1) (dk_capacities d1) (dk_firsts d1) (dk_containers d1) (dk_codes d1) (dk_places d1) (dk_uses d1) (dk_entries d1) (dk_references d1) (dk_lengths d1) (dk_nextNumber d1) (dk_carried d1))) := hD
  refine lv_aload_n hx hb (kd tdlX1_copyFrom_1 38 rfl) rfl (lv_at hl 1 rfl) ?_
  refine va_get (D := D) (ci := 1) (v := .ref (a1 8)) (C := RX1) (T := TX1) (N := 13) hx hb hts inX1_ hown hK hP 10 rfl rfl 10 (by decide) L44 (fun _ h9 => h9) rfl (kd tdlX1_copyFrom_1 39 rfl) ?_
  refine lv_iconst (v := 0) hx hb (kd tdlX1_copyFrom_1 40 rfl) (by decide) ?_
  refine lv_aload_n hx hb (kd tdlX1_copyFrom_1 41 rfl) rfl (lv_at hl 0 rfl) ?_
  refine va_get (D := D) (ci := 1) (v := .ref (a0 8)) (C := RX1) (T := TX1) (N := 13) hx hb hts inX1_ hown hK hP 0 rfl rfl 10 (by decide) L44 (fun _ h9 => h9) rfl (kd tdlX1_copyFrom_1 42 rfl) ?_
  refine lv_iconst (v := 0) hx hb (kd tdlX1_copyFrom_1 43 rfl) (by decide) ?_
  refine lv_aload_n hx hb (kd tdlX1_copyFrom_1 44 rfl) rfl (lv_at hl 0 rfl) ?_
  refine va_get (D := D) (ci := 1) (v := .ref (a0 8)) (C := RX1) (T := TX1) (N := 13) hx hb hts inX1_ hown hK hP 0 rfl rfl 10 (by decide) L44 (fun _ h9 => h9) rfl (kd tdlX1_copyFrom_2 0 rfl) ?_
  refine va_alen (v := 8) (D := D) (tys := TY t) hx hb hK hP 9 0 rfl rfl rfl (kd tdlX1_copyFrom_2 1 rfl) ?_
  obtain ⟨ha170, hb170, hc170, hd170, he170, hF⟩ := kgc hF
  refine va_copyi (D := D) (tys := TY t) (ty := .int) hx hb (hml.trans hl.1.symm) hown (hts _ (List.mem_cons_of_mem _ w_104)) (hts _ (List.mem_cons_of_mem _ w_105)) (hts _ (List.mem_cons_of_mem _ w_106)) (hts _ (List.mem_cons_of_mem _ w_107)) hK hP hD hS 19 9 0 0 rfl rfl rfl rfl rfl ha170 hb170 hc170 hd170 he170 (fun _ _ => rfl) (Nat.le_of_ble_eq_true rfl) (Nat.le_of_ble_eq_true rfl) (kd tdlX1_copyFrom_2 2 rfl) (fun H locs hP hD hS => ?_)
  have hP : va_P D vwCl ((wdkF t h0 a0 (va_cpy (dk_settings d1) (dk_settings d0) (Int32.toNatClampNeg 0) (Int32.toNatClampNeg 0) (Int32.toNatClampNeg 5)) (va_cpy (dk_numbers d1) (dk_numbers d0) (Int32.toNatClampNeg 0) (Int32.toNatClampNeg 0) (Int32.toNatClampNeg (dk_containers d1))) (va_cpy (dk_capacities d1) (dk_capacities d0) (Int32.toNatClampNeg 0) (Int32.toNatClampNeg 0) (Int32.toNatClampNeg (dk_containers d1))) (va_cpy (dk_firsts d1) (dk_firsts d0) (Int32.toNatClampNeg 0) (Int32.toNatClampNeg 0) (Int32.toNatClampNeg (dk_containers d1))) (dk_containers d1) (va_cpy (dk_codes d1) (dk_codes d0) (Int32.toNatClampNeg 0) (Int32.toNatClampNeg 0) (Int32.toNatClampNeg (dk_entries d1))) (va_cpy (dk_places d1) (dk_places d0) (Int32.toNatClampNeg 0) (Int32.toNatClampNeg 0) (Int32.toNatClampNeg (dk_entries d1))) (va_cpy (dk_uses d1) (dk_uses d0) (Int32.toNatClampNeg 0) (Int32.toNatClampNeg 0) (Int32.toNatClampNeg (dk_entries d1))) (dk_entries d1) (va_cpy (dk_references d1) (dk_references d0) (Int32.toNatClampNeg 0) (Int32.toNatClampNeg 0) (Int32.toNatClampNeg 120)) (va_cpy (dk_lengths d1) (dk_lengths d0) (Int32.toNatClampNeg 0) (Int32.toNatClampNeg 0) (Int32.toNatClampNeg 8)) (dk_nextNumber d0) (dk_carried d0)) ++ (wdkF t h1 a1 (dk_settings d1) (dk_numbers d1) (dk_capacities d1) (dk_firsts d1) (dk_containers d1) (dk_codes d1) (dk_places d1) (dk_uses d1) (dk_entries d1) (dk_references d1) (dk_lengths d1) (dk_nextNumber d1) (dk_carried d1))) H := hP
  have hD : va_D A ((wdkF t h0 a0 (va_cpy (dk_settings d1) (dk_settings d0) (Int32.toNatClampNeg 0) (Int32.toNatClampNeg 0) (Int32.toNatClampNeg 5)) (va_cpy (dk_numbers d1) (dk_numbers d0) (Int32.toNatClampNeg 0) (Int32.toNatClampNeg 0) (Int32.toNatClampNeg (dk_containers d1))) (va_cpy (dk_capacities d1) (dk_capacities d0) (Int32.toNatClampNeg 0) (Int32.toNatClampNeg 0) (Int32.toNatClampNeg (dk_containers d1))) (va_cpy (dk_firsts d1) (dk_firsts d0) (Int32.toNatClampNeg 0) (Int32.toNatClampNeg 0) (Int32.toNatClampNeg (dk_containers d1))) (dk_containers d1) (va_cpy (dk_codes d1) (dk_codes d0) (Int32.toNatClampNeg 0) (Int32.toNatClampNeg 0) (Int32.toNatClampNeg (dk_entries d1))) (va_cpy (dk_places d1) (dk_places d0) (Int32.toNatClampNeg 0) (Int32.toNatClampNeg 0) (Int32.toNatClampNeg (dk_entries d1))) (va_cpy (dk_uses d1) (dk_uses d0) (Int32.toNatClampNeg 0) (Int32.toNatClampNeg 0) (Int32.toNatClampNeg (dk_entries d1))) (dk_entries d1) (va_cpy (dk_references d1) (dk_references d0) (Int32.toNatClampNeg 0) (Int32.toNatClampNeg 0) (Int32.toNatClampNeg 120)) (va_cpy (dk_lengths d1) (dk_lengths d0) (Int32.toNatClampNeg 0) (Int32.toNatClampNeg 0) (Int32.toNatClampNeg 8)) (dk_nextNumber d0) (dk_carried d0)) ++ (wdkF t h1 a1 (dk_settings d1) (dk_numbers d1) (dk_capacities d1) (dk_firsts d1) (dk_containers d1) (dk_codes d1) (dk_places d1) (dk_uses d1) (dk_entries d1) (dk_references d1) (dk_lengths d1) (dk_nextNumber d1) (dk_carried d1))) := hD
  refine lv_aload_n hx hb (kd tdlX1_copyFrom_2 3 rfl) rfl (lv_at hl 0 rfl) ?_
  refine lv_aload_n hx hb (kd tdlX1_copyFrom_2 4 rfl) rfl (lv_at hl 1 rfl) ?_
  refine va_get (D := D) (ci := 1) (v := .int (dk_nextNumber d1)) (C := RX1) (T := TX1) (N := 13) hx hb hts inX1_ hown hK hP 10 rfl rfl 11 (by decide) L60 (fun _ h9 => h9) rfl (kd tdlX1_copyFrom_2 5 rfl) ?_
  refine va_put (D := D) (ci := 1) (v := .int (dk_nextNumber d1)) (ty := .int) (C := RX1) (T := TX1) (N := 13) hx hb hts inX1_ tyX1 tyX1_ok nmX1 hown hK hP hD hS 0 rfl rfl 11 (by decide) L60 (fun _ h9 => h9) rfl (by decide +kernel) rfl rfl (Nat.le_of_ble_eq_true rfl) (kd tdlX1_copyFrom_2 6 rfl) (fun H locs hP hD hS => ?_)
  have hP : va_P D vwCl ((wdkF t h0 a0 (va_cpy (dk_settings d1) (dk_settings d0) (Int32.toNatClampNeg 0) (Int32.toNatClampNeg 0) (Int32.toNatClampNeg 5)) (va_cpy (dk_numbers d1) (dk_numbers d0) (Int32.toNatClampNeg 0) (Int32.toNatClampNeg 0) (Int32.toNatClampNeg (dk_containers d1))) (va_cpy (dk_capacities d1) (dk_capacities d0) (Int32.toNatClampNeg 0) (Int32.toNatClampNeg 0) (Int32.toNatClampNeg (dk_containers d1))) (va_cpy (dk_firsts d1) (dk_firsts d0) (Int32.toNatClampNeg 0) (Int32.toNatClampNeg 0) (Int32.toNatClampNeg (dk_containers d1))) (dk_containers d1) (va_cpy (dk_codes d1) (dk_codes d0) (Int32.toNatClampNeg 0) (Int32.toNatClampNeg 0) (Int32.toNatClampNeg (dk_entries d1))) (va_cpy (dk_places d1) (dk_places d0) (Int32.toNatClampNeg 0) (Int32.toNatClampNeg 0) (Int32.toNatClampNeg (dk_entries d1))) (va_cpy (dk_uses d1) (dk_uses d0) (Int32.toNatClampNeg 0) (Int32.toNatClampNeg 0) (Int32.toNatClampNeg (dk_entries d1))) (dk_entries d1) (va_cpy (dk_references d1) (dk_references d0) (Int32.toNatClampNeg 0) (Int32.toNatClampNeg 0) (Int32.toNatClampNeg 120)) (va_cpy (dk_lengths d1) (dk_lengths d0) (Int32.toNatClampNeg 0) (Int32.toNatClampNeg 0) (Int32.toNatClampNeg 8)) (dk_nextNumber d1) (dk_carried d0)) ++ (wdkF t h1 a1 (dk_settings d1) (dk_numbers d1) (dk_capacities d1) (dk_firsts d1) (dk_containers d1) (dk_codes d1) (dk_places d1) (dk_uses d1) (dk_entries d1) (dk_references d1) (dk_lengths d1) (dk_nextNumber d1) (dk_carried d1))) H := hP
  have hD : va_D A ((wdkF t h0 a0 (va_cpy (dk_settings d1) (dk_settings d0) (Int32.toNatClampNeg 0) (Int32.toNatClampNeg 0) (Int32.toNatClampNeg 5)) (va_cpy (dk_numbers d1) (dk_numbers d0) (Int32.toNatClampNeg 0) (Int32.toNatClampNeg 0) (Int32.toNatClampNeg (dk_containers d1))) (va_cpy (dk_capacities d1) (dk_capacities d0) (Int32.toNatClampNeg 0) (Int32.toNatClampNeg 0) (Int32.toNatClampNeg (dk_containers d1))) (va_cpy (dk_firsts d1) (dk_firsts d0) (Int32.toNatClampNeg 0) (Int32.toNatClampNeg 0) (Int32.toNatClampNeg (dk_containers d1))) (dk_containers d1) (va_cpy (dk_codes d1) (dk_codes d0) (Int32.toNatClampNeg 0) (Int32.toNatClampNeg 0) (Int32.toNatClampNeg (dk_entries d1))) (va_cpy (dk_places d1) (dk_places d0) (Int32.toNatClampNeg 0) (Int32.toNatClampNeg 0) (Int32.toNatClampNeg (dk_entries d1))) (va_cpy (dk_uses d1) (dk_uses d0) (Int32.toNatClampNeg 0) (Int32.toNatClampNeg 0) (Int32.toNatClampNeg (dk_entries d1))) (dk_entries d1) (va_cpy (dk_references d1) (dk_references d0) (Int32.toNatClampNeg 0) (Int32.toNatClampNeg 0) (Int32.toNatClampNeg 120)) (va_cpy (dk_lengths d1) (dk_lengths d0) (Int32.toNatClampNeg 0) (Int32.toNatClampNeg 0) (Int32.toNatClampNeg 8)) (dk_nextNumber d1) (dk_carried d0)) ++ (wdkF t h1 a1 (dk_settings d1) (dk_numbers d1) (dk_capacities d1) (dk_firsts d1) (dk_containers d1) (dk_codes d1) (dk_places d1) (dk_uses d1) (dk_entries d1) (dk_references d1) (dk_lengths d1) (dk_nextNumber d1) (dk_carried d1))) := hD
  refine lv_aload_n hx hb (kd tdlX1_copyFrom_2 7 rfl) rfl (lv_at hl 0 rfl) ?_
  refine lv_aload_n hx hb (kd tdlX1_copyFrom_2 8 rfl) rfl (lv_at hl 1 rfl) ?_
  refine va_get (D := D) (ci := 1) (v := .int (dk_carried d1)) (C := RX1) (T := TX1) (N := 13) hx hb hts inX1_ hown hK hP 10 rfl rfl 12 (by decide) L63 (fun _ h9 => h9) rfl (kd tdlX1_copyFrom_2 9 rfl) ?_
  refine va_put (D := D) (ci := 1) (v := .int (dk_carried d1)) (ty := .int) (C := RX1) (T := TX1) (N := 13) hx hb hts inX1_ tyX1 tyX1_ok nmX1 hown hK hP hD hS 0 rfl rfl 12 (by decide) L63 (fun _ h9 => h9) rfl (by decide +kernel) rfl rfl (Nat.le_of_ble_eq_true rfl) (kd tdlX1_copyFrom_2 10 rfl) (fun H locs hP hD hS => ?_)
  have hP : va_P D vwCl ((wdkF t h0 a0 (va_cpy (dk_settings d1) (dk_settings d0) (Int32.toNatClampNeg 0) (Int32.toNatClampNeg 0) (Int32.toNatClampNeg 5)) (va_cpy (dk_numbers d1) (dk_numbers d0) (Int32.toNatClampNeg 0) (Int32.toNatClampNeg 0) (Int32.toNatClampNeg (dk_containers d1))) (va_cpy (dk_capacities d1) (dk_capacities d0) (Int32.toNatClampNeg 0) (Int32.toNatClampNeg 0) (Int32.toNatClampNeg (dk_containers d1))) (va_cpy (dk_firsts d1) (dk_firsts d0) (Int32.toNatClampNeg 0) (Int32.toNatClampNeg 0) (Int32.toNatClampNeg (dk_containers d1))) (dk_containers d1) (va_cpy (dk_codes d1) (dk_codes d0) (Int32.toNatClampNeg 0) (Int32.toNatClampNeg 0) (Int32.toNatClampNeg (dk_entries d1))) (va_cpy (dk_places d1) (dk_places d0) (Int32.toNatClampNeg 0) (Int32.toNatClampNeg 0) (Int32.toNatClampNeg (dk_entries d1))) (va_cpy (dk_uses d1) (dk_uses d0) (Int32.toNatClampNeg 0) (Int32.toNatClampNeg 0) (Int32.toNatClampNeg (dk_entries d1))) (dk_entries d1) (va_cpy (dk_references d1) (dk_references d0) (Int32.toNatClampNeg 0) (Int32.toNatClampNeg 0) (Int32.toNatClampNeg 120)) (va_cpy (dk_lengths d1) (dk_lengths d0) (Int32.toNatClampNeg 0) (Int32.toNatClampNeg 0) (Int32.toNatClampNeg 8)) (dk_nextNumber d1) (dk_carried d1)) ++ (wdkF t h1 a1 (dk_settings d1) (dk_numbers d1) (dk_capacities d1) (dk_firsts d1) (dk_containers d1) (dk_codes d1) (dk_places d1) (dk_uses d1) (dk_entries d1) (dk_references d1) (dk_lengths d1) (dk_nextNumber d1) (dk_carried d1))) H := hP
  have hD : va_D A ((wdkF t h0 a0 (va_cpy (dk_settings d1) (dk_settings d0) (Int32.toNatClampNeg 0) (Int32.toNatClampNeg 0) (Int32.toNatClampNeg 5)) (va_cpy (dk_numbers d1) (dk_numbers d0) (Int32.toNatClampNeg 0) (Int32.toNatClampNeg 0) (Int32.toNatClampNeg (dk_containers d1))) (va_cpy (dk_capacities d1) (dk_capacities d0) (Int32.toNatClampNeg 0) (Int32.toNatClampNeg 0) (Int32.toNatClampNeg (dk_containers d1))) (va_cpy (dk_firsts d1) (dk_firsts d0) (Int32.toNatClampNeg 0) (Int32.toNatClampNeg 0) (Int32.toNatClampNeg (dk_containers d1))) (dk_containers d1) (va_cpy (dk_codes d1) (dk_codes d0) (Int32.toNatClampNeg 0) (Int32.toNatClampNeg 0) (Int32.toNatClampNeg (dk_entries d1))) (va_cpy (dk_places d1) (dk_places d0) (Int32.toNatClampNeg 0) (Int32.toNatClampNeg 0) (Int32.toNatClampNeg (dk_entries d1))) (va_cpy (dk_uses d1) (dk_uses d0) (Int32.toNatClampNeg 0) (Int32.toNatClampNeg 0) (Int32.toNatClampNeg (dk_entries d1))) (dk_entries d1) (va_cpy (dk_references d1) (dk_references d0) (Int32.toNatClampNeg 0) (Int32.toNatClampNeg 0) (Int32.toNatClampNeg 120)) (va_cpy (dk_lengths d1) (dk_lengths d0) (Int32.toNatClampNeg 0) (Int32.toNatClampNeg 0) (Int32.toNatClampNeg 8)) (dk_nextNumber d1) (dk_carried d1)) ++ (wdkF t h1 a1 (dk_settings d1) (dk_numbers d1) (dk_capacities d1) (dk_firsts d1) (dk_containers d1) (dk_codes d1) (dk_places d1) (dk_uses d1) (dk_entries d1) (dk_references d1) (dk_lengths d1) (dk_nextNumber d1) (dk_carried d1))) := hD
  cases ko hF
  exact ke_v hx hb hr hlocks hK hP hD hS (kd tdlX1_copyFrom_2 11 rfl)
set_option maxHeartbeats 4000000 in
set_option maxRecDepth 100000 in
theorem c_X1_settingAt (l : Launch) (D : va_G) (t : Nat → ClassId) (h0 : Nat) (a0 : Nat → Nat) (d0 : DKT) (sz : Nat) (p1 : Int32) (r : Int32) (hF : F_X1_settingAt d0 p1 = some r) : Met l yX1_settingAt wX1_settingAt ({ frames := 0, cells := 0, slots := 0, locals := 0 } : Room) (kPc D (TY t) ((wdk t h0 a0 d0)) [.ref h0, .int p1] sz) (kQi D (TY t) ((wdk t h0 a0 d0)) r (va_A ((wdk t h0 a0 d0)) sz)) 0 0 (va_A ((wdk t h0 a0 d0)) sz) := by
  refine kE (cc := cX1_settingAt) (maxL := 2) (ret := (some .int)) (Qx := fun A => kQi D (TY t) ((wdk t h0 a0 d0)) r A) (lv0 := [(0, .ref h0), (1, .int p1)]) RX1 rfl (by decide) rfl (Nat.le_of_ble_eq_true rfl) rfl ?_
  intro p e s m args below meth c A ls hx hb hml hr hlocks hown hts hA hK hP hD hS hl
  have L18 := hts (.fieldLink RX1 18 "ChunkCarriers$Desk" "settings" "[I") (List.mem_cons_of_mem _ w_55)
  have inX1_ : ∀ w ∈ wsX10, w ∈ wX1_settingAt := fun w h => List.mem_cons_of_mem _ (inlX1 w h)
  have hP : va_P D vwCl ((wdkF t h0 a0 (dk_settings d0) (dk_numbers d0) (dk_capacities d0) (dk_firsts d0) (dk_containers d0) (dk_codes d0) (dk_places d0) (dk_uses d0) (dk_entries d0) (dk_references d0) (dk_lengths d0) (dk_nextNumber d0) (dk_carried d0))) s.heap := hP
  have hD : va_D A ((wdkF t h0 a0 (dk_settings d0) (dk_numbers d0) (dk_capacities d0) (dk_firsts d0) (dk_containers d0) (dk_codes d0) (dk_places d0) (dk_uses d0) (dk_entries d0) (dk_references d0) (dk_lengths d0) (dk_nextNumber d0) (dk_carried d0))) := hD
  refine lv_iload_n hx hb (kd tdlX1_settingAt_0 0 rfl) rfl (lv_at hl 1 rfl) ?_
  refine lv_if_lt (tgt := 18) hx hb (kd tdlX1_settingAt_0 1 rfl) (by decide) (fun hc1 => ?_) (fun hc1 => ?_)
  · have hF := kt hc1 hF
    refine lv_iconst (v := (-1)) hx hb (kd tdlX1_settingAt_0 10 rfl) (by decide) ?_
    cases ko hF
    exact ke_i hx hb hr hlocks hK hP hD hS rfl (kd tdlX1_settingAt_0 11 rfl)
  · have hF := kf hc1 hF
    refine lv_iload_n hx hb (kd tdlX1_settingAt_0 2 rfl) rfl (lv_at hl 1 rfl) ?_
    refine lv_iconst (v := 5) hx hb (kd tdlX1_settingAt_0 3 rfl) (by decide) ?_
    refine lv_icmp_ge (tgt := 18) hx hb (kd tdlX1_settingAt_0 4 rfl) (by decide) (fun hc6 => ?_) (fun hc6 => ?_)
    · have hF := kt hc6 hF
      refine lv_iconst (v := (-1)) hx hb (kd tdlX1_settingAt_0 10 rfl) (by decide) ?_
      cases ko hF
      exact ke_i hx hb hr hlocks hK hP hD hS rfl (kd tdlX1_settingAt_0 11 rfl)
    · have hF := kf hc6 hF
      refine lv_aload_n hx hb (kd tdlX1_settingAt_0 5 rfl) rfl (lv_at hl 0 rfl) ?_
      refine dk_g_settings hx hb hts inX1_ hown hK hP L18 (kd tdlX1_settingAt_0 6 rfl) ?_
      refine lv_iload_n hx hb (kd tdlX1_settingAt_0 7 rfl) rfl (lv_at hl 1 rfl) ?_
      obtain ⟨hi14, hF⟩ := kg hF
      refine dk_l_settings hx hb hK hP hi14 (kd tdlX1_settingAt_0 8 rfl) ?_
      refine lv_goto (tgt := 19) hx hb (kd tdlX1_settingAt_0 9 rfl) (by decide) ?_
      cases ko hF
      exact ke_i hx hb hr hlocks hK hP hD hS rfl (kd tdlX1_settingAt_0 11 rfl)
set_option maxHeartbeats 4000000 in
set_option maxRecDepth 100000 in
theorem c_X1_hasPlace (l : Launch) (D : va_G) (t : Nat → ClassId) (h0 : Nat) (a0 : Nat → Nat) (d0 : DKT) (sz : Nat) (p1 : Int32) (r : Int32) (hF : F_X1_hasPlace d0 p1 = some r) : Met l yX1_hasPlace wX1_hasPlace ({ frames := 0, cells := 0, slots := 0, locals := 0 } : Room) (kPc D (TY t) ((wdk t h0 a0 d0)) [.ref h0, .int p1] sz) (kQi D (TY t) ((wdk t h0 a0 d0)) r (va_A ((wdk t h0 a0 d0)) sz)) 0 0 (va_A ((wdk t h0 a0 d0)) sz) := by
  refine kE (cc := cX1_hasPlace) (maxL := 2) (ret := (some .boolean)) (Qx := fun A => kQi D (TY t) ((wdk t h0 a0 d0)) r A) (lv0 := [(0, .ref h0), (1, .int p1)]) RX1 rfl (by decide) rfl (Nat.le_of_ble_eq_true rfl) rfl ?_
  intro p e s m args below meth c A ls hx hb hml hr hlocks hown hts hA hK hP hD hS hl
  have L53 := hts (.fieldLink RX1 53 "ChunkCarriers$Desk" "containers" "I") (List.mem_cons_of_mem _ w_108)
  have inX1_ : ∀ w ∈ wsX10, w ∈ wX1_hasPlace := fun w h => List.mem_cons_of_mem _ (inlX1 w h)
  have hP : va_P D vwCl ((wdkF t h0 a0 (dk_settings d0) (dk_numbers d0) (dk_capacities d0) (dk_firsts d0) (dk_containers d0) (dk_codes d0) (dk_places d0) (dk_uses d0) (dk_entries d0) (dk_references d0) (dk_lengths d0) (dk_nextNumber d0) (dk_carried d0))) s.heap := hP
  have hD : va_D A ((wdkF t h0 a0 (dk_settings d0) (dk_numbers d0) (dk_capacities d0) (dk_firsts d0) (dk_containers d0) (dk_codes d0) (dk_places d0) (dk_uses d0) (dk_entries d0) (dk_references d0) (dk_lengths d0) (dk_nextNumber d0) (dk_carried d0))) := hD
  refine lv_iload_n hx hb (kd tdlX1_hasPlace_0 0 rfl) rfl (lv_at hl 1 rfl) ?_
  refine lv_if_lt (tgt := 16) hx hb (kd tdlX1_hasPlace_0 1 rfl) (by decide) (fun hc1 => ?_) (fun hc1 => ?_)
  · have hF := kt hc1 hF
    refine lv_iconst (v := 0) hx hb (kd tdlX1_hasPlace_0 8 rfl) (by decide) ?_
    cases ko hF
    exact ke_z hx hb hr hlocks rfl hK hP hD hS rfl (kd tdlX1_hasPlace_0 9 rfl)
  · have hF := kf hc1 hF
    refine lv_iload_n hx hb (kd tdlX1_hasPlace_0 2 rfl) rfl (lv_at hl 1 rfl) ?_
    refine lv_aload_n hx hb (kd tdlX1_hasPlace_0 3 rfl) rfl (lv_at hl 0 rfl) ?_
    refine dk_g_containers hx hb hts inX1_ hown hK hP L53 (kd tdlX1_hasPlace_0 4 rfl) ?_
    refine lv_icmp_ge (tgt := 16) hx hb (kd tdlX1_hasPlace_0 5 rfl) (by decide) (fun hc9 => ?_) (fun hc9 => ?_)
    · have hF := kt hc9 hF
      refine lv_iconst (v := 0) hx hb (kd tdlX1_hasPlace_0 8 rfl) (by decide) ?_
      cases ko hF
      exact ke_z hx hb hr hlocks rfl hK hP hD hS rfl (kd tdlX1_hasPlace_0 9 rfl)
    · have hF := kf hc9 hF
      refine lv_iconst (v := 1) hx hb (kd tdlX1_hasPlace_0 6 rfl) (by decide) ?_
      refine lv_goto (tgt := 17) hx hb (kd tdlX1_hasPlace_0 7 rfl) (by decide) ?_
      cases ko hF
      exact ke_z hx hb hr hlocks rfl hK hP hD hS rfl (kd tdlX1_hasPlace_0 9 rfl)
set_option maxHeartbeats 4000000 in
set_option maxRecDepth 100000 in
theorem c_X1_numberAt (l : Launch) (D : va_G) (t : Nat → ClassId) (h0 : Nat) (a0 : Nat → Nat) (d0 : DKT) (sz : Nat) (p1 : Int32) (r : Int32) (hF : F_X1_numberAt d0 p1 = some r) : Met l yX1_numberAt wX1_numberAt ({ frames := 1, cells := 0, slots := 0, locals := 21 } : Room) (kPc D (TY t) ((wdk t h0 a0 d0)) [.ref h0, .int p1] sz) (kQi D (TY t) ((wdk t h0 a0 d0)) r (va_A ((wdk t h0 a0 d0)) sz)) 0 0 (va_A ((wdk t h0 a0 d0)) sz) := by
  refine kE (cc := cX1_numberAt) (maxL := 2) (ret := (some .int)) (Qx := fun A => kQi D (TY t) ((wdk t h0 a0 d0)) r A) (lv0 := [(0, .ref h0), (1, .int p1)]) RX1 rfl (by decide) rfl (Nat.le_of_ble_eq_true rfl) rfl ?_
  intro p e s m args below meth c A ls hx hb hml hr hlocks hown hts hA hK hP hD hS hl
  have L23 := hts (.fieldLink RX1 23 "ChunkCarriers$Desk" "numbers" "[I") (List.mem_cons_of_mem _ w_57)
  have inX1_ : ∀ w ∈ wsX10, w ∈ wX1_numberAt := fun w h => List.mem_cons_of_mem _ (inlX1 w h)
  have hP : va_P D vwCl ((wdkF t h0 a0 (dk_settings d0) (dk_numbers d0) (dk_capacities d0) (dk_firsts d0) (dk_containers d0) (dk_codes d0) (dk_places d0) (dk_uses d0) (dk_entries d0) (dk_references d0) (dk_lengths d0) (dk_nextNumber d0) (dk_carried d0))) s.heap := hP
  have hD : va_D A ((wdkF t h0 a0 (dk_settings d0) (dk_numbers d0) (dk_capacities d0) (dk_firsts d0) (dk_containers d0) (dk_codes d0) (dk_places d0) (dk_uses d0) (dk_entries d0) (dk_references d0) (dk_lengths d0) (dk_nextNumber d0) (dk_carried d0))) := hD
  refine lv_aload_n hx hb (kd tdlX1_numberAt_0 0 rfl) rfl (lv_at hl 0 rfl) ?_
  refine lv_iload_n hx hb (kd tdlX1_numberAt_0 1 rfl) rfl (lv_at hl 1 rfl) ?_
  obtain ⟨v2, e2, hF⟩ := kc hF
  refine kc_i0 (w1 := ((wdkF t h0 a0 (dk_settings d0) (dk_numbers d0) (dk_capacities d0) (dk_firsts d0) (dk_containers d0) (dk_codes d0) (dk_places d0) (dk_uses d0) (dk_entries d0) (dk_references d0) (dk_lengths d0) (dk_nextNumber d0) (dk_carried d0)))) hP hD hS hA (kr_V0 (Qx := (fun A => kQi D (TY t) ((wdkF t h0 a0 (dk_settings d0) (dk_numbers d0) (dk_capacities d0) (dk_firsts d0) (dk_containers d0) (dk_codes d0) (dk_places d0) (dk_uses d0) (dk_entries d0) (dk_references d0) (dk_lengths d0) (dk_nextNumber d0) (dk_carried d0))) v2 A)) (As := [.int p1]) (rest := []) ⟨hx, hb, hml, hown, hts⟩ hK hP hD (c_X1_hasPlace l D t h0 a0 d0 _ p1 v2 e2) (cwV 1 hts (gcX1_hasPlace w_205) rfl rfl rfl hdX1_hasPlaceV ⟨Nat.le_of_ble_eq_true rfl, Nat.le_of_ble_eq_true rfl⟩) (ci := 1) (q0 := 0) rfl rfl rfl hl.1 rfl (Nat.le_of_ble_eq_true rfl) (kd tdlX1_numberAt_0 2 rfl) ⟨Nat.zero_le _, Nat.zero_le _⟩) (fun H locs hP hD hS => ?_)
  refine lv_if_eq (tgt := 17) hx hb (kd tdlX1_numberAt_0 3 rfl) (by decide) (fun hc5 => ?_) (fun hc5 => ?_)
  · have hF := kt hc5 hF
    refine lv_iconst (v := (-1)) hx hb (kd tdlX1_numberAt_0 9 rfl) (by decide) ?_
    cases ko hF
    exact ke_i hx hb hr hlocks hK hP hD hS rfl (kd tdlX1_numberAt_0 10 rfl)
  · have hF := kf hc5 hF
    refine lv_aload_n hx hb (kd tdlX1_numberAt_0 4 rfl) rfl (lv_at hl 0 rfl) ?_
    refine dk_g_numbers hx hb hts inX1_ hown hK hP L23 (kd tdlX1_numberAt_0 5 rfl) ?_
    refine lv_iload_n hx hb (kd tdlX1_numberAt_0 6 rfl) rfl (lv_at hl 1 rfl) ?_
    obtain ⟨hi13, hF⟩ := kg hF
    refine dk_l_numbers hx hb hK hP hi13 (kd tdlX1_numberAt_0 7 rfl) ?_
    refine lv_goto (tgt := 18) hx hb (kd tdlX1_numberAt_0 8 rfl) (by decide) ?_
    cases ko hF
    exact ke_i hx hb hr hlocks hK hP hD hS rfl (kd tdlX1_numberAt_0 10 rfl)
set_option maxHeartbeats 4000000 in
set_option maxRecDepth 100000 in
theorem c_X1_capacityAt (l : Launch) (D : va_G) (t : Nat → ClassId) (h0 : Nat) (a0 : Nat → Nat) (d0 : DKT) (sz : Nat) (p1 : Int32) (r : Int32) (hF : F_X1_capacityAt d0 p1 = some r) : Met l yX1_capacityAt wX1_capacityAt ({ frames := 1, cells := 0, slots := 0, locals := 21 } : Room) (kPc D (TY t) ((wdk t h0 a0 d0)) [.ref h0, .int p1] sz) (kQi D (TY t) ((wdk t h0 a0 d0)) r (va_A ((wdk t h0 a0 d0)) sz)) 0 0 (va_A ((wdk t h0 a0 d0)) sz) := by
  refine kE (cc := cX1_capacityAt) (maxL := 2) (ret := (some .int)) (Qx := fun A => kQi D (TY t) ((wdk t h0 a0 d0)) r A) (lv0 := [(0, .ref h0), (1, .int p1)]) RX1 rfl (by decide) rfl (Nat.le_of_ble_eq_true rfl) rfl ?_
  intro p e s m args below meth c A ls hx hb hml hr hlocks hown hts hA hK hP hD hS hl
  have L26 := hts (.fieldLink RX1 26 "ChunkCarriers$Desk" "capacities" "[I") (List.mem_cons_of_mem _ w_58)
  have inX1_ : ∀ w ∈ wsX10, w ∈ wX1_capacityAt := fun w h => List.mem_cons_of_mem _ (inlX1 w h)
  have hP : va_P D vwCl ((wdkF t h0 a0 (dk_settings d0) (dk_numbers d0) (dk_capacities d0) (dk_firsts d0) (dk_containers d0) (dk_codes d0) (dk_places d0) (dk_uses d0) (dk_entries d0) (dk_references d0) (dk_lengths d0) (dk_nextNumber d0) (dk_carried d0))) s.heap := hP
  have hD : va_D A ((wdkF t h0 a0 (dk_settings d0) (dk_numbers d0) (dk_capacities d0) (dk_firsts d0) (dk_containers d0) (dk_codes d0) (dk_places d0) (dk_uses d0) (dk_entries d0) (dk_references d0) (dk_lengths d0) (dk_nextNumber d0) (dk_carried d0))) := hD
  refine lv_aload_n hx hb (kd tdlX1_capacityAt_0 0 rfl) rfl (lv_at hl 0 rfl) ?_
  refine lv_iload_n hx hb (kd tdlX1_capacityAt_0 1 rfl) rfl (lv_at hl 1 rfl) ?_
  obtain ⟨v2, e2, hF⟩ := kc hF
  refine kc_i0 (w1 := ((wdkF t h0 a0 (dk_settings d0) (dk_numbers d0) (dk_capacities d0) (dk_firsts d0) (dk_containers d0) (dk_codes d0) (dk_places d0) (dk_uses d0) (dk_entries d0) (dk_references d0) (dk_lengths d0) (dk_nextNumber d0) (dk_carried d0)))) hP hD hS hA (kr_V0 (Qx := (fun A => kQi D (TY t) ((wdkF t h0 a0 (dk_settings d0) (dk_numbers d0) (dk_capacities d0) (dk_firsts d0) (dk_containers d0) (dk_codes d0) (dk_places d0) (dk_uses d0) (dk_entries d0) (dk_references d0) (dk_lengths d0) (dk_nextNumber d0) (dk_carried d0))) v2 A)) (As := [.int p1]) (rest := []) ⟨hx, hb, hml, hown, hts⟩ hK hP hD (c_X1_hasPlace l D t h0 a0 d0 _ p1 v2 e2) (cwV 1 hts (gcX1_hasPlace w_205) rfl rfl rfl hdX1_hasPlaceV ⟨Nat.le_of_ble_eq_true rfl, Nat.le_of_ble_eq_true rfl⟩) (ci := 1) (q0 := 0) rfl rfl rfl hl.1 rfl (Nat.le_of_ble_eq_true rfl) (kd tdlX1_capacityAt_0 2 rfl) ⟨Nat.zero_le _, Nat.zero_le _⟩) (fun H locs hP hD hS => ?_)
  refine lv_if_eq (tgt := 17) hx hb (kd tdlX1_capacityAt_0 3 rfl) (by decide) (fun hc5 => ?_) (fun hc5 => ?_)
  · have hF := kt hc5 hF
    refine lv_iconst (v := 0) hx hb (kd tdlX1_capacityAt_0 9 rfl) (by decide) ?_
    cases ko hF
    exact ke_i hx hb hr hlocks hK hP hD hS rfl (kd tdlX1_capacityAt_0 10 rfl)
  · have hF := kf hc5 hF
    refine lv_aload_n hx hb (kd tdlX1_capacityAt_0 4 rfl) rfl (lv_at hl 0 rfl) ?_
    refine dk_g_capacities hx hb hts inX1_ hown hK hP L26 (kd tdlX1_capacityAt_0 5 rfl) ?_
    refine lv_iload_n hx hb (kd tdlX1_capacityAt_0 6 rfl) rfl (lv_at hl 1 rfl) ?_
    obtain ⟨hi13, hF⟩ := kg hF
    refine dk_l_capacities hx hb hK hP hi13 (kd tdlX1_capacityAt_0 7 rfl) ?_
    refine lv_goto (tgt := 18) hx hb (kd tdlX1_capacityAt_0 8 rfl) (by decide) ?_
    cases ko hF
    exact ke_i hx hb hr hlocks hK hP hD hS rfl (kd tdlX1_capacityAt_0 10 rfl)
set_option maxHeartbeats 4000000 in
set_option maxRecDepth 100000 in
theorem c_X1_firstEntryAt (l : Launch) (D : va_G) (t : Nat → ClassId) (h0 : Nat) (a0 : Nat → Nat) (d0 : DKT) (sz : Nat) (p1 : Int32) (r : Int32) (hF : F_X1_firstEntryAt d0 p1 = some r) : Met l yX1_firstEntryAt wX1_firstEntryAt ({ frames := 0, cells := 0, slots := 0, locals := 0 } : Room) (kPc D (TY t) ((wdk t h0 a0 d0)) [.ref h0, .int p1] sz) (kQi D (TY t) ((wdk t h0 a0 d0)) r (va_A ((wdk t h0 a0 d0)) sz)) 0 0 (va_A ((wdk t h0 a0 d0)) sz) := by
  refine kE (cc := cX1_firstEntryAt) (maxL := 2) (ret := (some .int)) (Qx := fun A => kQi D (TY t) ((wdk t h0 a0 d0)) r A) (lv0 := [(0, .ref h0), (1, .int p1)]) RX1 rfl (by decide) rfl (Nat.le_of_ble_eq_true rfl) rfl ?_
  intro p e s m args below meth c A ls hx hb hml hr hlocks hown hts hA hK hP hD hS hl
  have L29 := hts (.fieldLink RX1 29 "ChunkCarriers$Desk" "firsts" "[I") (List.mem_cons_of_mem _ w_59)
  have L53 := hts (.fieldLink RX1 53 "ChunkCarriers$Desk" "containers" "I") (List.mem_cons_of_mem _ w_108)
  have L57 := hts (.fieldLink RX1 57 "ChunkCarriers$Desk" "entries" "I") (List.mem_cons_of_mem _ w_109)
  have inX1_ : ∀ w ∈ wsX10, w ∈ wX1_firstEntryAt := fun w h => List.mem_cons_of_mem _ (inlX1 w h)
  have hP : va_P D vwCl ((wdkF t h0 a0 (dk_settings d0) (dk_numbers d0) (dk_capacities d0) (dk_firsts d0) (dk_containers d0) (dk_codes d0) (dk_places d0) (dk_uses d0) (dk_entries d0) (dk_references d0) (dk_lengths d0) (dk_nextNumber d0) (dk_carried d0))) s.heap := hP
  have hD : va_D A ((wdkF t h0 a0 (dk_settings d0) (dk_numbers d0) (dk_capacities d0) (dk_firsts d0) (dk_containers d0) (dk_codes d0) (dk_places d0) (dk_uses d0) (dk_entries d0) (dk_references d0) (dk_lengths d0) (dk_nextNumber d0) (dk_carried d0))) := hD
  refine lv_iload_n hx hb (kd tdlX1_firstEntryAt_0 0 rfl) rfl (lv_at hl 1 rfl) ?_
  refine lv_if_lt (tgt := 21) hx hb (kd tdlX1_firstEntryAt_0 1 rfl) (by decide) (fun hc1 => ?_) (fun hc1 => ?_)
  · have hF := kt hc1 hF
    refine lv_aload_n hx hb (kd tdlX1_firstEntryAt_0 11 rfl) rfl (lv_at hl 0 rfl) ?_
    refine dk_g_entries hx hb hts inX1_ hown hK hP L57 (kd tdlX1_firstEntryAt_0 12 rfl) ?_
    cases ko hF
    exact ke_i hx hb hr hlocks hK hP hD hS rfl (kd tdlX1_firstEntryAt_0 13 rfl)
  · have hF := kf hc1 hF
    refine lv_iload_n hx hb (kd tdlX1_firstEntryAt_0 2 rfl) rfl (lv_at hl 1 rfl) ?_
    refine lv_aload_n hx hb (kd tdlX1_firstEntryAt_0 3 rfl) rfl (lv_at hl 0 rfl) ?_
    refine dk_g_containers hx hb hts inX1_ hown hK hP L53 (kd tdlX1_firstEntryAt_0 4 rfl) ?_
    refine lv_icmp_ge (tgt := 21) hx hb (kd tdlX1_firstEntryAt_0 5 rfl) (by decide) (fun hc9 => ?_) (fun hc9 => ?_)
    · have hF := kt hc9 hF
      refine lv_aload_n hx hb (kd tdlX1_firstEntryAt_0 11 rfl) rfl (lv_at hl 0 rfl) ?_
      refine dk_g_entries hx hb hts inX1_ hown hK hP L57 (kd tdlX1_firstEntryAt_0 12 rfl) ?_
      cases ko hF
      exact ke_i hx hb hr hlocks hK hP hD hS rfl (kd tdlX1_firstEntryAt_0 13 rfl)
    · have hF := kf hc9 hF
      refine lv_aload_n hx hb (kd tdlX1_firstEntryAt_0 6 rfl) rfl (lv_at hl 0 rfl) ?_
      refine dk_g_firsts hx hb hts inX1_ hown hK hP L29 (kd tdlX1_firstEntryAt_0 7 rfl) ?_
      refine lv_iload_n hx hb (kd tdlX1_firstEntryAt_0 8 rfl) rfl (lv_at hl 1 rfl) ?_
      obtain ⟨hi17, hF⟩ := kg hF
      refine dk_l_firsts hx hb hK hP hi17 (kd tdlX1_firstEntryAt_0 9 rfl) ?_
      refine lv_goto (tgt := 25) hx hb (kd tdlX1_firstEntryAt_0 10 rfl) (by decide) ?_
      cases ko hF
      exact ke_i hx hb hr hlocks hK hP hD hS rfl (kd tdlX1_firstEntryAt_0 13 rfl)
set_option maxHeartbeats 4000000 in
set_option maxRecDepth 100000 in
theorem c_X1_sizeAt (l : Launch) (D : va_G) (t : Nat → ClassId) (h0 : Nat) (a0 : Nat → Nat) (d0 : DKT) (sz : Nat) (p1 : Int32) (r : Int32) (hF : F_X1_sizeAt d0 p1 = some r) : Met l yX1_sizeAt wX1_sizeAt ({ frames := 1, cells := 0, slots := 0, locals := 21 } : Room) (kPc D (TY t) ((wdk t h0 a0 d0)) [.ref h0, .int p1] sz) (kQi D (TY t) ((wdk t h0 a0 d0)) r (va_A ((wdk t h0 a0 d0)) sz)) 0 0 (va_A ((wdk t h0 a0 d0)) sz) := by
  refine kE (cc := cX1_sizeAt) (maxL := 2) (ret := (some .int)) (Qx := fun A => kQi D (TY t) ((wdk t h0 a0 d0)) r A) (lv0 := [(0, .ref h0), (1, .int p1)]) RX1 rfl (by decide) rfl (Nat.le_of_ble_eq_true rfl) rfl ?_
  intro p e s m args below meth c A ls hx hb hml hr hlocks hown hts hA hK hP hD hS hl
  have hP : va_P D vwCl ((wdkF t h0 a0 (dk_settings d0) (dk_numbers d0) (dk_capacities d0) (dk_firsts d0) (dk_containers d0) (dk_codes d0) (dk_places d0) (dk_uses d0) (dk_entries d0) (dk_references d0) (dk_lengths d0) (dk_nextNumber d0) (dk_carried d0))) s.heap := hP
  have hD : va_D A ((wdkF t h0 a0 (dk_settings d0) (dk_numbers d0) (dk_capacities d0) (dk_firsts d0) (dk_containers d0) (dk_codes d0) (dk_places d0) (dk_uses d0) (dk_entries d0) (dk_references d0) (dk_lengths d0) (dk_nextNumber d0) (dk_carried d0))) := hD
  refine lv_aload_n hx hb (kd tdlX1_sizeAt_0 0 rfl) rfl (lv_at hl 0 rfl) ?_
  refine lv_iload_n hx hb (kd tdlX1_sizeAt_0 1 rfl) rfl (lv_at hl 1 rfl) ?_
  refine lv_iconst (v := 1) hx hb (kd tdlX1_sizeAt_0 2 rfl) (by decide) ?_
  refine lv_iadd hx hb (kd tdlX1_sizeAt_0 3 rfl) ?_
  obtain ⟨v4, e4, hF⟩ := kc hF
  refine kc_i0 (w1 := ((wdkF t h0 a0 (dk_settings d0) (dk_numbers d0) (dk_capacities d0) (dk_firsts d0) (dk_containers d0) (dk_codes d0) (dk_places d0) (dk_uses d0) (dk_entries d0) (dk_references d0) (dk_lengths d0) (dk_nextNumber d0) (dk_carried d0)))) hP hD hS hA (kr_V0 (Qx := (fun A => kQi D (TY t) ((wdkF t h0 a0 (dk_settings d0) (dk_numbers d0) (dk_capacities d0) (dk_firsts d0) (dk_containers d0) (dk_codes d0) (dk_places d0) (dk_uses d0) (dk_entries d0) (dk_references d0) (dk_lengths d0) (dk_nextNumber d0) (dk_carried d0))) v4 A)) (As := [.int (p1 + 1)]) (rest := []) ⟨hx, hb, hml, hown, hts⟩ hK hP hD (c_X1_firstEntryAt l D t h0 a0 d0 _ (p1 + 1) v4 e4) (cwV 1 hts (gcX1_firstEntryAt w_161) rfl rfl rfl hdX1_firstEntryAtV ⟨Nat.le_of_ble_eq_true rfl, Nat.le_of_ble_eq_true rfl⟩) (ci := 1) (q0 := 0) rfl rfl rfl hl.1 rfl (Nat.le_of_ble_eq_true rfl) (kd tdlX1_sizeAt_0 4 rfl) ⟨Nat.zero_le _, Nat.zero_le _⟩) (fun H locs hP hD hS => ?_)
  refine lv_aload_n hx hb (kd tdlX1_sizeAt_0 5 rfl) rfl (lv_at hl 0 rfl) ?_
  refine lv_iload_n hx hb (kd tdlX1_sizeAt_0 6 rfl) rfl (lv_at hl 1 rfl) ?_
  obtain ⟨v9, e9, hF⟩ := kc hF
  refine kc_i0 (w1 := ((wdkF t h0 a0 (dk_settings d0) (dk_numbers d0) (dk_capacities d0) (dk_firsts d0) (dk_containers d0) (dk_codes d0) (dk_places d0) (dk_uses d0) (dk_entries d0) (dk_references d0) (dk_lengths d0) (dk_nextNumber d0) (dk_carried d0)))) hP hD hS hA (kr_V0 (Qx := (fun A => kQi D (TY t) ((wdkF t h0 a0 (dk_settings d0) (dk_numbers d0) (dk_capacities d0) (dk_firsts d0) (dk_containers d0) (dk_codes d0) (dk_places d0) (dk_uses d0) (dk_entries d0) (dk_references d0) (dk_lengths d0) (dk_nextNumber d0) (dk_carried d0))) v9 A)) (As := [.int p1]) (rest := [.int v4]) ⟨hx, hb, hml, hown, hts⟩ hK hP hD (c_X1_firstEntryAt l D t h0 a0 d0 _ p1 v9 e9) (cwV 1 hts (gcX1_firstEntryAt w_161) rfl rfl rfl hdX1_firstEntryAtV ⟨Nat.le_of_ble_eq_true rfl, Nat.le_of_ble_eq_true rfl⟩) (ci := 1) (q0 := 0) rfl rfl rfl hl.1 rfl (Nat.le_of_ble_eq_true rfl) (kd tdlX1_sizeAt_0 7 rfl) ⟨Nat.zero_le _, Nat.zero_le _⟩) (fun H locs hP hD hS => ?_)
  refine lv_isub hx hb (kd tdlX1_sizeAt_0 8 rfl) ?_
  cases ko hF
  exact ke_i hx hb hr hlocks hK hP hD hS rfl (kd tdlX1_sizeAt_0 9 rfl)
set_option maxHeartbeats 4000000 in
set_option maxRecDepth 100000 in
theorem c_X1_placeOfNumber (l : Launch) (D : va_G) (t : Nat → ClassId) (h0 : Nat) (a0 : Nat → Nat) (d0 : DKT) (sz : Nat) (p1 : Int32) (r : Int32) (hF : F_X1_placeOfNumber d0 p1 = some r) : Met l yX1_placeOfNumber wX1_placeOfNumber ({ frames := 0, cells := 0, slots := 0, locals := 0 } : Room) (kPc D (TY t) ((wdk t h0 a0 d0)) [.ref h0, .int p1] sz) (kQi D (TY t) ((wdk t h0 a0 d0)) r (va_A ((wdk t h0 a0 d0)) sz)) 0 0 (va_A ((wdk t h0 a0 d0)) sz) := by
  refine kE (cc := cX1_placeOfNumber) (maxL := 3) (ret := (some .int)) (Qx := fun A => kQi D (TY t) ((wdk t h0 a0 d0)) r A) (lv0 := [(0, .ref h0), (1, .int p1)]) RX1 rfl (by decide) rfl (Nat.le_of_ble_eq_true rfl) rfl ?_
  intro p e s m args below meth c A ls hx hb hml hr hlocks hown hts hA hK hP hD hS hl
  have L23 := hts (.fieldLink RX1 23 "ChunkCarriers$Desk" "numbers" "[I") (List.mem_cons_of_mem _ w_57)
  have L53 := hts (.fieldLink RX1 53 "ChunkCarriers$Desk" "containers" "I") (List.mem_cons_of_mem _ w_108)
  have inX1_ : ∀ w ∈ wsX10, w ∈ wX1_placeOfNumber := fun w h => List.mem_cons_of_mem _ (inlX1 w h)
  have hP : va_P D vwCl ((wdkF t h0 a0 (dk_settings d0) (dk_numbers d0) (dk_capacities d0) (dk_firsts d0) (dk_containers d0) (dk_codes d0) (dk_places d0) (dk_uses d0) (dk_entries d0) (dk_references d0) (dk_lengths d0) (dk_nextNumber d0) (dk_carried d0))) s.heap := hP
  have hD : va_D A ((wdkF t h0 a0 (dk_settings d0) (dk_numbers d0) (dk_capacities d0) (dk_firsts d0) (dk_containers d0) (dk_codes d0) (dk_places d0) (dk_uses d0) (dk_entries d0) (dk_references d0) (dk_lengths d0) (dk_nextNumber d0) (dk_carried d0))) := hD
  refine lv_iconst (v := 0) hx hb (kd tdlX1_placeOfNumber_0 0 rfl) (by decide) ?_
  refine lv_istore_n (lv' := [(2, .int 0), (0, .ref h0), (1, .int p1)]) hx hb (kd tdlX1_placeOfNumber_0 1 rfl) rfl hl (by decide) rfl (fun ls hl => ?_)
  refine lp_ind (f := B_X1_placeOfNumber_2 d0 p1) (r := r) (P := fun s2_ => ∀ (H : Heap) (locs : List Loc) (ls : Array Slot), va_P D vwCl ((wdkF t h0 a0 (dk_settings d0) (dk_numbers d0) (dk_capacities d0) (dk_firsts d0) (dk_containers d0) (dk_codes d0) (dk_places d0) (dk_uses d0) (dk_entries d0) (dk_references d0) (dk_lengths d0) (dk_nextNumber d0) (dk_carried d0))) H → va_D A ((wdkF t h0 a0 (dk_settings d0) (dk_numbers d0) (dk_capacities d0) (dk_firsts d0) (dk_containers d0) (dk_codes d0) (dk_places d0) (dk_uses d0) (dk_entries d0) (dk_references d0) (dk_lengths d0) (dk_nextNumber d0) (dk_carried d0))) → va_S A s.heap H locs → lv_has ls 3 [(0, .ref h0), (1, .int p1), (2, .int s2_)] → W p l e ({ frames := 0, cells := 0, slots := 0, locals := 0 } : Room) s m args below meth c H locs 0 0 (MQ below (kQi D (TY t) ((wdk t h0 a0 d0)) r A) args s 0 0 A) (F0 m 2 ls [])) ?_ FU (0) hF _ _ _ hP hD hS (lv_sub hl [1, 2, 0] rfl)
  intro self2 ih2 s2_ hF H locs ls hP hD hS hl
  refine lv_iload_n hx hb (kd tdlX1_placeOfNumber_0 2 rfl) rfl (lv_at hl 2 rfl) ?_
  refine lv_aload_n hx hb (kd tdlX1_placeOfNumber_0 3 rfl) rfl (lv_at hl 0 rfl) ?_
  refine dk_g_containers hx hb hts inX1_ hown hK hP L53 (kd tdlX1_placeOfNumber_0 4 rfl) ?_
  refine lv_icmp_ge (tgt := 28) hx hb (kd tdlX1_placeOfNumber_0 5 rfl) (by decide) (fun hc7 => ?_) (fun hc7 => ?_)
  · have hF := kt hc7 hF
    refine lv_iconst (v := (-1)) hx hb (kd tdlX1_placeOfNumber_0 16 rfl) (by decide) ?_
    cases ko hF
    exact ke_i hx hb hr hlocks hK hP hD hS rfl (kd tdlX1_placeOfNumber_0 17 rfl)
  · have hF := kf hc7 hF
    refine lv_aload_n hx hb (kd tdlX1_placeOfNumber_0 6 rfl) rfl (lv_at hl 0 rfl) ?_
    refine dk_g_numbers hx hb hts inX1_ hown hK hP L23 (kd tdlX1_placeOfNumber_0 7 rfl) ?_
    refine lv_iload_n hx hb (kd tdlX1_placeOfNumber_0 8 rfl) rfl (lv_at hl 2 rfl) ?_
    obtain ⟨hi15, hF⟩ := kg hF
    refine dk_l_numbers hx hb hK hP hi15 (kd tdlX1_placeOfNumber_0 9 rfl) ?_
    refine lv_iload_n hx hb (kd tdlX1_placeOfNumber_0 10 rfl) rfl (lv_at hl 1 rfl) ?_
    refine lv_icmp_ne (tgt := 22) hx hb (kd tdlX1_placeOfNumber_0 11 rfl) (by decide) (fun hc17 => ?_) (fun hc17 => ?_)
    · have hF := kf hc17 hF
      refine lv_iinc (v := (s2_ + 1)) (lv' := [(2, .int (s2_ + 1)), (0, .ref h0), (1, .int p1)]) hx hb (kd tdlX1_placeOfNumber_0 14 rfl) hl (k := 2) rfl rfl (by decide) rfl (fun ls hl => ?_)
      refine lv_goto (tgt := 2) hx hb (kd tdlX1_placeOfNumber_0 15 rfl) (by decide) ?_
      exact ih2 ((s2_ + 1)) hF _ _ _ hP hD hS (lv_sub hl [1, 2, 0] rfl)
    · have hF := kt hc17 hF
      refine lv_iload_n hx hb (kd tdlX1_placeOfNumber_0 12 rfl) rfl (lv_at hl 2 rfl) ?_
      cases ko hF
      exact ke_i hx hb hr hlocks hK hP hD hS rfl (kd tdlX1_placeOfNumber_0 13 rfl)
set_option maxHeartbeats 4000000 in
set_option maxRecDepth 100000 in
theorem c_X1_hasEntry (l : Launch) (D : va_G) (t : Nat → ClassId) (h0 : Nat) (a0 : Nat → Nat) (d0 : DKT) (sz : Nat) (p1 : Int32) (r : Int32) (hF : F_X1_hasEntry d0 p1 = some r) : Met l yX1_hasEntry wX1_hasEntry ({ frames := 0, cells := 0, slots := 0, locals := 0 } : Room) (kPc D (TY t) ((wdk t h0 a0 d0)) [.ref h0, .int p1] sz) (kQi D (TY t) ((wdk t h0 a0 d0)) r (va_A ((wdk t h0 a0 d0)) sz)) 0 0 (va_A ((wdk t h0 a0 d0)) sz) := by
  refine kE (cc := cX1_hasEntry) (maxL := 2) (ret := (some .boolean)) (Qx := fun A => kQi D (TY t) ((wdk t h0 a0 d0)) r A) (lv0 := [(0, .ref h0), (1, .int p1)]) RX1 rfl (by decide) rfl (Nat.le_of_ble_eq_true rfl) rfl ?_
  intro p e s m args below meth c A ls hx hb hml hr hlocks hown hts hA hK hP hD hS hl
  have L57 := hts (.fieldLink RX1 57 "ChunkCarriers$Desk" "entries" "I") (List.mem_cons_of_mem _ w_109)
  have inX1_ : ∀ w ∈ wsX10, w ∈ wX1_hasEntry := fun w h => List.mem_cons_of_mem _ (inlX1 w h)
  have hP : va_P D vwCl ((wdkF t h0 a0 (dk_settings d0) (dk_numbers d0) (dk_capacities d0) (dk_firsts d0) (dk_containers d0) (dk_codes d0) (dk_places d0) (dk_uses d0) (dk_entries d0) (dk_references d0) (dk_lengths d0) (dk_nextNumber d0) (dk_carried d0))) s.heap := hP
  have hD : va_D A ((wdkF t h0 a0 (dk_settings d0) (dk_numbers d0) (dk_capacities d0) (dk_firsts d0) (dk_containers d0) (dk_codes d0) (dk_places d0) (dk_uses d0) (dk_entries d0) (dk_references d0) (dk_lengths d0) (dk_nextNumber d0) (dk_carried d0))) := hD
  refine lv_iload_n hx hb (kd tdlX1_hasEntry_0 0 rfl) rfl (lv_at hl 1 rfl) ?_
  refine lv_if_lt (tgt := 16) hx hb (kd tdlX1_hasEntry_0 1 rfl) (by decide) (fun hc1 => ?_) (fun hc1 => ?_)
  · have hF := kt hc1 hF
    refine lv_iconst (v := 0) hx hb (kd tdlX1_hasEntry_0 8 rfl) (by decide) ?_
    cases ko hF
    exact ke_z hx hb hr hlocks rfl hK hP hD hS rfl (kd tdlX1_hasEntry_0 9 rfl)
  · have hF := kf hc1 hF
    refine lv_iload_n hx hb (kd tdlX1_hasEntry_0 2 rfl) rfl (lv_at hl 1 rfl) ?_
    refine lv_aload_n hx hb (kd tdlX1_hasEntry_0 3 rfl) rfl (lv_at hl 0 rfl) ?_
    refine dk_g_entries hx hb hts inX1_ hown hK hP L57 (kd tdlX1_hasEntry_0 4 rfl) ?_
    refine lv_icmp_ge (tgt := 16) hx hb (kd tdlX1_hasEntry_0 5 rfl) (by decide) (fun hc9 => ?_) (fun hc9 => ?_)
    · have hF := kt hc9 hF
      refine lv_iconst (v := 0) hx hb (kd tdlX1_hasEntry_0 8 rfl) (by decide) ?_
      cases ko hF
      exact ke_z hx hb hr hlocks rfl hK hP hD hS rfl (kd tdlX1_hasEntry_0 9 rfl)
    · have hF := kf hc9 hF
      refine lv_iconst (v := 1) hx hb (kd tdlX1_hasEntry_0 6 rfl) (by decide) ?_
      refine lv_goto (tgt := 17) hx hb (kd tdlX1_hasEntry_0 7 rfl) (by decide) ?_
      cases ko hF
      exact ke_z hx hb hr hlocks rfl hK hP hD hS rfl (kd tdlX1_hasEntry_0 9 rfl)
set_option maxHeartbeats 4000000 in
set_option maxRecDepth 100000 in
theorem c_X1_usesOfEntry (l : Launch) (D : va_G) (t : Nat → ClassId) (h0 : Nat) (a0 : Nat → Nat) (d0 : DKT) (sz : Nat) (p1 : Int32) (r : Int32) (hF : F_X1_usesOfEntry d0 p1 = some r) : Met l yX1_usesOfEntry wX1_usesOfEntry ({ frames := 1, cells := 0, slots := 0, locals := 21 } : Room) (kPc D (TY t) ((wdk t h0 a0 d0)) [.ref h0, .int p1] sz) (kQi D (TY t) ((wdk t h0 a0 d0)) r (va_A ((wdk t h0 a0 d0)) sz)) 0 0 (va_A ((wdk t h0 a0 d0)) sz) := by
  refine kE (cc := cX1_usesOfEntry) (maxL := 2) (ret := (some .int)) (Qx := fun A => kQi D (TY t) ((wdk t h0 a0 d0)) r A) (lv0 := [(0, .ref h0), (1, .int p1)]) RX1 rfl (by decide) rfl (Nat.le_of_ble_eq_true rfl) rfl ?_
  intro p e s m args below meth c A ls hx hb hml hr hlocks hown hts hA hK hP hD hS hl
  have L38 := hts (.fieldLink RX1 38 "ChunkCarriers$Desk" "uses" "[I") (List.mem_cons_of_mem _ w_62)
  have inX1_ : ∀ w ∈ wsX10, w ∈ wX1_usesOfEntry := fun w h => List.mem_cons_of_mem _ (inlX1 w h)
  have hP : va_P D vwCl ((wdkF t h0 a0 (dk_settings d0) (dk_numbers d0) (dk_capacities d0) (dk_firsts d0) (dk_containers d0) (dk_codes d0) (dk_places d0) (dk_uses d0) (dk_entries d0) (dk_references d0) (dk_lengths d0) (dk_nextNumber d0) (dk_carried d0))) s.heap := hP
  have hD : va_D A ((wdkF t h0 a0 (dk_settings d0) (dk_numbers d0) (dk_capacities d0) (dk_firsts d0) (dk_containers d0) (dk_codes d0) (dk_places d0) (dk_uses d0) (dk_entries d0) (dk_references d0) (dk_lengths d0) (dk_nextNumber d0) (dk_carried d0))) := hD
  refine lv_aload_n hx hb (kd tdlX1_usesOfEntry_0 0 rfl) rfl (lv_at hl 0 rfl) ?_
  refine lv_iload_n hx hb (kd tdlX1_usesOfEntry_0 1 rfl) rfl (lv_at hl 1 rfl) ?_
  obtain ⟨v2, e2, hF⟩ := kc hF
  refine kc_i0 (w1 := ((wdkF t h0 a0 (dk_settings d0) (dk_numbers d0) (dk_capacities d0) (dk_firsts d0) (dk_containers d0) (dk_codes d0) (dk_places d0) (dk_uses d0) (dk_entries d0) (dk_references d0) (dk_lengths d0) (dk_nextNumber d0) (dk_carried d0)))) hP hD hS hA (kr_V0 (Qx := (fun A => kQi D (TY t) ((wdkF t h0 a0 (dk_settings d0) (dk_numbers d0) (dk_capacities d0) (dk_firsts d0) (dk_containers d0) (dk_codes d0) (dk_places d0) (dk_uses d0) (dk_entries d0) (dk_references d0) (dk_lengths d0) (dk_nextNumber d0) (dk_carried d0))) v2 A)) (As := [.int p1]) (rest := []) ⟨hx, hb, hml, hown, hts⟩ hK hP hD (c_X1_hasEntry l D t h0 a0 d0 _ p1 v2 e2) (cwV 1 hts (gcX1_hasEntry w_169) rfl rfl rfl hdX1_hasEntryV ⟨Nat.le_of_ble_eq_true rfl, Nat.le_of_ble_eq_true rfl⟩) (ci := 1) (q0 := 0) rfl rfl rfl hl.1 rfl (Nat.le_of_ble_eq_true rfl) (kd tdlX1_usesOfEntry_0 2 rfl) ⟨Nat.zero_le _, Nat.zero_le _⟩) (fun H locs hP hD hS => ?_)
  refine lv_if_eq (tgt := 17) hx hb (kd tdlX1_usesOfEntry_0 3 rfl) (by decide) (fun hc5 => ?_) (fun hc5 => ?_)
  · have hF := kt hc5 hF
    refine lv_iconst (v := 0) hx hb (kd tdlX1_usesOfEntry_0 9 rfl) (by decide) ?_
    cases ko hF
    exact ke_i hx hb hr hlocks hK hP hD hS rfl (kd tdlX1_usesOfEntry_0 10 rfl)
  · have hF := kf hc5 hF
    refine lv_aload_n hx hb (kd tdlX1_usesOfEntry_0 4 rfl) rfl (lv_at hl 0 rfl) ?_
    refine dk_g_uses hx hb hts inX1_ hown hK hP L38 (kd tdlX1_usesOfEntry_0 5 rfl) ?_
    refine lv_iload_n hx hb (kd tdlX1_usesOfEntry_0 6 rfl) rfl (lv_at hl 1 rfl) ?_
    obtain ⟨hi13, hF⟩ := kg hF
    refine dk_l_uses hx hb hK hP hi13 (kd tdlX1_usesOfEntry_0 7 rfl) ?_
    refine lv_goto (tgt := 18) hx hb (kd tdlX1_usesOfEntry_0 8 rfl) (by decide) ?_
    cases ko hF
    exact ke_i hx hb hr hlocks hK hP hD hS rfl (kd tdlX1_usesOfEntry_0 10 rfl)
set_option maxHeartbeats 4000000 in
set_option maxRecDepth 100000 in
theorem c_X1_livingAt (l : Launch) (D : va_G) (t : Nat → ClassId) (h0 : Nat) (a0 : Nat → Nat) (d0 : DKT) (sz : Nat) (p1 : Int32) (r : Int32) (hF : F_X1_livingAt d0 p1 = some r) : Met l yX1_livingAt wX1_livingAt ({ frames := 2, cells := 0, slots := 0, locals := 42 } : Room) (kPc D (TY t) ((wdk t h0 a0 d0)) [.ref h0, .int p1] sz) (kQi D (TY t) ((wdk t h0 a0 d0)) r (va_A ((wdk t h0 a0 d0)) sz)) 0 0 (va_A ((wdk t h0 a0 d0)) sz) := by
  refine kE (cc := cX1_livingAt) (maxL := 5) (ret := (some .int)) (Qx := fun A => kQi D (TY t) ((wdk t h0 a0 d0)) r A) (lv0 := [(0, .ref h0), (1, .int p1)]) RX1 rfl (by decide) rfl (Nat.le_of_ble_eq_true rfl) rfl ?_
  intro p e s m args below meth c A ls hx hb hml hr hlocks hown hts hA hK hP hD hS hl
  have hP : va_P D vwCl ((wdkF t h0 a0 (dk_settings d0) (dk_numbers d0) (dk_capacities d0) (dk_firsts d0) (dk_containers d0) (dk_codes d0) (dk_places d0) (dk_uses d0) (dk_entries d0) (dk_references d0) (dk_lengths d0) (dk_nextNumber d0) (dk_carried d0))) s.heap := hP
  have hD : va_D A ((wdkF t h0 a0 (dk_settings d0) (dk_numbers d0) (dk_capacities d0) (dk_firsts d0) (dk_containers d0) (dk_codes d0) (dk_places d0) (dk_uses d0) (dk_entries d0) (dk_references d0) (dk_lengths d0) (dk_nextNumber d0) (dk_carried d0))) := hD
  refine lv_aload_n hx hb (kd tdlX1_livingAt_0 0 rfl) rfl (lv_at hl 0 rfl) ?_
  refine lv_iload_n hx hb (kd tdlX1_livingAt_0 1 rfl) rfl (lv_at hl 1 rfl) ?_
  refine lv_iconst (v := 1) hx hb (kd tdlX1_livingAt_0 2 rfl) (by decide) ?_
  refine lv_iadd hx hb (kd tdlX1_livingAt_0 3 rfl) ?_
  obtain ⟨v4, e4, hF⟩ := kc hF
  refine kc_i0 (w1 := ((wdkF t h0 a0 (dk_settings d0) (dk_numbers d0) (dk_capacities d0) (dk_firsts d0) (dk_containers d0) (dk_codes d0) (dk_places d0) (dk_uses d0) (dk_entries d0) (dk_references d0) (dk_lengths d0) (dk_nextNumber d0) (dk_carried d0)))) hP hD hS hA (kr_V0 (Qx := (fun A => kQi D (TY t) ((wdkF t h0 a0 (dk_settings d0) (dk_numbers d0) (dk_capacities d0) (dk_firsts d0) (dk_containers d0) (dk_codes d0) (dk_places d0) (dk_uses d0) (dk_entries d0) (dk_references d0) (dk_lengths d0) (dk_nextNumber d0) (dk_carried d0))) v4 A)) (As := [.int (p1 + 1)]) (rest := []) ⟨hx, hb, hml, hown, hts⟩ hK hP hD (c_X1_firstEntryAt l D t h0 a0 d0 _ (p1 + 1) v4 e4) (cwV 1 hts (gcX1_firstEntryAt w_161) rfl rfl rfl hdX1_firstEntryAtV ⟨Nat.le_of_ble_eq_true rfl, Nat.le_of_ble_eq_true rfl⟩) (ci := 1) (q0 := 0) rfl rfl rfl hl.1 rfl (Nat.le_of_ble_eq_true rfl) (kd tdlX1_livingAt_0 4 rfl) ⟨Nat.zero_le _, Nat.zero_le _⟩) (fun H locs hP hD hS => ?_)
  refine lv_istore_n (lv' := [(2, .int v4), (0, .ref h0), (1, .int p1)]) hx hb (kd tdlX1_livingAt_0 5 rfl) rfl hl (by decide) rfl (fun ls hl => ?_)
  refine lv_iconst (v := 0) hx hb (kd tdlX1_livingAt_0 6 rfl) (by decide) ?_
  refine lv_istore_n (lv' := [(3, .int 0), (2, .int v4), (0, .ref h0), (1, .int p1)]) hx hb (kd tdlX1_livingAt_0 7 rfl) rfl hl (by decide) rfl (fun ls hl => ?_)
  refine lv_aload_n hx hb (kd tdlX1_livingAt_0 8 rfl) rfl (lv_at hl 2 rfl) ?_
  refine lv_iload_n hx hb (kd tdlX1_livingAt_0 9 rfl) rfl (lv_at hl 3 rfl) ?_
  obtain ⟨v12, e12, hF⟩ := kc hF
  refine kc_i0 (w1 := ((wdkF t h0 a0 (dk_settings d0) (dk_numbers d0) (dk_capacities d0) (dk_firsts d0) (dk_containers d0) (dk_codes d0) (dk_places d0) (dk_uses d0) (dk_entries d0) (dk_references d0) (dk_lengths d0) (dk_nextNumber d0) (dk_carried d0)))) hP hD hS hA (kr_V0 (Qx := (fun A => kQi D (TY t) ((wdkF t h0 a0 (dk_settings d0) (dk_numbers d0) (dk_capacities d0) (dk_firsts d0) (dk_containers d0) (dk_codes d0) (dk_places d0) (dk_uses d0) (dk_entries d0) (dk_references d0) (dk_lengths d0) (dk_nextNumber d0) (dk_carried d0))) v12 A)) (As := [.int p1]) (rest := []) ⟨hx, hb, hml, hown, hts⟩ hK hP hD (c_X1_firstEntryAt l D t h0 a0 d0 _ p1 v12 e12) (cwV 1 hts (gcX1_firstEntryAt w_161) rfl rfl rfl hdX1_firstEntryAtV ⟨Nat.le_of_ble_eq_true rfl, Nat.le_of_ble_eq_true rfl⟩) (ci := 1) (q0 := 0) rfl rfl rfl hl.1 rfl (Nat.le_of_ble_eq_true rfl) (kd tdlX1_livingAt_0 10 rfl) ⟨Nat.zero_le _, Nat.zero_le _⟩) (fun H locs hP hD hS => ?_)
  refine lv_istore (lv' := [(4, .int v12), (3, .int 0), (2, .int v4), (0, .ref h0), (1, .int p1)]) hx hb (kd tdlX1_livingAt_0 11 rfl) hl (by decide) rfl (fun ls hl => ?_)
  refine lp_ind (f := B_X1_livingAt_17 v4 d0) (r := r) (P := fun s17_ => ∀ (H : Heap) (locs : List Loc) (ls : Array Slot), va_P D vwCl ((wdkF t h0 a0 (dk_settings d0) (dk_numbers d0) (dk_capacities d0) (dk_firsts d0) (dk_containers d0) (dk_codes d0) (dk_places d0) (dk_uses d0) (dk_entries d0) (dk_references d0) (dk_lengths d0) (dk_nextNumber d0) (dk_carried d0))) H → va_D A ((wdkF t h0 a0 (dk_settings d0) (dk_numbers d0) (dk_capacities d0) (dk_firsts d0) (dk_containers d0) (dk_codes d0) (dk_places d0) (dk_uses d0) (dk_entries d0) (dk_references d0) (dk_lengths d0) (dk_nextNumber d0) (dk_carried d0))) → va_S A s.heap H locs → lv_has ls 5 [(0, .ref h0), (2, .int v4), (3, .int s17_.1), (4, .int s17_.2)] → W p l e ({ frames := 2, cells := 0, slots := 0, locals := 42 } : Room) s m args below meth c H locs 0 0 (MQ below (kQi D (TY t) ((wdk t h0 a0 d0)) r A) args s 0 0 A) (F0 m 17 ls [])) ?_ FU (0, v12) hF _ _ _ hP hD hS (lv_sub hl [3, 2, 1, 0] rfl)
  intro self17 ih17 s17_ hF H locs ls hP hD hS hl
  refine lv_iload hx hb (kd tdlX1_livingAt_0 12 rfl) (lv_at hl 3 rfl) ?_
  refine lv_iload_n hx hb (kd tdlX1_livingAt_0 13 rfl) rfl (lv_at hl 1 rfl) ?_
  refine lv_icmp_ge (tgt := 41) hx hb (kd tdlX1_livingAt_0 14 rfl) (by decide) (fun hc20 => ?_) (fun hc20 => ?_)
  · have hF := kt hc20 hF
    refine lv_iload_n hx hb (kd tdlX1_livingAt_0 22 rfl) rfl (lv_at hl 2 rfl) ?_
    cases ko hF
    exact ke_i hx hb hr hlocks hK hP hD hS rfl (kd tdlX1_livingAt_0 23 rfl)
  · have hF := kf hc20 hF
    refine lv_aload_n hx hb (kd tdlX1_livingAt_0 15 rfl) rfl (lv_at hl 0 rfl) ?_
    refine lv_iload hx hb (kd tdlX1_livingAt_0 16 rfl) (lv_at hl 3 rfl) ?_
    obtain ⟨v26, e26, hF⟩ := kc hF
    refine kc_i0 (w1 := ((wdkF t h0 a0 (dk_settings d0) (dk_numbers d0) (dk_capacities d0) (dk_firsts d0) (dk_containers d0) (dk_codes d0) (dk_places d0) (dk_uses d0) (dk_entries d0) (dk_references d0) (dk_lengths d0) (dk_nextNumber d0) (dk_carried d0)))) hP hD hS hA (kr_V0 (Qx := (fun A => kQi D (TY t) ((wdkF t h0 a0 (dk_settings d0) (dk_numbers d0) (dk_capacities d0) (dk_firsts d0) (dk_containers d0) (dk_codes d0) (dk_places d0) (dk_uses d0) (dk_entries d0) (dk_references d0) (dk_lengths d0) (dk_nextNumber d0) (dk_carried d0))) v26 A)) (As := [.int s17_.2]) (rest := []) ⟨hx, hb, hml, hown, hts⟩ hK hP hD (c_X1_usesOfEntry l D t h0 a0 d0 _ s17_.2 v26 e26) (cwV 1 hts (gcX1_usesOfEntry w_165) rfl rfl rfl hdX1_usesOfEntryV ⟨Nat.le_of_ble_eq_true rfl, Nat.le_of_ble_eq_true rfl⟩) (ci := 1) (q0 := 0) rfl rfl rfl hl.1 rfl (Nat.le_of_ble_eq_true rfl) (kd tdlX1_livingAt_0 17 rfl) ⟨Nat.zero_le _, Nat.zero_le _⟩) (fun H locs hP hD hS => ?_)
    refine lv_if_le (tgt := 35) hx hb (kd tdlX1_livingAt_0 18 rfl) (by decide) (fun hc29 => ?_) (fun hc29 => ?_)
    · have hF := kt hc29 hF
      refine lv_iinc (v := (s17_.2 + 1)) (lv' := [(4, .int (s17_.2 + 1)), (0, .ref h0), (2, .int v4), (3, .int s17_.1)]) hx hb (kd tdlX1_livingAt_0 20 rfl) hl (k := 3) rfl rfl (by decide) rfl (fun ls hl => ?_)
      refine lv_goto (tgt := 17) hx hb (kd tdlX1_livingAt_0 21 rfl) (by decide) ?_
      exact ih17 (s17_.1, (s17_.2 + 1)) hF _ _ _ hP hD hS (lv_sub hl [1, 2, 3, 0] rfl)
    · have hF := kf hc29 hF
      refine lv_iinc (v := (s17_.1 + 1)) (lv' := [(3, .int (s17_.1 + 1)), (0, .ref h0), (2, .int v4), (4, .int s17_.2)]) hx hb (kd tdlX1_livingAt_0 19 rfl) hl (k := 2) rfl rfl (by decide) rfl (fun ls hl => ?_)
      refine lv_iinc (v := (s17_.2 + 1)) (lv' := [(4, .int (s17_.2 + 1)), (3, .int (s17_.1 + 1)), (0, .ref h0), (2, .int v4)]) hx hb (kd tdlX1_livingAt_0 20 rfl) hl (k := 3) rfl rfl (by decide) rfl (fun ls hl => ?_)
      refine lv_goto (tgt := 17) hx hb (kd tdlX1_livingAt_0 21 rfl) (by decide) ?_
      exact ih17 ((s17_.1 + 1), (s17_.2 + 1)) hF _ _ _ hP hD hS (lv_sub hl [2, 3, 1, 0] rfl)
set_option maxHeartbeats 4000000 in
set_option maxRecDepth 100000 in
theorem c_X1_isThin (l : Launch) (D : va_G) (t : Nat → ClassId) (h0 : Nat) (a0 : Nat → Nat) (d0 : DKT) (sz : Nat) (p1 : Int32) (r : Int32) (hF : F_X1_isThin d0 p1 = some r) : Met l yX1_isThin wX1_isThin ({ frames := 3, cells := 0, slots := 0, locals := 66 } : Room) (kPc D (TY t) ((wdk t h0 a0 d0)) [.ref h0, .int p1] sz) (kQi D (TY t) ((wdk t h0 a0 d0)) r (va_A ((wdk t h0 a0 d0)) sz)) 0 0 (va_A ((wdk t h0 a0 d0)) sz) := by
  refine kE (cc := cX1_isThin) (maxL := 2) (ret := (some .boolean)) (Qx := fun A => kQi D (TY t) ((wdk t h0 a0 d0)) r A) (lv0 := [(0, .ref h0), (1, .int p1)]) RX1 rfl (by decide) rfl (Nat.le_of_ble_eq_true rfl) rfl ?_
  intro p e s m args below meth c A ls hx hb hml hr hlocks hown hts hA hK hP hD hS hl
  have L18 := hts (.fieldLink RX1 18 "ChunkCarriers$Desk" "settings" "[I") (List.mem_cons_of_mem _ w_55)
  have L53 := hts (.fieldLink RX1 53 "ChunkCarriers$Desk" "containers" "I") (List.mem_cons_of_mem _ w_108)
  have inX1_ : ∀ w ∈ wsX10, w ∈ wX1_isThin := fun w h => List.mem_cons_of_mem _ (inlX1 w h)
  have hP : va_P D vwCl ((wdkF t h0 a0 (dk_settings d0) (dk_numbers d0) (dk_capacities d0) (dk_firsts d0) (dk_containers d0) (dk_codes d0) (dk_places d0) (dk_uses d0) (dk_entries d0) (dk_references d0) (dk_lengths d0) (dk_nextNumber d0) (dk_carried d0))) s.heap := hP
  have hD : va_D A ((wdkF t h0 a0 (dk_settings d0) (dk_numbers d0) (dk_capacities d0) (dk_firsts d0) (dk_containers d0) (dk_codes d0) (dk_places d0) (dk_uses d0) (dk_entries d0) (dk_references d0) (dk_lengths d0) (dk_nextNumber d0) (dk_carried d0))) := hD
  refine lv_iload_n hx hb (kd tdlX1_isThin_0 0 rfl) rfl (lv_at hl 1 rfl) ?_
  refine lv_aload_n hx hb (kd tdlX1_isThin_0 1 rfl) rfl (lv_at hl 0 rfl) ?_
  refine dk_g_containers hx hb hts inX1_ hown hK hP L53 (kd tdlX1_isThin_0 2 rfl) ?_
  refine lv_iconst (v := 1) hx hb (kd tdlX1_isThin_0 3 rfl) (by decide) ?_
  refine lv_isub hx hb (kd tdlX1_isThin_0 4 rfl) ?_
  refine lv_icmp_lt (tgt := 12) hx hb (kd tdlX1_isThin_0 5 rfl) (by decide) (fun hc7 => ?_) (fun hc7 => ?_)
  · have hF := kt hc7 hF
    refine lv_bipush (v := 100) hx hb (kd tdlX1_isThin_0 8 rfl) (by decide) ?_
    refine lv_aload_n hx hb (kd tdlX1_isThin_0 9 rfl) rfl (lv_at hl 0 rfl) ?_
    refine lv_iload_n hx hb (kd tdlX1_isThin_0 10 rfl) rfl (lv_at hl 1 rfl) ?_
    obtain ⟨v16, e16, hF⟩ := kc hF
    refine kc_i0 (w1 := ((wdkF t h0 a0 (dk_settings d0) (dk_numbers d0) (dk_capacities d0) (dk_firsts d0) (dk_containers d0) (dk_codes d0) (dk_places d0) (dk_uses d0) (dk_entries d0) (dk_references d0) (dk_lengths d0) (dk_nextNumber d0) (dk_carried d0)))) hP hD hS hA (kr_V0 (Qx := (fun A => kQi D (TY t) ((wdkF t h0 a0 (dk_settings d0) (dk_numbers d0) (dk_capacities d0) (dk_firsts d0) (dk_containers d0) (dk_codes d0) (dk_places d0) (dk_uses d0) (dk_entries d0) (dk_references d0) (dk_lengths d0) (dk_nextNumber d0) (dk_carried d0))) v16 A)) (As := [.int p1]) (rest := [.int 100]) ⟨hx, hb, hml, hown, hts⟩ hK hP hD (c_X1_livingAt l D t h0 a0 d0 _ p1 v16 e16) (cwV 1 hts (gcX1_livingAt w_157) rfl rfl rfl hdX1_livingAtV ⟨Nat.le_of_ble_eq_true rfl, Nat.le_of_ble_eq_true rfl⟩) (ci := 1) (q0 := 0) rfl rfl rfl hl.1 rfl (Nat.le_of_ble_eq_true rfl) (kd tdlX1_isThin_0 11 rfl) ⟨Nat.zero_le _, Nat.zero_le _⟩) (fun H locs hP hD hS => ?_)
    refine lv_imul hx hb (kd tdlX1_isThin_0 12 rfl) ?_
    refine lv_aload_n hx hb (kd tdlX1_isThin_0 13 rfl) rfl (lv_at hl 0 rfl) ?_
    refine dk_g_settings hx hb hts inX1_ hown hK hP L18 (kd tdlX1_isThin_0 14 rfl) ?_
    refine lv_iconst (v := 3) hx hb (kd tdlX1_isThin_0 15 rfl) (by decide) ?_
    obtain ⟨hi25, hF⟩ := kg hF
    refine dk_l_settings hx hb hK hP hi25 (kd tdlX1_isThin_0 16 rfl) ?_
    refine lv_aload_n hx hb (kd tdlX1_isThin_0 17 rfl) rfl (lv_at hl 0 rfl) ?_
    refine lv_iload_n hx hb (kd tdlX1_isThin_0 18 rfl) rfl (lv_at hl 1 rfl) ?_
    obtain ⟨v28, e28, hF⟩ := kc hF
    refine kc_i0 (w1 := ((wdkF t h0 a0 (dk_settings d0) (dk_numbers d0) (dk_capacities d0) (dk_firsts d0) (dk_containers d0) (dk_codes d0) (dk_places d0) (dk_uses d0) (dk_entries d0) (dk_references d0) (dk_lengths d0) (dk_nextNumber d0) (dk_carried d0)))) hP hD hS hA (kr_V0 (Qx := (fun A => kQi D (TY t) ((wdkF t h0 a0 (dk_settings d0) (dk_numbers d0) (dk_capacities d0) (dk_firsts d0) (dk_containers d0) (dk_codes d0) (dk_places d0) (dk_uses d0) (dk_entries d0) (dk_references d0) (dk_lengths d0) (dk_nextNumber d0) (dk_carried d0))) v28 A)) (As := [.int p1]) (rest := [.int ((dk_settings d0) (Int32.toNatClampNeg 3)), .int (100 * v16)]) ⟨hx, hb, hml, hown, hts⟩ hK hP hD (c_X1_sizeAt l D t h0 a0 d0 _ p1 v28 e28) (cwV 1 hts (gcX1_sizeAt w_173) rfl rfl rfl hdX1_sizeAtV ⟨Nat.le_of_ble_eq_true rfl, Nat.le_of_ble_eq_true rfl⟩) (ci := 1) (q0 := 0) rfl rfl rfl hl.1 rfl (Nat.le_of_ble_eq_true rfl) (kd tdlX1_isThin_0 19 rfl) ⟨Nat.zero_le _, Nat.zero_le _⟩) (fun H locs hP hD hS => ?_)
    refine lv_imul hx hb (kd tdlX1_isThin_0 20 rfl) ?_
    refine lv_icmp_ge (tgt := 39) hx hb (kd tdlX1_isThin_0 21 rfl) (by decide) (fun hc32 => ?_) (fun hc32 => ?_)
    · have hF := kt hc32 hF
      refine lv_iconst (v := 0) hx hb (kd tdlX1_isThin_0 24 rfl) (by decide) ?_
      cases ko hF
      exact ke_z hx hb hr hlocks rfl hK hP hD hS rfl (kd tdlX1_isThin_0 25 rfl)
    · have hF := kf hc32 hF
      refine lv_iconst (v := 1) hx hb (kd tdlX1_isThin_0 22 rfl) (by decide) ?_
      refine lv_goto (tgt := 40) hx hb (kd tdlX1_isThin_0 23 rfl) (by decide) ?_
      cases ko hF
      exact ke_z hx hb hr hlocks rfl hK hP hD hS rfl (kd tdlX1_isThin_0 25 rfl)
  · have hF := kf hc7 hF
    refine lv_iconst (v := 0) hx hb (kd tdlX1_isThin_0 6 rfl) (by decide) ?_
    cases ko hF
    exact ke_z hx hb hr hlocks rfl hK hP hD hS rfl (kd tdlX1_isThin_0 7 rfl)
set_option maxHeartbeats 4000000 in
set_option maxRecDepth 100000 in
theorem c_X1_thinContainers (l : Launch) (D : va_G) (t : Nat → ClassId) (h0 : Nat) (a0 : Nat → Nat) (d0 : DKT) (sz : Nat)  (r : Int32) (hF : F_X1_thinContainers d0 = some r) : Met l yX1_thinContainers wX1_thinContainers ({ frames := 4, cells := 0, slots := 0, locals := 87 } : Room) (kPc D (TY t) ((wdk t h0 a0 d0)) [.ref h0] sz) (kQi D (TY t) ((wdk t h0 a0 d0)) r (va_A ((wdk t h0 a0 d0)) sz)) 0 0 (va_A ((wdk t h0 a0 d0)) sz) := by
  refine kE (cc := cX1_thinContainers) (maxL := 3) (ret := (some .int)) (Qx := fun A => kQi D (TY t) ((wdk t h0 a0 d0)) r A) (lv0 := [(0, .ref h0)]) RX1 rfl (by decide) rfl (Nat.le_of_ble_eq_true rfl) rfl ?_
  intro p e s m args below meth c A ls hx hb hml hr hlocks hown hts hA hK hP hD hS hl
  have L53 := hts (.fieldLink RX1 53 "ChunkCarriers$Desk" "containers" "I") (List.mem_cons_of_mem _ w_108)
  have inX1_ : ∀ w ∈ wsX10, w ∈ wX1_thinContainers := fun w h => List.mem_cons_of_mem _ (inlX1 w h)
  have hP : va_P D vwCl ((wdkF t h0 a0 (dk_settings d0) (dk_numbers d0) (dk_capacities d0) (dk_firsts d0) (dk_containers d0) (dk_codes d0) (dk_places d0) (dk_uses d0) (dk_entries d0) (dk_references d0) (dk_lengths d0) (dk_nextNumber d0) (dk_carried d0))) s.heap := hP
  have hD : va_D A ((wdkF t h0 a0 (dk_settings d0) (dk_numbers d0) (dk_capacities d0) (dk_firsts d0) (dk_containers d0) (dk_codes d0) (dk_places d0) (dk_uses d0) (dk_entries d0) (dk_references d0) (dk_lengths d0) (dk_nextNumber d0) (dk_carried d0))) := hD
  refine lv_iconst (v := 0) hx hb (kd tdlX1_thinContainers_0 0 rfl) (by decide) ?_
  refine lv_istore_n (lv' := [(1, .int 0), (0, .ref h0)]) hx hb (kd tdlX1_thinContainers_0 1 rfl) rfl hl (by decide) rfl (fun ls hl => ?_)
  refine lv_iconst (v := 0) hx hb (kd tdlX1_thinContainers_0 2 rfl) (by decide) ?_
  refine lv_istore_n (lv' := [(2, .int 0), (1, .int 0), (0, .ref h0)]) hx hb (kd tdlX1_thinContainers_0 3 rfl) rfl hl (by decide) rfl (fun ls hl => ?_)
  refine lp_ind (f := B_X1_thinContainers_4 d0) (r := r) (P := fun s4_ => ∀ (H : Heap) (locs : List Loc) (ls : Array Slot), va_P D vwCl ((wdkF t h0 a0 (dk_settings d0) (dk_numbers d0) (dk_capacities d0) (dk_firsts d0) (dk_containers d0) (dk_codes d0) (dk_places d0) (dk_uses d0) (dk_entries d0) (dk_references d0) (dk_lengths d0) (dk_nextNumber d0) (dk_carried d0))) H → va_D A ((wdkF t h0 a0 (dk_settings d0) (dk_numbers d0) (dk_capacities d0) (dk_firsts d0) (dk_containers d0) (dk_codes d0) (dk_places d0) (dk_uses d0) (dk_entries d0) (dk_references d0) (dk_lengths d0) (dk_nextNumber d0) (dk_carried d0))) → va_S A s.heap H locs → lv_has ls 3 [(0, .ref h0), (1, .int s4_.1), (2, .int s4_.2)] → W p l e ({ frames := 4, cells := 0, slots := 0, locals := 87 } : Room) s m args below meth c H locs 0 0 (MQ below (kQi D (TY t) ((wdk t h0 a0 d0)) r A) args s 0 0 A) (F0 m 4 ls [])) ?_ FU (0, 0) hF _ _ _ hP hD hS (lv_sub hl [2, 1, 0] rfl)
  intro self4 ih4 s4_ hF H locs ls hP hD hS hl
  refine lv_iload_n hx hb (kd tdlX1_thinContainers_0 4 rfl) rfl (lv_at hl 2 rfl) ?_
  refine lv_aload_n hx hb (kd tdlX1_thinContainers_0 5 rfl) rfl (lv_at hl 0 rfl) ?_
  refine dk_g_containers hx hb hts inX1_ hown hK hP L53 (kd tdlX1_thinContainers_0 6 rfl) ?_
  refine lv_icmp_ge (tgt := 29) hx hb (kd tdlX1_thinContainers_0 7 rfl) (by decide) (fun hc9 => ?_) (fun hc9 => ?_)
  · have hF := kt hc9 hF
    refine lv_iload_n hx hb (kd tdlX1_thinContainers_0 15 rfl) rfl (lv_at hl 1 rfl) ?_
    cases ko hF
    exact ke_i hx hb hr hlocks hK hP hD hS rfl (kd tdlX1_thinContainers_0 16 rfl)
  · have hF := kf hc9 hF
    refine lv_aload_n hx hb (kd tdlX1_thinContainers_0 8 rfl) rfl (lv_at hl 0 rfl) ?_
    refine lv_iload_n hx hb (kd tdlX1_thinContainers_0 9 rfl) rfl (lv_at hl 2 rfl) ?_
    obtain ⟨v14, e14, hF⟩ := kc hF
    refine kc_i0 (w1 := ((wdkF t h0 a0 (dk_settings d0) (dk_numbers d0) (dk_capacities d0) (dk_firsts d0) (dk_containers d0) (dk_codes d0) (dk_places d0) (dk_uses d0) (dk_entries d0) (dk_references d0) (dk_lengths d0) (dk_nextNumber d0) (dk_carried d0)))) hP hD hS hA (kr_V0 (Qx := (fun A => kQi D (TY t) ((wdkF t h0 a0 (dk_settings d0) (dk_numbers d0) (dk_capacities d0) (dk_firsts d0) (dk_containers d0) (dk_codes d0) (dk_places d0) (dk_uses d0) (dk_entries d0) (dk_references d0) (dk_lengths d0) (dk_nextNumber d0) (dk_carried d0))) v14 A)) (As := [.int s4_.2]) (rest := []) ⟨hx, hb, hml, hown, hts⟩ hK hP hD (c_X1_isThin l D t h0 a0 d0 _ s4_.2 v14 e14) (cwV 1 hts (gcX1_isThin w_153) rfl rfl rfl hdX1_isThinV ⟨Nat.le_of_ble_eq_true rfl, Nat.le_of_ble_eq_true rfl⟩) (ci := 1) (q0 := 0) rfl rfl rfl hl.1 rfl (Nat.le_of_ble_eq_true rfl) (kd tdlX1_thinContainers_0 10 rfl) ⟨Nat.zero_le _, Nat.zero_le _⟩) (fun H locs hP hD hS => ?_)
    refine lv_if_eq (tgt := 23) hx hb (kd tdlX1_thinContainers_0 11 rfl) (by decide) (fun hc17 => ?_) (fun hc17 => ?_)
    · have hF := kt hc17 hF
      refine lv_iinc (v := (s4_.2 + 1)) (lv' := [(2, .int (s4_.2 + 1)), (0, .ref h0), (1, .int s4_.1)]) hx hb (kd tdlX1_thinContainers_0 13 rfl) hl (k := 2) rfl rfl (by decide) rfl (fun ls hl => ?_)
      refine lv_goto (tgt := 4) hx hb (kd tdlX1_thinContainers_0 14 rfl) (by decide) ?_
      exact ih4 (s4_.1, (s4_.2 + 1)) hF _ _ _ hP hD hS (lv_sub hl [1, 2, 0] rfl)
    · have hF := kf hc17 hF
      refine lv_iinc (v := (s4_.1 + 1)) (lv' := [(1, .int (s4_.1 + 1)), (0, .ref h0), (2, .int s4_.2)]) hx hb (kd tdlX1_thinContainers_0 12 rfl) hl (k := 1) rfl rfl (by decide) rfl (fun ls hl => ?_)
      refine lv_iinc (v := (s4_.2 + 1)) (lv' := [(2, .int (s4_.2 + 1)), (1, .int (s4_.1 + 1)), (0, .ref h0)]) hx hb (kd tdlX1_thinContainers_0 13 rfl) hl (k := 2) rfl rfl (by decide) rfl (fun ls hl => ?_)
      refine lv_goto (tgt := 4) hx hb (kd tdlX1_thinContainers_0 14 rfl) (by decide) ?_
      exact ih4 ((s4_.1 + 1), (s4_.2 + 1)) hF _ _ _ hP hD hS (lv_sub hl [2, 1, 0] rfl)
set_option maxHeartbeats 4000000 in
set_option maxRecDepth 100000 in
theorem c_X1_roomInLast (l : Launch) (D : va_G) (t : Nat → ClassId) (h0 : Nat) (a0 : Nat → Nat) (d0 : DKT) (sz : Nat)  (r : Int32) (hF : F_X1_roomInLast d0 = some r) : Met l yX1_roomInLast wX1_roomInLast ({ frames := 0, cells := 0, slots := 0, locals := 0 } : Room) (kPc D (TY t) ((wdk t h0 a0 d0)) [.ref h0] sz) (kQi D (TY t) ((wdk t h0 a0 d0)) r (va_A ((wdk t h0 a0 d0)) sz)) 0 0 (va_A ((wdk t h0 a0 d0)) sz) := by
  refine kE (cc := cX1_roomInLast) (maxL := 2) (ret := (some .int)) (Qx := fun A => kQi D (TY t) ((wdk t h0 a0 d0)) r A) (lv0 := [(0, .ref h0)]) RX1 rfl (by decide) rfl (Nat.le_of_ble_eq_true rfl) rfl ?_
  intro p e s m args below meth c A ls hx hb hml hr hlocks hown hts hA hK hP hD hS hl
  have L26 := hts (.fieldLink RX1 26 "ChunkCarriers$Desk" "capacities" "[I") (List.mem_cons_of_mem _ w_58)
  have L29 := hts (.fieldLink RX1 29 "ChunkCarriers$Desk" "firsts" "[I") (List.mem_cons_of_mem _ w_59)
  have L53 := hts (.fieldLink RX1 53 "ChunkCarriers$Desk" "containers" "I") (List.mem_cons_of_mem _ w_108)
  have L57 := hts (.fieldLink RX1 57 "ChunkCarriers$Desk" "entries" "I") (List.mem_cons_of_mem _ w_109)
  have inX1_ : ∀ w ∈ wsX10, w ∈ wX1_roomInLast := fun w h => List.mem_cons_of_mem _ (inlX1 w h)
  have hP : va_P D vwCl ((wdkF t h0 a0 (dk_settings d0) (dk_numbers d0) (dk_capacities d0) (dk_firsts d0) (dk_containers d0) (dk_codes d0) (dk_places d0) (dk_uses d0) (dk_entries d0) (dk_references d0) (dk_lengths d0) (dk_nextNumber d0) (dk_carried d0))) s.heap := hP
  have hD : va_D A ((wdkF t h0 a0 (dk_settings d0) (dk_numbers d0) (dk_capacities d0) (dk_firsts d0) (dk_containers d0) (dk_codes d0) (dk_places d0) (dk_uses d0) (dk_entries d0) (dk_references d0) (dk_lengths d0) (dk_nextNumber d0) (dk_carried d0))) := hD
  refine lv_aload_n hx hb (kd tdlX1_roomInLast_0 0 rfl) rfl (lv_at hl 0 rfl) ?_
  refine dk_g_containers hx hb hts inX1_ hown hK hP L53 (kd tdlX1_roomInLast_0 1 rfl) ?_
  refine lv_iconst (v := 1) hx hb (kd tdlX1_roomInLast_0 2 rfl) (by decide) ?_
  refine lv_isub hx hb (kd tdlX1_roomInLast_0 3 rfl) ?_
  refine lv_istore_n (lv' := [(1, .int ((dk_containers d0) - 1)), (0, .ref h0)]) hx hb (kd tdlX1_roomInLast_0 4 rfl) rfl hl (by decide) rfl (fun ls hl => ?_)
  refine lv_iload_n hx hb (kd tdlX1_roomInLast_0 5 rfl) rfl (lv_at hl 0 rfl) ?_
  refine lv_if_lt (tgt := 32) hx hb (kd tdlX1_roomInLast_0 6 rfl) (by decide) (fun hc8 => ?_) (fun hc8 => ?_)
  · have hF := kt hc8 hF
    refine lv_iconst (v := 0) hx hb (kd tdlX1_roomInLast_0 20 rfl) (by decide) ?_
    cases ko hF
    exact ke_i hx hb hr hlocks hK hP hD hS rfl (kd tdlX1_roomInLast_0 21 rfl)
  · have hF := kf hc8 hF
    refine lv_aload_n hx hb (kd tdlX1_roomInLast_0 7 rfl) rfl (lv_at hl 1 rfl) ?_
    refine dk_g_capacities hx hb hts inX1_ hown hK hP L26 (kd tdlX1_roomInLast_0 8 rfl) ?_
    refine lv_iload_n hx hb (kd tdlX1_roomInLast_0 9 rfl) rfl (lv_at hl 0 rfl) ?_
    obtain ⟨hi16, hF⟩ := kg hF
    refine dk_l_capacities hx hb hK hP hi16 (kd tdlX1_roomInLast_0 10 rfl) ?_
    refine lv_aload_n hx hb (kd tdlX1_roomInLast_0 11 rfl) rfl (lv_at hl 1 rfl) ?_
    refine dk_g_entries hx hb hts inX1_ hown hK hP L57 (kd tdlX1_roomInLast_0 12 rfl) ?_
    refine lv_aload_n hx hb (kd tdlX1_roomInLast_0 13 rfl) rfl (lv_at hl 1 rfl) ?_
    refine dk_g_firsts hx hb hts inX1_ hown hK hP L29 (kd tdlX1_roomInLast_0 14 rfl) ?_
    refine lv_iload_n hx hb (kd tdlX1_roomInLast_0 15 rfl) rfl (lv_at hl 0 rfl) ?_
    obtain ⟨hi26, hF⟩ := kg hF
    refine dk_l_firsts hx hb hK hP hi26 (kd tdlX1_roomInLast_0 16 rfl) ?_
    refine lv_isub hx hb (kd tdlX1_roomInLast_0 17 rfl) ?_
    refine lv_isub hx hb (kd tdlX1_roomInLast_0 18 rfl) ?_
    refine lv_goto (tgt := 33) hx hb (kd tdlX1_roomInLast_0 19 rfl) (by decide) ?_
    cases ko hF
    exact ke_i hx hb hr hlocks hK hP hD hS rfl (kd tdlX1_roomInLast_0 21 rfl)
set_option maxHeartbeats 4000000 in
set_option maxRecDepth 100000 in
theorem c_X1_openContainer (l : Launch) (D : va_G) (t : Nat → ClassId) (h0 : Nat) (a0 : Nat → Nat) (d0 : DKT) (sz : Nat)  (r : DKT) (hF : F_X1_openContainer d0 = some r) : Met l yX1_openContainer wX1_openContainer ({ frames := 0, cells := 0, slots := 0, locals := 0 } : Room) (kPc D (TY t) ((wdk t h0 a0 d0)) [.ref h0] sz) (kQv D (TY t) ((wdk t h0 a0 r)) (va_A ((wdk t h0 a0 d0)) sz)) 0 0 (va_A ((wdk t h0 a0 d0)) sz) := by
  refine kE (cc := cX1_openContainer) (maxL := 1) (ret := none) (Qx := fun A => kQv D (TY t) ((wdk t h0 a0 r)) A) (lv0 := [(0, .ref h0)]) RX1 rfl (by decide) rfl (Nat.le_of_ble_eq_true rfl) rfl ?_
  intro p e s m args below meth c A ls hx hb hml hr hlocks hown hts hA hK hP hD hS hl
  have L18 := hts (.fieldLink RX1 18 "ChunkCarriers$Desk" "settings" "[I") (List.mem_cons_of_mem _ w_55)
  have L23 := hts (.fieldLink RX1 23 "ChunkCarriers$Desk" "numbers" "[I") (List.mem_cons_of_mem _ w_57)
  have L26 := hts (.fieldLink RX1 26 "ChunkCarriers$Desk" "capacities" "[I") (List.mem_cons_of_mem _ w_58)
  have L29 := hts (.fieldLink RX1 29 "ChunkCarriers$Desk" "firsts" "[I") (List.mem_cons_of_mem _ w_59)
  have L53 := hts (.fieldLink RX1 53 "ChunkCarriers$Desk" "containers" "I") (List.mem_cons_of_mem _ w_108)
  have L57 := hts (.fieldLink RX1 57 "ChunkCarriers$Desk" "entries" "I") (List.mem_cons_of_mem _ w_109)
  have L60 := hts (.fieldLink RX1 60 "ChunkCarriers$Desk" "nextNumber" "I") (List.mem_cons_of_mem _ w_110)
  have inX1_ : ∀ w ∈ wsX10, w ∈ wX1_openContainer := fun w h => List.mem_cons_of_mem _ (inlX1 w h)
  have hP : va_P D vwCl ((wdkF t h0 a0 (dk_settings d0) (dk_numbers d0) (dk_capacities d0) (dk_firsts d0) (dk_containers d0) (dk_codes d0) (dk_places d0) (dk_uses d0) (dk_entries d0) (dk_references d0) (dk_lengths d0) (dk_nextNumber d0) (dk_carried d0))) s.heap := hP
  have hD : va_D A ((wdkF t h0 a0 (dk_settings d0) (dk_numbers d0) (dk_capacities d0) (dk_firsts d0) (dk_containers d0) (dk_codes d0) (dk_places d0) (dk_uses d0) (dk_entries d0) (dk_references d0) (dk_lengths d0) (dk_nextNumber d0) (dk_carried d0))) := hD
  refine lv_aload_n hx hb (kd tdlX1_openContainer_0 0 rfl) rfl (lv_at hl 0 rfl) ?_
  refine dk_g_containers hx hb hts inX1_ hown hK hP L53 (kd tdlX1_openContainer_0 1 rfl) ?_
  refine lv_bipush (v := 121) hx hb (kd tdlX1_openContainer_0 2 rfl) (by decide) ?_
  refine lv_icmp_lt (tgt := 10) hx hb (kd tdlX1_openContainer_0 3 rfl) (by decide) (fun hc6 => ?_) (fun hc6 => ?_)
  · have hF := kt hc6 hF
    refine lv_aload_n hx hb (kd tdlX1_openContainer_0 5 rfl) rfl (lv_at hl 0 rfl) ?_
    refine dk_g_numbers hx hb hts inX1_ hown hK hP L23 (kd tdlX1_openContainer_0 6 rfl) ?_
    refine lv_aload_n hx hb (kd tdlX1_openContainer_0 7 rfl) rfl (lv_at hl 0 rfl) ?_
    refine dk_g_containers hx hb hts inX1_ hown hK hP L53 (kd tdlX1_openContainer_0 8 rfl) ?_
    refine lv_aload_n hx hb (kd tdlX1_openContainer_0 9 rfl) rfl (lv_at hl 0 rfl) ?_
    refine dk_g_nextNumber hx hb hts inX1_ hown hK hP L60 (kd tdlX1_openContainer_0 10 rfl) ?_
    obtain ⟨hi22, hF⟩ := kg hF
    refine dk_s_numbers hx hb hK hP hD hS hi22 (kd tdlX1_openContainer_0 11 rfl) (fun H locs hP hD hS => ?_)
    refine lv_aload_n hx hb (kd tdlX1_openContainer_0 12 rfl) rfl (lv_at hl 0 rfl) ?_
    refine dk_g_capacities hx hb hts inX1_ hown hK hP L26 (kd tdlX1_openContainer_0 13 rfl) ?_
    refine lv_aload_n hx hb (kd tdlX1_openContainer_0 14 rfl) rfl (lv_at hl 0 rfl) ?_
    refine dk_g_containers hx hb hts inX1_ hown hK hP L53 (kd tdlX1_openContainer_0 15 rfl) ?_
    refine lv_aload_n hx hb (kd tdlX1_openContainer_0 16 rfl) rfl (lv_at hl 0 rfl) ?_
    refine dk_g_settings hx hb hts inX1_ hown hK hP L18 (kd tdlX1_openContainer_0 17 rfl) ?_
    refine lv_iconst (v := 1) hx hb (kd tdlX1_openContainer_0 18 rfl) (by decide) ?_
    obtain ⟨hi36, hF⟩ := kg hF
    refine dk_l_settings hx hb hK hP hi36 (kd tdlX1_openContainer_0 19 rfl) ?_
    obtain ⟨hi37, hF⟩ := kg hF
    refine dk_s_capacities hx hb hK hP hD hS hi37 (kd tdlX1_openContainer_0 20 rfl) (fun H locs hP hD hS => ?_)
    refine lv_aload_n hx hb (kd tdlX1_openContainer_0 21 rfl) rfl (lv_at hl 0 rfl) ?_
    refine dk_g_firsts hx hb hts inX1_ hown hK hP L29 (kd tdlX1_openContainer_0 22 rfl) ?_
    refine lv_aload_n hx hb (kd tdlX1_openContainer_0 23 rfl) rfl (lv_at hl 0 rfl) ?_
    refine dk_g_containers hx hb hts inX1_ hown hK hP L53 (kd tdlX1_openContainer_0 24 rfl) ?_
    refine lv_aload_n hx hb (kd tdlX1_openContainer_0 25 rfl) rfl (lv_at hl 0 rfl) ?_
    refine dk_g_entries hx hb hts inX1_ hown hK hP L57 (kd tdlX1_openContainer_0 26 rfl) ?_
    obtain ⟨hi50, hF⟩ := kg hF
    refine dk_s_firsts hx hb hK hP hD hS hi50 (kd tdlX1_openContainer_0 27 rfl) (fun H locs hP hD hS => ?_)
    refine lv_aload_n hx hb (kd tdlX1_openContainer_0 28 rfl) rfl (lv_at hl 0 rfl) ?_
    refine lv_dup hx hb (kd tdlX1_openContainer_0 29 rfl) rfl ?_
    refine dk_g_nextNumber hx hb hts inX1_ hown hK hP L60 (kd tdlX1_openContainer_0 30 rfl) ?_
    refine lv_iconst (v := 1) hx hb (kd tdlX1_openContainer_0 31 rfl) (by decide) ?_
    refine lv_iadd hx hb (kd tdlX1_openContainer_0 32 rfl) ?_
    refine dk_p_nextNumber hx hb hts inX1_ hown hK hP hD hS L60 (kd tdlX1_openContainer_0 33 rfl) (fun H locs hP hD hS => ?_)
    refine lv_aload_n hx hb (kd tdlX1_openContainer_0 34 rfl) rfl (lv_at hl 0 rfl) ?_
    refine lv_dup hx hb (kd tdlX1_openContainer_0 35 rfl) rfl ?_
    refine dk_g_containers hx hb hts inX1_ hown hK hP L53 (kd tdlX1_openContainer_0 36 rfl) ?_
    refine lv_iconst (v := 1) hx hb (kd tdlX1_openContainer_0 37 rfl) (by decide) ?_
    refine lv_iadd hx hb (kd tdlX1_openContainer_0 38 rfl) ?_
    refine dk_p_containers hx hb hts inX1_ hown hK hP hD hS L53 (kd tdlX1_openContainer_0 39 rfl) (fun H locs hP hD hS => ?_)
    cases ko hF
    exact ke_v hx hb hr hlocks hK hP hD hS (kd tdlX1_openContainer_0 40 rfl)
  · have hF := kf hc6 hF
    cases ko hF
    exact ke_v hx hb hr hlocks hK hP hD hS (kd tdlX1_openContainer_0 4 rfl)
