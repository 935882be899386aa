set_option maxHeartbeats 4000000 in
set_option maxRecDepth 100000 in
theorem c_X0_init (l : Launch) (D : va_G) (t : Nat → ClassId) (h0 : Nat) (sz : Nat) : Met l yX0_init wX0_init ({ frames := 1, cells := 4, slots := 697, locals := 30 } : Room) (kPx D (TY t) [(h0, .inr (0, [.null, .null, .null, .null, .int 0]))] [.ref h0] sz) (kQvS D (TY t) (fun (a : Nat → Nat) => wcr t h0 a CRI) (va_A [(h0, .inr (0, [.null, .null, .null, .null, .int 0]))] sz)) 4 697 (va_A [(h0, .inr (0, [.null, .null, .null, .null, .int 0]))] sz) := by
  refine kEi (cc := cX0_init) (maxL := 1) (ret := none) (Qx := fun A => kQvS D (TY t) (fun (a : Nat → Nat) => wcr t h0 a CRI) A) (lv0 := [(0, .ref h0)]) RX0 rfl rfl (by decide) rfl (Nat.le_of_ble_eq_true rfl) rfl ?_
  intro p e s m args below meth c A ls hx hb hml hr hlocks hown hin hts hA hX hK hP hD hS hl
  have in_ : ∀ w ∈ wsX00, w ∈ wX0_init := fun w h => List.mem_cons_of_mem _ (inlX0 w h)
  refine lv_aload_n hx hb (kd tdlX0_init_0 0 rfl) rfl (lv_at hl 0 rfl) ?_
  refine W.objInit hx hb hown (hts _ (List.mem_cons_of_mem _ w_88)) (hts _ (List.mem_cons_of_mem _ w_9)) (hts _ (List.mem_cons_of_mem _ w_10)) rfl (by rw [hml]; exact hl.1) rfl (kd tdlX0_init_0 1 rfl) (Nat.le_of_ble_eq_true rfl) (Nat.le_of_ble_eq_true rfl) ?_
  refine W.eq (g2 := F0 m 4 ls []) rfl ?_
  refine lv_aload_n hx hb (kd tdlX0_init_0 2 rfl) rfl (lv_at hl 0 rfl) ?_
  refine lv_bipush (v := 121) hx hb (kd tdlX0_init_0 3 rfl) (by decide) ?_
  refine va_newa (atype := .boolean) (ty := .boolean) (N' := 121) (a0 := (121, .inl (fun _ => 0))) hx hb (hts _ (List.mem_cons_of_mem _ w_89)) rfl hK hP hD hS hA (fun _ => rfl) (by decide) rfl (Nat.le_of_ble_eq_true rfl) (Nat.le_of_ble_eq_true rfl) (Nat.le_of_ble_eq_true rfl) (kd tdlX0_init_0 4 rfl) (fun q7 cA H hK2 hP hD hS => ?_)
  obtain rfl := kcA2 hK2
  have hP : va_P D vwCl [(h0, .inr (0, [.null, .null, .null, .null, .int 0])), (q7, .inl (t 2, 121, .inl (fun _ => 0)))] H := hP
  have hD : va_D A [(h0, .inr (0, [.null, .null, .null, .null, .int 0])), (q7, .inl (t 2, 121, .inl (fun _ => 0)))] := hD
  refine va_putF (D := D) (ci := 0) (v := .ref q7) (ty := .array .boolean) (C := RX0) (T := TX0) (N := 5) hx hb hts in_ tyX0 tyX0_ok nmX0 hown hK hP hD hS 0 rfl rfl 0 (by decide) (hts (.fieldLink RX0 9 "ChunkCarriers$Carrier" "thin" "[Z") (List.mem_cons_of_mem _ w_90)) (fun _ h9 => h9) rfl hin rfl (by decide +kernel) rfl rfl (Nat.le_of_ble_eq_true rfl) (kd tdlX0_init_0 5 rfl) (fun H locs hP hD hS => ?_)
  have hP : va_P D vwCl [(h0, .inr (0, [.ref q7, .null, .null, .null, .int 0])), (q7, .inl (t 2, 121, .inl (fun _ => 0)))] H := hP
  have hD : va_D A [(h0, .inr (0, [.ref q7, .null, .null, .null, .int 0])), (q7, .inl (t 2, 121, .inl (fun _ => 0)))] := hD
  refine lv_aload_n hx hb (kd tdlX0_init_0 6 rfl) rfl (lv_at hl 0 rfl) ?_
  refine lv_sipush (v := 192) hx hb (kd tdlX0_init_0 7 rfl) (by decide) ?_
  refine va_newa (atype := .int) (ty := .int) (N' := 192) (a0 := (192, .inl (fun _ => 0))) hx hb (hts _ (List.mem_cons_of_mem _ w_56)) rfl hK hP hD hS hA (fun _ => rfl) (by decide) rfl (Nat.le_of_ble_eq_true rfl) (Nat.le_of_ble_eq_true rfl) (Nat.le_of_ble_eq_true rfl) (kd tdlX0_init_0 8 rfl) (fun q16 cA H hK2 hP hD hS => ?_)
  obtain rfl := kcA0 hK2
  have hP : va_P D vwCl [(h0, .inr (0, [.ref q7, .null, .null, .null, .int 0])), (q7, .inl (t 2, 121, .inl (fun _ => 0))), (q16, .inl (t 0, 192, .inl (fun _ => 0)))] H := hP
  have hD : va_D A [(h0, .inr (0, [.ref q7, .null, .null, .null, .int 0])), (q7, .inl (t 2, 121, .inl (fun _ => 0))), (q16, .inl (t 0, 192, .inl (fun _ => 0)))] := hD
  refine va_putF (D := D) (ci := 0) (v := .ref q16) (ty := .array .int) (C := RX0) (T := TX0) (N := 5) hx hb hts in_ tyX0 tyX0_ok nmX0 hown hK hP hD hS 0 rfl rfl 1 (by decide) (hts (.fieldLink RX0 15 "ChunkCarriers$Carrier" "goesTo" "[I") (List.mem_cons_of_mem _ w_91)) (fun _ h9 => h9) rfl hin rfl (by decide +kernel) rfl rfl (Nat.le_of_ble_eq_true rfl) (kd tdlX0_init_0 9 rfl) (fun H locs hP hD hS => ?_)
  have hP : va_P D vwCl [(h0, .inr (0, [.ref q7, .ref q16, .null, .null, .int 0])), (q7, .inl (t 2, 121, .inl (fun _ => 0))), (q16, .inl (t 0, 192, .inl (fun _ => 0)))] H := hP
  have hD : va_D A [(h0, .inr (0, [.ref q7, .ref q16, .null, .null, .int 0])), (q7, .inl (t 2, 121, .inl (fun _ => 0))), (q16, .inl (t 0, 192, .inl (fun _ => 0)))] := hD
  refine lv_aload_n hx hb (kd tdlX0_init_0 10 rfl) rfl (lv_at hl 0 rfl) ?_
  refine lv_sipush (v := 192) hx hb (kd tdlX0_init_0 11 rfl) (by decide) ?_
  refine va_newa (atype := .int) (ty := .int) (N' := 192) (a0 := (192, .inl (fun _ => 0))) hx hb (hts _ (List.mem_cons_of_mem _ w_56)) rfl hK hP hD hS hA (fun _ => rfl) (by decide) rfl (Nat.le_of_ble_eq_true rfl) (Nat.le_of_ble_eq_true rfl) (Nat.le_of_ble_eq_true rfl) (kd tdlX0_init_0 12 rfl) (fun q25 cA H hK2 hP hD hS => ?_)
  obtain rfl := kcA0 hK2
  have hP : va_P D vwCl [(h0, .inr (0, [.ref q7, .ref q16, .null, .null, .int 0])), (q7, .inl (t 2, 121, .inl (fun _ => 0))), (q16, .inl (t 0, 192, .inl (fun _ => 0))), (q25, .inl (t 0, 192, .inl (fun _ => 0)))] H := hP
  have hD : va_D A [(h0, .inr (0, [.ref q7, .ref q16, .null, .null, .int 0])), (q7, .inl (t 2, 121, .inl (fun _ => 0))), (q16, .inl (t 0, 192, .inl (fun _ => 0))), (q25, .inl (t 0, 192, .inl (fun _ => 0)))] := hD
  refine va_putF (D := D) (ci := 0) (v := .ref q25) (ty := .array .int) (C := RX0) (T := TX0) (N := 5) hx hb hts in_ tyX0 tyX0_ok nmX0 hown hK hP hD hS 0 rfl rfl 2 (by decide) (hts (.fieldLink RX0 19 "ChunkCarriers$Carrier" "waiting" "[I") (List.mem_cons_of_mem _ w_92)) (fun _ h9 => h9) rfl hin rfl (by decide +kernel) rfl rfl (Nat.le_of_ble_eq_true rfl) (kd tdlX0_init_0 13 rfl) (fun H locs hP hD hS => ?_)
  have hP : va_P D vwCl [(h0, .inr (0, [.ref q7, .ref q16, .ref q25, .null, .int 0])), (q7, .inl (t 2, 121, .inl (fun _ => 0))), (q16, .inl (t 0, 192, .inl (fun _ => 0))), (q25, .inl (t 0, 192, .inl (fun _ => 0)))] H := hP
  have hD : va_D A [(h0, .inr (0, [.ref q7, .ref q16, .ref q25, .null, .int 0])), (q7, .inl (t 2, 121, .inl (fun _ => 0))), (q16, .inl (t 0, 192, .inl (fun _ => 0))), (q25, .inl (t 0, 192, .inl (fun _ => 0)))] := hD
  refine lv_aload_n hx hb (kd tdlX0_init_0 14 rfl) rfl (lv_at hl 0 rfl) ?_
  refine lv_sipush (v := 192) hx hb (kd tdlX0_init_0 15 rfl) (by decide) ?_
  refine va_newa (atype := .int) (ty := .int) (N' := 192) (a0 := (192, .inl (fun _ => 0))) hx hb (hts _ (List.mem_cons_of_mem _ w_56)) rfl hK hP hD hS hA (fun _ => rfl) (by decide) rfl (Nat.le_of_ble_eq_true rfl) (Nat.le_of_ble_eq_true rfl) (Nat.le_of_ble_eq_true rfl) (kd tdlX0_init_0 16 rfl) (fun q34 cA H hK2 hP hD hS => ?_)
  obtain rfl := kcA0 hK2
  have hP : va_P D vwCl [(h0, .inr (0, [.ref q7, .ref q16, .ref q25, .null, .int 0])), (q7, .inl (t 2, 121, .inl (fun _ => 0))), (q16, .inl (t 0, 192, .inl (fun _ => 0))), (q25, .inl (t 0, 192, .inl (fun _ => 0))), (q34, .inl (t 0, 192, .inl (fun _ => 0)))] H := hP
  have hD : va_D A [(h0, .inr (0, [.ref q7, .ref q16, .ref q25, .null, .int 0])), (q7, .inl (t 2, 121, .inl (fun _ => 0))), (q16, .inl (t 0, 192, .inl (fun _ => 0))), (q25, .inl (t 0, 192, .inl (fun _ => 0))), (q34, .inl (t 0, 192, .inl (fun _ => 0)))] := hD
  refine va_putF (D := D) (ci := 0) (v := .ref q34) (ty := .array .int) (C := RX0) (T := TX0) (N := 5) hx hb hts in_ tyX0 tyX0_ok nmX0 hown hK hP hD hS 0 rfl rfl 3 (by decide) (hts (.fieldLink RX0 22 "ChunkCarriers$Carrier" "waitingCodes" "[I") (List.mem_cons_of_mem _ w_93)) (fun _ h9 => h9) rfl hin rfl (by decide +kernel) rfl rfl (Nat.le_of_ble_eq_true rfl) (kd tdlX0_init_0 17 rfl) (fun H locs hP hD hS => ?_)
  have hP : va_P D vwCl [(h0, .inr (0, [.ref q7, .ref q16, .ref q25, .ref q34, .int 0])), (q7, .inl (t 2, 121, .inl (fun _ => 0))), (q16, .inl (t 0, 192, .inl (fun _ => 0))), (q25, .inl (t 0, 192, .inl (fun _ => 0))), (q34, .inl (t 0, 192, .inl (fun _ => 0)))] H := hP
  have hD : va_D A [(h0, .inr (0, [.ref q7, .ref q16, .ref q25, .ref q34, .int 0])), (q7, .inl (t 2, 121, .inl (fun _ => 0))), (q16, .inl (t 0, 192, .inl (fun _ => 0))), (q25, .inl (t 0, 192, .inl (fun _ => 0))), (q34, .inl (t 0, 192, .inl (fun _ => 0)))] := hD
  exact kes_v (fun k => [q7, q16, q25, q34].getD k 0) hx hb hr hlocks hK hP hD hS (Nat.le_of_ble_eq_true rfl) (Nat.le_of_ble_eq_true rfl) (kd tdlX0_init_0 18 rfl)
set_option maxHeartbeats 4000000 in
set_option maxRecDepth 100000 in
theorem c_X1_init (l : Launch) (D : va_G) (t : Nat → ClassId) (h0 : Nat) (sz : Nat) : Met l yX1_init wX1_init ({ frames := 1, cells := 9, slots := 1072, locals := 30 } : Room) (kPx D (TY t) [(h0, .inr (1, [.null, .null, .null, .null, .int 0, .null, .null, .null, .int 0, .null, .null, .int 0, .int 0]))] [.ref h0] sz) (kQvS D (TY t) (fun (a : Nat → Nat) => wdk t h0 a DKI) (va_A [(h0, .inr (1, [.null, .null, .null, .null, .int 0, .null, .null, .null, .int 0, .null, .null, .int 0, .int 0]))] sz)) 9 1072 (va_A [(h0, .inr (1, [.null, .null, .null, .null, .int 0, .null, .null, .null, .int 0, .null, .null, .int 0, .int 0]))] sz) := by
  refine kEi (cc := cX1_init) (maxL := 1) (ret := none) (Qx := fun A => kQvS D (TY t) (fun (a : Nat → Nat) => wdk t h0 a DKI) A) (lv0 := [(0, .ref h0)]) RX1 rfl rfl (by decide) rfl (Nat.le_of_ble_eq_true rfl) rfl ?_
  intro p e s m args below meth c A ls hx hb hml hr hlocks hown hin hts hA hX hK hP hD hS hl
  have in_ : ∀ w ∈ wsX10, w ∈ wX1_init := fun w h => List.mem_cons_of_mem _ (inlX1 w h)
  refine lv_aload_n hx hb (kd tdlX1_init_0 0 rfl) rfl (lv_at hl 0 rfl) ?_
  refine W.objInit hx hb hown (hts _ (List.mem_cons_of_mem _ w_48)) (hts _ (List.mem_cons_of_mem _ w_9)) (hts _ (List.mem_cons_of_mem _ w_10)) rfl (by rw [hml]; exact hl.1) rfl (kd tdlX1_init_0 1 rfl) (Nat.le_of_ble_eq_true rfl) (Nat.le_of_ble_eq_true rfl) ?_
  refine W.eq (g2 := F0 m 4 ls []) rfl ?_
  refine lv_aload_n hx hb (kd tdlX1_init_0 2 rfl) rfl (lv_at hl 0 rfl) ?_
  obtain ⟨ts, cell, k1, k2, k3, k4, k5, k6, k7, k8⟩ := hX.1
  refine va_getsN (A := A) (v := .ref ts) hx hb k1 hS hown ((hX.2.2.2.2.2.2.1).use rfl) (fun _ h9 => h9) (kd tdlX1_init_0 3 rfl) ?_
  refine kclone hx hb (hml.trans hl.1.symm) hown (hts _ (List.mem_cons_of_mem _ w_49)) (hts _ (List.mem_cons_of_mem _ w_50)) (hts _ (List.mem_cons_of_mem _ w_51)) (hts _ (List.mem_cons_of_mem _ w_52)) (hts _ (List.mem_cons_of_mem _ w_53)) hX.2.2.2.2.2.2.2.2.2.2.2 hK hP hD hS hA k2 k3 k4 k5 k6 k7 k8 (Nat.le_of_ble_eq_true rfl) (Nat.le_of_ble_eq_true rfl) (Nat.le_of_ble_eq_true rfl) (Nat.le_of_ble_eq_true rfl) (kd tdlX1_init_0 4 rfl) (fun q8 H hP hD hS => ?_)
  have hP : va_P D vwCl [(h0, .inr (1, [.null, .null, .null, .null, .int 0, .null, .null, .null, .int 0, .null, .null, .int 0, .int 0])), (q8, .inl (t 0, 5, .inl stF))] H := hP
  have hD : va_D A [(h0, .inr (1, [.null, .null, .null, .null, .int 0, .null, .null, .null, .int 0, .null, .null, .int 0, .int 0])), (q8, .inl (t 0, 5, .inl stF))] := hD
  refine va_castA hx hb hown (hts _ (List.mem_cons_of_mem _ w_54)) hP 1 rfl (va_nm_int (hK.2 0 _ rfl).2) (kd tdlX1_init_0 5 rfl) ?_
  refine va_putF (D := D) (ci := 1) (v := .ref q8) (ty := .array .int) (C := RX1) (T := TX1) (N := 13) hx hb hts in_ tyX1 tyX1_ok nmX1 hown hK hP hD hS 0 rfl rfl 0 (by decide) (hts (.fieldLink RX1 18 "ChunkCarriers$Desk" "settings" "[I") (List.mem_cons_of_mem _ w_55)) (fun _ h9 => h9) rfl hin rfl (by decide +kernel) rfl rfl (Nat.le_of_ble_eq_true rfl) (kd tdlX1_init_0 6 rfl) (fun H locs hP hD hS => ?_)
  have hP : va_P D vwCl [(h0, .inr (1, [.ref q8, .null, .null, .null, .int 0, .null, .null, .null, .int 0, .null, .null, .int 0, .int 0])), (q8, .inl (t 0, 5, .inl stF))] H := hP
  have hD : va_D A [(h0, .inr (1, [.ref q8, .null, .null, .null, .int 0, .null, .null, .null, .int 0, .null, .null, .int 0, .int 0])), (q8, .inl (t 0, 5, .inl stF))] := hD
  refine lv_aload_n hx hb (kd tdlX1_init_0 7 rfl) rfl (lv_at hl 0 rfl) ?_
  refine lv_bipush (v := 121) hx hb (kd tdlX1_init_0 8 rfl) (by decide) ?_
  refine va_newa (atype := .int) (ty := .int) (N' := 121) (a0 := (121, .inl (fun _ => 0))) hx hb (hts _ (List.mem_cons_of_mem _ w_56)) rfl hK hP hD hS hA (fun _ => rfl) (by decide) rfl (Nat.le_of_ble_eq_true rfl) (Nat.le_of_ble_eq_true rfl) (Nat.le_of_ble_eq_true rfl) (kd tdlX1_init_0 9 rfl) (fun q20 cA H hK2 hP hD hS => ?_)
  obtain rfl := kcA0 hK2
  have hP : va_P D vwCl [(h0, .inr (1, [.ref q8, .null, .null, .null, .int 0, .null, .null, .null, .int 0, .null, .null, .int 0, .int 0])), (q8, .inl (t 0, 5, .inl stF)), (q20, .inl (t 0, 121, .inl (fun _ => 0)))] H := hP
  have hD : va_D A [(h0, .inr (1, [.ref q8, .null, .null, .null, .int 0, .null, .null, .null, .int 0, .null, .null, .int 0, .int 0])), (q8, .inl (t 0, 5, .inl stF)), (q20, .inl (t 0, 121, .inl (fun _ => 0)))] := hD
  refine va_putF (D := D) (ci := 1) (v := .ref q20) (ty := .array .int) (C := RX1) (T := TX1) (N := 13) hx hb hts in_ tyX1 tyX1_ok nmX1 hown hK hP hD hS 0 rfl rfl 1 (by decide) (hts (.fieldLink RX1 23 "ChunkCarriers$Desk" "numbers" "[I") (List.mem_cons_of_mem _ w_57)) (fun _ h9 => h9) rfl hin rfl (by decide +kernel) rfl rfl (Nat.le_of_ble_eq_true rfl) (kd tdlX1_init_0 10 rfl) (fun H locs hP hD hS => ?_)
  have hP : va_P D vwCl [(h0, .inr (1, [.ref q8, .ref q20, .null, .null, .int 0, .null, .null, .null, .int 0, .null, .null, .int 0, .int 0])), (q8, .inl (t 0, 5, .inl stF)), (q20, .inl (t 0, 121, .inl (fun _ => 0)))] H := hP
  have hD : va_D A [(h0, .inr (1, [.ref q8, .ref q20, .null, .null, .int 0, .null, .null, .null, .int 0, .null, .null, .int 0, .int 0])), (q8, .inl (t 0, 5, .inl stF)), (q20, .inl (t 0, 121, .inl (fun _ => 0)))] := hD
  refine lv_aload_n hx hb (kd tdlX1_init_0 11 rfl) rfl (lv_at hl 0 rfl) ?_
  refine lv_bipush (v := 121) hx hb (kd tdlX1_init_0 12 rfl) (by decide) ?_
  refine va_newa (atype := .int) (ty := .int) (N' := 121) (a0 := (121, .inl (fun _ => 0))) hx hb (hts _ (List.mem_cons_of_mem _ w_56)) rfl hK hP hD hS hA (fun _ => rfl) (by decide) rfl (Nat.le_of_ble_eq_true rfl) (Nat.le_of_ble_eq_true rfl) (Nat.le_of_ble_eq_true rfl) (kd tdlX1_init_0 13 rfl) (fun q28 cA H hK2 hP hD hS => ?_)
  obtain rfl := kcA0 hK2
  have hP : va_P D vwCl [(h0, .inr (1, [.ref q8, .ref q20, .null, .null, .int 0, .null, .null, .null, .int 0, .null, .null, .int 0, .int 0])), (q8, .inl (t 0, 5, .inl stF)), (q20, .inl (t 0, 121, .inl (fun _ => 0))), (q28, .inl (t 0, 121, .inl (fun _ => 0)))] H := hP
  have hD : va_D A [(h0, .inr (1, [.ref q8, .ref q20, .null, .null, .int 0, .null, .null, .null, .int 0, .null, .null, .int 0, .int 0])), (q8, .inl (t 0, 5, .inl stF)), (q20, .inl (t 0, 121, .inl (fun _ => 0))), (q28, .inl (t 0, 121, .inl (fun _ => 0)))] := hD
  refine va_putF (D := D) (ci := 1) (v := .ref q28) (ty := .array .int) (C := RX1) (T := TX1) (N := 13) hx hb hts in_ tyX1 tyX1_ok nmX1 hown hK hP hD hS 0 rfl rfl 2 (by decide) (hts (.fieldLink RX1 26 "ChunkCarriers$Desk" "capacities" "[I") (List.mem_cons_of_mem _ w_58)) (fun _ h9 => h9) rfl hin rfl (by decide +kernel) rfl rfl (Nat.le_of_ble_eq_true rfl) (kd tdlX1_init_0 14 rfl) (fun H locs hP hD hS => ?_)
  have hP : va_P D vwCl [(h0, .inr (1, [.ref q8, .ref q20, .ref q28, .null, .int 0, .null, .null, .null, .int 0, .null, .null, .int 0, .int 0])), (q8, .inl (t 0, 5, .inl stF)), (q20, .inl (t 0, 121, .inl (fun _ => 0))), (q28, .inl (t 0, 121, .inl (fun _ => 0)))] H := hP
  have hD : va_D A [(h0, .inr (1, [.ref q8, .ref q20, .ref q28, .null, .int 0, .null, .null, .null, .int 0, .null, .null, .int 0, .int 0])), (q8, .inl (t 0, 5, .inl stF)), (q20, .inl (t 0, 121, .inl (fun _ => 0))), (q28, .inl (t 0, 121, .inl (fun _ => 0)))] := hD
  refine lv_aload_n hx hb (kd tdlX1_init_0 15 rfl) rfl (lv_at hl 0 rfl) ?_
  refine lv_bipush (v := 121) hx hb (kd tdlX1_init_0 16 rfl) (by decide) ?_
  refine va_newa (atype := .int) (ty := .int) (N' := 121) (a0 := (121, .inl (fun _ => 0))) hx hb (hts _ (List.mem_cons_of_mem _ w_56)) rfl hK hP hD hS hA (fun _ => rfl) (by decide) rfl (Nat.le_of_ble_eq_true rfl) (Nat.le_of_ble_eq_true rfl) (Nat.le_of_ble_eq_true rfl) (kd tdlX1_init_0 17 rfl) (fun q36 cA H hK2 hP hD hS => ?_)
  obtain rfl := kcA0 hK2
  have hP : va_P D vwCl [(h0, .inr (1, [.ref q8, .ref q20, .ref q28, .null, .int 0, .null, .null, .null, .int 0, .null, .null, .int 0, .int 0])), (q8, .inl (t 0, 5, .inl stF)), (q20, .inl (t 0, 121, .inl (fun _ => 0))), (q28, .inl (t 0, 121, .inl (fun _ => 0))), (q36, .inl (t 0, 121, .inl (fun _ => 0)))] H := hP
  have hD : va_D A [(h0, .inr (1, [.ref q8, .ref q20, .ref q28, .null, .int 0, .null, .null, .null, .int 0, .null, .null, .int 0, .int 0])), (q8, .inl (t 0, 5, .inl stF)), (q20, .inl (t 0, 121, .inl (fun _ => 0))), (q28, .inl (t 0, 121, .inl (fun _ => 0))), (q36, .inl (t 0, 121, .inl (fun _ => 0)))] := hD
  refine va_putF (D := D) (ci := 1) (v := .ref q36) (ty := .array .int) (C := RX1) (T := TX1) (N := 13) hx hb hts in_ tyX1 tyX1_ok nmX1 hown hK hP hD hS 0 rfl rfl 3 (by decide) (hts (.fieldLink RX1 29 "ChunkCarriers$Desk" "firsts" "[I") (List.mem_cons_of_mem _ w_59)) (fun _ h9 => h9) rfl hin rfl (by decide +kernel) rfl rfl (Nat.le_of_ble_eq_true rfl) (kd tdlX1_init_0 18 rfl) (fun H locs hP hD hS => ?_)
  have hP : va_P D vwCl [(h0, .inr (1, [.ref q8, .ref q20, .ref q28, .ref q36, .int 0, .null, .null, .null, .int 0, .null, .null, .int 0, .int 0])), (q8, .inl (t 0, 5, .inl stF)), (q20, .inl (t 0, 121, .inl (fun _ => 0))), (q28, .inl (t 0, 121, .inl (fun _ => 0))), (q36, .inl (t 0, 121, .inl (fun _ => 0)))] H := hP
  have hD : va_D A [(h0, .inr (1, [.ref q8, .ref q20, .ref q28, .ref q36, .int 0, .null, .null, .null, .int 0, .null, .null, .int 0, .int 0])), (q8, .inl (t 0, 5, .inl stF)), (q20, .inl (t 0, 121, .inl (fun _ => 0))), (q28, .inl (t 0, 121, .inl (fun _ => 0))), (q36, .inl (t 0, 121, .inl (fun _ => 0)))] := hD
  refine lv_aload_n hx hb (kd tdlX1_init_0 19 rfl) rfl (lv_at hl 0 rfl) ?_
  refine lv_sipush (v := 192) hx hb (kd tdlX1_init_0 20 rfl) (by decide) ?_
  refine va_newa (atype := .int) (ty := .int) (N' := 192) (a0 := (192, .inl (fun _ => 0))) hx hb (hts _ (List.mem_cons_of_mem _ w_56)) rfl hK hP hD hS hA (fun _ => rfl) (by decide) rfl (Nat.le_of_ble_eq_true rfl) (Nat.le_of_ble_eq_true rfl) (Nat.le_of_ble_eq_true rfl) (kd tdlX1_init_0 21 rfl) (fun q45 cA H hK2 hP hD hS => ?_)
  obtain rfl := kcA0 hK2
  have hP : va_P D vwCl [(h0, .inr (1, [.ref q8, .ref q20, .ref q28, .ref q36, .int 0, .null, .null, .null, .int 0, .null, .null, .int 0, .int 0])), (q8, .inl (t 0, 5, .inl stF)), (q20, .inl (t 0, 121, .inl (fun _ => 0))), (q28, .inl (t 0, 121, .inl (fun _ => 0))), (q36, .inl (t 0, 121, .inl (fun _ => 0))), (q45, .inl (t 0, 192, .inl (fun _ => 0)))] H := hP
  have hD : va_D A [(h0, .inr (1, [.ref q8, .ref q20, .ref q28, .ref q36, .int 0, .null, .null, .null, .int 0, .null, .null, .int 0, .int 0])), (q8, .inl (t 0, 5, .inl stF)), (q20, .inl (t 0, 121, .inl (fun _ => 0))), (q28, .inl (t 0, 121, .inl (fun _ => 0))), (q36, .inl (t 0, 121, .inl (fun _ => 0))), (q45, .inl (t 0, 192, .inl (fun _ => 0)))] := hD
  refine va_putF (D := D) (ci := 1) (v := .ref q45) (ty := .array .int) (C := RX1) (T := TX1) (N := 13) hx hb hts in_ tyX1 tyX1_ok nmX1 hown hK hP hD hS 0 rfl rfl 5 (by decide) (hts (.fieldLink RX1 32 "ChunkCarriers$Desk" "codes" "[I") (List.mem_cons_of_mem _ w_60)) (fun _ h9 => h9) rfl hin rfl (by decide +kernel) rfl rfl (Nat.le_of_ble_eq_true rfl) (kd tdlX1_init_0 22 rfl) (fun H locs hP hD hS => ?_)
  have hP : va_P D vwCl [(h0, .inr (1, [.ref q8, .ref q20, .ref q28, .ref q36, .int 0, .ref q45, .null, .null, .int 0, .null, .null, .int 0, .int 0])), (q8, .inl (t 0, 5, .inl stF)), (q20, .inl (t 0, 121, .inl (fun _ => 0))), (q28, .inl (t 0, 121, .inl (fun _ => 0))), (q36, .inl (t 0, 121, .inl (fun _ => 0))), (q45, .inl (t 0, 192, .inl (fun _ => 0)))] H := hP
  have hD : va_D A [(h0, .inr (1, [.ref q8, .ref q20, .ref q28, .ref q36, .int 0, .ref q45, .null, .null, .int 0, .null, .null, .int 0, .int 0])), (q8, .inl (t 0, 5, .inl stF)), (q20, .inl (t 0, 121, .inl (fun _ => 0))), (q28, .inl (t 0, 121, .inl (fun _ => 0))), (q36, .inl (t 0, 121, .inl (fun _ => 0))), (q45, .inl (t 0, 192, .inl (fun _ => 0)))] := hD
  refine lv_aload_n hx hb (kd tdlX1_init_0 23 rfl) rfl (lv_at hl 0 rfl) ?_
  refine lv_sipush (v := 192) hx hb (kd tdlX1_init_0 24 rfl) (by decide) ?_
  refine va_newa (atype := .int) (ty := .int) (N' := 192) (a0 := (192, .inl (fun _ => 0))) hx hb (hts _ (List.mem_cons_of_mem _ w_56)) rfl hK hP hD hS hA (fun _ => rfl) (by decide) rfl (Nat.le_of_ble_eq_true rfl) (Nat.le_of_ble_eq_true rfl) (Nat.le_of_ble_eq_true rfl) (kd tdlX1_init_0 25 rfl) (fun q54 cA H hK2 hP hD hS => ?_)
  obtain rfl := kcA0 hK2
  have hP : va_P D vwCl [(h0, .inr (1, [.ref q8, .ref q20, .ref q28, .ref q36, .int 0, .ref q45, .null, .null, .int 0, .null, .null, .int 0, .int 0])), (q8, .inl (t 0, 5, .inl stF)), (q20, .inl (t 0, 121, .inl (fun _ => 0))), (q28, .inl (t 0, 121, .inl (fun _ => 0))), (q36, .inl (t 0, 121, .inl (fun _ => 0))), (q45, .inl (t 0, 192, .inl (fun _ => 0))), (q54, .inl (t 0, 192, .inl (fun _ => 0)))] H := hP
  have hD : va_D A [(h0, .inr (1, [.ref q8, .ref q20, .ref q28, .ref q36, .int 0, .ref q45, .null, .null, .int 0, .null, .null, .int 0, .int 0])), (q8, .inl (t 0, 5, .inl stF)), (q20, .inl (t 0, 121, .inl (fun _ => 0))), (q28, .inl (t 0, 121, .inl (fun _ => 0))), (q36, .inl (t 0, 121, .inl (fun _ => 0))), (q45, .inl (t 0, 192, .inl (fun _ => 0))), (q54, .inl (t 0, 192, .inl (fun _ => 0)))] := hD
  refine va_putF (D := D) (ci := 1) (v := .ref q54) (ty := .array .int) (C := RX1) (T := TX1) (N := 13) hx hb hts in_ tyX1 tyX1_ok nmX1 hown hK hP hD hS 0 rfl rfl 6 (by decide) (hts (.fieldLink RX1 35 "ChunkCarriers$Desk" "places" "[I") (List.mem_cons_of_mem _ w_61)) (fun _ h9 => h9) rfl hin rfl (by decide +kernel) rfl rfl (Nat.le_of_ble_eq_true rfl) (kd tdlX1_init_0 26 rfl) (fun H locs hP hD hS => ?_)
  have hP : va_P D vwCl [(h0, .inr (1, [.ref q8, .ref q20, .ref q28, .ref q36, .int 0, .ref q45, .ref q54, .null, .int 0, .null, .null, .int 0, .int 0])), (q8, .inl (t 0, 5, .inl stF)), (q20, .inl (t 0, 121, .inl (fun _ => 0))), (q28, .inl (t 0, 121, .inl (fun _ => 0))), (q36, .inl (t 0, 121, .inl (fun _ => 0))), (q45, .inl (t 0, 192, .inl (fun _ => 0))), (q54, .inl (t 0, 192, .inl (fun _ => 0)))] H := hP
  have hD : va_D A [(h0, .inr (1, [.ref q8, .ref q20, .ref q28, .ref q36, .int 0, .ref q45, .ref q54, .null, .int 0, .null, .null, .int 0, .int 0])), (q8, .inl (t 0, 5, .inl stF)), (q20, .inl (t 0, 121, .inl (fun _ => 0))), (q28, .inl (t 0, 121, .inl (fun _ => 0))), (q36, .inl (t 0, 121, .inl (fun _ => 0))), (q45, .inl (t 0, 192, .inl (fun _ => 0))), (q54, .inl (t 0, 192, .inl (fun _ => 0)))] := hD
  refine lv_aload_n hx hb (kd tdlX1_init_0 27 rfl) rfl (lv_at hl 0 rfl) ?_
  refine lv_sipush (v := 192) hx hb (kd tdlX1_init_0 28 rfl) (by decide) ?_
  refine va_newa (atype := .int) (ty := .int) (N' := 192) (a0 := (192, .inl (fun _ => 0))) hx hb (hts _ (List.mem_cons_of_mem _ w_56)) rfl hK hP hD hS hA (fun _ => rfl) (by decide) rfl (Nat.le_of_ble_eq_true rfl) (Nat.le_of_ble_eq_true rfl) (Nat.le_of_ble_eq_true rfl) (kd tdlX1_init_0 29 rfl) (fun q63 cA H hK2 hP hD hS => ?_)
  obtain rfl := kcA0 hK2
  have hP : va_P D vwCl [(h0, .inr (1, [.ref q8, .ref q20, .ref q28, .ref q36, .int 0, .ref q45, .ref q54, .null, .int 0, .null, .null, .int 0, .int 0])), (q8, .inl (t 0, 5, .inl stF)), (q20, .inl (t 0, 121, .inl (fun _ => 0))), (q28, .inl (t 0, 121, .inl (fun _ => 0))), (q36, .inl (t 0, 121, .inl (fun _ => 0))), (q45, .inl (t 0, 192, .inl (fun _ => 0))), (q54, .inl (t 0, 192, .inl (fun _ => 0))), (q63, .inl (t 0, 192, .inl (fun _ => 0)))] H := hP
  have hD : va_D A [(h0, .inr (1, [.ref q8, .ref q20, .ref q28, .ref q36, .int 0, .ref q45, .ref q54, .null, .int 0, .null, .null, .int 0, .int 0])), (q8, .inl (t 0, 5, .inl stF)), (q20, .inl (t 0, 121, .inl (fun _ => 0))), (q28, .inl (t 0, 121, .inl (fun _ => 0))), (q36, .inl (t 0, 121, .inl (fun _ => 0))), (q45, .inl (t 0, 192, .inl (fun _ => 0))), (q54, .inl (t 0, 192, .inl (fun _ => 0))), (q63, .inl (t 0, 192, .inl (fun _ => 0)))] := hD
  refine va_putF (D := D) (ci := 1) (v := .ref q63) (ty := .array .int) (C := RX1) (T := TX1) (N := 13) hx hb hts in_ tyX1 tyX1_ok nmX1 hown hK hP hD hS 0 rfl rfl 7 (by decide) (hts (.fieldLink RX1 38 "ChunkCarriers$Desk" "uses" "[I") (List.mem_cons_of_mem _ w_62)) (fun _ h9 => h9) rfl hin rfl (by decide +kernel) rfl rfl (Nat.le_of_ble_eq_true rfl) (kd tdlX1_init_0 30 rfl) (fun H locs hP hD hS => ?_)
  have hP : va_P D vwCl [(h0, .inr (1, [.ref q8, .ref q20, .ref q28, .ref q36, .int 0, .ref q45, .ref q54, .ref q63, .int 0, .null, .null, .int 0, .int 0])), (q8, .inl (t 0, 5, .inl stF)), (q20, .inl (t 0, 121, .inl (fun _ => 0))), (q28, .inl (t 0, 121, .inl (fun _ => 0))), (q36, .inl (t 0, 121, .inl (fun _ => 0))), (q45, .inl (t 0, 192, .inl (fun _ => 0))), (q54, .inl (t 0, 192, .inl (fun _ => 0))), (q63, .inl (t 0, 192, .inl (fun _ => 0)))] H := hP
  have hD : va_D A [(h0, .inr (1, [.ref q8, .ref q20, .ref q28, .ref q36, .int 0, .ref q45, .ref q54, .ref q63, .int 0, .null, .null, .int 0, .int 0])), (q8, .inl (t 0, 5, .inl stF)), (q20, .inl (t 0, 121, .inl (fun _ => 0))), (q28, .inl (t 0, 121, .inl (fun _ => 0))), (q36, .inl (t 0, 121, .inl (fun _ => 0))), (q45, .inl (t 0, 192, .inl (fun _ => 0))), (q54, .inl (t 0, 192, .inl (fun _ => 0))), (q63, .inl (t 0, 192, .inl (fun _ => 0)))] := hD
  refine lv_aload_n hx hb (kd tdlX1_init_0 31 rfl) rfl (lv_at hl 0 rfl) ?_
  refine lv_bipush (v := 120) hx hb (kd tdlX1_init_0 32 rfl) (by decide) ?_
  refine va_newa (atype := .int) (ty := .int) (N' := 120) (a0 := (120, .inl (fun _ => 0))) hx hb (hts _ (List.mem_cons_of_mem _ w_56)) rfl hK hP hD hS hA (fun _ => rfl) (by decide) rfl (Nat.le_of_ble_eq_true rfl) (Nat.le_of_ble_eq_true rfl) (Nat.le_of_ble_eq_true rfl) (kd tdlX1_init_0 33 rfl) (fun q71 cA H hK2 hP hD hS => ?_)
  obtain rfl := kcA0 hK2
  have hP : va_P D vwCl [(h0, .inr (1, [.ref q8, .ref q20, .ref q28, .ref q36, .int 0, .ref q45, .ref q54, .ref q63, .int 0, .null, .null, .int 0, .int 0])), (q8, .inl (t 0, 5, .inl stF)), (q20, .inl (t 0, 121, .inl (fun _ => 0))), (q28, .inl (t 0, 121, .inl (fun _ => 0))), (q36, .inl (t 0, 121, .inl (fun _ => 0))), (q45, .inl (t 0, 192, .inl (fun _ => 0))), (q54, .inl (t 0, 192, .inl (fun _ => 0))), (q63, .inl (t 0, 192, .inl (fun _ => 0))), (q71, .inl (t 0, 120, .inl (fun _ => 0)))] H := hP
  have hD : va_D A [(h0, .inr (1, [.ref q8, .ref q20, .ref q28, .ref q36, .int 0, .ref q45, .ref q54, .ref q63, .int 0, .null, .null, .int 0, .int 0])), (q8, .inl (t 0, 5, .inl stF)), (q20, .inl (t 0, 121, .inl (fun _ => 0))), (q28, .inl (t 0, 121, .inl (fun _ => 0))), (q36, .inl (t 0, 121, .inl (fun _ => 0))), (q45, .inl (t 0, 192, .inl (fun _ => 0))), (q54, .inl (t 0, 192, .inl (fun _ => 0))), (q63, .inl (t 0, 192, .inl (fun _ => 0))), (q71, .inl (t 0, 120, .inl (fun _ => 0)))] := hD
  refine va_putF (D := D) (ci := 1) (v := .ref q71) (ty := .array .int) (C := RX1) (T := TX1) (N := 13) hx hb hts in_ tyX1 tyX1_ok nmX1 hown hK hP hD hS 0 rfl rfl 9 (by decide) (hts (.fieldLink RX1 41 "ChunkCarriers$Desk" "references" "[I") (List.mem_cons_of_mem _ w_63)) (fun _ h9 => h9) rfl hin rfl (by decide +kernel) rfl rfl (Nat.le_of_ble_eq_true rfl) (kd tdlX1_init_0 34 rfl) (fun H locs hP hD hS => ?_)
  have hP : va_P D vwCl [(h0, .inr (1, [.ref q8, .ref q20, .ref q28, .ref q36, .int 0, .ref q45, .ref q54, .ref q63, .int 0, .ref q71, .null, .int 0, .int 0])), (q8, .inl (t 0, 5, .inl stF)), (q20, .inl (t 0, 121, .inl (fun _ => 0))), (q28, .inl (t 0, 121, .inl (fun _ => 0))), (q36, .inl (t 0, 121, .inl (fun _ => 0))), (q45, .inl (t 0, 192, .inl (fun _ => 0))), (q54, .inl (t 0, 192, .inl (fun _ => 0))), (q63, .inl (t 0, 192, .inl (fun _ => 0))), (q71, .inl (t 0, 120, .inl (fun _ => 0)))] H := hP
  have hD : va_D A [(h0, .inr (1, [.ref q8, .ref q20, .ref q28, .ref q36, .int 0, .ref q45, .ref q54, .ref q63, .int 0, .ref q71, .null, .int 0, .int 0])), (q8, .inl (t 0, 5, .inl stF)), (q20, .inl (t 0, 121, .inl (fun _ => 0))), (q28, .inl (t 0, 121, .inl (fun _ => 0))), (q36, .inl (t 0, 121, .inl (fun _ => 0))), (q45, .inl (t 0, 192, .inl (fun _ => 0))), (q54, .inl (t 0, 192, .inl (fun _ => 0))), (q63, .inl (t 0, 192, .inl (fun _ => 0))), (q71, .inl (t 0, 120, .inl (fun _ => 0)))] := hD
  refine lv_aload_n hx hb (kd tdlX1_init_0 35 rfl) rfl (lv_at hl 0 rfl) ?_
  refine lv_bipush (v := 8) hx hb (kd tdlX1_init_0 36 rfl) (by decide) ?_
  refine va_newa (atype := .int) (ty := .int) (N' := 8) (a0 := (8, .inl (fun _ => 0))) hx hb (hts _ (List.mem_cons_of_mem _ w_56)) rfl hK hP hD hS hA (fun _ => rfl) (by decide) rfl (Nat.le_of_ble_eq_true rfl) (Nat.le_of_ble_eq_true rfl) (Nat.le_of_ble_eq_true rfl) (kd tdlX1_init_0 37 rfl) (fun q79 cA H hK2 hP hD hS => ?_)
  obtain rfl := kcA0 hK2
  have hP : va_P D vwCl [(h0, .inr (1, [.ref q8, .ref q20, .ref q28, .ref q36, .int 0, .ref q45, .ref q54, .ref q63, .int 0, .ref q71, .null, .int 0, .int 0])), (q8, .inl (t 0, 5, .inl stF)), (q20, .inl (t 0, 121, .inl (fun _ => 0))), (q28, .inl (t 0, 121, .inl (fun _ => 0))), (q36, .inl (t 0, 121, .inl (fun _ => 0))), (q45, .inl (t 0, 192, .inl (fun _ => 0))), (q54, .inl (t 0, 192, .inl (fun _ => 0))), (q63, .inl (t 0, 192, .inl (fun _ => 0))), (q71, .inl (t 0, 120, .inl (fun _ => 0))), (q79, .inl (t 0, 8, .inl (fun _ => 0)))] H := hP
  have hD : va_D A [(h0, .inr (1, [.ref q8, .ref q20, .ref q28, .ref q36, .int 0, .ref q45, .ref q54, .ref q63, .int 0, .ref q71, .null, .int 0, .int 0])), (q8, .inl (t 0, 5, .inl stF)), (q20, .inl (t 0, 121, .inl (fun _ => 0))), (q28, .inl (t 0, 121, .inl (fun _ => 0))), (q36, .inl (t 0, 121, .inl (fun _ => 0))), (q45, .inl (t 0, 192, .inl (fun _ => 0))), (q54, .inl (t 0, 192, .inl (fun _ => 0))), (q63, .inl (t 0, 192, .inl (fun _ => 0))), (q71, .inl (t 0, 120, .inl (fun _ => 0))), (q79, .inl (t 0, 8, .inl (fun _ => 0)))] := hD
  refine va_putF (D := D) (ci := 1) (v := .ref q79) (ty := .array .int) (C := RX1) (T := TX1) (N := 13) hx hb hts in_ tyX1 tyX1_ok nmX1 hown hK hP hD hS 0 rfl rfl 10 (by decide) (hts (.fieldLink RX1 44 "ChunkCarriers$Desk" "lengths" "[I") (List.mem_cons_of_mem _ w_64)) (fun _ h9 => h9) rfl hin rfl (by decide +kernel) rfl rfl (Nat.le_of_ble_eq_true rfl) (kd tdlX1_init_0 38 rfl) (fun H locs hP hD hS => ?_)
  have hP : va_P D vwCl [(h0, .inr (1, [.ref q8, .ref q20, .ref q28, .ref q36, .int 0, .ref q45, .ref q54, .ref q63, .int 0, .ref q71, .ref q79, .int 0, .int 0])), (q8, .inl (t 0, 5, .inl stF)), (q20, .inl (t 0, 121, .inl (fun _ => 0))), (q28, .inl (t 0, 121, .inl (fun _ => 0))), (q36, .inl (t 0, 121, .inl (fun _ => 0))), (q45, .inl (t 0, 192, .inl (fun _ => 0))), (q54, .inl (t 0, 192, .inl (fun _ => 0))), (q63, .inl (t 0, 192, .inl (fun _ => 0))), (q71, .inl (t 0, 120, .inl (fun _ => 0))), (q79, .inl (t 0, 8, .inl (fun _ => 0)))] H := hP
  have hD : va_D A [(h0, .inr (1, [.ref q8, .ref q20, .ref q28, .ref q36, .int 0, .ref q45, .ref q54, .ref q63, .int 0, .ref q71, .ref q79, .int 0, .int 0])), (q8, .inl (t 0, 5, .inl stF)), (q20, .inl (t 0, 121, .inl (fun _ => 0))), (q28, .inl (t 0, 121, .inl (fun _ => 0))), (q36, .inl (t 0, 121, .inl (fun _ => 0))), (q45, .inl (t 0, 192, .inl (fun _ => 0))), (q54, .inl (t 0, 192, .inl (fun _ => 0))), (q63, .inl (t 0, 192, .inl (fun _ => 0))), (q71, .inl (t 0, 120, .inl (fun _ => 0))), (q79, .inl (t 0, 8, .inl (fun _ => 0)))] := hD
  exact kes_v (fun k => [q8, q20, q28, q36, q45, q54, q63, q71, q79].getD k 0) hx hb hr hlocks hK hP hD hS (Nat.le_of_ble_eq_true rfl) (Nat.le_of_ble_eq_true rfl) (kd tdlX1_init_0 39 rfl)
set_option maxHeartbeats 4000000 in
set_option maxRecDepth 100000 in
theorem c_X3_init (l : Launch) (D : va_G) (t : Nat → ClassId) (h0 : Nat) (sz : Nat) : Met l yX3_init wX3_init ({ frames := 1, cells := 1, slots := 14, locals := 30 } : Room) (kPx D (TY t) [(h0, .inr (2, [.null, .int 0, .int 0]))] [.ref h0] sz) (kQvS D (TY t) (fun (a : Nat → Nat) => wpa t h0 a (fun _ => 0, fun _ _ => 0) PA0) (va_A [(h0, .inr (2, [.null, .int 0, .int 0]))] sz)) 1 14 (va_A [(h0, .inr (2, [.null, .int 0, .int 0]))] sz) := by
  refine kEi (cc := cX3_init) (maxL := 1) (ret := none) (Qx := fun A => kQvS D (TY t) (fun (a : Nat → Nat) => wpa t h0 a (fun _ => 0, fun _ _ => 0) PA0) A) (lv0 := [(0, .ref h0)]) RX3 rfl rfl (by decide) rfl (Nat.le_of_ble_eq_true rfl) rfl ?_
  intro p e s m args below meth c A ls hx hb hml hr hlocks hown hin hts hA hX hK hP hD hS hl
  have in_ : ∀ w ∈ wsX30, w ∈ wX3_init := fun w h => List.mem_cons_of_mem _ (inlX3 w h)
  refine lv_aload_n hx hb (kd tdlX3_init_0 0 rfl) rfl (lv_at hl 0 rfl) ?_
  refine W.objInit hx hb hown (hts _ (List.mem_cons_of_mem _ w_67)) (hts _ (List.mem_cons_of_mem _ w_9)) (hts _ (List.mem_cons_of_mem _ w_10)) rfl (by rw [hml]; exact hl.1) rfl (kd tdlX3_init_0 1 rfl) (Nat.le_of_ble_eq_true rfl) (Nat.le_of_ble_eq_true rfl) ?_
  refine W.eq (g2 := F0 m 4 ls []) rfl ?_
  refine lv_aload_n hx hb (kd tdlX3_init_0 2 rfl) rfl (lv_at hl 0 rfl) ?_
  refine lv_bipush (v := 14) hx hb (kd tdlX3_init_0 3 rfl) (by decide) ?_
  refine va_newq (N' := 14) hx hb hown (hts _ (List.mem_cons_of_mem _ w_68)) hX.2.2.2.2.2.2.2.2.2.2.1 hK hP hD hS hA (by decide) rfl (Nat.le_of_ble_eq_true rfl) (Nat.le_of_ble_eq_true rfl) (Nat.le_of_ble_eq_true rfl) (kd tdlX3_init_0 4 rfl) (fun q7 cA H hK2 hP hD hS => ?_)
  obtain rfl := kcA3 hK2
  have hP : va_P D vwCl [(h0, .inr (2, [.null, .int 0, .int 0])), (q7, .inl (t 3, 14, .inr (.inr (.inr (.inr (fun _ => none))))))] H := hP
  have hD : va_D A [(h0, .inr (2, [.null, .int 0, .int 0])), (q7, .inl (t 3, 14, .inr (.inr (.inr (.inr (fun _ => none))))))] := hD
  refine va_putF (D := D) (ci := 2) (v := .ref q7) (ty := .array (.object "ChunkCarriers$Desk")) (C := RX3) (T := TX3) (N := 3) hx hb hts in_ tyX3 tyX3_ok nmX3 hown hK hP hD hS 0 rfl rfl 0 (by decide) (hts (.fieldLink RX3 11 "ChunkCarriers$Past" "desks" "[LChunkCarriers$Desk;") (List.mem_cons_of_mem _ w_69)) (fun _ h9 => h9) rfl hin rfl (by decide +kernel) rfl rfl (Nat.le_of_ble_eq_true rfl) (kd tdlX3_init_0 5 rfl) (fun H locs hP hD hS => ?_)
  have hP : va_P D vwCl [(h0, .inr (2, [.ref q7, .int 0, .int 0])), (q7, .inl (t 3, 14, .inr (.inr (.inr (.inr (fun _ => none))))))] H := hP
  have hD : va_D A [(h0, .inr (2, [.ref q7, .int 0, .int 0])), (q7, .inl (t 3, 14, .inr (.inr (.inr (.inr (fun _ => none))))))] := hD
  exact kes_v (fun k => [q7].getD k 0) hx hb hr hlocks hK hP hD hS (Nat.le_of_ble_eq_true rfl) (Nat.le_of_ble_eq_true rfl) (kd tdlX3_init_0 6 rfl)
set_option maxHeartbeats 4000000 in
set_option maxRecDepth 100000 in
theorem c_X4_init (l : Launch) (D : va_G) (t : Nat → ClassId) (h0 : Nat) (sz : Nat) : Met l yX4_init wX4_init ({ frames := 1, cells := 4, slots := 60, locals := 30 } : Room) (kPx D (TY t) [(h0, .inr (3, [.null, .null, .int 0, .int 0, .int 0, .null, .null, .int 0]))] [.ref h0] sz) (kQvS D (TY t) (fun (a : Nat → Nat) => wpl t h0 a PLI) (va_A [(h0, .inr (3, [.null, .null, .int 0, .int 0, .int 0, .null, .null, .int 0]))] sz)) 4 60 (va_A [(h0, .inr (3, [.null, .null, .int 0, .int 0, .int 0, .null, .null, .int 0]))] sz) := by
  refine kEi (cc := cX4_init) (maxL := 1) (ret := none) (Qx := fun A => kQvS D (TY t) (fun (a : Nat → Nat) => wpl t h0 a PLI) A) (lv0 := [(0, .ref h0)]) RX4 rfl rfl (by decide) rfl (Nat.le_of_ble_eq_true rfl) rfl ?_
  intro p e s m args below meth c A ls hx hb hml hr hlocks hown hin hts hA hX hK hP hD hS hl
  have in_ : ∀ w ∈ wsX40, w ∈ wX4_init := fun w h => List.mem_cons_of_mem _ (inlX4 w h)
  refine lv_aload_n hx hb (kd tdlX4_init_0 0 rfl) rfl (lv_at hl 0 rfl) ?_
  refine W.objInit hx hb hown (hts _ (List.mem_cons_of_mem _ w_77)) (hts _ (List.mem_cons_of_mem _ w_9)) (hts _ (List.mem_cons_of_mem _ w_10)) rfl (by rw [hml]; exact hl.1) rfl (kd tdlX4_init_0 1 rfl) (Nat.le_of_ble_eq_true rfl) (Nat.le_of_ble_eq_true rfl) ?_
  refine W.eq (g2 := F0 m 4 ls []) rfl ?_
  refine lv_aload_n hx hb (kd tdlX4_init_0 2 rfl) rfl (lv_at hl 0 rfl) ?_
  refine lv_bipush (v := 15) hx hb (kd tdlX4_init_0 3 rfl) (by decide) ?_
  refine va_newa (atype := .int) (ty := .int) (N' := 15) (a0 := (15, .inl (fun _ => 0))) hx hb (hts _ (List.mem_cons_of_mem _ w_56)) rfl hK hP hD hS hA (fun _ => rfl) (by decide) rfl (Nat.le_of_ble_eq_true rfl) (Nat.le_of_ble_eq_true rfl) (Nat.le_of_ble_eq_true rfl) (kd tdlX4_init_0 4 rfl) (fun q7 cA H hK2 hP hD hS => ?_)
  obtain rfl := kcA0 hK2
  have hP : va_P D vwCl [(h0, .inr (3, [.null, .null, .int 0, .int 0, .int 0, .null, .null, .int 0])), (q7, .inl (t 0, 15, .inl (fun _ => 0)))] H := hP
  have hD : va_D A [(h0, .inr (3, [.null, .null, .int 0, .int 0, .int 0, .null, .null, .int 0])), (q7, .inl (t 0, 15, .inl (fun _ => 0)))] := hD
  refine va_putF (D := D) (ci := 3) (v := .ref q7) (ty := .array .int) (C := RX4) (T := TX4) (N := 8) hx hb hts in_ tyX4 tyX4_ok nmX4 hown hK hP hD hS 0 rfl rfl 0 (by decide) (hts (.fieldLink RX4 9 "ChunkCarriers$Plan" "places" "[I") (List.mem_cons_of_mem _ w_78)) (fun _ h9 => h9) rfl hin rfl (by decide +kernel) rfl rfl (Nat.le_of_ble_eq_true rfl) (kd tdlX4_init_0 5 rfl) (fun H locs hP hD hS => ?_)
  have hP : va_P D vwCl [(h0, .inr (3, [.ref q7, .null, .int 0, .int 0, .int 0, .null, .null, .int 0])), (q7, .inl (t 0, 15, .inl (fun _ => 0)))] H := hP
  have hD : va_D A [(h0, .inr (3, [.ref q7, .null, .int 0, .int 0, .int 0, .null, .null, .int 0])), (q7, .inl (t 0, 15, .inl (fun _ => 0)))] := hD
  refine lv_aload_n hx hb (kd tdlX4_init_0 6 rfl) rfl (lv_at hl 0 rfl) ?_
  refine lv_bipush (v := 15) hx hb (kd tdlX4_init_0 7 rfl) (by decide) ?_
  refine va_newa (atype := .int) (ty := .int) (N' := 15) (a0 := (15, .inl (fun _ => 0))) hx hb (hts _ (List.mem_cons_of_mem _ w_56)) rfl hK hP hD hS hA (fun _ => rfl) (by decide) rfl (Nat.le_of_ble_eq_true rfl) (Nat.le_of_ble_eq_true rfl) (Nat.le_of_ble_eq_true rfl) (kd tdlX4_init_0 8 rfl) (fun q15 cA H hK2 hP hD hS => ?_)
  obtain rfl := kcA0 hK2
  have hP : va_P D vwCl [(h0, .inr (3, [.ref q7, .null, .int 0, .int 0, .int 0, .null, .null, .int 0])), (q7, .inl (t 0, 15, .inl (fun _ => 0))), (q15, .inl (t 0, 15, .inl (fun _ => 0)))] H := hP
  have hD : va_D A [(h0, .inr (3, [.ref q7, .null, .int 0, .int 0, .int 0, .null, .null, .int 0])), (q7, .inl (t 0, 15, .inl (fun _ => 0))), (q15, .inl (t 0, 15, .inl (fun _ => 0)))] := hD
  refine va_putF (D := D) (ci := 3) (v := .ref q15) (ty := .array .int) (C := RX4) (T := TX4) (N := 8) hx hb hts in_ tyX4 tyX4_ok nmX4 hown hK hP hD hS 0 rfl rfl 1 (by decide) (hts (.fieldLink RX4 15 "ChunkCarriers$Plan" "entries" "[I") (List.mem_cons_of_mem _ w_79)) (fun _ h9 => h9) rfl hin rfl (by decide +kernel) rfl rfl (Nat.le_of_ble_eq_true rfl) (kd tdlX4_init_0 9 rfl) (fun H locs hP hD hS => ?_)
  have hP : va_P D vwCl [(h0, .inr (3, [.ref q7, .ref q15, .int 0, .int 0, .int 0, .null, .null, .int 0])), (q7, .inl (t 0, 15, .inl (fun _ => 0))), (q15, .inl (t 0, 15, .inl (fun _ => 0)))] H := hP
  have hD : va_D A [(h0, .inr (3, [.ref q7, .ref q15, .int 0, .int 0, .int 0, .null, .null, .int 0])), (q7, .inl (t 0, 15, .inl (fun _ => 0))), (q15, .inl (t 0, 15, .inl (fun _ => 0)))] := hD
  refine lv_aload_n hx hb (kd tdlX4_init_0 10 rfl) rfl (lv_at hl 0 rfl) ?_
  refine lv_bipush (v := 15) hx hb (kd tdlX4_init_0 11 rfl) (by decide) ?_
  refine va_newa (atype := .int) (ty := .int) (N' := 15) (a0 := (15, .inl (fun _ => 0))) hx hb (hts _ (List.mem_cons_of_mem _ w_56)) rfl hK hP hD hS hA (fun _ => rfl) (by decide) rfl (Nat.le_of_ble_eq_true rfl) (Nat.le_of_ble_eq_true rfl) (Nat.le_of_ble_eq_true rfl) (kd tdlX4_init_0 12 rfl) (fun q23 cA H hK2 hP hD hS => ?_)
  obtain rfl := kcA0 hK2
  have hP : va_P D vwCl [(h0, .inr (3, [.ref q7, .ref q15, .int 0, .int 0, .int 0, .null, .null, .int 0])), (q7, .inl (t 0, 15, .inl (fun _ => 0))), (q15, .inl (t 0, 15, .inl (fun _ => 0))), (q23, .inl (t 0, 15, .inl (fun _ => 0)))] H := hP
  have hD : va_D A [(h0, .inr (3, [.ref q7, .ref q15, .int 0, .int 0, .int 0, .null, .null, .int 0])), (q7, .inl (t 0, 15, .inl (fun _ => 0))), (q15, .inl (t 0, 15, .inl (fun _ => 0))), (q23, .inl (t 0, 15, .inl (fun _ => 0)))] := hD
  refine va_putF (D := D) (ci := 3) (v := .ref q23) (ty := .array .int) (C := RX4) (T := TX4) (N := 8) hx hb hts in_ tyX4 tyX4_ok nmX4 hown hK hP hD hS 0 rfl rfl 5 (by decide) (hts (.fieldLink RX4 18 "ChunkCarriers$Plan" "rivals" "[I") (List.mem_cons_of_mem _ w_80)) (fun _ h9 => h9) rfl hin rfl (by decide +kernel) rfl rfl (Nat.le_of_ble_eq_true rfl) (kd tdlX4_init_0 13 rfl) (fun H locs hP hD hS => ?_)
  have hP : va_P D vwCl [(h0, .inr (3, [.ref q7, .ref q15, .int 0, .int 0, .int 0, .ref q23, .null, .int 0])), (q7, .inl (t 0, 15, .inl (fun _ => 0))), (q15, .inl (t 0, 15, .inl (fun _ => 0))), (q23, .inl (t 0, 15, .inl (fun _ => 0)))] H := hP
  have hD : va_D A [(h0, .inr (3, [.ref q7, .ref q15, .int 0, .int 0, .int 0, .ref q23, .null, .int 0])), (q7, .inl (t 0, 15, .inl (fun _ => 0))), (q15, .inl (t 0, 15, .inl (fun _ => 0))), (q23, .inl (t 0, 15, .inl (fun _ => 0)))] := hD
  refine lv_aload_n hx hb (kd tdlX4_init_0 14 rfl) rfl (lv_at hl 0 rfl) ?_
  refine lv_bipush (v := 15) hx hb (kd tdlX4_init_0 15 rfl) (by decide) ?_
  refine va_newa (atype := .int) (ty := .int) (N' := 15) (a0 := (15, .inl (fun _ => 0))) hx hb (hts _ (List.mem_cons_of_mem _ w_56)) rfl hK hP hD hS hA (fun _ => rfl) (by decide) rfl (Nat.le_of_ble_eq_true rfl) (Nat.le_of_ble_eq_true rfl) (Nat.le_of_ble_eq_true rfl) (kd tdlX4_init_0 16 rfl) (fun q31 cA H hK2 hP hD hS => ?_)
  obtain rfl := kcA0 hK2
  have hP : va_P D vwCl [(h0, .inr (3, [.ref q7, .ref q15, .int 0, .int 0, .int 0, .ref q23, .null, .int 0])), (q7, .inl (t 0, 15, .inl (fun _ => 0))), (q15, .inl (t 0, 15, .inl (fun _ => 0))), (q23, .inl (t 0, 15, .inl (fun _ => 0))), (q31, .inl (t 0, 15, .inl (fun _ => 0)))] H := hP
  have hD : va_D A [(h0, .inr (3, [.ref q7, .ref q15, .int 0, .int 0, .int 0, .ref q23, .null, .int 0])), (q7, .inl (t 0, 15, .inl (fun _ => 0))), (q15, .inl (t 0, 15, .inl (fun _ => 0))), (q23, .inl (t 0, 15, .inl (fun _ => 0))), (q31, .inl (t 0, 15, .inl (fun _ => 0)))] := hD
  refine va_putF (D := D) (ci := 3) (v := .ref q31) (ty := .array .int) (C := RX4) (T := TX4) (N := 8) hx hb hts in_ tyX4 tyX4_ok nmX4 hown hK hP hD hS 0 rfl rfl 6 (by decide) (hts (.fieldLink RX4 21 "ChunkCarriers$Plan" "votes" "[I") (List.mem_cons_of_mem _ w_81)) (fun _ h9 => h9) rfl hin rfl (by decide +kernel) rfl rfl (Nat.le_of_ble_eq_true rfl) (kd tdlX4_init_0 17 rfl) (fun H locs hP hD hS => ?_)
  have hP : va_P D vwCl [(h0, .inr (3, [.ref q7, .ref q15, .int 0, .int 0, .int 0, .ref q23, .ref q31, .int 0])), (q7, .inl (t 0, 15, .inl (fun _ => 0))), (q15, .inl (t 0, 15, .inl (fun _ => 0))), (q23, .inl (t 0, 15, .inl (fun _ => 0))), (q31, .inl (t 0, 15, .inl (fun _ => 0)))] H := hP
  have hD : va_D A [(h0, .inr (3, [.ref q7, .ref q15, .int 0, .int 0, .int 0, .ref q23, .ref q31, .int 0])), (q7, .inl (t 0, 15, .inl (fun _ => 0))), (q15, .inl (t 0, 15, .inl (fun _ => 0))), (q23, .inl (t 0, 15, .inl (fun _ => 0))), (q31, .inl (t 0, 15, .inl (fun _ => 0)))] := hD
  exact kes_v (fun k => [q7, q15, q23, q31].getD k 0) hx hb hr hlocks hK hP hD hS (Nat.le_of_ble_eq_true rfl) (Nat.le_of_ble_eq_true rfl) (kd tdlX4_init_0 18 rfl)
set_option maxHeartbeats 4000000 in
set_option maxRecDepth 100000 in
theorem c_X5_init (l : Launch) (D : va_G) (t : Nat → ClassId) (h0 : Nat) (sz : Nat) : Met l yX5_init wX5_init ({ frames := 1, cells := 1, slots := 4, locals := 30 } : Room) (kPx D (TY t) [(h0, .inr (4, [.null, .int 0, .int 0, .int 0, .int 0, .int 0]))] [.ref h0] sz) (kQvS D (TY t) (fun (a : Nat → Nat) => wso t h0 a SOI) (va_A [(h0, .inr (4, [.null, .int 0, .int 0, .int 0, .int 0, .int 0]))] sz)) 1 4 (va_A [(h0, .inr (4, [.null, .int 0, .int 0, .int 0, .int 0, .int 0]))] sz) := by
  refine kEi (cc := cX5_init) (maxL := 1) (ret := none) (Qx := fun A => kQvS D (TY t) (fun (a : Nat → Nat) => wso t h0 a SOI) A) (lv0 := [(0, .ref h0)]) RX5 rfl rfl (by decide) rfl (Nat.le_of_ble_eq_true rfl) rfl ?_
  intro p e s m args below meth c A ls hx hb hml hr hlocks hown hin hts hA hX hK hP hD hS hl
  have in_ : ∀ w ∈ wsX50, w ∈ wX5_init := fun w h => List.mem_cons_of_mem _ (inlX5 w h)
  refine lv_aload_n hx hb (kd tdlX5_init_0 0 rfl) rfl (lv_at hl 0 rfl) ?_
  refine W.objInit hx hb hown (hts _ (List.mem_cons_of_mem _ w_84)) (hts _ (List.mem_cons_of_mem _ w_9)) (hts _ (List.mem_cons_of_mem _ w_10)) rfl (by rw [hml]; exact hl.1) rfl (kd tdlX5_init_0 1 rfl) (Nat.le_of_ble_eq_true rfl) (Nat.le_of_ble_eq_true rfl) ?_
  refine W.eq (g2 := F0 m 4 ls []) rfl ?_
  refine lv_aload_n hx hb (kd tdlX5_init_0 2 rfl) rfl (lv_at hl 0 rfl) ?_
  refine lv_iconst (v := 4) hx hb (kd tdlX5_init_0 3 rfl) (by decide) ?_
  refine va_newa (atype := .int) (ty := .int) (N' := 4) (a0 := (4, .inl (fun _ => 0))) hx hb (hts _ (List.mem_cons_of_mem _ w_56)) rfl hK hP hD hS hA (fun _ => rfl) (by decide) rfl (Nat.le_of_ble_eq_true rfl) (Nat.le_of_ble_eq_true rfl) (Nat.le_of_ble_eq_true rfl) (kd tdlX5_init_0 4 rfl) (fun q6 cA H hK2 hP hD hS => ?_)
  obtain rfl := kcA0 hK2
  have hP : va_P D vwCl [(h0, .inr (4, [.null, .int 0, .int 0, .int 0, .int 0, .int 0])), (q6, .inl (t 0, 4, .inl (fun _ => 0)))] H := hP
  have hD : va_D A [(h0, .inr (4, [.null, .int 0, .int 0, .int 0, .int 0, .int 0])), (q6, .inl (t 0, 4, .inl (fun _ => 0)))] := hD
  refine va_putF (D := D) (ci := 4) (v := .ref q6) (ty := .array .int) (C := RX5) (T := TX5) (N := 6) hx hb hts in_ tyX5 tyX5_ok nmX5 hown hK hP hD hS 0 rfl rfl 0 (by decide) (hts (.fieldLink RX5 9 "ChunkCarriers$Store" "loaded" "[I") (List.mem_cons_of_mem _ w_85)) (fun _ h9 => h9) rfl hin rfl (by decide +kernel) rfl rfl (Nat.le_of_ble_eq_true rfl) (kd tdlX5_init_0 5 rfl) (fun H locs hP hD hS => ?_)
  have hP : va_P D vwCl [(h0, .inr (4, [.ref q6, .int 0, .int 0, .int 0, .int 0, .int 0])), (q6, .inl (t 0, 4, .inl (fun _ => 0)))] H := hP
  have hD : va_D A [(h0, .inr (4, [.ref q6, .int 0, .int 0, .int 0, .int 0, .int 0])), (q6, .inl (t 0, 4, .inl (fun _ => 0)))] := hD
  exact kes_v (fun k => [q6].getD k 0) hx hb hr hlocks hK hP hD hS (Nat.le_of_ble_eq_true rfl) (Nat.le_of_ble_eq_true rfl) (kd tdlX5_init_0 6 rfl)
set_option maxHeartbeats 4000000 in
set_option maxRecDepth 100000 in
theorem c_X6_init (l : Launch) (D : va_G) (t : Nat → ClassId) (h0 : Nat) (sz : Nat) : Met l yX6_init wX6_init ({ frames := 1, cells := 2, slots := 45, locals := 30 } : Room) (kPx D (TY t) [(h0, .inr (5, [.null, .null, .int 0, .int 0]))] [.ref h0] sz) (kQvS D (TY t) (fun (a : Nat → Nat) => wsm t h0 a SMI) (va_A [(h0, .inr (5, [.null, .null, .int 0, .int 0]))] sz)) 2 45 (va_A [(h0, .inr (5, [.null, .null, .int 0, .int 0]))] sz) := by
  refine kEi (cc := cX6_init) (maxL := 1) (ret := none) (Qx := fun A => kQvS D (TY t) (fun (a : Nat → Nat) => wsm t h0 a SMI) A) (lv0 := [(0, .ref h0)]) RX6 rfl rfl (by decide) rfl (Nat.le_of_ble_eq_true rfl) rfl ?_
  intro p e s m args below meth c A ls hx hb hml hr hlocks hown hin hts hA hX hK hP hD hS hl
  have in_ : ∀ w ∈ wsX60, w ∈ wX6_init := fun w h => List.mem_cons_of_mem _ (inlX6 w h)
  refine lv_aload_n hx hb (kd tdlX6_init_0 0 rfl) rfl (lv_at hl 0 rfl) ?_
  refine W.objInit hx hb hown (hts _ (List.mem_cons_of_mem _ w_72)) (hts _ (List.mem_cons_of_mem _ w_9)) (hts _ (List.mem_cons_of_mem _ w_10)) rfl (by rw [hml]; exact hl.1) rfl (kd tdlX6_init_0 1 rfl) (Nat.le_of_ble_eq_true rfl) (Nat.le_of_ble_eq_true rfl) ?_
  refine W.eq (g2 := F0 m 4 ls []) rfl ?_
  refine lv_aload_n hx hb (kd tdlX6_init_0 2 rfl) rfl (lv_at hl 0 rfl) ?_
  refine lv_bipush (v := 30) hx hb (kd tdlX6_init_0 3 rfl) (by decide) ?_
  refine va_newa (atype := .int) (ty := .int) (N' := 30) (a0 := (30, .inl (fun _ => 0))) hx hb (hts _ (List.mem_cons_of_mem _ w_56)) rfl hK hP hD hS hA (fun _ => rfl) (by decide) rfl (Nat.le_of_ble_eq_true rfl) (Nat.le_of_ble_eq_true rfl) (Nat.le_of_ble_eq_true rfl) (kd tdlX6_init_0 4 rfl) (fun q7 cA H hK2 hP hD hS => ?_)
  obtain rfl := kcA0 hK2
  have hP : va_P D vwCl [(h0, .inr (5, [.null, .null, .int 0, .int 0])), (q7, .inl (t 0, 30, .inl (fun _ => 0)))] H := hP
  have hD : va_D A [(h0, .inr (5, [.null, .null, .int 0, .int 0])), (q7, .inl (t 0, 30, .inl (fun _ => 0)))] := hD
  refine va_putF (D := D) (ci := 5) (v := .ref q7) (ty := .array .int) (C := RX6) (T := TX6) (N := 4) hx hb hts in_ tyX6 tyX6_ok nmX6 hown hK hP hD hS 0 rfl rfl 0 (by decide) (hts (.fieldLink RX6 9 "ChunkCarriers$Stream" "worths" "[I") (List.mem_cons_of_mem _ w_73)) (fun _ h9 => h9) rfl hin rfl (by decide +kernel) rfl rfl (Nat.le_of_ble_eq_true rfl) (kd tdlX6_init_0 5 rfl) (fun H locs hP hD hS => ?_)
  have hP : va_P D vwCl [(h0, .inr (5, [.ref q7, .null, .int 0, .int 0])), (q7, .inl (t 0, 30, .inl (fun _ => 0)))] H := hP
  have hD : va_D A [(h0, .inr (5, [.ref q7, .null, .int 0, .int 0])), (q7, .inl (t 0, 30, .inl (fun _ => 0)))] := hD
  refine lv_aload_n hx hb (kd tdlX6_init_0 6 rfl) rfl (lv_at hl 0 rfl) ?_
  refine lv_bipush (v := 15) hx hb (kd tdlX6_init_0 7 rfl) (by decide) ?_
  refine va_newa (atype := .int) (ty := .int) (N' := 15) (a0 := (15, .inl (fun _ => 0))) hx hb (hts _ (List.mem_cons_of_mem _ w_56)) rfl hK hP hD hS hA (fun _ => rfl) (by decide) rfl (Nat.le_of_ble_eq_true rfl) (Nat.le_of_ble_eq_true rfl) (Nat.le_of_ble_eq_true rfl) (kd tdlX6_init_0 8 rfl) (fun q15 cA H hK2 hP hD hS => ?_)
  obtain rfl := kcA0 hK2
  have hP : va_P D vwCl [(h0, .inr (5, [.ref q7, .null, .int 0, .int 0])), (q7, .inl (t 0, 30, .inl (fun _ => 0))), (q15, .inl (t 0, 15, .inl (fun _ => 0)))] H := hP
  have hD : va_D A [(h0, .inr (5, [.ref q7, .null, .int 0, .int 0])), (q7, .inl (t 0, 30, .inl (fun _ => 0))), (q15, .inl (t 0, 15, .inl (fun _ => 0)))] := hD
  refine va_putF (D := D) (ci := 5) (v := .ref q15) (ty := .array .int) (C := RX6) (T := TX6) (N := 4) hx hb hts in_ tyX6 tyX6_ok nmX6 hown hK hP hD hS 0 rfl rfl 1 (by decide) (hts (.fieldLink RX6 15 "ChunkCarriers$Stream" "codes" "[I") (List.mem_cons_of_mem _ w_74)) (fun _ h9 => h9) rfl hin rfl (by decide +kernel) rfl rfl (Nat.le_of_ble_eq_true rfl) (kd tdlX6_init_0 9 rfl) (fun H locs hP hD hS => ?_)
  have hP : va_P D vwCl [(h0, .inr (5, [.ref q7, .ref q15, .int 0, .int 0])), (q7, .inl (t 0, 30, .inl (fun _ => 0))), (q15, .inl (t 0, 15, .inl (fun _ => 0)))] H := hP
  have hD : va_D A [(h0, .inr (5, [.ref q7, .ref q15, .int 0, .int 0])), (q7, .inl (t 0, 30, .inl (fun _ => 0))), (q15, .inl (t 0, 15, .inl (fun _ => 0)))] := hD
  exact kes_v (fun k => [q7, q15].getD k 0) hx hb hr hlocks hK hP hD hS (Nat.le_of_ble_eq_true rfl) (Nat.le_of_ble_eq_true rfl) (kd tdlX6_init_0 10 rfl)
set_option maxHeartbeats 4000000 in
set_option maxRecDepth 100000 in
theorem c_X7_init (l : Launch) (D : va_G) (t : Nat → ClassId) (h0 : Nat) (sz : Nat) : Met l yX7_init wX7_init ({ frames := 1, cells := 1, slots := 120, locals := 30 } : Room) (kPx D (TY t) [(h0, .inr (6, [.null, .int 0]))] [.ref h0] sz) (kQvS D (TY t) (fun (a : Nat → Nat) => wtx t h0 a TXI) (va_A [(h0, .inr (6, [.null, .int 0]))] sz)) 1 120 (va_A [(h0, .inr (6, [.null, .int 0]))] sz) := by
  refine kEi (cc := cX7_init) (maxL := 1) (ret := none) (Qx := fun A => kQvS D (TY t) (fun (a : Nat → Nat) => wtx t h0 a TXI) A) (lv0 := [(0, .ref h0)]) RX7 rfl rfl (by decide) rfl (Nat.le_of_ble_eq_true rfl) rfl ?_
  intro p e s m args below meth c A ls hx hb hml hr hlocks hown hin hts hA hX hK hP hD hS hl
  have in_ : ∀ w ∈ wsX70, w ∈ wX7_init := fun w h => List.mem_cons_of_mem _ (inlX7 w h)
  refine lv_aload_n hx hb (kd tdlX7_init_0 0 rfl) rfl (lv_at hl 0 rfl) ?_
  refine W.objInit hx hb hown (hts _ (List.mem_cons_of_mem _ w_43)) (hts _ (List.mem_cons_of_mem _ w_9)) (hts _ (List.mem_cons_of_mem _ w_10)) rfl (by rw [hml]; exact hl.1) rfl (kd tdlX7_init_0 1 rfl) (Nat.le_of_ble_eq_true rfl) (Nat.le_of_ble_eq_true rfl) ?_
  refine W.eq (g2 := F0 m 4 ls []) rfl ?_
  refine lv_aload_n hx hb (kd tdlX7_init_0 2 rfl) rfl (lv_at hl 0 rfl) ?_
  refine lv_bipush (v := 120) hx hb (kd tdlX7_init_0 3 rfl) (by decide) ?_
  refine va_newa (atype := .char) (ty := .char) (N' := 120) (a0 := (120, .inl (fun _ => 0))) hx hb (hts _ (List.mem_cons_of_mem _ w_44)) rfl hK hP hD hS hA (fun _ => rfl) (by decide) rfl (Nat.le_of_ble_eq_true rfl) (Nat.le_of_ble_eq_true rfl) (Nat.le_of_ble_eq_true rfl) (kd tdlX7_init_0 4 rfl) (fun q7 cA H hK2 hP hD hS => ?_)
  obtain rfl := kcA1 hK2
  have hP : va_P D vwCl [(h0, .inr (6, [.null, .int 0])), (q7, .inl (t 1, 120, .inl (fun _ => 0)))] H := hP
  have hD : va_D A [(h0, .inr (6, [.null, .int 0])), (q7, .inl (t 1, 120, .inl (fun _ => 0)))] := hD
  refine va_putF (D := D) (ci := 6) (v := .ref q7) (ty := .array .char) (C := RX7) (T := TX7) (N := 2) hx hb hts in_ tyX7 tyX7_ok nmX7 hown hK hP hD hS 0 rfl rfl 0 (by decide) (hts (.fieldLink RX7 9 "ChunkCarriers$Text" "signs" "[C") (List.mem_cons_of_mem _ w_45)) (fun _ h9 => h9) rfl hin rfl (by decide +kernel) rfl rfl (Nat.le_of_ble_eq_true rfl) (kd tdlX7_init_0 5 rfl) (fun H locs hP hD hS => ?_)
  have hP : va_P D vwCl [(h0, .inr (6, [.ref q7, .int 0])), (q7, .inl (t 1, 120, .inl (fun _ => 0)))] H := hP
  have hD : va_D A [(h0, .inr (6, [.ref q7, .int 0])), (q7, .inl (t 1, 120, .inl (fun _ => 0)))] := hD
  exact kes_v (fun k => [q7].getD k 0) hx hb hr hlocks hK hP hD hS (Nat.le_of_ble_eq_true rfl) (Nat.le_of_ble_eq_true rfl) (kd tdlX7_init_0 6 rfl)
