set_option maxHeartbeats 4000000 in
set_option maxRecDepth 100000 in
theorem c_X2_with (l : Launch) (D : va_G) (t : Nat → ClassId)  (sz : Nat) (p0 : Int32) (p1 : Int32) (r : Int32) (hF : F_X2_with p0 p1 = some r) : Met l yX2_with wX2_with ({ frames := 0, cells := 0, slots := 0, locals := 0 } : Room) (kPc D (TY t) ([] : va_W) [.int p0, .int p1] sz) (kQi D (TY t) ([] : va_W) r (va_A ([] : va_W) sz)) 0 0 (va_A ([] : va_W) sz) := by
  refine kE (cc := cX2_with) (maxL := 2) (ret := (some .int)) (Qx := fun A => kQi D (TY t) ([] : va_W) r A) (lv0 := [(0, .int p0), (1, .int p1)]) RX2 rfl (by decide) rfl (Nat.le_of_ble_eq_true rfl) rfl ?_
  intro p e s m args below meth c A ls hx hb hml hr hlocks hown hts hA hK hP hD hS hl
  have hP : va_P D vwCl (([] : va_W)) s.heap := hP
  have hD : va_D A (([] : va_W)) := hD
  refine lv_iload_n hx hb (kd tdlX2_with_0 0 rfl) rfl (lv_at hl 0 rfl) ?_
  refine lv_bipush (v := 8) hx hb (kd tdlX2_with_0 1 rfl) (by decide) ?_
  refine lv_imul hx hb (kd tdlX2_with_0 2 rfl) ?_
  refine lv_iload_n hx hb (kd tdlX2_with_0 3 rfl) rfl (lv_at hl 1 rfl) ?_
  refine lv_iadd hx hb (kd tdlX2_with_0 4 rfl) ?_
  refine lv_iconst (v := 1) hx hb (kd tdlX2_with_0 5 rfl) (by decide) ?_
  refine lv_isub hx hb (kd tdlX2_with_0 6 rfl) ?_
  cases ko hF
  exact ke_i hx hb hr hlocks hK hP hD hS rfl (kd tdlX2_with_0 7 rfl)
set_option maxHeartbeats 4000000 in
set_option maxRecDepth 100000 in
theorem c_X2_count (l : Launch) (D : va_G) (t : Nat → ClassId)  (sz : Nat) (p0 : Int32) (r : Int32) (hF : F_X2_count p0 = some r) : Met l yX2_count wX2_count ({ frames := 0, cells := 0, slots := 0, locals := 0 } : Room) (kPc D (TY t) ([] : va_W) [.int p0] sz) (kQi D (TY t) ([] : va_W) r (va_A ([] : va_W) sz)) 0 0 (va_A ([] : va_W) sz) := by
  refine kE (cc := cX2_count) (maxL := 3) (ret := (some .int)) (Qx := fun A => kQi D (TY t) ([] : va_W) r A) (lv0 := [(0, .int p0)]) RX2 rfl (by decide) rfl (Nat.le_of_ble_eq_true rfl) rfl ?_
  intro p e s m args below meth c A ls hx hb hml hr hlocks hown hts hA hK hP hD hS hl
  have hP : va_P D vwCl (([] : va_W)) s.heap := hP
  have hD : va_D A (([] : va_W)) := hD
  refine lv_iconst (v := 0) hx hb (kd tdlX2_count_0 0 rfl) (by decide) ?_
  refine lv_istore_n (lv' := [(1, .int 0), (0, .int p0)]) hx hb (kd tdlX2_count_0 1 rfl) rfl hl (by decide) rfl (fun ls hl => ?_)
  refine lv_iload_n hx hb (kd tdlX2_count_0 2 rfl) rfl (lv_at hl 1 rfl) ?_
  refine lv_istore_n (lv' := [(2, .int p0), (1, .int 0), (0, .int p0)]) hx hb (kd tdlX2_count_0 3 rfl) rfl hl (by decide) rfl (fun ls hl => ?_)
  refine lp_ind (f := B_X2_count_4) (r := r) (P := fun s4_ => ∀ (H : Heap) (locs : List Loc) (ls : Array Slot), va_P D vwCl (([] : va_W)) H → va_D A (([] : va_W)) → va_S A s.heap H locs → lv_has ls 3 [(1, .int s4_.1), (2, .int s4_.2)] → W p l e ({ frames := 0, cells := 0, slots := 0, locals := 0 } : Room) s m args below meth c H locs 0 0 (MQ below (kQi D (TY t) ([] : va_W) r A) args s 0 0 A) (F0 m 4 ls [])) ?_ FU (0, p0) hF _ _ _ hP hD hS (lv_sub hl [1, 0] rfl)
  intro self4 ih4 s4_ hF H locs ls hP hD hS hl
  refine lv_iload_n hx hb (kd tdlX2_count_0 4 rfl) rfl (lv_at hl 1 rfl) ?_
  refine lv_bipush (v := 8) hx hb (kd tdlX2_count_0 5 rfl) (by decide) ?_
  refine lv_icmp_lt (tgt := 26) hx hb (kd tdlX2_count_0 6 rfl) (by decide) (fun hc7 => ?_) (fun hc7 => ?_)
  · have hF := kt hc7 hF
    refine lv_iload_n hx hb (kd tdlX2_count_0 16 rfl) rfl (lv_at hl 0 rfl) ?_
    cases ko hF
    exact ke_i hx hb hr hlocks hK hP hD hS rfl (kd tdlX2_count_0 17 rfl)
  · have hF := kf hc7 hF
    refine lv_iload_n hx hb (kd tdlX2_count_0 7 rfl) rfl (lv_at hl 0 rfl) ?_
    refine lv_bipush (v := 6) hx hb (kd tdlX2_count_0 8 rfl) (by decide) ?_
    refine lv_icmp_ge (tgt := 26) hx hb (kd tdlX2_count_0 9 rfl) (by decide) (fun hc13 => ?_) (fun hc13 => ?_)
    · have hF := kt hc13 hF
      refine lv_iload_n hx hb (kd tdlX2_count_0 16 rfl) rfl (lv_at hl 0 rfl) ?_
      cases ko hF
      exact ke_i hx hb hr hlocks hK hP hD hS rfl (kd tdlX2_count_0 17 rfl)
    · have hF := kf hc13 hF
      refine lv_iinc (v := (s4_.1 + 1)) (lv' := [(1, .int (s4_.1 + 1)), (2, .int s4_.2)]) hx hb (kd tdlX2_count_0 10 rfl) hl (k := 0) rfl rfl (by decide) rfl (fun ls hl => ?_)
      refine lv_iload_n hx hb (kd tdlX2_count_0 11 rfl) rfl (lv_at hl 1 rfl) ?_
      refine lv_iconst (v := 3) hx hb (kd tdlX2_count_0 12 rfl) (by decide) ?_
      refine lv_ishr hx hb (kd tdlX2_count_0 13 rfl) ?_
      refine lv_istore_n (lv' := [(2, .int (s4_.2 >>> (3 &&& 31))), (1, .int (s4_.1 + 1))]) hx hb (kd tdlX2_count_0 14 rfl) rfl hl (by decide) rfl (fun ls hl => ?_)
      refine lv_goto (tgt := 4) hx hb (kd tdlX2_count_0 15 rfl) (by decide) ?_
      exact ih4 ((s4_.1 + 1), (s4_.2 >>> (3 &&& 31))) hF _ _ _ hP hD hS (lv_sub hl [1, 0] rfl)
set_option maxHeartbeats 4000000 in
set_option maxRecDepth 100000 in
theorem c_X2_worth (l : Launch) (D : va_G) (t : Nat → ClassId)  (sz : Nat) (p0 : Int32) (p1 : Int32) (r : Int32) (hF : F_X2_worth p0 p1 = some r) : Met l yX2_worth wX2_worth ({ frames := 1, cells := 0, slots := 0, locals := 22 } : Room) (kPc D (TY t) ([] : va_W) [.int p0, .int p1] sz) (kQi D (TY t) ([] : va_W) r (va_A ([] : va_W) sz)) 0 0 (va_A ([] : va_W) sz) := by
  refine kE (cc := cX2_worth) (maxL := 2) (ret := (some .int)) (Qx := fun A => kQi D (TY t) ([] : va_W) r A) (lv0 := [(0, .int p0), (1, .int p1)]) RX2 rfl (by decide) rfl (Nat.le_of_ble_eq_true rfl) rfl ?_
  intro p e s m args below meth c A ls hx hb hml hr hlocks hown hts hA hK hP hD hS hl
  have hP : va_P D vwCl (([] : va_W)) s.heap := hP
  have hD : va_D A (([] : va_W)) := hD
  refine lv_iconst (v := 1) hx hb (kd tdlX2_worth_0 0 rfl) (by decide) ?_
  refine lv_iload_n hx hb (kd tdlX2_worth_0 1 rfl) rfl (lv_at hl 0 rfl) ?_
  refine lv_iconst (v := 3) hx hb (kd tdlX2_worth_0 2 rfl) (by decide) ?_
  refine lv_iload_n hx hb (kd tdlX2_worth_0 3 rfl) rfl (lv_at hl 0 rfl) ?_
  obtain ⟨v4, e4, hF⟩ := kc hF
  refine kc_i0 (w1 := ([] : va_W)) hP hD hS hA (kr_S0 (Qx := (fun A => kQi D (TY t) ([] : va_W) v4 A)) (As := [.int p0]) (rest := [.int 3, .int p0, .int 1]) ⟨hx, hb, hml, hown, hts⟩ hK hP hD (c_X2_count l D t  _ p0 v4 e4) (va_cwS 1 hts (gcX2_count w_261) rfl rfl rfl hdX2_countS ⟨Nat.le_of_ble_eq_true rfl, Nat.le_of_ble_eq_true rfl⟩) rfl hl.1 rfl (Nat.le_of_ble_eq_true rfl) (kd tdlX2_worth_0 4 rfl) ⟨Nat.zero_le _, Nat.zero_le _⟩) (fun H locs hP hD hS => ?_)
  refine lv_iconst (v := 1) hx hb (kd tdlX2_worth_0 5 rfl) (by decide) ?_
  refine lv_isub hx hb (kd tdlX2_worth_0 6 rfl) ?_
  refine lv_iload_n hx hb (kd tdlX2_worth_0 7 rfl) rfl (lv_at hl 1 rfl) ?_
  refine lv_isub hx hb (kd tdlX2_worth_0 8 rfl) ?_
  refine lv_imul hx hb (kd tdlX2_worth_0 9 rfl) ?_
  refine lv_ishr hx hb (kd tdlX2_worth_0 10 rfl) ?_
  refine lv_bipush (v := 7) hx hb (kd tdlX2_worth_0 11 rfl) (by decide) ?_
  refine lv_iand hx hb (kd tdlX2_worth_0 12 rfl) ?_
  refine lv_iadd hx hb (kd tdlX2_worth_0 13 rfl) ?_
  cases ko hF
  exact ke_i hx hb hr hlocks hK hP hD hS rfl (kd tdlX2_worth_0 14 rfl)
set_option maxHeartbeats 4000000 in
set_option maxRecDepth 100000 in
theorem c_X2_sign (l : Launch) (D : va_G) (t : Nat → ClassId)  (sz : Nat) (p0 : Int32) (p1 : Int32) (r : Int32) (hF : F_X2_sign p0 p1 = some r) : Met l yX2_sign wX2_sign ({ frames := 2, cells := 0, slots := 0, locals := 43 } : Room) (kPc D (TY t) ([] : va_W) [.int p0, .int p1] sz) (kQi D (TY t) ([] : va_W) r (va_A ([] : va_W) sz)) 0 0 (va_A ([] : va_W) sz) := by
  refine kE (cc := cX2_sign) (maxL := 2) (ret := (some .int)) (Qx := fun A => kQi D (TY t) ([] : va_W) r A) (lv0 := [(0, .int p0), (1, .int p1)]) RX2 rfl (by decide) rfl (Nat.le_of_ble_eq_true rfl) rfl ?_
  intro p e s m args below meth c A ls hx hb hml hr hlocks hown hts hA hK hP hD hS hl
  have hP : va_P D vwCl (([] : va_W)) s.heap := hP
  have hD : va_D A (([] : va_W)) := hD
  refine lv_bipush (v := 97) hx hb (kd tdlX2_sign_0 0 rfl) (by decide) ?_
  refine lv_iload_n hx hb (kd tdlX2_sign_0 1 rfl) rfl (lv_at hl 0 rfl) ?_
  refine lv_iload_n hx hb (kd tdlX2_sign_0 2 rfl) rfl (lv_at hl 1 rfl) ?_
  obtain ⟨v4, e4, hF⟩ := kc hF
  refine kc_i0 (w1 := ([] : va_W)) hP hD hS hA (kr_S0 (Qx := (fun A => kQi D (TY t) ([] : va_W) v4 A)) (As := [.int p0, .int p1]) (rest := [.int 97]) ⟨hx, hb, hml, hown, hts⟩ hK hP hD (c_X2_worth l D t  _ p0 p1 v4 e4) (va_cwS 2 hts (gcX2_worth w_262) rfl rfl rfl hdX2_worthS ⟨Nat.le_of_ble_eq_true rfl, Nat.le_of_ble_eq_true rfl⟩) rfl hl.1 rfl (Nat.le_of_ble_eq_true rfl) (kd tdlX2_sign_0 3 rfl) ⟨Nat.zero_le _, Nat.zero_le _⟩) (fun H locs hP hD hS => ?_)
  refine lv_iadd hx hb (kd tdlX2_sign_0 4 rfl) ?_
  refine lv_iconst (v := 1) hx hb (kd tdlX2_sign_0 5 rfl) (by decide) ?_
  refine lv_isub hx hb (kd tdlX2_sign_0 6 rfl) ?_
  cases ko hF
  exact ke_i hx hb hr hlocks hK hP hD hS rfl (kd tdlX2_sign_0 7 rfl)
set_option maxHeartbeats 4000000 in
set_option maxRecDepth 100000 in
theorem c_X2_sum (l : Launch) (D : va_G) (t : Nat → ClassId)  (sz : Nat) (p0 : Int32) (r : Int32) (hF : F_X2_sum p0 = some r) : Met l yX2_sum wX2_sum ({ frames := 2, cells := 0, slots := 0, locals := 43 } : Room) (kPc D (TY t) ([] : va_W) [.int p0] sz) (kQi D (TY t) ([] : va_W) r (va_A ([] : va_W) sz)) 0 0 (va_A ([] : va_W) sz) := by
  refine kE (cc := cX2_sum) (maxL := 4) (ret := (some .int)) (Qx := fun A => kQi D (TY t) ([] : va_W) r A) (lv0 := [(0, .int p0)]) RX2 rfl (by decide) rfl (Nat.le_of_ble_eq_true rfl) rfl ?_
  intro p e s m args below meth c A ls hx hb hml hr hlocks hown hts hA hK hP hD hS hl
  have hP : va_P D vwCl (([] : va_W)) s.heap := hP
  have hD : va_D A (([] : va_W)) := hD
  refine lv_iload_n hx hb (kd tdlX2_sum_0 0 rfl) rfl (lv_at hl 0 rfl) ?_
  obtain ⟨v1, e1, hF⟩ := kc hF
  refine kc_i0 (w1 := ([] : va_W)) hP hD hS hA (kr_S0 (Qx := (fun A => kQi D (TY t) ([] : va_W) v1 A)) (As := [.int p0]) (rest := []) ⟨hx, hb, hml, hown, hts⟩ hK hP hD (c_X2_count l D t  _ p0 v1 e1) (va_cwS 1 hts (gcX2_count w_261) rfl rfl rfl hdX2_countS ⟨Nat.le_of_ble_eq_true rfl, Nat.le_of_ble_eq_true rfl⟩) rfl hl.1 rfl (Nat.le_of_ble_eq_true rfl) (kd tdlX2_sum_0 1 rfl) ⟨Nat.zero_le _, Nat.zero_le _⟩) (fun H locs hP hD hS => ?_)
  refine lv_istore_n (lv' := [(1, .int v1), (0, .int p0)]) hx hb (kd tdlX2_sum_0 2 rfl) rfl hl (by decide) rfl (fun ls hl => ?_)
  refine lv_bipush (v := 7) hx hb (kd tdlX2_sum_0 3 rfl) (by decide) ?_
  refine lv_istore_n (lv' := [(2, .int 7), (1, .int v1), (0, .int p0)]) hx hb (kd tdlX2_sum_0 4 rfl) rfl hl (by decide) rfl (fun ls hl => ?_)
  refine lv_iconst (v := 0) hx hb (kd tdlX2_sum_0 5 rfl) (by decide) ?_
  refine lv_istore_n (lv' := [(3, .int 0), (2, .int 7), (1, .int v1), (0, .int p0)]) hx hb (kd tdlX2_sum_0 6 rfl) rfl hl (by decide) rfl (fun ls hl => ?_)
  refine lp_ind (f := B_X2_sum_10 v1 p0) (r := r) (P := fun s10_ => ∀ (H : Heap) (locs : List Loc) (ls : Array Slot), va_P D vwCl (([] : va_W)) H → va_D A (([] : va_W)) → va_S A s.heap H locs → lv_has ls 4 [(0, .int p0), (1, .int v1), (2, .int s10_.1), (3, .int s10_.2)] → W p l e ({ frames := 2, cells := 0, slots := 0, locals := 43 } : Room) s m args below meth c H locs 0 0 (MQ below (kQi D (TY t) ([] : va_W) r A) args s 0 0 A) (F0 m 10 ls [])) ?_ FU (7, 0) hF _ _ _ hP hD hS (lv_sub hl [3, 2, 1, 0] rfl)
  intro self10 ih10 s10_ hF H locs ls hP hD hS hl
  refine lv_iload_n hx hb (kd tdlX2_sum_0 7 rfl) rfl (lv_at hl 3 rfl) ?_
  refine lv_iload_n hx hb (kd tdlX2_sum_0 8 rfl) rfl (lv_at hl 1 rfl) ?_
  refine lv_icmp_ge (tgt := 36) hx hb (kd tdlX2_sum_0 9 rfl) (by decide) (fun hc12 => ?_) (fun hc12 => ?_)
  · have hF := kt hc12 hF
    refine lv_iload_n hx hb (kd tdlX2_sum_0 22 rfl) rfl (lv_at hl 2 rfl) ?_
    cases ko hF
    exact ke_i hx hb hr hlocks hK hP hD hS rfl (kd tdlX2_sum_0 23 rfl)
  · have hF := kf hc12 hF
    refine lv_bipush (v := 31) hx hb (kd tdlX2_sum_0 10 rfl) (by decide) ?_
    refine lv_iload_n hx hb (kd tdlX2_sum_0 11 rfl) rfl (lv_at hl 2 rfl) ?_
    refine lv_imul hx hb (kd tdlX2_sum_0 12 rfl) ?_
    refine lv_iload_n hx hb (kd tdlX2_sum_0 13 rfl) rfl (lv_at hl 0 rfl) ?_
    refine lv_iload_n hx hb (kd tdlX2_sum_0 14 rfl) rfl (lv_at hl 3 rfl) ?_
    obtain ⟨v21, e21, hF⟩ := kc hF
    refine kc_i0 (w1 := ([] : va_W)) hP hD hS hA (kr_S0 (Qx := (fun A => kQi D (TY t) ([] : va_W) v21 A)) (As := [.int p0, .int s10_.2]) (rest := [.int (31 * s10_.1)]) ⟨hx, hb, hml, hown, hts⟩ hK hP hD (c_X2_worth l D t  _ p0 s10_.2 v21 e21) (va_cwS 2 hts (gcX2_worth w_262) rfl rfl rfl hdX2_worthS ⟨Nat.le_of_ble_eq_true rfl, Nat.le_of_ble_eq_true rfl⟩) rfl hl.1 rfl (Nat.le_of_ble_eq_true rfl) (kd tdlX2_sum_0 15 rfl) ⟨Nat.zero_le _, Nat.zero_le _⟩) (fun H locs hP hD hS => ?_)
    refine lv_iadd hx hb (kd tdlX2_sum_0 16 rfl) ?_
    refine lv_sipush (v := 997) hx hb (kd tdlX2_sum_0 17 rfl) (by decide) ?_
    obtain ⟨hz28, hF⟩ := kgz hF
    refine lv_irem hx hb (kd tdlX2_sum_0 18 rfl) hz28 ?_
    refine lv_istore_n (lv' := [(2, .int (((31 * s10_.1) + v21) - ((31 * s10_.1) + v21) / 997 * 997)), (0, .int p0), (1, .int v1), (3, .int s10_.2)]) hx hb (kd tdlX2_sum_0 19 rfl) rfl hl (by decide) rfl (fun ls hl => ?_)
    refine lv_iinc (v := (s10_.2 + 1)) (lv' := [(3, .int (s10_.2 + 1)), (2, .int (((31 * s10_.1) + v21) - ((31 * s10_.1) + v21) / 997 * 997)), (0, .int p0), (1, .int v1)]) hx hb (kd tdlX2_sum_0 20 rfl) hl (k := 3) rfl rfl (by decide) rfl (fun ls hl => ?_)
    refine lv_goto (tgt := 10) hx hb (kd tdlX2_sum_0 21 rfl) (by decide) ?_
    exact ih10 ((((31 * s10_.1) + v21) - ((31 * s10_.1) + v21) / 997 * 997), (s10_.2 + 1)) hF _ _ _ hP hD hS (lv_sub hl [2, 3, 1, 0] rfl)
