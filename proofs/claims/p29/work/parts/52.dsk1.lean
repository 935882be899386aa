set_option maxHeartbeats 4000000 in
set_option maxRecDepth 100000 in
theorem c_X1_putAway (l : Launch) (D : va_G) (t : Nat → ClassId) (h0 : Nat) (a0 : Nat → Nat) (d0 : DKT) (sz : Nat) (p1 : Int32) (r : Int32 × DKT) (hF : F_X1_putAway d0 p1 = some r) : Met l yX1_putAway wX1_putAway ({ frames := 1, cells := 0, slots := 0, locals := 21 } : Room) (kPc D (TY t) ((wdk t h0 a0 d0)) [.ref h0, .int p1] sz) (kQi D (TY t) ((wdk t h0 a0 r.2)) r.1 (va_A ((wdk t h0 a0 d0)) sz)) 0 0 (va_A ((wdk t h0 a0 d0)) sz) := by
  refine kE (cc := cX1_putAway) (maxL := 2) (ret := (some .int)) (Qx := fun A => kQi D (TY t) ((wdk t h0 a0 r.2)) r.1 A) (lv0 := [(0, .ref h0), (1, .int p1)]) RX1 rfl (by decide) rfl (Nat.le_of_ble_eq_true rfl) rfl ?_
  intro p e s m args below meth c A ls hx hb hml hr hlocks hown hts hA hK hP hD hS hl
  have L32 := hts (.fieldLink RX1 32 "ChunkCarriers$Desk" "codes" "[I") (List.mem_cons_of_mem _ w_60)
  have L35 := hts (.fieldLink RX1 35 "ChunkCarriers$Desk" "places" "[I") (List.mem_cons_of_mem _ w_61)
  have L38 := hts (.fieldLink RX1 38 "ChunkCarriers$Desk" "uses" "[I") (List.mem_cons_of_mem _ w_62)
  have L53 := hts (.fieldLink RX1 53 "ChunkCarriers$Desk" "containers" "I") (List.mem_cons_of_mem _ w_108)
  have L57 := hts (.fieldLink RX1 57 "ChunkCarriers$Desk" "entries" "I") (List.mem_cons_of_mem _ w_109)
  have inX1_ : ∀ w ∈ wsX10, w ∈ wX1_putAway := fun w h => List.mem_cons_of_mem _ (inlX1 w h)
  have hP : va_P D vwCl ((wdkF t h0 a0 (dk_settings d0) (dk_numbers d0) (dk_capacities d0) (dk_firsts d0) (dk_containers d0) (dk_codes d0) (dk_places d0) (dk_uses d0) (dk_entries d0) (dk_references d0) (dk_lengths d0) (dk_nextNumber d0) (dk_carried d0))) s.heap := hP
  have hD : va_D A ((wdkF t h0 a0 (dk_settings d0) (dk_numbers d0) (dk_capacities d0) (dk_firsts d0) (dk_containers d0) (dk_codes d0) (dk_places d0) (dk_uses d0) (dk_entries d0) (dk_references d0) (dk_lengths d0) (dk_nextNumber d0) (dk_carried d0))) := hD
  refine lv_aload_n hx hb (kd tdlX1_putAway_0 0 rfl) rfl (lv_at hl 0 rfl) ?_
  obtain ⟨v1, e1, hF⟩ := kc hF
  refine kc_i0 (w1 := ((wdkF t h0 a0 (dk_settings d0) (dk_numbers d0) (dk_capacities d0) (dk_firsts d0) (dk_containers d0) (dk_codes d0) (dk_places d0) (dk_uses d0) (dk_entries d0) (dk_references d0) (dk_lengths d0) (dk_nextNumber d0) (dk_carried d0)))) hP hD hS hA (kr_V0 (Qx := (fun A => kQi D (TY t) ((wdkF t h0 a0 (dk_settings d0) (dk_numbers d0) (dk_capacities d0) (dk_firsts d0) (dk_containers d0) (dk_codes d0) (dk_places d0) (dk_uses d0) (dk_entries d0) (dk_references d0) (dk_lengths d0) (dk_nextNumber d0) (dk_carried d0))) v1 A)) (As := []) (rest := []) ⟨hx, hb, hml, hown, hts⟩ hK hP hD (c_X1_roomInLast l D t h0 a0 d0 _  v1 e1) (cwV 0 hts (gcX1_roomInLast w_398) rfl rfl rfl hdX1_roomInLastV ⟨Nat.le_of_ble_eq_true rfl, Nat.le_of_ble_eq_true rfl⟩) (ci := 1) (q0 := 0) rfl rfl rfl hl.1 rfl (Nat.le_of_ble_eq_true rfl) (kd tdlX1_putAway_0 1 rfl) ⟨Nat.zero_le _, Nat.zero_le _⟩) (fun H locs hP hD hS => ?_)
  have hJ11 : ∀ j11 : DKT, J_X1_putAway_11 p1 j11 = some r → ∀ (H : Heap) (locs : List Loc) (ls : Array Slot), va_P D vwCl ((wdkF t h0 a0 (dk_settings j11) (dk_numbers j11) (dk_capacities j11) (dk_firsts j11) (dk_containers j11) (dk_codes j11) (dk_places j11) (dk_uses j11) (dk_entries j11) (dk_references j11) (dk_lengths j11) (dk_nextNumber j11) (dk_carried j11))) H → va_D A ((wdkF t h0 a0 (dk_settings j11) (dk_numbers j11) (dk_capacities j11) (dk_firsts j11) (dk_containers j11) (dk_codes j11) (dk_places j11) (dk_uses j11) (dk_entries j11) (dk_references j11) (dk_lengths j11) (dk_nextNumber j11) (dk_carried j11))) → va_S A s.heap H locs → lv_has ls 2 [(0, .ref h0), (1, .int p1)] → W p l e ({ frames := 1, cells := 0, slots := 0, locals := 21 } : Room) s m args below meth c H locs 0 0 (MQ below (kQi D (TY t) ((wdk t h0 a0 r.2)) r.1 A) args s 0 0 A) (F0 m 11 ls []) := by
    intro j11 hF H locs ls hP hD hS hl
    refine lv_aload_n hx hb (kd tdlX1_putAway_0 5 rfl) rfl (lv_at hl 0 rfl) ?_
    refine dk_g_entries hx hb hts inX1_ hown hK hP L57 (kd tdlX1_putAway_0 6 rfl) ?_
    refine lv_sipush (v := 192) hx hb (kd tdlX1_putAway_0 7 rfl) (by decide) ?_
    refine lv_icmp_lt (tgt := 23) hx hb (kd tdlX1_putAway_0 8 rfl) (by decide) (fun hc18 => ?_) (fun hc18 => ?_)
    · have hF := kt hc18 hF
      refine lv_aload_n hx hb (kd tdlX1_putAway_0 11 rfl) rfl (lv_at hl 0 rfl) ?_
      refine dk_g_codes hx hb hts inX1_ hown hK hP L32 (kd tdlX1_putAway_0 12 rfl) ?_
      refine lv_aload_n hx hb (kd tdlX1_putAway_0 13 rfl) rfl (lv_at hl 0 rfl) ?_
      refine dk_g_entries hx hb hts inX1_ hown hK hP L57 (kd tdlX1_putAway_0 14 rfl) ?_
      refine lv_iload_n hx hb (kd tdlX1_putAway_0 15 rfl) rfl (lv_at hl 1 rfl) ?_
      obtain ⟨hi32, hF⟩ := kg hF
      refine dk_s_codes hx hb hK hP hD hS hi32 (kd tdlX1_putAway_0 16 rfl) (fun H locs hP hD hS => ?_)
      refine lv_aload_n hx hb (kd tdlX1_putAway_0 17 rfl) rfl (lv_at hl 0 rfl) ?_
      refine dk_g_places hx hb hts inX1_ hown hK hP L35 (kd tdlX1_putAway_0 18 rfl) ?_
      refine lv_aload_n hx hb (kd tdlX1_putAway_0 19 rfl) rfl (lv_at hl 0 rfl) ?_
      refine dk_g_entries hx hb hts inX1_ hown hK hP L57 (kd tdlX1_putAway_0 20 rfl) ?_
      refine lv_aload_n hx hb (kd tdlX1_putAway_0 21 rfl) rfl (lv_at hl 0 rfl) ?_
      refine dk_g_containers hx hb hts inX1_ hown hK hP L53 (kd tdlX1_putAway_0 22 rfl) ?_
      refine lv_iconst (v := 1) hx hb (kd tdlX1_putAway_0 23 rfl) (by decide) ?_
      refine lv_isub hx hb (kd tdlX1_putAway_0 24 rfl) ?_
      obtain ⟨hi47, hF⟩ := kg hF
      refine dk_s_places hx hb hK hP hD hS hi47 (kd tdlX1_putAway_0 25 rfl) (fun H locs hP hD hS => ?_)
      refine lv_aload_n hx hb (kd tdlX1_putAway_0 26 rfl) rfl (lv_at hl 0 rfl) ?_
      refine dk_g_uses hx hb hts inX1_ hown hK hP L38 (kd tdlX1_putAway_0 27 rfl) ?_
      refine lv_aload_n hx hb (kd tdlX1_putAway_0 28 rfl) rfl (lv_at hl 0 rfl) ?_
      refine dk_g_entries hx hb hts inX1_ hown hK hP L57 (kd tdlX1_putAway_0 29 rfl) ?_
      refine lv_iconst (v := 0) hx hb (kd tdlX1_putAway_0 30 rfl) (by decide) ?_
      obtain ⟨hi57, hF⟩ := kg hF
      refine dk_s_uses hx hb hK hP hD hS hi57 (kd tdlX1_putAway_0 31 rfl) (fun H locs hP hD hS => ?_)
      refine lv_aload_n hx hb (kd tdlX1_putAway_0 32 rfl) rfl (lv_at hl 0 rfl) ?_
      refine lv_dup hx hb (kd tdlX1_putAway_0 33 rfl) rfl ?_
      refine dk_g_entries hx hb hts inX1_ hown hK hP L57 (kd tdlX1_putAway_0 34 rfl) ?_
      refine lv_iconst (v := 1) hx hb (kd tdlX1_putAway_0 35 rfl) (by decide) ?_
      refine lv_iadd hx hb (kd tdlX1_putAway_0 36 rfl) ?_
      refine dk_p_entries hx hb hts inX1_ hown hK hP hD hS L57 (kd tdlX1_putAway_0 37 rfl) (fun H locs hP hD hS => ?_)
      refine lv_aload_n hx hb (kd tdlX1_putAway_0 38 rfl) rfl (lv_at hl 0 rfl) ?_
      refine dk_g_entries hx hb hts inX1_ hown hK hP L57 (kd tdlX1_putAway_0 39 rfl) ?_
      refine lv_iconst (v := 1) hx hb (kd tdlX1_putAway_0 40 rfl) (by decide) ?_
      refine lv_isub hx hb (kd tdlX1_putAway_0 41 rfl) ?_
      cases ko hF
      exact ke_i hx hb hr hlocks hK hP hD hS rfl (kd tdlX1_putAway_0 42 rfl)
    · have hF := kf hc18 hF
      refine lv_iconst (v := (-1)) hx hb (kd tdlX1_putAway_0 9 rfl) (by decide) ?_
      cases ko hF
      exact ke_i hx hb hr hlocks hK hP hD hS rfl (kd tdlX1_putAway_0 10 rfl)
  refine lv_if_gt (tgt := 11) hx hb (kd tdlX1_putAway_0 2 rfl) (by decide) (fun hc4 => ?_) (fun hc4 => ?_)
  · have hF := kt hc4 hF
    exact hJ11 (d0) hF _ _ _ hP hD hS (lv_sub hl [0, 1] rfl)
  · have hF := kf hc4 hF
    refine lv_aload_n hx hb (kd tdlX1_putAway_0 3 rfl) rfl (lv_at hl 0 rfl) ?_
    obtain ⟨v8, e8, hF⟩ := kc hF
    refine kc_v0 (w1 := ((wdkF t h0 a0 (dk_settings v8) (dk_numbers v8) (dk_capacities v8) (dk_firsts v8) (dk_containers v8) (dk_codes v8) (dk_places v8) (dk_uses v8) (dk_entries v8) (dk_references v8) (dk_lengths v8) (dk_nextNumber v8) (dk_carried v8)))) hP hD hS hA (kr_V0 (Qx := (fun A => kQv D (TY t) ((wdkF t h0 a0 (dk_settings v8) (dk_numbers v8) (dk_capacities v8) (dk_firsts v8) (dk_containers v8) (dk_codes v8) (dk_places v8) (dk_uses v8) (dk_entries v8) (dk_references v8) (dk_lengths v8) (dk_nextNumber v8) (dk_carried v8))) A)) (As := []) (rest := []) ⟨hx, hb, hml, hown, hts⟩ hK hP hD (c_X1_openContainer l D t h0 a0 d0 _  v8 e8) (cwV 0 hts (gcX1_openContainer w_402) rfl rfl rfl hdX1_openContainerV ⟨Nat.le_of_ble_eq_true rfl, Nat.le_of_ble_eq_true rfl⟩) (ci := 1) (q0 := 0) rfl rfl rfl hl.1 rfl (Nat.le_of_ble_eq_true rfl) (kd tdlX1_putAway_0 4 rfl) ⟨Nat.zero_le _, Nat.zero_le _⟩) (fun H locs hP hD hS => ?_)
    exact hJ11 (v8) hF _ _ _ hP hD hS (lv_sub hl [0, 1] rfl)
set_option maxHeartbeats 4000000 in
set_option maxRecDepth 100000 in
theorem c_X1_codeOfEntry (l : Launch) (D : va_G) (t : Nat → ClassId) (h0 : Nat) (a0 : Nat → Nat) (d0 : DKT) (sz : Nat) (p1 : Int32) (r : Int32) (hF : F_X1_codeOfEntry d0 p1 = some r) : Met l yX1_codeOfEntry wX1_codeOfEntry ({ frames := 1, cells := 0, slots := 0, locals := 21 } : Room) (kPc D (TY t) ((wdk t h0 a0 d0)) [.ref h0, .int p1] sz) (kQi D (TY t) ((wdk t h0 a0 d0)) r (va_A ((wdk t h0 a0 d0)) sz)) 0 0 (va_A ((wdk t h0 a0 d0)) sz) := by
  refine kE (cc := cX1_codeOfEntry) (maxL := 2) (ret := (some .int)) (Qx := fun A => kQi D (TY t) ((wdk t h0 a0 d0)) r A) (lv0 := [(0, .ref h0), (1, .int p1)]) RX1 rfl (by decide) rfl (Nat.le_of_ble_eq_true rfl) rfl ?_
  intro p e s m args below meth c A ls hx hb hml hr hlocks hown hts hA hK hP hD hS hl
  have L32 := hts (.fieldLink RX1 32 "ChunkCarriers$Desk" "codes" "[I") (List.mem_cons_of_mem _ w_60)
  have inX1_ : ∀ w ∈ wsX10, w ∈ wX1_codeOfEntry := fun w h => List.mem_cons_of_mem _ (inlX1 w h)
  have hP : va_P D vwCl ((wdkF t h0 a0 (dk_settings d0) (dk_numbers d0) (dk_capacities d0) (dk_firsts d0) (dk_containers d0) (dk_codes d0) (dk_places d0) (dk_uses d0) (dk_entries d0) (dk_references d0) (dk_lengths d0) (dk_nextNumber d0) (dk_carried d0))) s.heap := hP
  have hD : va_D A ((wdkF t h0 a0 (dk_settings d0) (dk_numbers d0) (dk_capacities d0) (dk_firsts d0) (dk_containers d0) (dk_codes d0) (dk_places d0) (dk_uses d0) (dk_entries d0) (dk_references d0) (dk_lengths d0) (dk_nextNumber d0) (dk_carried d0))) := hD
  refine lv_aload_n hx hb (kd tdlX1_codeOfEntry_0 0 rfl) rfl (lv_at hl 0 rfl) ?_
  refine lv_iload_n hx hb (kd tdlX1_codeOfEntry_0 1 rfl) rfl (lv_at hl 1 rfl) ?_
  obtain ⟨v2, e2, hF⟩ := kc hF
  refine kc_i0 (w1 := ((wdkF t h0 a0 (dk_settings d0) (dk_numbers d0) (dk_capacities d0) (dk_firsts d0) (dk_containers d0) (dk_codes d0) (dk_places d0) (dk_uses d0) (dk_entries d0) (dk_references d0) (dk_lengths d0) (dk_nextNumber d0) (dk_carried d0)))) hP hD hS hA (kr_V0 (Qx := (fun A => kQi D (TY t) ((wdkF t h0 a0 (dk_settings d0) (dk_numbers d0) (dk_capacities d0) (dk_firsts d0) (dk_containers d0) (dk_codes d0) (dk_places d0) (dk_uses d0) (dk_entries d0) (dk_references d0) (dk_lengths d0) (dk_nextNumber d0) (dk_carried d0))) v2 A)) (As := [.int p1]) (rest := []) ⟨hx, hb, hml, hown, hts⟩ hK hP hD (c_X1_hasEntry l D t h0 a0 d0 _ p1 v2 e2) (cwV 1 hts (gcX1_hasEntry w_169) rfl rfl rfl hdX1_hasEntryV ⟨Nat.le_of_ble_eq_true rfl, Nat.le_of_ble_eq_true rfl⟩) (ci := 1) (q0 := 0) rfl rfl rfl hl.1 rfl (Nat.le_of_ble_eq_true rfl) (kd tdlX1_codeOfEntry_0 2 rfl) ⟨Nat.zero_le _, Nat.zero_le _⟩) (fun H locs hP hD hS => ?_)
  refine lv_if_eq (tgt := 17) hx hb (kd tdlX1_codeOfEntry_0 3 rfl) (by decide) (fun hc5 => ?_) (fun hc5 => ?_)
  · have hF := kt hc5 hF
    refine lv_iconst (v := 1) hx hb (kd tdlX1_codeOfEntry_0 9 rfl) (by decide) ?_
    cases ko hF
    exact ke_i hx hb hr hlocks hK hP hD hS rfl (kd tdlX1_codeOfEntry_0 10 rfl)
  · have hF := kf hc5 hF
    refine lv_aload_n hx hb (kd tdlX1_codeOfEntry_0 4 rfl) rfl (lv_at hl 0 rfl) ?_
    refine dk_g_codes hx hb hts inX1_ hown hK hP L32 (kd tdlX1_codeOfEntry_0 5 rfl) ?_
    refine lv_iload_n hx hb (kd tdlX1_codeOfEntry_0 6 rfl) rfl (lv_at hl 1 rfl) ?_
    obtain ⟨hi13, hF⟩ := kg hF
    refine dk_l_codes hx hb hK hP hi13 (kd tdlX1_codeOfEntry_0 7 rfl) ?_
    refine lv_goto (tgt := 18) hx hb (kd tdlX1_codeOfEntry_0 8 rfl) (by decide) ?_
    cases ko hF
    exact ke_i hx hb hr hlocks hK hP hD hS rfl (kd tdlX1_codeOfEntry_0 10 rfl)
set_option maxHeartbeats 4000000 in
set_option maxRecDepth 100000 in
theorem c_X1_placeOfEntry (l : Launch) (D : va_G) (t : Nat → ClassId) (h0 : Nat) (a0 : Nat → Nat) (d0 : DKT) (sz : Nat) (p1 : Int32) (r : Int32) (hF : F_X1_placeOfEntry d0 p1 = some r) : Met l yX1_placeOfEntry wX1_placeOfEntry ({ frames := 1, cells := 0, slots := 0, locals := 21 } : Room) (kPc D (TY t) ((wdk t h0 a0 d0)) [.ref h0, .int p1] sz) (kQi D (TY t) ((wdk t h0 a0 d0)) r (va_A ((wdk t h0 a0 d0)) sz)) 0 0 (va_A ((wdk t h0 a0 d0)) sz) := by
  refine kE (cc := cX1_placeOfEntry) (maxL := 2) (ret := (some .int)) (Qx := fun A => kQi D (TY t) ((wdk t h0 a0 d0)) r A) (lv0 := [(0, .ref h0), (1, .int p1)]) RX1 rfl (by decide) rfl (Nat.le_of_ble_eq_true rfl) rfl ?_
  intro p e s m args below meth c A ls hx hb hml hr hlocks hown hts hA hK hP hD hS hl
  have L35 := hts (.fieldLink RX1 35 "ChunkCarriers$Desk" "places" "[I") (List.mem_cons_of_mem _ w_61)
  have inX1_ : ∀ w ∈ wsX10, w ∈ wX1_placeOfEntry := fun w h => List.mem_cons_of_mem _ (inlX1 w h)
  have hP : va_P D vwCl ((wdkF t h0 a0 (dk_settings d0) (dk_numbers d0) (dk_capacities d0) (dk_firsts d0) (dk_containers d0) (dk_codes d0) (dk_places d0) (dk_uses d0) (dk_entries d0) (dk_references d0) (dk_lengths d0) (dk_nextNumber d0) (dk_carried d0))) s.heap := hP
  have hD : va_D A ((wdkF t h0 a0 (dk_settings d0) (dk_numbers d0) (dk_capacities d0) (dk_firsts d0) (dk_containers d0) (dk_codes d0) (dk_places d0) (dk_uses d0) (dk_entries d0) (dk_references d0) (dk_lengths d0) (dk_nextNumber d0) (dk_carried d0))) := hD
  refine lv_aload_n hx hb (kd tdlX1_placeOfEntry_0 0 rfl) rfl (lv_at hl 0 rfl) ?_
  refine lv_iload_n hx hb (kd tdlX1_placeOfEntry_0 1 rfl) rfl (lv_at hl 1 rfl) ?_
  obtain ⟨v2, e2, hF⟩ := kc hF
  refine kc_i0 (w1 := ((wdkF t h0 a0 (dk_settings d0) (dk_numbers d0) (dk_capacities d0) (dk_firsts d0) (dk_containers d0) (dk_codes d0) (dk_places d0) (dk_uses d0) (dk_entries d0) (dk_references d0) (dk_lengths d0) (dk_nextNumber d0) (dk_carried d0)))) hP hD hS hA (kr_V0 (Qx := (fun A => kQi D (TY t) ((wdkF t h0 a0 (dk_settings d0) (dk_numbers d0) (dk_capacities d0) (dk_firsts d0) (dk_containers d0) (dk_codes d0) (dk_places d0) (dk_uses d0) (dk_entries d0) (dk_references d0) (dk_lengths d0) (dk_nextNumber d0) (dk_carried d0))) v2 A)) (As := [.int p1]) (rest := []) ⟨hx, hb, hml, hown, hts⟩ hK hP hD (c_X1_hasEntry l D t h0 a0 d0 _ p1 v2 e2) (cwV 1 hts (gcX1_hasEntry w_169) rfl rfl rfl hdX1_hasEntryV ⟨Nat.le_of_ble_eq_true rfl, Nat.le_of_ble_eq_true rfl⟩) (ci := 1) (q0 := 0) rfl rfl rfl hl.1 rfl (Nat.le_of_ble_eq_true rfl) (kd tdlX1_placeOfEntry_0 2 rfl) ⟨Nat.zero_le _, Nat.zero_le _⟩) (fun H locs hP hD hS => ?_)
  refine lv_if_eq (tgt := 17) hx hb (kd tdlX1_placeOfEntry_0 3 rfl) (by decide) (fun hc5 => ?_) (fun hc5 => ?_)
  · have hF := kt hc5 hF
    refine lv_iconst (v := (-1)) hx hb (kd tdlX1_placeOfEntry_0 9 rfl) (by decide) ?_
    cases ko hF
    exact ke_i hx hb hr hlocks hK hP hD hS rfl (kd tdlX1_placeOfEntry_0 10 rfl)
  · have hF := kf hc5 hF
    refine lv_aload_n hx hb (kd tdlX1_placeOfEntry_0 4 rfl) rfl (lv_at hl 0 rfl) ?_
    refine dk_g_places hx hb hts inX1_ hown hK hP L35 (kd tdlX1_placeOfEntry_0 5 rfl) ?_
    refine lv_iload_n hx hb (kd tdlX1_placeOfEntry_0 6 rfl) rfl (lv_at hl 1 rfl) ?_
    obtain ⟨hi13, hF⟩ := kg hF
    refine dk_l_places hx hb hK hP hi13 (kd tdlX1_placeOfEntry_0 7 rfl) ?_
    refine lv_goto (tgt := 18) hx hb (kd tdlX1_placeOfEntry_0 8 rfl) (by decide) ?_
    cases ko hF
    exact ke_i hx hb hr hlocks hK hP hD hS rfl (kd tdlX1_placeOfEntry_0 10 rfl)
set_option maxHeartbeats 4000000 in
set_option maxRecDepth 100000 in
theorem c_X1_living (l : Launch) (D : va_G) (t : Nat → ClassId) (h0 : Nat) (a0 : Nat → Nat) (d0 : DKT) (sz : Nat)  (r : Int32) (hF : F_X1_living d0 = some r) : Met l yX1_living wX1_living ({ frames := 0, cells := 0, slots := 0, locals := 0 } : Room) (kPc D (TY t) ((wdk t h0 a0 d0)) [.ref h0] sz) (kQi D (TY t) ((wdk t h0 a0 d0)) r (va_A ((wdk t h0 a0 d0)) sz)) 0 0 (va_A ((wdk t h0 a0 d0)) sz) := by
  refine kE (cc := cX1_living) (maxL := 3) (ret := (some .int)) (Qx := fun A => kQi D (TY t) ((wdk t h0 a0 d0)) r A) (lv0 := [(0, .ref h0)]) RX1 rfl (by decide) rfl (Nat.le_of_ble_eq_true rfl) rfl ?_
  intro p e s m args below meth c A ls hx hb hml hr hlocks hown hts hA hK hP hD hS hl
  have L38 := hts (.fieldLink RX1 38 "ChunkCarriers$Desk" "uses" "[I") (List.mem_cons_of_mem _ w_62)
  have L57 := hts (.fieldLink RX1 57 "ChunkCarriers$Desk" "entries" "I") (List.mem_cons_of_mem _ w_109)
  have inX1_ : ∀ w ∈ wsX10, w ∈ wX1_living := fun w h => List.mem_cons_of_mem _ (inlX1 w h)
  have hP : va_P D vwCl ((wdkF t h0 a0 (dk_settings d0) (dk_numbers d0) (dk_capacities d0) (dk_firsts d0) (dk_containers d0) (dk_codes d0) (dk_places d0) (dk_uses d0) (dk_entries d0) (dk_references d0) (dk_lengths d0) (dk_nextNumber d0) (dk_carried d0))) s.heap := hP
  have hD : va_D A ((wdkF t h0 a0 (dk_settings d0) (dk_numbers d0) (dk_capacities d0) (dk_firsts d0) (dk_containers d0) (dk_codes d0) (dk_places d0) (dk_uses d0) (dk_entries d0) (dk_references d0) (dk_lengths d0) (dk_nextNumber d0) (dk_carried d0))) := hD
  refine lv_iconst (v := 0) hx hb (kd tdlX1_living_0 0 rfl) (by decide) ?_
  refine lv_istore_n (lv' := [(1, .int 0), (0, .ref h0)]) hx hb (kd tdlX1_living_0 1 rfl) rfl hl (by decide) rfl (fun ls hl => ?_)
  refine lv_iconst (v := 0) hx hb (kd tdlX1_living_0 2 rfl) (by decide) ?_
  refine lv_istore_n (lv' := [(2, .int 0), (1, .int 0), (0, .ref h0)]) hx hb (kd tdlX1_living_0 3 rfl) rfl hl (by decide) rfl (fun ls hl => ?_)
  refine lp_ind (f := B_X1_living_4 d0) (r := r) (P := fun s4_ => ∀ (H : Heap) (locs : List Loc) (ls : Array Slot), va_P D vwCl ((wdkF t h0 a0 (dk_settings d0) (dk_numbers d0) (dk_capacities d0) (dk_firsts d0) (dk_containers d0) (dk_codes d0) (dk_places d0) (dk_uses d0) (dk_entries d0) (dk_references d0) (dk_lengths d0) (dk_nextNumber d0) (dk_carried d0))) H → va_D A ((wdkF t h0 a0 (dk_settings d0) (dk_numbers d0) (dk_capacities d0) (dk_firsts d0) (dk_containers d0) (dk_codes d0) (dk_places d0) (dk_uses d0) (dk_entries d0) (dk_references d0) (dk_lengths d0) (dk_nextNumber d0) (dk_carried d0))) → va_S A s.heap H locs → lv_has ls 3 [(0, .ref h0), (1, .int s4_.1), (2, .int s4_.2)] → W p l e ({ frames := 0, cells := 0, slots := 0, locals := 0 } : Room) s m args below meth c H locs 0 0 (MQ below (kQi D (TY t) ((wdk t h0 a0 d0)) r A) args s 0 0 A) (F0 m 4 ls [])) ?_ FU (0, 0) hF _ _ _ hP hD hS (lv_sub hl [2, 1, 0] rfl)
  intro self4 ih4 s4_ hF H locs ls hP hD hS hl
  refine lv_iload_n hx hb (kd tdlX1_living_0 4 rfl) rfl (lv_at hl 2 rfl) ?_
  refine lv_aload_n hx hb (kd tdlX1_living_0 5 rfl) rfl (lv_at hl 0 rfl) ?_
  refine dk_g_entries hx hb hts inX1_ hown hK hP L57 (kd tdlX1_living_0 6 rfl) ?_
  refine lv_icmp_ge (tgt := 30) hx hb (kd tdlX1_living_0 7 rfl) (by decide) (fun hc9 => ?_) (fun hc9 => ?_)
  · have hF := kt hc9 hF
    refine lv_iload_n hx hb (kd tdlX1_living_0 16 rfl) rfl (lv_at hl 1 rfl) ?_
    cases ko hF
    exact ke_i hx hb hr hlocks hK hP hD hS rfl (kd tdlX1_living_0 17 rfl)
  · have hF := kf hc9 hF
    refine lv_aload_n hx hb (kd tdlX1_living_0 8 rfl) rfl (lv_at hl 0 rfl) ?_
    refine dk_g_uses hx hb hts inX1_ hown hK hP L38 (kd tdlX1_living_0 9 rfl) ?_
    refine lv_iload_n hx hb (kd tdlX1_living_0 10 rfl) rfl (lv_at hl 2 rfl) ?_
    obtain ⟨hi17, hF⟩ := kg hF
    refine dk_l_uses hx hb hK hP hi17 (kd tdlX1_living_0 11 rfl) ?_
    refine lv_if_le (tgt := 24) hx hb (kd tdlX1_living_0 12 rfl) (by decide) (fun hc18 => ?_) (fun hc18 => ?_)
    · have hF := kt hc18 hF
      refine lv_iinc (v := (s4_.2 + 1)) (lv' := [(2, .int (s4_.2 + 1)), (0, .ref h0), (1, .int s4_.1)]) hx hb (kd tdlX1_living_0 14 rfl) hl (k := 2) rfl rfl (by decide) rfl (fun ls hl => ?_)
      refine lv_goto (tgt := 4) hx hb (kd tdlX1_living_0 15 rfl) (by decide) ?_
      exact ih4 (s4_.1, (s4_.2 + 1)) hF _ _ _ hP hD hS (lv_sub hl [1, 2, 0] rfl)
    · have hF := kf hc18 hF
      refine lv_iinc (v := (s4_.1 + 1)) (lv' := [(1, .int (s4_.1 + 1)), (0, .ref h0), (2, .int s4_.2)]) hx hb (kd tdlX1_living_0 13 rfl) hl (k := 1) rfl rfl (by decide) rfl (fun ls hl => ?_)
      refine lv_iinc (v := (s4_.2 + 1)) (lv' := [(2, .int (s4_.2 + 1)), (1, .int (s4_.1 + 1)), (0, .ref h0)]) hx hb (kd tdlX1_living_0 14 rfl) hl (k := 2) rfl rfl (by decide) rfl (fun ls hl => ?_)
      refine lv_goto (tgt := 4) hx hb (kd tdlX1_living_0 15 rfl) (by decide) ?_
      exact ih4 ((s4_.1 + 1), (s4_.2 + 1)) hF _ _ _ hP hD hS (lv_sub hl [2, 1, 0] rfl)
set_option maxHeartbeats 4000000 in
set_option maxRecDepth 100000 in
theorem c_X1_firstFrom (l : Launch) (D : va_G) (t : Nat → ClassId) (h0 : Nat) (a0 : Nat → Nat) (d0 : DKT) (sz : Nat) (p1 : Int32) (p2 : Int32) (r : Int32) (hF : F_X1_firstFrom d0 p1 p2 = some r) : Met l yX1_firstFrom wX1_firstFrom ({ frames := 1, cells := 0, slots := 0, locals := 21 } : Room) (kPc D (TY t) ((wdk t h0 a0 d0)) [.ref h0, .int p1, .int p2] sz) (kQi D (TY t) ((wdk t h0 a0 d0)) r (va_A ((wdk t h0 a0 d0)) sz)) 0 0 (va_A ((wdk t h0 a0 d0)) sz) := by
  refine kE (cc := cX1_firstFrom) (maxL := 4) (ret := (some .int)) (Qx := fun A => kQi D (TY t) ((wdk t h0 a0 d0)) r A) (lv0 := [(0, .ref h0), (1, .int p1), (2, .int p2)]) RX1 rfl (by decide) rfl (Nat.le_of_ble_eq_true rfl) rfl ?_
  intro p e s m args below meth c A ls hx hb hml hr hlocks hown hts hA hK hP hD hS hl
  have L32 := hts (.fieldLink RX1 32 "ChunkCarriers$Desk" "codes" "[I") (List.mem_cons_of_mem _ w_60)
  have L57 := hts (.fieldLink RX1 57 "ChunkCarriers$Desk" "entries" "I") (List.mem_cons_of_mem _ w_109)
  have inX1_ : ∀ w ∈ wsX10, w ∈ wX1_firstFrom := fun w h => List.mem_cons_of_mem _ (inlX1 w h)
  have hP : va_P D vwCl ((wdkF t h0 a0 (dk_settings d0) (dk_numbers d0) (dk_capacities d0) (dk_firsts d0) (dk_containers d0) (dk_codes d0) (dk_places d0) (dk_uses d0) (dk_entries d0) (dk_references d0) (dk_lengths d0) (dk_nextNumber d0) (dk_carried d0))) s.heap := hP
  have hD : va_D A ((wdkF t h0 a0 (dk_settings d0) (dk_numbers d0) (dk_capacities d0) (dk_firsts d0) (dk_containers d0) (dk_codes d0) (dk_places d0) (dk_uses d0) (dk_entries d0) (dk_references d0) (dk_lengths d0) (dk_nextNumber d0) (dk_carried d0))) := hD
  refine lv_iconst (v := 0) hx hb (kd tdlX1_firstFrom_0 0 rfl) (by decide) ?_
  refine lv_iload_n hx hb (kd tdlX1_firstFrom_0 1 rfl) rfl (lv_at hl 2 rfl) ?_
  refine kmmmax hx hb (hml.trans hl.1.symm) hown hts (index := 112) w_145 (Nat.zero_le _) (Nat.zero_le _) (Nat.le_of_ble_eq_true rfl) (Nat.le_of_ble_eq_true rfl) (kd tdlX1_firstFrom_0 2 rfl) ?_
  refine lv_istore_n (lv' := [(3, .int (MMAX 0 p2)), (0, .ref h0), (1, .int p1), (2, .int p2)]) hx hb (kd tdlX1_firstFrom_0 3 rfl) rfl hl (by decide) rfl (fun ls hl => ?_)
  refine lp_ind (f := B_X1_firstFrom_6 d0 p1) (r := r) (P := fun s6_ => ∀ (H : Heap) (locs : List Loc) (ls : Array Slot), va_P D vwCl ((wdkF t h0 a0 (dk_settings d0) (dk_numbers d0) (dk_capacities d0) (dk_firsts d0) (dk_containers d0) (dk_codes d0) (dk_places d0) (dk_uses d0) (dk_entries d0) (dk_references d0) (dk_lengths d0) (dk_nextNumber d0) (dk_carried d0))) H → va_D A ((wdkF t h0 a0 (dk_settings d0) (dk_numbers d0) (dk_capacities d0) (dk_firsts d0) (dk_containers d0) (dk_codes d0) (dk_places d0) (dk_uses d0) (dk_entries d0) (dk_references d0) (dk_lengths d0) (dk_nextNumber d0) (dk_carried d0))) → va_S A s.heap H locs → lv_has ls 4 [(0, .ref h0), (1, .int p1), (3, .int s6_)] → W p l e ({ frames := 1, cells := 0, slots := 0, locals := 21 } : Room) s m args below meth c H locs 0 0 (MQ below (kQi D (TY t) ((wdk t h0 a0 d0)) r A) args s 0 0 A) (F0 m 6 ls [])) ?_ FU ((MMAX 0 p2)) hF _ _ _ hP hD hS (lv_sub hl [1, 2, 0] rfl)
  intro self6 ih6 s6_ hF H locs ls hP hD hS hl
  refine lv_iload_n hx hb (kd tdlX1_firstFrom_0 4 rfl) rfl (lv_at hl 2 rfl) ?_
  refine lv_aload_n hx hb (kd tdlX1_firstFrom_0 5 rfl) rfl (lv_at hl 0 rfl) ?_
  refine dk_g_entries hx hb hts inX1_ hown hK hP L57 (kd tdlX1_firstFrom_0 6 rfl) ?_
  refine lv_icmp_ge (tgt := 32) hx hb (kd tdlX1_firstFrom_0 7 rfl) (by decide) (fun hc11 => ?_) (fun hc11 => ?_)
  · have hF := kt hc11 hF
    refine lv_iconst (v := (-1)) hx hb (kd tdlX1_firstFrom_0 18 rfl) (by decide) ?_
    cases ko hF
    exact ke_i hx hb hr hlocks hK hP hD hS rfl (kd tdlX1_firstFrom_0 19 rfl)
  · have hF := kf hc11 hF
    refine lv_aload_n hx hb (kd tdlX1_firstFrom_0 8 rfl) rfl (lv_at hl 0 rfl) ?_
    refine dk_g_codes hx hb hts inX1_ hown hK hP L32 (kd tdlX1_firstFrom_0 9 rfl) ?_
    refine lv_iload_n hx hb (kd tdlX1_firstFrom_0 10 rfl) rfl (lv_at hl 2 rfl) ?_
    obtain ⟨hi19, hF⟩ := kg hF
    refine dk_l_codes hx hb hK hP hi19 (kd tdlX1_firstFrom_0 11 rfl) ?_
    refine lv_iload_n hx hb (kd tdlX1_firstFrom_0 12 rfl) rfl (lv_at hl 1 rfl) ?_
    refine lv_icmp_ne (tgt := 26) hx hb (kd tdlX1_firstFrom_0 13 rfl) (by decide) (fun hc21 => ?_) (fun hc21 => ?_)
    · have hF := kf hc21 hF
      refine lv_iinc (v := (s6_ + 1)) (lv' := [(3, .int (s6_ + 1)), (0, .ref h0), (1, .int p1)]) hx hb (kd tdlX1_firstFrom_0 16 rfl) hl (k := 2) rfl rfl (by decide) rfl (fun ls hl => ?_)
      refine lv_goto (tgt := 6) hx hb (kd tdlX1_firstFrom_0 17 rfl) (by decide) ?_
      exact ih6 ((s6_ + 1)) hF _ _ _ hP hD hS (lv_sub hl [1, 2, 0] rfl)
    · have hF := kt hc21 hF
      refine lv_iload_n hx hb (kd tdlX1_firstFrom_0 14 rfl) rfl (lv_at hl 2 rfl) ?_
      cases ko hF
      exact ke_i hx hb hr hlocks hK hP hD hS rfl (kd tdlX1_firstFrom_0 15 rfl)
set_option maxHeartbeats 4000000 in
set_option maxRecDepth 100000 in
theorem c_X1_unlikeChunks (l : Launch) (D : va_G) (t : Nat → ClassId) (h0 : Nat) (a0 : Nat → Nat) (d0 : DKT) (sz : Nat)  (r : Int32) (hF : F_X1_unlikeChunks d0 = some r) : Met l yX1_unlikeChunks wX1_unlikeChunks ({ frames := 2, cells := 0, slots := 0, locals := 44 } : Room) (kPc D (TY t) ((wdk t h0 a0 d0)) [.ref h0] sz) (kQi D (TY t) ((wdk t h0 a0 d0)) r (va_A ((wdk t h0 a0 d0)) sz)) 0 0 (va_A ((wdk t h0 a0 d0)) sz) := by
  refine kE (cc := cX1_unlikeChunks) (maxL := 3) (ret := (some .int)) (Qx := fun A => kQi D (TY t) ((wdk t h0 a0 d0)) r A) (lv0 := [(0, .ref h0)]) RX1 rfl (by decide) rfl (Nat.le_of_ble_eq_true rfl) rfl ?_
  intro p e s m args below meth c A ls hx hb hml hr hlocks hown hts hA hK hP hD hS hl
  have L32 := hts (.fieldLink RX1 32 "ChunkCarriers$Desk" "codes" "[I") (List.mem_cons_of_mem _ w_60)
  have L57 := hts (.fieldLink RX1 57 "ChunkCarriers$Desk" "entries" "I") (List.mem_cons_of_mem _ w_109)
  have inX1_ : ∀ w ∈ wsX10, w ∈ wX1_unlikeChunks := fun w h => List.mem_cons_of_mem _ (inlX1 w h)
  have hP : va_P D vwCl ((wdkF t h0 a0 (dk_settings d0) (dk_numbers d0) (dk_capacities d0) (dk_firsts d0) (dk_containers d0) (dk_codes d0) (dk_places d0) (dk_uses d0) (dk_entries d0) (dk_references d0) (dk_lengths d0) (dk_nextNumber d0) (dk_carried d0))) s.heap := hP
  have hD : va_D A ((wdkF t h0 a0 (dk_settings d0) (dk_numbers d0) (dk_capacities d0) (dk_firsts d0) (dk_containers d0) (dk_codes d0) (dk_places d0) (dk_uses d0) (dk_entries d0) (dk_references d0) (dk_lengths d0) (dk_nextNumber d0) (dk_carried d0))) := hD
  refine lv_iconst (v := 0) hx hb (kd tdlX1_unlikeChunks_0 0 rfl) (by decide) ?_
  refine lv_istore_n (lv' := [(1, .int 0), (0, .ref h0)]) hx hb (kd tdlX1_unlikeChunks_0 1 rfl) rfl hl (by decide) rfl (fun ls hl => ?_)
  refine lv_iconst (v := 0) hx hb (kd tdlX1_unlikeChunks_0 2 rfl) (by decide) ?_
  refine lv_istore_n (lv' := [(2, .int 0), (1, .int 0), (0, .ref h0)]) hx hb (kd tdlX1_unlikeChunks_0 3 rfl) rfl hl (by decide) rfl (fun ls hl => ?_)
  refine lp_ind (f := B_X1_unlikeChunks_4 d0) (r := r) (P := fun s4_ => ∀ (H : Heap) (locs : List Loc) (ls : Array Slot), va_P D vwCl ((wdkF t h0 a0 (dk_settings d0) (dk_numbers d0) (dk_capacities d0) (dk_firsts d0) (dk_containers d0) (dk_codes d0) (dk_places d0) (dk_uses d0) (dk_entries d0) (dk_references d0) (dk_lengths d0) (dk_nextNumber d0) (dk_carried d0))) H → va_D A ((wdkF t h0 a0 (dk_settings d0) (dk_numbers d0) (dk_capacities d0) (dk_firsts d0) (dk_containers d0) (dk_codes d0) (dk_places d0) (dk_uses d0) (dk_entries d0) (dk_references d0) (dk_lengths d0) (dk_nextNumber d0) (dk_carried d0))) → va_S A s.heap H locs → lv_has ls 3 [(0, .ref h0), (1, .int s4_.1), (2, .int s4_.2)] → W p l e ({ frames := 2, cells := 0, slots := 0, locals := 44 } : Room) s m args below meth c H locs 0 0 (MQ below (kQi D (TY t) ((wdk t h0 a0 d0)) r A) args s 0 0 A) (F0 m 4 ls [])) ?_ FU (0, 0) hF _ _ _ hP hD hS (lv_sub hl [2, 1, 0] rfl)
  intro self4 ih4 s4_ hF H locs ls hP hD hS hl
  refine lv_iload_n hx hb (kd tdlX1_unlikeChunks_0 4 rfl) rfl (lv_at hl 2 rfl) ?_
  refine lv_aload_n hx hb (kd tdlX1_unlikeChunks_0 5 rfl) rfl (lv_at hl 0 rfl) ?_
  refine dk_g_entries hx hb hts inX1_ hown hK hP L57 (kd tdlX1_unlikeChunks_0 6 rfl) ?_
  refine lv_icmp_ge (tgt := 36) hx hb (kd tdlX1_unlikeChunks_0 7 rfl) (by decide) (fun hc9 => ?_) (fun hc9 => ?_)
  · have hF := kt hc9 hF
    refine lv_iload_n hx hb (kd tdlX1_unlikeChunks_0 20 rfl) rfl (lv_at hl 1 rfl) ?_
    cases ko hF
    exact ke_i hx hb hr hlocks hK hP hD hS rfl (kd tdlX1_unlikeChunks_0 21 rfl)
  · have hF := kf hc9 hF
    refine lv_aload_n hx hb (kd tdlX1_unlikeChunks_0 8 rfl) rfl (lv_at hl 0 rfl) ?_
    refine lv_aload_n hx hb (kd tdlX1_unlikeChunks_0 9 rfl) rfl (lv_at hl 0 rfl) ?_
    refine dk_g_codes hx hb hts inX1_ hown hK hP L32 (kd tdlX1_unlikeChunks_0 10 rfl) ?_
    refine lv_iload_n hx hb (kd tdlX1_unlikeChunks_0 11 rfl) rfl (lv_at hl 2 rfl) ?_
    obtain ⟨hi18, hF⟩ := kg hF
    refine dk_l_codes hx hb hK hP hi18 (kd tdlX1_unlikeChunks_0 12 rfl) ?_
    refine lv_iconst (v := 0) hx hb (kd tdlX1_unlikeChunks_0 13 rfl) (by decide) ?_
    obtain ⟨v20, e20, hF⟩ := kc hF
    refine kc_i0 (w1 := ((wdkF t h0 a0 (dk_settings d0) (dk_numbers d0) (dk_capacities d0) (dk_firsts d0) (dk_containers d0) (dk_codes d0) (dk_places d0) (dk_uses d0) (dk_entries d0) (dk_references d0) (dk_lengths d0) (dk_nextNumber d0) (dk_carried d0)))) hP hD hS hA (kr_V0 (Qx := (fun A => kQi D (TY t) ((wdkF t h0 a0 (dk_settings d0) (dk_numbers d0) (dk_capacities d0) (dk_firsts d0) (dk_containers d0) (dk_codes d0) (dk_places d0) (dk_uses d0) (dk_entries d0) (dk_references d0) (dk_lengths d0) (dk_nextNumber d0) (dk_carried d0))) v20 A)) (As := [.int ((dk_codes d0) (Int32.toNatClampNeg s4_.2)), .int 0]) (rest := []) ⟨hx, hb, hml, hown, hts⟩ hK hP hD (c_X1_firstFrom l D t h0 a0 d0 _ ((dk_codes d0) (Int32.toNatClampNeg s4_.2)) 0 v20 e20) (cwV 2 hts (gcX1_firstFrom w_141) rfl rfl rfl hdX1_firstFromV ⟨Nat.le_of_ble_eq_true rfl, Nat.le_of_ble_eq_true rfl⟩) (ci := 1) (q0 := 0) rfl rfl rfl hl.1 rfl (Nat.le_of_ble_eq_true rfl) (kd tdlX1_unlikeChunks_0 14 rfl) ⟨Nat.zero_le _, Nat.zero_le _⟩) (fun H locs hP hD hS => ?_)
    refine lv_iload_n hx hb (kd tdlX1_unlikeChunks_0 15 rfl) rfl (lv_at hl 2 rfl) ?_
    refine lv_icmp_ne (tgt := 30) hx hb (kd tdlX1_unlikeChunks_0 16 rfl) (by decide) (fun hc24 => ?_) (fun hc24 => ?_)
    · have hF := kf hc24 hF
      refine lv_iinc (v := (s4_.2 + 1)) (lv' := [(2, .int (s4_.2 + 1)), (0, .ref h0), (1, .int s4_.1)]) hx hb (kd tdlX1_unlikeChunks_0 18 rfl) hl (k := 2) rfl rfl (by decide) rfl (fun ls hl => ?_)
      refine lv_goto (tgt := 4) hx hb (kd tdlX1_unlikeChunks_0 19 rfl) (by decide) ?_
      exact ih4 (s4_.1, (s4_.2 + 1)) hF _ _ _ hP hD hS (lv_sub hl [1, 2, 0] rfl)
    · have hF := kt hc24 hF
      refine lv_iinc (v := (s4_.1 + 1)) (lv' := [(1, .int (s4_.1 + 1)), (0, .ref h0), (2, .int s4_.2)]) hx hb (kd tdlX1_unlikeChunks_0 17 rfl) hl (k := 1) rfl rfl (by decide) rfl (fun ls hl => ?_)
      refine lv_iinc (v := (s4_.2 + 1)) (lv' := [(2, .int (s4_.2 + 1)), (1, .int (s4_.1 + 1)), (0, .ref h0)]) hx hb (kd tdlX1_unlikeChunks_0 18 rfl) hl (k := 2) rfl rfl (by decide) rfl (fun ls hl => ?_)
      refine lv_goto (tgt := 4) hx hb (kd tdlX1_unlikeChunks_0 19 rfl) (by decide) ?_
      exact ih4 ((s4_.1 + 1), (s4_.2 + 1)) hF _ _ _ hP hD hS (lv_sub hl [2, 1, 0] rfl)
set_option maxHeartbeats 4000000 in
set_option maxRecDepth 100000 in
theorem c_X1_allLetters (l : Launch) (D : va_G) (t : Nat → ClassId) (h0 : Nat) (a0 : Nat → Nat) (d0 : DKT) (sz : Nat)  (r : Int32) (hF : F_X1_allLetters d0 = some r) : Met l yX1_allLetters wX1_allLetters ({ frames := 1, cells := 0, slots := 0, locals := 22 } : Room) (kPc D (TY t) ((wdk t h0 a0 d0)) [.ref h0] sz) (kQi D (TY t) ((wdk t h0 a0 d0)) r (va_A ((wdk t h0 a0 d0)) sz)) 0 0 (va_A ((wdk t h0 a0 d0)) sz) := by
  refine kE (cc := cX1_allLetters) (maxL := 3) (ret := (some .int)) (Qx := fun A => kQi D (TY t) ((wdk t h0 a0 d0)) r A) (lv0 := [(0, .ref h0)]) RX1 rfl (by decide) rfl (Nat.le_of_ble_eq_true rfl) rfl ?_
  intro p e s m args below meth c A ls hx hb hml hr hlocks hown hts hA hK hP hD hS hl
  have L32 := hts (.fieldLink RX1 32 "ChunkCarriers$Desk" "codes" "[I") (List.mem_cons_of_mem _ w_60)
  have L57 := hts (.fieldLink RX1 57 "ChunkCarriers$Desk" "entries" "I") (List.mem_cons_of_mem _ w_109)
  have inX1_ : ∀ w ∈ wsX10, w ∈ wX1_allLetters := fun w h => List.mem_cons_of_mem _ (inlX1 w h)
  have hP : va_P D vwCl ((wdkF t h0 a0 (dk_settings d0) (dk_numbers d0) (dk_capacities d0) (dk_firsts d0) (dk_containers d0) (dk_codes d0) (dk_places d0) (dk_uses d0) (dk_entries d0) (dk_references d0) (dk_lengths d0) (dk_nextNumber d0) (dk_carried d0))) s.heap := hP
  have hD : va_D A ((wdkF t h0 a0 (dk_settings d0) (dk_numbers d0) (dk_capacities d0) (dk_firsts d0) (dk_containers d0) (dk_codes d0) (dk_places d0) (dk_uses d0) (dk_entries d0) (dk_references d0) (dk_lengths d0) (dk_nextNumber d0) (dk_carried d0))) := hD
  refine lv_iconst (v := 0) hx hb (kd tdlX1_allLetters_0 0 rfl) (by decide) ?_
  refine lv_istore_n (lv' := [(1, .int 0), (0, .ref h0)]) hx hb (kd tdlX1_allLetters_0 1 rfl) rfl hl (by decide) rfl (fun ls hl => ?_)
  refine lv_iconst (v := 0) hx hb (kd tdlX1_allLetters_0 2 rfl) (by decide) ?_
  refine lv_istore_n (lv' := [(2, .int 0), (1, .int 0), (0, .ref h0)]) hx hb (kd tdlX1_allLetters_0 3 rfl) rfl hl (by decide) rfl (fun ls hl => ?_)
  refine lp_ind (f := B_X1_allLetters_4 d0) (r := r) (P := fun s4_ => ∀ (H : Heap) (locs : List Loc) (ls : Array Slot), va_P D vwCl ((wdkF t h0 a0 (dk_settings d0) (dk_numbers d0) (dk_capacities d0) (dk_firsts d0) (dk_containers d0) (dk_codes d0) (dk_places d0) (dk_uses d0) (dk_entries d0) (dk_references d0) (dk_lengths d0) (dk_nextNumber d0) (dk_carried d0))) H → va_D A ((wdkF t h0 a0 (dk_settings d0) (dk_numbers d0) (dk_capacities d0) (dk_firsts d0) (dk_containers d0) (dk_codes d0) (dk_places d0) (dk_uses d0) (dk_entries d0) (dk_references d0) (dk_lengths d0) (dk_nextNumber d0) (dk_carried d0))) → va_S A s.heap H locs → lv_has ls 3 [(0, .ref h0), (1, .int s4_.1), (2, .int s4_.2)] → W p l e ({ frames := 1, cells := 0, slots := 0, locals := 22 } : Room) s m args below meth c H locs 0 0 (MQ below (kQi D (TY t) ((wdk t h0 a0 d0)) r A) args s 0 0 A) (F0 m 4 ls [])) ?_ FU (0, 0) hF _ _ _ hP hD hS (lv_sub hl [2, 1, 0] rfl)
  intro self4 ih4 s4_ hF H locs ls hP hD hS hl
  refine lv_iload_n hx hb (kd tdlX1_allLetters_0 4 rfl) rfl (lv_at hl 2 rfl) ?_
  refine lv_aload_n hx hb (kd tdlX1_allLetters_0 5 rfl) rfl (lv_at hl 0 rfl) ?_
  refine dk_g_entries hx hb hts inX1_ hown hK hP L57 (kd tdlX1_allLetters_0 6 rfl) ?_
  refine lv_icmp_ge (tgt := 30) hx hb (kd tdlX1_allLetters_0 7 rfl) (by decide) (fun hc9 => ?_) (fun hc9 => ?_)
  · have hF := kt hc9 hF
    refine lv_iload_n hx hb (kd tdlX1_allLetters_0 18 rfl) rfl (lv_at hl 1 rfl) ?_
    cases ko hF
    exact ke_i hx hb hr hlocks hK hP hD hS rfl (kd tdlX1_allLetters_0 19 rfl)
  · have hF := kf hc9 hF
    refine lv_iload_n hx hb (kd tdlX1_allLetters_0 8 rfl) rfl (lv_at hl 1 rfl) ?_
    refine lv_aload_n hx hb (kd tdlX1_allLetters_0 9 rfl) rfl (lv_at hl 0 rfl) ?_
    refine dk_g_codes hx hb hts inX1_ hown hK hP L32 (kd tdlX1_allLetters_0 10 rfl) ?_
    refine lv_iload_n hx hb (kd tdlX1_allLetters_0 11 rfl) rfl (lv_at hl 2 rfl) ?_
    obtain ⟨hi18, hF⟩ := kg hF
    refine dk_l_codes hx hb hK hP hi18 (kd tdlX1_allLetters_0 12 rfl) ?_
    obtain ⟨v19, e19, hF⟩ := kc hF
    refine kc_iR hK hP hD hS hA [] rfl (kr_S (Qx := (fun A => kQi D (TY t) ([] : va_W) v19 A)) (wc := ([] : va_W)) (As := [.int ((dk_codes d0) (Int32.toNatClampNeg s4_.2))]) (rest := [.int s4_.1]) ⟨hx, hb, hml, hown, hts⟩ hK hP hD [] nd_ rfl (c_X2_count l D t  _ ((dk_codes d0) (Int32.toNatClampNeg s4_.2)) v19 e19) (va_cwS 1 hts (gcX2_count w_185) rfl rfl rfl hdX2_countS ⟨Nat.le_of_ble_eq_true rfl, Nat.le_of_ble_eq_true rfl⟩) rfl hl.1 rfl (Nat.le_of_ble_eq_true rfl) (kd tdlX1_allLetters_0 13 rfl) ⟨Nat.zero_le _, Nat.zero_le _⟩) (fun H locs hP hS => ?_)
    refine lv_iadd hx hb (kd tdlX1_allLetters_0 14 rfl) ?_
    refine lv_istore_n (lv' := [(1, .int (s4_.1 + v19)), (0, .ref h0), (2, .int s4_.2)]) hx hb (kd tdlX1_allLetters_0 15 rfl) rfl hl (by decide) rfl (fun ls hl => ?_)
    refine lv_iinc (v := (s4_.2 + 1)) (lv' := [(2, .int (s4_.2 + 1)), (1, .int (s4_.1 + v19)), (0, .ref h0)]) hx hb (kd tdlX1_allLetters_0 16 rfl) hl (k := 2) rfl rfl (by decide) rfl (fun ls hl => ?_)
    refine lv_goto (tgt := 4) hx hb (kd tdlX1_allLetters_0 17 rfl) (by decide) ?_
    exact ih4 ((s4_.1 + v19), (s4_.2 + 1)) hF _ _ _ hP hD hS (lv_sub hl [2, 1, 0] rfl)
set_option maxHeartbeats 4000000 in
set_option maxRecDepth 100000 in
theorem c_X1_homeOf (l : Launch) (D : va_G) (t : Nat → ClassId) (h0 : Nat) (a0 : Nat → Nat) (d0 : DKT) (sz : Nat) (p1 : Int32) (r : Int32) (hF : F_X1_homeOf d0 p1 = some r) : Met l yX1_homeOf wX1_homeOf ({ frames := 0, cells := 0, slots := 0, locals := 0 } : Room) (kPc D (TY t) ((wdk t h0 a0 d0)) [.ref h0, .int p1] sz) (kQi D (TY t) ((wdk t h0 a0 d0)) r (va_A ((wdk t h0 a0 d0)) sz)) 0 0 (va_A ((wdk t h0 a0 d0)) sz) := by
  refine kE (cc := cX1_homeOf) (maxL := 3) (ret := (some .int)) (Qx := fun A => kQi D (TY t) ((wdk t h0 a0 d0)) r A) (lv0 := [(0, .ref h0), (1, .int p1)]) RX1 rfl (by decide) rfl (Nat.le_of_ble_eq_true rfl) rfl ?_
  intro p e s m args below meth c A ls hx hb hml hr hlocks hown hts hA hK hP hD hS hl
  have L32 := hts (.fieldLink RX1 32 "ChunkCarriers$Desk" "codes" "[I") (List.mem_cons_of_mem _ w_60)
  have L35 := hts (.fieldLink RX1 35 "ChunkCarriers$Desk" "places" "[I") (List.mem_cons_of_mem _ w_61)
  have L57 := hts (.fieldLink RX1 57 "ChunkCarriers$Desk" "entries" "I") (List.mem_cons_of_mem _ w_109)
  have inX1_ : ∀ w ∈ wsX10, w ∈ wX1_homeOf := fun w h => List.mem_cons_of_mem _ (inlX1 w h)
  have hP : va_P D vwCl ((wdkF t h0 a0 (dk_settings d0) (dk_numbers d0) (dk_capacities d0) (dk_firsts d0) (dk_containers d0) (dk_codes d0) (dk_places d0) (dk_uses d0) (dk_entries d0) (dk_references d0) (dk_lengths d0) (dk_nextNumber d0) (dk_carried d0))) s.heap := hP
  have hD : va_D A ((wdkF t h0 a0 (dk_settings d0) (dk_numbers d0) (dk_capacities d0) (dk_firsts d0) (dk_containers d0) (dk_codes d0) (dk_places d0) (dk_uses d0) (dk_entries d0) (dk_references d0) (dk_lengths d0) (dk_nextNumber d0) (dk_carried d0))) := hD
  refine lv_aload_n hx hb (kd tdlX1_homeOf_0 0 rfl) rfl (lv_at hl 0 rfl) ?_
  refine dk_g_entries hx hb hts inX1_ hown hK hP L57 (kd tdlX1_homeOf_0 1 rfl) ?_
  refine lv_iconst (v := 1) hx hb (kd tdlX1_homeOf_0 2 rfl) (by decide) ?_
  refine lv_isub hx hb (kd tdlX1_homeOf_0 3 rfl) ?_
  refine lv_istore_n (lv' := [(2, .int ((dk_entries d0) - 1)), (0, .ref h0), (1, .int p1)]) hx hb (kd tdlX1_homeOf_0 4 rfl) rfl hl (by decide) rfl (fun ls hl => ?_)
  refine lp_ind (f := B_X1_homeOf_7 d0 p1) (r := r) (P := fun s7_ => ∀ (H : Heap) (locs : List Loc) (ls : Array Slot), va_P D vwCl ((wdkF t h0 a0 (dk_settings d0) (dk_numbers d0) (dk_capacities d0) (dk_firsts d0) (dk_containers d0) (dk_codes d0) (dk_places d0) (dk_uses d0) (dk_entries d0) (dk_references d0) (dk_lengths d0) (dk_nextNumber d0) (dk_carried d0))) H → va_D A ((wdkF t h0 a0 (dk_settings d0) (dk_numbers d0) (dk_capacities d0) (dk_firsts d0) (dk_containers d0) (dk_codes d0) (dk_places d0) (dk_uses d0) (dk_entries d0) (dk_references d0) (dk_lengths d0) (dk_nextNumber d0) (dk_carried d0))) → va_S A s.heap H locs → lv_has ls 3 [(0, .ref h0), (1, .int p1), (2, .int s7_)] → W p l e ({ frames := 0, cells := 0, slots := 0, locals := 0 } : Room) s m args below meth c H locs 0 0 (MQ below (kQi D (TY t) ((wdk t h0 a0 d0)) r A) args s 0 0 A) (F0 m 7 ls [])) ?_ FU (((dk_entries d0) - 1)) hF _ _ _ hP hD hS (lv_sub hl [1, 2, 0] rfl)
  intro self7 ih7 s7_ hF H locs ls hP hD hS hl
  refine lv_iload_n hx hb (kd tdlX1_homeOf_0 5 rfl) rfl (lv_at hl 2 rfl) ?_
  refine lv_if_lt (tgt := 34) hx hb (kd tdlX1_homeOf_0 6 rfl) (by decide) (fun hc8 => ?_) (fun hc8 => ?_)
  · have hF := kt hc8 hF
    refine lv_iconst (v := (-1)) hx hb (kd tdlX1_homeOf_0 20 rfl) (by decide) ?_
    cases ko hF
    exact ke_i hx hb hr hlocks hK hP hD hS rfl (kd tdlX1_homeOf_0 21 rfl)
  · have hF := kf hc8 hF
    refine lv_aload_n hx hb (kd tdlX1_homeOf_0 7 rfl) rfl (lv_at hl 0 rfl) ?_
    refine dk_g_codes hx hb hts inX1_ hown hK hP L32 (kd tdlX1_homeOf_0 8 rfl) ?_
    refine lv_iload_n hx hb (kd tdlX1_homeOf_0 9 rfl) rfl (lv_at hl 2 rfl) ?_
    obtain ⟨hi16, hF⟩ := kg hF
    refine dk_l_codes hx hb hK hP hi16 (kd tdlX1_homeOf_0 10 rfl) ?_
    refine lv_iload_n hx hb (kd tdlX1_homeOf_0 11 rfl) rfl (lv_at hl 1 rfl) ?_
    refine lv_icmp_ne (tgt := 28) hx hb (kd tdlX1_homeOf_0 12 rfl) (by decide) (fun hc18 => ?_) (fun hc18 => ?_)
    · have hF := kf hc18 hF
      refine lv_iinc (v := (s7_ + (-1))) (lv' := [(2, .int (s7_ + (-1))), (0, .ref h0), (1, .int p1)]) hx hb (kd tdlX1_homeOf_0 18 rfl) hl (k := 2) rfl rfl (by decide) rfl (fun ls hl => ?_)
      refine lv_goto (tgt := 7) hx hb (kd tdlX1_homeOf_0 19 rfl) (by decide) ?_
      exact ih7 ((s7_ + (-1))) hF _ _ _ hP hD hS (lv_sub hl [1, 2, 0] rfl)
    · have hF := kt hc18 hF
      refine lv_aload_n hx hb (kd tdlX1_homeOf_0 13 rfl) rfl (lv_at hl 0 rfl) ?_
      refine dk_g_places hx hb hts inX1_ hown hK hP L35 (kd tdlX1_homeOf_0 14 rfl) ?_
      refine lv_iload_n hx hb (kd tdlX1_homeOf_0 15 rfl) rfl (lv_at hl 2 rfl) ?_
      obtain ⟨hi26, hF⟩ := kg hF
      refine dk_l_places hx hb hK hP hi26 (kd tdlX1_homeOf_0 16 rfl) ?_
      cases ko hF
      exact ke_i hx hb hr hlocks hK hP hD hS rfl (kd tdlX1_homeOf_0 17 rfl)
set_option maxHeartbeats 4000000 in
set_option maxRecDepth 100000 in
theorem c_X1_firstEntryWith (l : Launch) (D : va_G) (t : Nat → ClassId) (h0 : Nat) (a0 : Nat → Nat) (d0 : DKT) (sz : Nat) (p1 : Int32) (p2 : Int32) (r : Int32) (hF : F_X1_firstEntryWith d0 p1 p2 = some r) : Met l yX1_firstEntryWith wX1_firstEntryWith ({ frames := 2, cells := 0, slots := 0, locals := 44 } : Room) (kPc D (TY t) ((wdk t h0 a0 d0)) [.ref h0, .int p1, .int p2] sz) (kQi D (TY t) ((wdk t h0 a0 d0)) r (va_A ((wdk t h0 a0 d0)) sz)) 0 0 (va_A ((wdk t h0 a0 d0)) sz) := by
  refine kE (cc := cX1_firstEntryWith) (maxL := 3) (ret := (some .int)) (Qx := fun A => kQi D (TY t) ((wdk t h0 a0 d0)) r A) (lv0 := [(0, .ref h0), (1, .int p1), (2, .int p2)]) RX1 rfl (by decide) rfl (Nat.le_of_ble_eq_true rfl) rfl ?_
  intro p e s m args below meth c A ls hx hb hml hr hlocks hown hts hA hK hP hD hS hl
  have hP : va_P D vwCl ((wdkF t h0 a0 (dk_settings d0) (dk_numbers d0) (dk_capacities d0) (dk_firsts d0) (dk_containers d0) (dk_codes d0) (dk_places d0) (dk_uses d0) (dk_entries d0) (dk_references d0) (dk_lengths d0) (dk_nextNumber d0) (dk_carried d0))) s.heap := hP
  have hD : va_D A ((wdkF t h0 a0 (dk_settings d0) (dk_numbers d0) (dk_capacities d0) (dk_firsts d0) (dk_containers d0) (dk_codes d0) (dk_places d0) (dk_uses d0) (dk_entries d0) (dk_references d0) (dk_lengths d0) (dk_nextNumber d0) (dk_carried d0))) := hD
  refine lv_aload_n hx hb (kd tdlX1_firstEntryWith_0 0 rfl) rfl (lv_at hl 0 rfl) ?_
  refine lv_iload_n hx hb (kd tdlX1_firstEntryWith_0 1 rfl) rfl (lv_at hl 1 rfl) ?_
  refine lv_aload_n hx hb (kd tdlX1_firstEntryWith_0 2 rfl) rfl (lv_at hl 0 rfl) ?_
  refine lv_iload_n hx hb (kd tdlX1_firstEntryWith_0 3 rfl) rfl (lv_at hl 2 rfl) ?_
  obtain ⟨v4, e4, hF⟩ := kc hF
  refine kc_i0 (w1 := ((wdkF t h0 a0 (dk_settings d0) (dk_numbers d0) (dk_capacities d0) (dk_firsts d0) (dk_containers d0) (dk_codes d0) (dk_places d0) (dk_uses d0) (dk_entries d0) (dk_references d0) (dk_lengths d0) (dk_nextNumber d0) (dk_carried d0)))) hP hD hS hA (kr_V0 (Qx := (fun A => kQi D (TY t) ((wdkF t h0 a0 (dk_settings d0) (dk_numbers d0) (dk_capacities d0) (dk_firsts d0) (dk_containers d0) (dk_codes d0) (dk_places d0) (dk_uses d0) (dk_entries d0) (dk_references d0) (dk_lengths d0) (dk_nextNumber d0) (dk_carried d0))) v4 A)) (As := [.int p2]) (rest := [.int p1, .ref h0]) ⟨hx, hb, hml, hown, hts⟩ hK hP hD (c_X1_firstEntryAt l D t h0 a0 d0 _ p2 v4 e4) (cwV 1 hts (gcX1_firstEntryAt w_161) rfl rfl rfl hdX1_firstEntryAtV ⟨Nat.le_of_ble_eq_true rfl, Nat.le_of_ble_eq_true rfl⟩) (ci := 1) (q0 := 0) rfl rfl rfl hl.1 rfl (Nat.le_of_ble_eq_true rfl) (kd tdlX1_firstEntryWith_0 4 rfl) ⟨Nat.zero_le _, Nat.zero_le _⟩) (fun H locs hP hD hS => ?_)
  obtain ⟨v7, e7, hF⟩ := kc hF
  refine kc_i0 (w1 := ((wdkF t h0 a0 (dk_settings d0) (dk_numbers d0) (dk_capacities d0) (dk_firsts d0) (dk_containers d0) (dk_codes d0) (dk_places d0) (dk_uses d0) (dk_entries d0) (dk_references d0) (dk_lengths d0) (dk_nextNumber d0) (dk_carried d0)))) hP hD hS hA (kr_V0 (Qx := (fun A => kQi D (TY t) ((wdkF t h0 a0 (dk_settings d0) (dk_numbers d0) (dk_capacities d0) (dk_firsts d0) (dk_containers d0) (dk_codes d0) (dk_places d0) (dk_uses d0) (dk_entries d0) (dk_references d0) (dk_lengths d0) (dk_nextNumber d0) (dk_carried d0))) v7 A)) (As := [.int p1, .int v4]) (rest := []) ⟨hx, hb, hml, hown, hts⟩ hK hP hD (c_X1_firstFrom l D t h0 a0 d0 _ p1 v4 v7 e7) (cwV 2 hts (gcX1_firstFrom w_141) rfl rfl rfl hdX1_firstFromV ⟨Nat.le_of_ble_eq_true rfl, Nat.le_of_ble_eq_true rfl⟩) (ci := 1) (q0 := 0) rfl rfl rfl hl.1 rfl (Nat.le_of_ble_eq_true rfl) (kd tdlX1_firstEntryWith_0 5 rfl) ⟨Nat.zero_le _, Nat.zero_le _⟩) (fun H locs hP hD hS => ?_)
  cases ko hF
  exact ke_i hx hb hr hlocks hK hP hD hS rfl (kd tdlX1_firstEntryWith_0 6 rfl)
set_option maxHeartbeats 4000000 in
set_option maxRecDepth 100000 in
theorem c_X1_hasBackup (l : Launch) (D : va_G) (t : Nat → ClassId) (h0 : Nat) (a0 : Nat → Nat) (d0 : DKT) (sz : Nat) (p1 : Int32) (r : Int32) (hF : F_X1_hasBackup d0 p1 = some r) : Met l yX1_hasBackup wX1_hasBackup ({ frames := 0, cells := 0, slots := 0, locals := 0 } : Room) (kPc D (TY t) ((wdk t h0 a0 d0)) [.ref h0, .int p1] sz) (kQi D (TY t) ((wdk t h0 a0 d0)) r (va_A ((wdk t h0 a0 d0)) sz)) 0 0 (va_A ((wdk t h0 a0 d0)) sz) := by
  refine kE (cc := cX1_hasBackup) (maxL := 2) (ret := (some .boolean)) (Qx := fun A => kQi D (TY t) ((wdk t h0 a0 d0)) r A) (lv0 := [(0, .ref h0), (1, .int p1)]) RX1 rfl (by decide) rfl (Nat.le_of_ble_eq_true rfl) rfl ?_
  intro p e s m args below meth c A ls hx hb hml hr hlocks hown hts hA hK hP hD hS hl
  have L44 := hts (.fieldLink RX1 44 "ChunkCarriers$Desk" "lengths" "[I") (List.mem_cons_of_mem _ w_64)
  have inX1_ : ∀ w ∈ wsX10, w ∈ wX1_hasBackup := fun w h => List.mem_cons_of_mem _ (inlX1 w h)
  have hP : va_P D vwCl ((wdkF t h0 a0 (dk_settings d0) (dk_numbers d0) (dk_capacities d0) (dk_firsts d0) (dk_containers d0) (dk_codes d0) (dk_places d0) (dk_uses d0) (dk_entries d0) (dk_references d0) (dk_lengths d0) (dk_nextNumber d0) (dk_carried d0))) s.heap := hP
  have hD : va_D A ((wdkF t h0 a0 (dk_settings d0) (dk_numbers d0) (dk_capacities d0) (dk_firsts d0) (dk_containers d0) (dk_codes d0) (dk_places d0) (dk_uses d0) (dk_entries d0) (dk_references d0) (dk_lengths d0) (dk_nextNumber d0) (dk_carried d0))) := hD
  refine lv_iload_n hx hb (kd tdlX1_hasBackup_0 0 rfl) rfl (lv_at hl 1 rfl) ?_
  refine lv_if_lt (tgt := 23) hx hb (kd tdlX1_hasBackup_0 1 rfl) (by decide) (fun hc1 => ?_) (fun hc1 => ?_)
  · have hF := kt hc1 hF
    refine lv_iconst (v := 0) hx hb (kd tdlX1_hasBackup_0 12 rfl) (by decide) ?_
    cases ko hF
    exact ke_z hx hb hr hlocks rfl hK hP hD hS rfl (kd tdlX1_hasBackup_0 13 rfl)
  · have hF := kf hc1 hF
    refine lv_iload_n hx hb (kd tdlX1_hasBackup_0 2 rfl) rfl (lv_at hl 1 rfl) ?_
    refine lv_bipush (v := 8) hx hb (kd tdlX1_hasBackup_0 3 rfl) (by decide) ?_
    refine lv_icmp_ge (tgt := 23) hx hb (kd tdlX1_hasBackup_0 4 rfl) (by decide) (fun hc7 => ?_) (fun hc7 => ?_)
    · have hF := kt hc7 hF
      refine lv_iconst (v := 0) hx hb (kd tdlX1_hasBackup_0 12 rfl) (by decide) ?_
      cases ko hF
      exact ke_z hx hb hr hlocks rfl hK hP hD hS rfl (kd tdlX1_hasBackup_0 13 rfl)
    · have hF := kf hc7 hF
      refine lv_aload_n hx hb (kd tdlX1_hasBackup_0 5 rfl) rfl (lv_at hl 0 rfl) ?_
      refine dk_g_lengths hx hb hts inX1_ hown hK hP L44 (kd tdlX1_hasBackup_0 6 rfl) ?_
      refine lv_iload_n hx hb (kd tdlX1_hasBackup_0 7 rfl) rfl (lv_at hl 1 rfl) ?_
      obtain ⟨hi15, hF⟩ := kg hF
      refine dk_l_lengths hx hb hK hP hi15 (kd tdlX1_hasBackup_0 8 rfl) ?_
      refine lv_if_le (tgt := 23) hx hb (kd tdlX1_hasBackup_0 9 rfl) (by decide) (fun hc16 => ?_) (fun hc16 => ?_)
      · have hF := kt hc16 hF
        refine lv_iconst (v := 0) hx hb (kd tdlX1_hasBackup_0 12 rfl) (by decide) ?_
        cases ko hF
        exact ke_z hx hb hr hlocks rfl hK hP hD hS rfl (kd tdlX1_hasBackup_0 13 rfl)
      · have hF := kf hc16 hF
        refine lv_iconst (v := 1) hx hb (kd tdlX1_hasBackup_0 10 rfl) (by decide) ?_
        refine lv_goto (tgt := 24) hx hb (kd tdlX1_hasBackup_0 11 rfl) (by decide) ?_
        cases ko hF
        exact ke_z hx hb hr hlocks rfl hK hP hD hS rfl (kd tdlX1_hasBackup_0 13 rfl)
set_option maxHeartbeats 4000000 in
set_option maxRecDepth 100000 in
theorem c_X1_chunksOf (l : Launch) (D : va_G) (t : Nat → ClassId) (h0 : Nat) (a0 : Nat → Nat) (d0 : DKT) (sz : Nat) (p1 : Int32) (r : Int32) (hF : F_X1_chunksOf d0 p1 = some r) : Met l yX1_chunksOf wX1_chunksOf ({ frames := 1, cells := 0, slots := 0, locals := 21 } : Room) (kPc D (TY t) ((wdk t h0 a0 d0)) [.ref h0, .int p1] sz) (kQi D (TY t) ((wdk t h0 a0 d0)) r (va_A ((wdk t h0 a0 d0)) sz)) 0 0 (va_A ((wdk t h0 a0 d0)) sz) := by
  refine kE (cc := cX1_chunksOf) (maxL := 2) (ret := (some .int)) (Qx := fun A => kQi D (TY t) ((wdk t h0 a0 d0)) r A) (lv0 := [(0, .ref h0), (1, .int p1)]) RX1 rfl (by decide) rfl (Nat.le_of_ble_eq_true rfl) rfl ?_
  intro p e s m args below meth c A ls hx hb hml hr hlocks hown hts hA hK hP hD hS hl
  have L44 := hts (.fieldLink RX1 44 "ChunkCarriers$Desk" "lengths" "[I") (List.mem_cons_of_mem _ w_64)
  have inX1_ : ∀ w ∈ wsX10, w ∈ wX1_chunksOf := fun w h => List.mem_cons_of_mem _ (inlX1 w h)
  have hP : va_P D vwCl ((wdkF t h0 a0 (dk_settings d0) (dk_numbers d0) (dk_capacities d0) (dk_firsts d0) (dk_containers d0) (dk_codes d0) (dk_places d0) (dk_uses d0) (dk_entries d0) (dk_references d0) (dk_lengths d0) (dk_nextNumber d0) (dk_carried d0))) s.heap := hP
  have hD : va_D A ((wdkF t h0 a0 (dk_settings d0) (dk_numbers d0) (dk_capacities d0) (dk_firsts d0) (dk_containers d0) (dk_codes d0) (dk_places d0) (dk_uses d0) (dk_entries d0) (dk_references d0) (dk_lengths d0) (dk_nextNumber d0) (dk_carried d0))) := hD
  refine lv_aload_n hx hb (kd tdlX1_chunksOf_0 0 rfl) rfl (lv_at hl 0 rfl) ?_
  refine lv_iload_n hx hb (kd tdlX1_chunksOf_0 1 rfl) rfl (lv_at hl 1 rfl) ?_
  obtain ⟨v2, e2, hF⟩ := kc hF
  refine kc_i0 (w1 := ((wdkF t h0 a0 (dk_settings d0) (dk_numbers d0) (dk_capacities d0) (dk_firsts d0) (dk_containers d0) (dk_codes d0) (dk_places d0) (dk_uses d0) (dk_entries d0) (dk_references d0) (dk_lengths d0) (dk_nextNumber d0) (dk_carried d0)))) hP hD hS hA (kr_V0 (Qx := (fun A => kQi D (TY t) ((wdkF t h0 a0 (dk_settings d0) (dk_numbers d0) (dk_capacities d0) (dk_firsts d0) (dk_containers d0) (dk_codes d0) (dk_places d0) (dk_uses d0) (dk_entries d0) (dk_references d0) (dk_lengths d0) (dk_nextNumber d0) (dk_carried d0))) v2 A)) (As := [.int p1]) (rest := []) ⟨hx, hb, hml, hown, hts⟩ hK hP hD (c_X1_hasBackup l D t h0 a0 d0 _ p1 v2 e2) (cwV 1 hts (gcX1_hasBackup w_236) rfl rfl rfl hdX1_hasBackupV ⟨Nat.le_of_ble_eq_true rfl, Nat.le_of_ble_eq_true rfl⟩) (ci := 1) (q0 := 0) rfl rfl rfl hl.1 rfl (Nat.le_of_ble_eq_true rfl) (kd tdlX1_chunksOf_0 2 rfl) ⟨Nat.zero_le _, Nat.zero_le _⟩) (fun H locs hP hD hS => ?_)
  refine lv_if_eq (tgt := 17) hx hb (kd tdlX1_chunksOf_0 3 rfl) (by decide) (fun hc5 => ?_) (fun hc5 => ?_)
  · have hF := kt hc5 hF
    refine lv_iconst (v := 0) hx hb (kd tdlX1_chunksOf_0 9 rfl) (by decide) ?_
    cases ko hF
    exact ke_i hx hb hr hlocks hK hP hD hS rfl (kd tdlX1_chunksOf_0 10 rfl)
  · have hF := kf hc5 hF
    refine lv_aload_n hx hb (kd tdlX1_chunksOf_0 4 rfl) rfl (lv_at hl 0 rfl) ?_
    refine dk_g_lengths hx hb hts inX1_ hown hK hP L44 (kd tdlX1_chunksOf_0 5 rfl) ?_
    refine lv_iload_n hx hb (kd tdlX1_chunksOf_0 6 rfl) rfl (lv_at hl 1 rfl) ?_
    obtain ⟨hi13, hF⟩ := kg hF
    refine dk_l_lengths hx hb hK hP hi13 (kd tdlX1_chunksOf_0 7 rfl) ?_
    refine lv_goto (tgt := 18) hx hb (kd tdlX1_chunksOf_0 8 rfl) (by decide) ?_
    cases ko hF
    exact ke_i hx hb hr hlocks hK hP hD hS rfl (kd tdlX1_chunksOf_0 10 rfl)
set_option maxHeartbeats 4000000 in
set_option maxRecDepth 100000 in
theorem c_X1_backups (l : Launch) (D : va_G) (t : Nat → ClassId) (h0 : Nat) (a0 : Nat → Nat) (d0 : DKT) (sz : Nat)  (r : Int32) (hF : F_X1_backups d0 = some r) : Met l yX1_backups wX1_backups ({ frames := 0, cells := 0, slots := 0, locals := 0 } : Room) (kPc D (TY t) ((wdk t h0 a0 d0)) [.ref h0] sz) (kQi D (TY t) ((wdk t h0 a0 d0)) r (va_A ((wdk t h0 a0 d0)) sz)) 0 0 (va_A ((wdk t h0 a0 d0)) sz) := by
  refine kE (cc := cX1_backups) (maxL := 3) (ret := (some .int)) (Qx := fun A => kQi D (TY t) ((wdk t h0 a0 d0)) r A) (lv0 := [(0, .ref h0)]) RX1 rfl (by decide) rfl (Nat.le_of_ble_eq_true rfl) rfl ?_
  intro p e s m args below meth c A ls hx hb hml hr hlocks hown hts hA hK hP hD hS hl
  have L44 := hts (.fieldLink RX1 44 "ChunkCarriers$Desk" "lengths" "[I") (List.mem_cons_of_mem _ w_64)
  have inX1_ : ∀ w ∈ wsX10, w ∈ wX1_backups := fun w h => List.mem_cons_of_mem _ (inlX1 w h)
  have hP : va_P D vwCl ((wdkF t h0 a0 (dk_settings d0) (dk_numbers d0) (dk_capacities d0) (dk_firsts d0) (dk_containers d0) (dk_codes d0) (dk_places d0) (dk_uses d0) (dk_entries d0) (dk_references d0) (dk_lengths d0) (dk_nextNumber d0) (dk_carried d0))) s.heap := hP
  have hD : va_D A ((wdkF t h0 a0 (dk_settings d0) (dk_numbers d0) (dk_capacities d0) (dk_firsts d0) (dk_containers d0) (dk_codes d0) (dk_places d0) (dk_uses d0) (dk_entries d0) (dk_references d0) (dk_lengths d0) (dk_nextNumber d0) (dk_carried d0))) := hD
  refine lv_iconst (v := 0) hx hb (kd tdlX1_backups_0 0 rfl) (by decide) ?_
  refine lv_istore_n (lv' := [(1, .int 0), (0, .ref h0)]) hx hb (kd tdlX1_backups_0 1 rfl) rfl hl (by decide) rfl (fun ls hl => ?_)
  refine lv_iconst (v := 0) hx hb (kd tdlX1_backups_0 2 rfl) (by decide) ?_
  refine lv_istore_n (lv' := [(2, .int 0), (1, .int 0), (0, .ref h0)]) hx hb (kd tdlX1_backups_0 3 rfl) rfl hl (by decide) rfl (fun ls hl => ?_)
  refine lp_ind (f := B_X1_backups_4 d0) (r := r) (P := fun s4_ => ∀ (H : Heap) (locs : List Loc) (ls : Array Slot), va_P D vwCl ((wdkF t h0 a0 (dk_settings d0) (dk_numbers d0) (dk_capacities d0) (dk_firsts d0) (dk_containers d0) (dk_codes d0) (dk_places d0) (dk_uses d0) (dk_entries d0) (dk_references d0) (dk_lengths d0) (dk_nextNumber d0) (dk_carried d0))) H → va_D A ((wdkF t h0 a0 (dk_settings d0) (dk_numbers d0) (dk_capacities d0) (dk_firsts d0) (dk_containers d0) (dk_codes d0) (dk_places d0) (dk_uses d0) (dk_entries d0) (dk_references d0) (dk_lengths d0) (dk_nextNumber d0) (dk_carried d0))) → va_S A s.heap H locs → lv_has ls 3 [(0, .ref h0), (1, .int s4_.1), (2, .int s4_.2)] → W p l e ({ frames := 0, cells := 0, slots := 0, locals := 0 } : Room) s m args below meth c H locs 0 0 (MQ below (kQi D (TY t) ((wdk t h0 a0 d0)) r A) args s 0 0 A) (F0 m 4 ls [])) ?_ FU (0, 0) hF _ _ _ hP hD hS (lv_sub hl [2, 1, 0] rfl)
  intro self4 ih4 s4_ hF H locs ls hP hD hS hl
  refine lv_iload_n hx hb (kd tdlX1_backups_0 4 rfl) rfl (lv_at hl 2 rfl) ?_
  refine lv_bipush (v := 8) hx hb (kd tdlX1_backups_0 5 rfl) (by decide) ?_
  refine lv_icmp_ge (tgt := 28) hx hb (kd tdlX1_backups_0 6 rfl) (by decide) (fun hc7 => ?_) (fun hc7 => ?_)
  · have hF := kt hc7 hF
    refine lv_iload_n hx hb (kd tdlX1_backups_0 15 rfl) rfl (lv_at hl 1 rfl) ?_
    cases ko hF
    exact ke_i hx hb hr hlocks hK hP hD hS rfl (kd tdlX1_backups_0 16 rfl)
  · have hF := kf hc7 hF
    refine lv_aload_n hx hb (kd tdlX1_backups_0 7 rfl) rfl (lv_at hl 0 rfl) ?_
    refine dk_g_lengths hx hb hts inX1_ hown hK hP L44 (kd tdlX1_backups_0 8 rfl) ?_
    refine lv_iload_n hx hb (kd tdlX1_backups_0 9 rfl) rfl (lv_at hl 2 rfl) ?_
    obtain ⟨hi15, hF⟩ := kg hF
    refine dk_l_lengths hx hb hK hP hi15 (kd tdlX1_backups_0 10 rfl) ?_
    refine lv_if_le (tgt := 22) hx hb (kd tdlX1_backups_0 11 rfl) (by decide) (fun hc16 => ?_) (fun hc16 => ?_)
    · have hF := kt hc16 hF
      refine lv_iinc (v := (s4_.2 + 1)) (lv' := [(2, .int (s4_.2 + 1)), (0, .ref h0), (1, .int s4_.1)]) hx hb (kd tdlX1_backups_0 13 rfl) hl (k := 2) rfl rfl (by decide) rfl (fun ls hl => ?_)
      refine lv_goto (tgt := 4) hx hb (kd tdlX1_backups_0 14 rfl) (by decide) ?_
      exact ih4 (s4_.1, (s4_.2 + 1)) hF _ _ _ hP hD hS (lv_sub hl [1, 2, 0] rfl)
    · have hF := kf hc16 hF
      refine lv_iinc (v := (s4_.1 + 1)) (lv' := [(1, .int (s4_.1 + 1)), (0, .ref h0), (2, .int s4_.2)]) hx hb (kd tdlX1_backups_0 12 rfl) hl (k := 1) rfl rfl (by decide) rfl (fun ls hl => ?_)
      refine lv_iinc (v := (s4_.2 + 1)) (lv' := [(2, .int (s4_.2 + 1)), (1, .int (s4_.1 + 1)), (0, .ref h0)]) hx hb (kd tdlX1_backups_0 13 rfl) hl (k := 2) rfl rfl (by decide) rfl (fun ls hl => ?_)
      refine lv_goto (tgt := 4) hx hb (kd tdlX1_backups_0 14 rfl) (by decide) ?_
      exact ih4 ((s4_.1 + 1), (s4_.2 + 1)) hF _ _ _ hP hD hS (lv_sub hl [2, 1, 0] rfl)
set_option maxHeartbeats 4000000 in
set_option maxRecDepth 100000 in
theorem c_X1_allReferences (l : Launch) (D : va_G) (t : Nat → ClassId) (h0 : Nat) (a0 : Nat → Nat) (d0 : DKT) (sz : Nat)  (r : Int32) (hF : F_X1_allReferences d0 = some r) : Met l yX1_allReferences wX1_allReferences ({ frames := 0, cells := 0, slots := 0, locals := 0 } : Room) (kPc D (TY t) ((wdk t h0 a0 d0)) [.ref h0] sz) (kQi D (TY t) ((wdk t h0 a0 d0)) r (va_A ((wdk t h0 a0 d0)) sz)) 0 0 (va_A ((wdk t h0 a0 d0)) sz) := by
  refine kE (cc := cX1_allReferences) (maxL := 3) (ret := (some .int)) (Qx := fun A => kQi D (TY t) ((wdk t h0 a0 d0)) r A) (lv0 := [(0, .ref h0)]) RX1 rfl (by decide) rfl (Nat.le_of_ble_eq_true rfl) rfl ?_
  intro p e s m args below meth c A ls hx hb hml hr hlocks hown hts hA hK hP hD hS hl
  have L44 := hts (.fieldLink RX1 44 "ChunkCarriers$Desk" "lengths" "[I") (List.mem_cons_of_mem _ w_64)
  have inX1_ : ∀ w ∈ wsX10, w ∈ wX1_allReferences := fun w h => List.mem_cons_of_mem _ (inlX1 w h)
  have hP : va_P D vwCl ((wdkF t h0 a0 (dk_settings d0) (dk_numbers d0) (dk_capacities d0) (dk_firsts d0) (dk_containers d0) (dk_codes d0) (dk_places d0) (dk_uses d0) (dk_entries d0) (dk_references d0) (dk_lengths d0) (dk_nextNumber d0) (dk_carried d0))) s.heap := hP
  have hD : va_D A ((wdkF t h0 a0 (dk_settings d0) (dk_numbers d0) (dk_capacities d0) (dk_firsts d0) (dk_containers d0) (dk_codes d0) (dk_places d0) (dk_uses d0) (dk_entries d0) (dk_references d0) (dk_lengths d0) (dk_nextNumber d0) (dk_carried d0))) := hD
  refine lv_iconst (v := 0) hx hb (kd tdlX1_allReferences_0 0 rfl) (by decide) ?_
  refine lv_istore_n (lv' := [(1, .int 0), (0, .ref h0)]) hx hb (kd tdlX1_allReferences_0 1 rfl) rfl hl (by decide) rfl (fun ls hl => ?_)
  refine lv_iconst (v := 0) hx hb (kd tdlX1_allReferences_0 2 rfl) (by decide) ?_
  refine lv_istore_n (lv' := [(2, .int 0), (1, .int 0), (0, .ref h0)]) hx hb (kd tdlX1_allReferences_0 3 rfl) rfl hl (by decide) rfl (fun ls hl => ?_)
  refine lp_ind (f := B_X1_allReferences_4 d0) (r := r) (P := fun s4_ => ∀ (H : Heap) (locs : List Loc) (ls : Array Slot), va_P D vwCl ((wdkF t h0 a0 (dk_settings d0) (dk_numbers d0) (dk_capacities d0) (dk_firsts d0) (dk_containers d0) (dk_codes d0) (dk_places d0) (dk_uses d0) (dk_entries d0) (dk_references d0) (dk_lengths d0) (dk_nextNumber d0) (dk_carried d0))) H → va_D A ((wdkF t h0 a0 (dk_settings d0) (dk_numbers d0) (dk_capacities d0) (dk_firsts d0) (dk_containers d0) (dk_codes d0) (dk_places d0) (dk_uses d0) (dk_entries d0) (dk_references d0) (dk_lengths d0) (dk_nextNumber d0) (dk_carried d0))) → va_S A s.heap H locs → lv_has ls 3 [(0, .ref h0), (1, .int s4_.1), (2, .int s4_.2)] → W p l e ({ frames := 0, cells := 0, slots := 0, locals := 0 } : Room) s m args below meth c H locs 0 0 (MQ below (kQi D (TY t) ((wdk t h0 a0 d0)) r A) args s 0 0 A) (F0 m 4 ls [])) ?_ FU (0, 0) hF _ _ _ hP hD hS (lv_sub hl [2, 1, 0] rfl)
  intro self4 ih4 s4_ hF H locs ls hP hD hS hl
  refine lv_iload_n hx hb (kd tdlX1_allReferences_0 4 rfl) rfl (lv_at hl 2 rfl) ?_
  refine lv_bipush (v := 8) hx hb (kd tdlX1_allReferences_0 5 rfl) (by decide) ?_
  refine lv_icmp_ge (tgt := 25) hx hb (kd tdlX1_allReferences_0 6 rfl) (by decide) (fun hc7 => ?_) (fun hc7 => ?_)
  · have hF := kt hc7 hF
    refine lv_iload_n hx hb (kd tdlX1_allReferences_0 16 rfl) rfl (lv_at hl 1 rfl) ?_
    cases ko hF
    exact ke_i hx hb hr hlocks hK hP hD hS rfl (kd tdlX1_allReferences_0 17 rfl)
  · have hF := kf hc7 hF
    refine lv_iload_n hx hb (kd tdlX1_allReferences_0 7 rfl) rfl (lv_at hl 1 rfl) ?_
    refine lv_aload_n hx hb (kd tdlX1_allReferences_0 8 rfl) rfl (lv_at hl 0 rfl) ?_
    refine dk_g_lengths hx hb hts inX1_ hown hK hP L44 (kd tdlX1_allReferences_0 9 rfl) ?_
    refine lv_iload_n hx hb (kd tdlX1_allReferences_0 10 rfl) rfl (lv_at hl 2 rfl) ?_
    obtain ⟨hi16, hF⟩ := kg hF
    refine dk_l_lengths hx hb hK hP hi16 (kd tdlX1_allReferences_0 11 rfl) ?_
    refine lv_iadd hx hb (kd tdlX1_allReferences_0 12 rfl) ?_
    refine lv_istore_n (lv' := [(1, .int (s4_.1 + ((dk_lengths d0) (Int32.toNatClampNeg s4_.2)))), (0, .ref h0), (2, .int s4_.2)]) hx hb (kd tdlX1_allReferences_0 13 rfl) rfl hl (by decide) rfl (fun ls hl => ?_)
    refine lv_iinc (v := (s4_.2 + 1)) (lv' := [(2, .int (s4_.2 + 1)), (1, .int (s4_.1 + ((dk_lengths d0) (Int32.toNatClampNeg s4_.2)))), (0, .ref h0)]) hx hb (kd tdlX1_allReferences_0 14 rfl) hl (k := 2) rfl rfl (by decide) rfl (fun ls hl => ?_)
    refine lv_goto (tgt := 4) hx hb (kd tdlX1_allReferences_0 15 rfl) (by decide) ?_
    exact ih4 ((s4_.1 + ((dk_lengths d0) (Int32.toNatClampNeg s4_.2))), (s4_.2 + 1)) hF _ _ _ hP hD hS (lv_sub hl [2, 1, 0] rfl)
set_option maxHeartbeats 4000000 in
set_option maxRecDepth 100000 in
theorem c_X1_entryReferred (l : Launch) (D : va_G) (t : Nat → ClassId) (h0 : Nat) (a0 : Nat → Nat) (d0 : DKT) (sz : Nat) (p1 : Int32) (p2 : Int32) (r : Int32) (hF : F_X1_entryReferred d0 p1 p2 = some r) : Met l yX1_entryReferred wX1_entryReferred ({ frames := 2, cells := 0, slots := 0, locals := 42 } : Room) (kPc D (TY t) ((wdk t h0 a0 d0)) [.ref h0, .int p1, .int p2] sz) (kQi D (TY t) ((wdk t h0 a0 d0)) r (va_A ((wdk t h0 a0 d0)) sz)) 0 0 (va_A ((wdk t h0 a0 d0)) sz) := by
  refine kE (cc := cX1_entryReferred) (maxL := 3) (ret := (some .int)) (Qx := fun A => kQi D (TY t) ((wdk t h0 a0 d0)) r A) (lv0 := [(0, .ref h0), (1, .int p1), (2, .int p2)]) RX1 rfl (by decide) rfl (Nat.le_of_ble_eq_true rfl) rfl ?_
  intro p e s m args below meth c A ls hx hb hml hr hlocks hown hts hA hK hP hD hS hl
  have L41 := hts (.fieldLink RX1 41 "ChunkCarriers$Desk" "references" "[I") (List.mem_cons_of_mem _ w_63)
  have inX1_ : ∀ w ∈ wsX10, w ∈ wX1_entryReferred := fun w h => List.mem_cons_of_mem _ (inlX1 w h)
  have hP : va_P D vwCl ((wdkF t h0 a0 (dk_settings d0) (dk_numbers d0) (dk_capacities d0) (dk_firsts d0) (dk_containers d0) (dk_codes d0) (dk_places d0) (dk_uses d0) (dk_entries d0) (dk_references d0) (dk_lengths d0) (dk_nextNumber d0) (dk_carried d0))) s.heap := hP
  have hD : va_D A ((wdkF t h0 a0 (dk_settings d0) (dk_numbers d0) (dk_capacities d0) (dk_firsts d0) (dk_containers d0) (dk_codes d0) (dk_places d0) (dk_uses d0) (dk_entries d0) (dk_references d0) (dk_lengths d0) (dk_nextNumber d0) (dk_carried d0))) := hD
  refine lv_iload_n hx hb (kd tdlX1_entryReferred_0 0 rfl) rfl (lv_at hl 2 rfl) ?_
  refine lv_if_lt (tgt := 13) hx hb (kd tdlX1_entryReferred_0 1 rfl) (by decide) (fun hc1 => ?_) (fun hc1 => ?_)
  · have hF := kt hc1 hF
    refine lv_iconst (v := (-1)) hx hb (kd tdlX1_entryReferred_0 7 rfl) (by decide) ?_
    cases ko hF
    exact ke_i hx hb hr hlocks hK hP hD hS rfl (kd tdlX1_entryReferred_0 8 rfl)
  · have hF := kf hc1 hF
    refine lv_iload_n hx hb (kd tdlX1_entryReferred_0 2 rfl) rfl (lv_at hl 2 rfl) ?_
    refine lv_aload_n hx hb (kd tdlX1_entryReferred_0 3 rfl) rfl (lv_at hl 0 rfl) ?_
    refine lv_iload_n hx hb (kd tdlX1_entryReferred_0 4 rfl) rfl (lv_at hl 1 rfl) ?_
    obtain ⟨v7, e7, hF⟩ := kc hF
    refine kc_i0 (w1 := ((wdkF t h0 a0 (dk_settings d0) (dk_numbers d0) (dk_capacities d0) (dk_firsts d0) (dk_containers d0) (dk_codes d0) (dk_places d0) (dk_uses d0) (dk_entries d0) (dk_references d0) (dk_lengths d0) (dk_nextNumber d0) (dk_carried d0)))) hP hD hS hA (kr_V0 (Qx := (fun A => kQi D (TY t) ((wdkF t h0 a0 (dk_settings d0) (dk_numbers d0) (dk_capacities d0) (dk_firsts d0) (dk_containers d0) (dk_codes d0) (dk_places d0) (dk_uses d0) (dk_entries d0) (dk_references d0) (dk_lengths d0) (dk_nextNumber d0) (dk_carried d0))) v7 A)) (As := [.int p1]) (rest := [.int p2]) ⟨hx, hb, hml, hown, hts⟩ hK hP hD (c_X1_chunksOf l D t h0 a0 d0 _ p1 v7 e7) (cwV 1 hts (gcX1_chunksOf w_232) rfl rfl rfl hdX1_chunksOfV ⟨Nat.le_of_ble_eq_true rfl, Nat.le_of_ble_eq_true rfl⟩) (ci := 1) (q0 := 0) rfl rfl rfl hl.1 rfl (Nat.le_of_ble_eq_true rfl) (kd tdlX1_entryReferred_0 5 rfl) ⟨Nat.zero_le _, Nat.zero_le _⟩) (fun H locs hP hD hS => ?_)
    refine lv_icmp_lt (tgt := 15) hx hb (kd tdlX1_entryReferred_0 6 rfl) (by decide) (fun hc10 => ?_) (fun hc10 => ?_)
    · have hF := kt hc10 hF
      refine lv_aload_n hx hb (kd tdlX1_entryReferred_0 9 rfl) rfl (lv_at hl 0 rfl) ?_
      refine dk_g_references hx hb hts inX1_ hown hK hP L41 (kd tdlX1_entryReferred_0 10 rfl) ?_
      refine lv_iload_n hx hb (kd tdlX1_entryReferred_0 11 rfl) rfl (lv_at hl 1 rfl) ?_
      refine lv_bipush (v := 15) hx hb (kd tdlX1_entryReferred_0 12 rfl) (by decide) ?_
      refine lv_imul hx hb (kd tdlX1_entryReferred_0 13 rfl) ?_
      refine lv_iload_n hx hb (kd tdlX1_entryReferred_0 14 rfl) rfl (lv_at hl 2 rfl) ?_
      refine lv_iadd hx hb (kd tdlX1_entryReferred_0 15 rfl) ?_
      obtain ⟨hi25, hF⟩ := kg hF
      refine dk_l_references hx hb hK hP hi25 (kd tdlX1_entryReferred_0 16 rfl) ?_
      cases ko hF
      exact ke_i hx hb hr hlocks hK hP hD hS rfl (kd tdlX1_entryReferred_0 17 rfl)
    · have hF := kf hc10 hF
      refine lv_iconst (v := (-1)) hx hb (kd tdlX1_entryReferred_0 7 rfl) (by decide) ?_
      cases ko hF
      exact ke_i hx hb hr hlocks hK hP hD hS rfl (kd tdlX1_entryReferred_0 8 rfl)
set_option maxHeartbeats 4000000 in
set_option maxRecDepth 100000 in
theorem c_X1_lettersOf (l : Launch) (D : va_G) (t : Nat → ClassId) (h0 : Nat) (a0 : Nat → Nat) (d0 : DKT) (sz : Nat) (p1 : Int32) (r : Int32) (hF : F_X1_lettersOf d0 p1 = some r) : Met l yX1_lettersOf wX1_lettersOf ({ frames := 3, cells := 0, slots := 0, locals := 64 } : Room) (kPc D (TY t) ((wdk t h0 a0 d0)) [.ref h0, .int p1] sz) (kQi D (TY t) ((wdk t h0 a0 d0)) r (va_A ((wdk t h0 a0 d0)) sz)) 0 0 (va_A ((wdk t h0 a0 d0)) sz) := by
  refine kE (cc := cX1_lettersOf) (maxL := 4) (ret := (some .int)) (Qx := fun A => kQi D (TY t) ((wdk t h0 a0 d0)) r A) (lv0 := [(0, .ref h0), (1, .int p1)]) RX1 rfl (by decide) rfl (Nat.le_of_ble_eq_true rfl) rfl ?_
  intro p e s m args below meth c A ls hx hb hml hr hlocks hown hts hA hK hP hD hS hl
  have hP : va_P D vwCl ((wdkF t h0 a0 (dk_settings d0) (dk_numbers d0) (dk_capacities d0) (dk_firsts d0) (dk_containers d0) (dk_codes d0) (dk_places d0) (dk_uses d0) (dk_entries d0) (dk_references d0) (dk_lengths d0) (dk_nextNumber d0) (dk_carried d0))) s.heap := hP
  have hD : va_D A ((wdkF t h0 a0 (dk_settings d0) (dk_numbers d0) (dk_capacities d0) (dk_firsts d0) (dk_containers d0) (dk_codes d0) (dk_places d0) (dk_uses d0) (dk_entries d0) (dk_references d0) (dk_lengths d0) (dk_nextNumber d0) (dk_carried d0))) := hD
  refine lv_iconst (v := 0) hx hb (kd tdlX1_lettersOf_0 0 rfl) (by decide) ?_
  refine lv_istore_n (lv' := [(2, .int 0), (0, .ref h0), (1, .int p1)]) hx hb (kd tdlX1_lettersOf_0 1 rfl) rfl hl (by decide) rfl (fun ls hl => ?_)
  refine lv_iconst (v := 0) hx hb (kd tdlX1_lettersOf_0 2 rfl) (by decide) ?_
  refine lv_istore_n (lv' := [(3, .int 0), (2, .int 0), (0, .ref h0), (1, .int p1)]) hx hb (kd tdlX1_lettersOf_0 3 rfl) rfl hl (by decide) rfl (fun ls hl => ?_)
  refine lp_ind (f := B_X1_lettersOf_4 d0 p1) (r := r) (P := fun s4_ => ∀ (H : Heap) (locs : List Loc) (ls : Array Slot), va_P D vwCl ((wdkF t h0 a0 (dk_settings d0) (dk_numbers d0) (dk_capacities d0) (dk_firsts d0) (dk_containers d0) (dk_codes d0) (dk_places d0) (dk_uses d0) (dk_entries d0) (dk_references d0) (dk_lengths d0) (dk_nextNumber d0) (dk_carried d0))) H → va_D A ((wdkF t h0 a0 (dk_settings d0) (dk_numbers d0) (dk_capacities d0) (dk_firsts d0) (dk_containers d0) (dk_codes d0) (dk_places d0) (dk_uses d0) (dk_entries d0) (dk_references d0) (dk_lengths d0) (dk_nextNumber d0) (dk_carried d0))) → va_S A s.heap H locs → lv_has ls 4 [(0, .ref h0), (1, .int p1), (2, .int s4_.1), (3, .int s4_.2)] → W p l e ({ frames := 3, cells := 0, slots := 0, locals := 64 } : Room) s m args below meth c H locs 0 0 (MQ below (kQi D (TY t) ((wdk t h0 a0 d0)) r A) args s 0 0 A) (F0 m 4 ls [])) ?_ FU (0, 0) hF _ _ _ hP hD hS (lv_sub hl [2, 3, 1, 0] rfl)
  intro self4 ih4 s4_ hF H locs ls hP hD hS hl
  refine lv_iload_n hx hb (kd tdlX1_lettersOf_0 4 rfl) rfl (lv_at hl 3 rfl) ?_
  refine lv_aload_n hx hb (kd tdlX1_lettersOf_0 5 rfl) rfl (lv_at hl 0 rfl) ?_
  refine lv_iload_n hx hb (kd tdlX1_lettersOf_0 6 rfl) rfl (lv_at hl 1 rfl) ?_
  obtain ⟨v7, e7, hF⟩ := kc hF
  refine kc_i0 (w1 := ((wdkF t h0 a0 (dk_settings d0) (dk_numbers d0) (dk_capacities d0) (dk_firsts d0) (dk_containers d0) (dk_codes d0) (dk_places d0) (dk_uses d0) (dk_entries d0) (dk_references d0) (dk_lengths d0) (dk_nextNumber d0) (dk_carried d0)))) hP hD hS hA (kr_V0 (Qx := (fun A => kQi D (TY t) ((wdkF t h0 a0 (dk_settings d0) (dk_numbers d0) (dk_capacities d0) (dk_firsts d0) (dk_containers d0) (dk_codes d0) (dk_places d0) (dk_uses d0) (dk_entries d0) (dk_references d0) (dk_lengths d0) (dk_nextNumber d0) (dk_carried d0))) v7 A)) (As := [.int p1]) (rest := [.int s4_.2]) ⟨hx, hb, hml, hown, hts⟩ hK hP hD (c_X1_chunksOf l D t h0 a0 d0 _ p1 v7 e7) (cwV 1 hts (gcX1_chunksOf w_232) rfl rfl rfl hdX1_chunksOfV ⟨Nat.le_of_ble_eq_true rfl, Nat.le_of_ble_eq_true rfl⟩) (ci := 1) (q0 := 0) rfl rfl rfl hl.1 rfl (Nat.le_of_ble_eq_true rfl) (kd tdlX1_lettersOf_0 7 rfl) ⟨Nat.zero_le _, Nat.zero_le _⟩) (fun H locs hP hD hS => ?_)
  refine lv_icmp_ge (tgt := 35) hx hb (kd tdlX1_lettersOf_0 8 rfl) (by decide) (fun hc10 => ?_) (fun hc10 => ?_)
  · have hF := kt hc10 hF
    refine lv_iload_n hx hb (kd tdlX1_lettersOf_0 21 rfl) rfl (lv_at hl 2 rfl) ?_
    cases ko hF
    exact ke_i hx hb hr hlocks hK hP hD hS rfl (kd tdlX1_lettersOf_0 22 rfl)
  · have hF := kf hc10 hF
    refine lv_iload_n hx hb (kd tdlX1_lettersOf_0 9 rfl) rfl (lv_at hl 2 rfl) ?_
    refine lv_aload_n hx hb (kd tdlX1_lettersOf_0 10 rfl) rfl (lv_at hl 0 rfl) ?_
    refine lv_aload_n hx hb (kd tdlX1_lettersOf_0 11 rfl) rfl (lv_at hl 0 rfl) ?_
    refine lv_iload_n hx hb (kd tdlX1_lettersOf_0 12 rfl) rfl (lv_at hl 1 rfl) ?_
    refine lv_iload_n hx hb (kd tdlX1_lettersOf_0 13 rfl) rfl (lv_at hl 3 rfl) ?_
    obtain ⟨v18, e18, hF⟩ := kc hF
    refine kc_i0 (w1 := ((wdkF t h0 a0 (dk_settings d0) (dk_numbers d0) (dk_capacities d0) (dk_firsts d0) (dk_containers d0) (dk_codes d0) (dk_places d0) (dk_uses d0) (dk_entries d0) (dk_references d0) (dk_lengths d0) (dk_nextNumber d0) (dk_carried d0)))) hP hD hS hA (kr_V0 (Qx := (fun A => kQi D (TY t) ((wdkF t h0 a0 (dk_settings d0) (dk_numbers d0) (dk_capacities d0) (dk_firsts d0) (dk_containers d0) (dk_codes d0) (dk_places d0) (dk_uses d0) (dk_entries d0) (dk_references d0) (dk_lengths d0) (dk_nextNumber d0) (dk_carried d0))) v18 A)) (As := [.int p1, .int s4_.2]) (rest := [.ref h0, .int s4_.1]) ⟨hx, hb, hml, hown, hts⟩ hK hP hD (c_X1_entryReferred l D t h0 a0 d0 _ p1 s4_.2 v18 e18) (cwV 2 hts (gcX1_entryReferred w_240) rfl rfl rfl hdX1_entryReferredV ⟨Nat.le_of_ble_eq_true rfl, Nat.le_of_ble_eq_true rfl⟩) (ci := 1) (q0 := 0) rfl rfl rfl hl.1 rfl (Nat.le_of_ble_eq_true rfl) (kd tdlX1_lettersOf_0 14 rfl) ⟨Nat.zero_le _, Nat.zero_le _⟩) (fun H locs hP hD hS => ?_)
    obtain ⟨v21, e21, hF⟩ := kc hF
    refine kc_i0 (w1 := ((wdkF t h0 a0 (dk_settings d0) (dk_numbers d0) (dk_capacities d0) (dk_firsts d0) (dk_containers d0) (dk_codes d0) (dk_places d0) (dk_uses d0) (dk_entries d0) (dk_references d0) (dk_lengths d0) (dk_nextNumber d0) (dk_carried d0)))) hP hD hS hA (kr_V0 (Qx := (fun A => kQi D (TY t) ((wdkF t h0 a0 (dk_settings d0) (dk_numbers d0) (dk_capacities d0) (dk_firsts d0) (dk_containers d0) (dk_codes d0) (dk_places d0) (dk_uses d0) (dk_entries d0) (dk_references d0) (dk_lengths d0) (dk_nextNumber d0) (dk_carried d0))) v21 A)) (As := [.int v18]) (rest := [.int s4_.1]) ⟨hx, hb, hml, hown, hts⟩ hK hP hD (c_X1_codeOfEntry l D t h0 a0 d0 _ v18 v21 e21) (cwV 1 hts (gcX1_codeOfEntry w_286) rfl rfl rfl hdX1_codeOfEntryV ⟨Nat.le_of_ble_eq_true rfl, Nat.le_of_ble_eq_true rfl⟩) (ci := 1) (q0 := 0) rfl rfl rfl hl.1 rfl (Nat.le_of_ble_eq_true rfl) (kd tdlX1_lettersOf_0 15 rfl) ⟨Nat.zero_le _, Nat.zero_le _⟩) (fun H locs hP hD hS => ?_)
    obtain ⟨v24, e24, hF⟩ := kc hF
    refine kc_iR hK hP hD hS hA [] rfl (kr_S (Qx := (fun A => kQi D (TY t) ([] : va_W) v24 A)) (wc := ([] : va_W)) (As := [.int v21]) (rest := [.int s4_.1]) ⟨hx, hb, hml, hown, hts⟩ hK hP hD [] nd_ rfl (c_X2_count l D t  _ v21 v24 e24) (va_cwS 1 hts (gcX2_count w_185) rfl rfl rfl hdX2_countS ⟨Nat.le_of_ble_eq_true rfl, Nat.le_of_ble_eq_true rfl⟩) rfl hl.1 rfl (Nat.le_of_ble_eq_true rfl) (kd tdlX1_lettersOf_0 16 rfl) ⟨Nat.zero_le _, Nat.zero_le _⟩) (fun H locs hP hS => ?_)
    refine lv_iadd hx hb (kd tdlX1_lettersOf_0 17 rfl) ?_
    refine lv_istore_n (lv' := [(2, .int (s4_.1 + v24)), (0, .ref h0), (1, .int p1), (3, .int s4_.2)]) hx hb (kd tdlX1_lettersOf_0 18 rfl) rfl hl (by decide) rfl (fun ls hl => ?_)
    refine lv_iinc (v := (s4_.2 + 1)) (lv' := [(3, .int (s4_.2 + 1)), (2, .int (s4_.1 + v24)), (0, .ref h0), (1, .int p1)]) hx hb (kd tdlX1_lettersOf_0 19 rfl) hl (k := 3) rfl rfl (by decide) rfl (fun ls hl => ?_)
    refine lv_goto (tgt := 4) hx hb (kd tdlX1_lettersOf_0 20 rfl) (by decide) ?_
    exact ih4 ((s4_.1 + v24), (s4_.2 + 1)) hF _ _ _ hP hD hS (lv_sub hl [2, 3, 1, 0] rfl)
set_option maxHeartbeats 4000000 in
set_option maxRecDepth 100000 in
theorem c_X1_refersTo (l : Launch) (D : va_G) (t : Nat → ClassId) (h0 : Nat) (a0 : Nat → Nat) (d0 : DKT) (sz : Nat) (p1 : Int32) (p2 : Int32) (r : Int32) (hF : F_X1_refersTo d0 p1 p2 = some r) : Met l yX1_refersTo wX1_refersTo ({ frames := 3, cells := 0, slots := 0, locals := 64 } : Room) (kPc D (TY t) ((wdk t h0 a0 d0)) [.ref h0, .int p1, .int p2] sz) (kQi D (TY t) ((wdk t h0 a0 d0)) r (va_A ((wdk t h0 a0 d0)) sz)) 0 0 (va_A ((wdk t h0 a0 d0)) sz) := by
  refine kE (cc := cX1_refersTo) (maxL := 4) (ret := (some .boolean)) (Qx := fun A => kQi D (TY t) ((wdk t h0 a0 d0)) r A) (lv0 := [(0, .ref h0), (1, .int p1), (2, .int p2)]) RX1 rfl (by decide) rfl (Nat.le_of_ble_eq_true rfl) rfl ?_
  intro p e s m args below meth c A ls hx hb hml hr hlocks hown hts hA hK hP hD hS hl
  have hP : va_P D vwCl ((wdkF t h0 a0 (dk_settings d0) (dk_numbers d0) (dk_capacities d0) (dk_firsts d0) (dk_containers d0) (dk_codes d0) (dk_places d0) (dk_uses d0) (dk_entries d0) (dk_references d0) (dk_lengths d0) (dk_nextNumber d0) (dk_carried d0))) s.heap := hP
  have hD : va_D A ((wdkF t h0 a0 (dk_settings d0) (dk_numbers d0) (dk_capacities d0) (dk_firsts d0) (dk_containers d0) (dk_codes d0) (dk_places d0) (dk_uses d0) (dk_entries d0) (dk_references d0) (dk_lengths d0) (dk_nextNumber d0) (dk_carried d0))) := hD
  refine lv_iconst (v := 0) hx hb (kd tdlX1_refersTo_0 0 rfl) (by decide) ?_
  refine lv_istore_n (lv' := [(3, .int 0), (0, .ref h0), (1, .int p1), (2, .int p2)]) hx hb (kd tdlX1_refersTo_0 1 rfl) rfl hl (by decide) rfl (fun ls hl => ?_)
  refine lp_ind (f := B_X1_refersTo_2 d0 p1 p2) (r := r) (P := fun s2_ => ∀ (H : Heap) (locs : List Loc) (ls : Array Slot), va_P D vwCl ((wdkF t h0 a0 (dk_settings d0) (dk_numbers d0) (dk_capacities d0) (dk_firsts d0) (dk_containers d0) (dk_codes d0) (dk_places d0) (dk_uses d0) (dk_entries d0) (dk_references d0) (dk_lengths d0) (dk_nextNumber d0) (dk_carried d0))) H → va_D A ((wdkF t h0 a0 (dk_settings d0) (dk_numbers d0) (dk_capacities d0) (dk_firsts d0) (dk_containers d0) (dk_codes d0) (dk_places d0) (dk_uses d0) (dk_entries d0) (dk_references d0) (dk_lengths d0) (dk_nextNumber d0) (dk_carried d0))) → va_S A s.heap H locs → lv_has ls 4 [(0, .ref h0), (1, .int p1), (2, .int p2), (3, .int s2_)] → W p l e ({ frames := 3, cells := 0, slots := 0, locals := 64 } : Room) s m args below meth c H locs 0 0 (MQ below (kQi D (TY t) ((wdk t h0 a0 d0)) r A) args s 0 0 A) (F0 m 2 ls [])) ?_ FU (0) hF _ _ _ hP hD hS (lv_sub hl [1, 2, 3, 0] rfl)
  intro self2 ih2 s2_ hF H locs ls hP hD hS hl
  refine lv_iload_n hx hb (kd tdlX1_refersTo_0 2 rfl) rfl (lv_at hl 3 rfl) ?_
  refine lv_aload_n hx hb (kd tdlX1_refersTo_0 3 rfl) rfl (lv_at hl 0 rfl) ?_
  refine lv_iload_n hx hb (kd tdlX1_refersTo_0 4 rfl) rfl (lv_at hl 1 rfl) ?_
  obtain ⟨v5, e5, hF⟩ := kc hF
  refine kc_i0 (w1 := ((wdkF t h0 a0 (dk_settings d0) (dk_numbers d0) (dk_capacities d0) (dk_firsts d0) (dk_containers d0) (dk_codes d0) (dk_places d0) (dk_uses d0) (dk_entries d0) (dk_references d0) (dk_lengths d0) (dk_nextNumber d0) (dk_carried d0)))) hP hD hS hA (kr_V0 (Qx := (fun A => kQi D (TY t) ((wdkF t h0 a0 (dk_settings d0) (dk_numbers d0) (dk_capacities d0) (dk_firsts d0) (dk_containers d0) (dk_codes d0) (dk_places d0) (dk_uses d0) (dk_entries d0) (dk_references d0) (dk_lengths d0) (dk_nextNumber d0) (dk_carried d0))) v5 A)) (As := [.int p1]) (rest := [.int s2_]) ⟨hx, hb, hml, hown, hts⟩ hK hP hD (c_X1_chunksOf l D t h0 a0 d0 _ p1 v5 e5) (cwV 1 hts (gcX1_chunksOf w_232) rfl rfl rfl hdX1_chunksOfV ⟨Nat.le_of_ble_eq_true rfl, Nat.le_of_ble_eq_true rfl⟩) (ci := 1) (q0 := 0) rfl rfl rfl hl.1 rfl (Nat.le_of_ble_eq_true rfl) (kd tdlX1_refersTo_0 5 rfl) ⟨Nat.zero_le _, Nat.zero_le _⟩) (fun H locs hP hD hS => ?_)
  refine lv_icmp_ge (tgt := 33) hx hb (kd tdlX1_refersTo_0 6 rfl) (by decide) (fun hc8 => ?_) (fun hc8 => ?_)
  · have hF := kt hc8 hF
    refine lv_iconst (v := 0) hx hb (kd tdlX1_refersTo_0 19 rfl) (by decide) ?_
    cases ko hF
    exact ke_z hx hb hr hlocks rfl hK hP hD hS rfl (kd tdlX1_refersTo_0 20 rfl)
  · have hF := kf hc8 hF
    refine lv_aload_n hx hb (kd tdlX1_refersTo_0 7 rfl) rfl (lv_at hl 0 rfl) ?_
    refine lv_aload_n hx hb (kd tdlX1_refersTo_0 8 rfl) rfl (lv_at hl 0 rfl) ?_
    refine lv_iload_n hx hb (kd tdlX1_refersTo_0 9 rfl) rfl (lv_at hl 1 rfl) ?_
    refine lv_iload_n hx hb (kd tdlX1_refersTo_0 10 rfl) rfl (lv_at hl 3 rfl) ?_
    obtain ⟨v15, e15, hF⟩ := kc hF
    refine kc_i0 (w1 := ((wdkF t h0 a0 (dk_settings d0) (dk_numbers d0) (dk_capacities d0) (dk_firsts d0) (dk_containers d0) (dk_codes d0) (dk_places d0) (dk_uses d0) (dk_entries d0) (dk_references d0) (dk_lengths d0) (dk_nextNumber d0) (dk_carried d0)))) hP hD hS hA (kr_V0 (Qx := (fun A => kQi D (TY t) ((wdkF t h0 a0 (dk_settings d0) (dk_numbers d0) (dk_capacities d0) (dk_firsts d0) (dk_containers d0) (dk_codes d0) (dk_places d0) (dk_uses d0) (dk_entries d0) (dk_references d0) (dk_lengths d0) (dk_nextNumber d0) (dk_carried d0))) v15 A)) (As := [.int p1, .int s2_]) (rest := [.ref h0]) ⟨hx, hb, hml, hown, hts⟩ hK hP hD (c_X1_entryReferred l D t h0 a0 d0 _ p1 s2_ v15 e15) (cwV 2 hts (gcX1_entryReferred w_240) rfl rfl rfl hdX1_entryReferredV ⟨Nat.le_of_ble_eq_true rfl, Nat.le_of_ble_eq_true rfl⟩) (ci := 1) (q0 := 0) rfl rfl rfl hl.1 rfl (Nat.le_of_ble_eq_true rfl) (kd tdlX1_refersTo_0 11 rfl) ⟨Nat.zero_le _, Nat.zero_le _⟩) (fun H locs hP hD hS => ?_)
    obtain ⟨v18, e18, hF⟩ := kc hF
    refine kc_i0 (w1 := ((wdkF t h0 a0 (dk_settings d0) (dk_numbers d0) (dk_capacities d0) (dk_firsts d0) (dk_containers d0) (dk_codes d0) (dk_places d0) (dk_uses d0) (dk_entries d0) (dk_references d0) (dk_lengths d0) (dk_nextNumber d0) (dk_carried d0)))) hP hD hS hA (kr_V0 (Qx := (fun A => kQi D (TY t) ((wdkF t h0 a0 (dk_settings d0) (dk_numbers d0) (dk_capacities d0) (dk_firsts d0) (dk_containers d0) (dk_codes d0) (dk_places d0) (dk_uses d0) (dk_entries d0) (dk_references d0) (dk_lengths d0) (dk_nextNumber d0) (dk_carried d0))) v18 A)) (As := [.int v15]) (rest := []) ⟨hx, hb, hml, hown, hts⟩ hK hP hD (c_X1_placeOfEntry l D t h0 a0 d0 _ v15 v18 e18) (cwV 1 hts (gcX1_placeOfEntry w_244) rfl rfl rfl hdX1_placeOfEntryV ⟨Nat.le_of_ble_eq_true rfl, Nat.le_of_ble_eq_true rfl⟩) (ci := 1) (q0 := 0) rfl rfl rfl hl.1 rfl (Nat.le_of_ble_eq_true rfl) (kd tdlX1_refersTo_0 12 rfl) ⟨Nat.zero_le _, Nat.zero_le _⟩) (fun H locs hP hD hS => ?_)
    refine lv_iload_n hx hb (kd tdlX1_refersTo_0 13 rfl) rfl (lv_at hl 2 rfl) ?_
    refine lv_icmp_ne (tgt := 27) hx hb (kd tdlX1_refersTo_0 14 rfl) (by decide) (fun hc22 => ?_) (fun hc22 => ?_)
    · have hF := kf hc22 hF
      refine lv_iinc (v := (s2_ + 1)) (lv' := [(3, .int (s2_ + 1)), (0, .ref h0), (1, .int p1), (2, .int p2)]) hx hb (kd tdlX1_refersTo_0 17 rfl) hl (k := 3) rfl rfl (by decide) rfl (fun ls hl => ?_)
      refine lv_goto (tgt := 2) hx hb (kd tdlX1_refersTo_0 18 rfl) (by decide) ?_
      exact ih2 ((s2_ + 1)) hF _ _ _ hP hD hS (lv_sub hl [1, 2, 3, 0] rfl)
    · have hF := kt hc22 hF
      refine lv_iconst (v := 1) hx hb (kd tdlX1_refersTo_0 15 rfl) (by decide) ?_
      cases ko hF
      exact ke_z hx hb hr hlocks rfl hK hP hD hS rfl (kd tdlX1_refersTo_0 16 rfl)
set_option maxHeartbeats 4000000 in
set_option maxRecDepth 100000 in
theorem c_X1_containersOf (l : Launch) (D : va_G) (t : Nat → ClassId) (h0 : Nat) (a0 : Nat → Nat) (d0 : DKT) (sz : Nat) (p1 : Int32) (r : Int32) (hF : F_X1_containersOf d0 p1 = some r) : Met l yX1_containersOf wX1_containersOf ({ frames := 4, cells := 0, slots := 0, locals := 87 } : Room) (kPc D (TY t) ((wdk t h0 a0 d0)) [.ref h0, .int p1] sz) (kQi D (TY t) ((wdk t h0 a0 d0)) r (va_A ((wdk t h0 a0 d0)) sz)) 0 0 (va_A ((wdk t h0 a0 d0)) sz) := by
  refine kE (cc := cX1_containersOf) (maxL := 4) (ret := (some .int)) (Qx := fun A => kQi D (TY t) ((wdk t h0 a0 d0)) r A) (lv0 := [(0, .ref h0), (1, .int p1)]) RX1 rfl (by decide) rfl (Nat.le_of_ble_eq_true rfl) rfl ?_
  intro p e s m args below meth c A ls hx hb hml hr hlocks hown hts hA hK hP hD hS hl
  have L53 := hts (.fieldLink RX1 53 "ChunkCarriers$Desk" "containers" "I") (List.mem_cons_of_mem _ w_108)
  have inX1_ : ∀ w ∈ wsX10, w ∈ wX1_containersOf := fun w h => List.mem_cons_of_mem _ (inlX1 w h)
  have hP : va_P D vwCl ((wdkF t h0 a0 (dk_settings d0) (dk_numbers d0) (dk_capacities d0) (dk_firsts d0) (dk_containers d0) (dk_codes d0) (dk_places d0) (dk_uses d0) (dk_entries d0) (dk_references d0) (dk_lengths d0) (dk_nextNumber d0) (dk_carried d0))) s.heap := hP
  have hD : va_D A ((wdkF t h0 a0 (dk_settings d0) (dk_numbers d0) (dk_capacities d0) (dk_firsts d0) (dk_containers d0) (dk_codes d0) (dk_places d0) (dk_uses d0) (dk_entries d0) (dk_references d0) (dk_lengths d0) (dk_nextNumber d0) (dk_carried d0))) := hD
  refine lv_iconst (v := 0) hx hb (kd tdlX1_containersOf_0 0 rfl) (by decide) ?_
  refine lv_istore_n (lv' := [(2, .int 0), (0, .ref h0), (1, .int p1)]) hx hb (kd tdlX1_containersOf_0 1 rfl) rfl hl (by decide) rfl (fun ls hl => ?_)
  refine lv_iconst (v := 0) hx hb (kd tdlX1_containersOf_0 2 rfl) (by decide) ?_
  refine lv_istore_n (lv' := [(3, .int 0), (2, .int 0), (0, .ref h0), (1, .int p1)]) hx hb (kd tdlX1_containersOf_0 3 rfl) rfl hl (by decide) rfl (fun ls hl => ?_)
  refine lp_ind (f := B_X1_containersOf_4 d0 p1) (r := r) (P := fun s4_ => ∀ (H : Heap) (locs : List Loc) (ls : Array Slot), va_P D vwCl ((wdkF t h0 a0 (dk_settings d0) (dk_numbers d0) (dk_capacities d0) (dk_firsts d0) (dk_containers d0) (dk_codes d0) (dk_places d0) (dk_uses d0) (dk_entries d0) (dk_references d0) (dk_lengths d0) (dk_nextNumber d0) (dk_carried d0))) H → va_D A ((wdkF t h0 a0 (dk_settings d0) (dk_numbers d0) (dk_capacities d0) (dk_firsts d0) (dk_containers d0) (dk_codes d0) (dk_places d0) (dk_uses d0) (dk_entries d0) (dk_references d0) (dk_lengths d0) (dk_nextNumber d0) (dk_carried d0))) → va_S A s.heap H locs → lv_has ls 4 [(0, .ref h0), (1, .int p1), (2, .int s4_.1), (3, .int s4_.2)] → W p l e ({ frames := 4, cells := 0, slots := 0, locals := 87 } : Room) s m args below meth c H locs 0 0 (MQ below (kQi D (TY t) ((wdk t h0 a0 d0)) r A) args s 0 0 A) (F0 m 4 ls [])) ?_ FU (0, 0) hF _ _ _ hP hD hS (lv_sub hl [2, 3, 1, 0] rfl)
  intro self4 ih4 s4_ hF H locs ls hP hD hS hl
  refine lv_iload_n hx hb (kd tdlX1_containersOf_0 4 rfl) rfl (lv_at hl 3 rfl) ?_
  refine lv_aload_n hx hb (kd tdlX1_containersOf_0 5 rfl) rfl (lv_at hl 0 rfl) ?_
  refine dk_g_containers hx hb hts inX1_ hown hK hP L53 (kd tdlX1_containersOf_0 6 rfl) ?_
  refine lv_icmp_ge (tgt := 30) hx hb (kd tdlX1_containersOf_0 7 rfl) (by decide) (fun hc9 => ?_) (fun hc9 => ?_)
  · have hF := kt hc9 hF
    refine lv_iload_n hx hb (kd tdlX1_containersOf_0 16 rfl) rfl (lv_at hl 2 rfl) ?_
    cases ko hF
    exact ke_i hx hb hr hlocks hK hP hD hS rfl (kd tdlX1_containersOf_0 17 rfl)
  · have hF := kf hc9 hF
    refine lv_aload_n hx hb (kd tdlX1_containersOf_0 8 rfl) rfl (lv_at hl 0 rfl) ?_
    refine lv_iload_n hx hb (kd tdlX1_containersOf_0 9 rfl) rfl (lv_at hl 1 rfl) ?_
    refine lv_iload_n hx hb (kd tdlX1_containersOf_0 10 rfl) rfl (lv_at hl 3 rfl) ?_
    obtain ⟨v15, e15, hF⟩ := kc hF
    refine kc_i0 (w1 := ((wdkF t h0 a0 (dk_settings d0) (dk_numbers d0) (dk_capacities d0) (dk_firsts d0) (dk_containers d0) (dk_codes d0) (dk_places d0) (dk_uses d0) (dk_entries d0) (dk_references d0) (dk_lengths d0) (dk_nextNumber d0) (dk_carried d0)))) hP hD hS hA (kr_V0 (Qx := (fun A => kQi D (TY t) ((wdkF t h0 a0 (dk_settings d0) (dk_numbers d0) (dk_capacities d0) (dk_firsts d0) (dk_containers d0) (dk_codes d0) (dk_places d0) (dk_uses d0) (dk_entries d0) (dk_references d0) (dk_lengths d0) (dk_nextNumber d0) (dk_carried d0))) v15 A)) (As := [.int p1, .int s4_.2]) (rest := []) ⟨hx, hb, hml, hown, hts⟩ hK hP hD (c_X1_refersTo l D t h0 a0 d0 _ p1 s4_.2 v15 e15) (cwV 2 hts (gcX1_refersTo w_228) rfl rfl rfl hdX1_refersToV ⟨Nat.le_of_ble_eq_true rfl, Nat.le_of_ble_eq_true rfl⟩) (ci := 1) (q0 := 0) rfl rfl rfl hl.1 rfl (Nat.le_of_ble_eq_true rfl) (kd tdlX1_containersOf_0 11 rfl) ⟨Nat.zero_le _, Nat.zero_le _⟩) (fun H locs hP hD hS => ?_)
    refine lv_if_eq (tgt := 24) hx hb (kd tdlX1_containersOf_0 12 rfl) (by decide) (fun hc18 => ?_) (fun hc18 => ?_)
    · have hF := kt hc18 hF
      refine lv_iinc (v := (s4_.2 + 1)) (lv' := [(3, .int (s4_.2 + 1)), (0, .ref h0), (1, .int p1), (2, .int s4_.1)]) hx hb (kd tdlX1_containersOf_0 14 rfl) hl (k := 3) rfl rfl (by decide) rfl (fun ls hl => ?_)
      refine lv_goto (tgt := 4) hx hb (kd tdlX1_containersOf_0 15 rfl) (by decide) ?_
      exact ih4 (s4_.1, (s4_.2 + 1)) hF _ _ _ hP hD hS (lv_sub hl [1, 2, 3, 0] rfl)
    · have hF := kf hc18 hF
      refine lv_iinc (v := (s4_.1 + 1)) (lv' := [(2, .int (s4_.1 + 1)), (0, .ref h0), (1, .int p1), (3, .int s4_.2)]) hx hb (kd tdlX1_containersOf_0 13 rfl) hl (k := 2) rfl rfl (by decide) rfl (fun ls hl => ?_)
      refine lv_iinc (v := (s4_.2 + 1)) (lv' := [(3, .int (s4_.2 + 1)), (2, .int (s4_.1 + 1)), (0, .ref h0), (1, .int p1)]) hx hb (kd tdlX1_containersOf_0 14 rfl) hl (k := 3) rfl rfl (by decide) rfl (fun ls hl => ?_)
      refine lv_goto (tgt := 4) hx hb (kd tdlX1_containersOf_0 15 rfl) (by decide) ?_
      exact ih4 ((s4_.1 + 1), (s4_.2 + 1)) hF _ _ _ hP hD hS (lv_sub hl [2, 3, 1, 0] rfl)
set_option maxHeartbeats 4000000 in
set_option maxRecDepth 100000 in
theorem c_X1_backupsReferringTo (l : Launch) (D : va_G) (t : Nat → ClassId) (h0 : Nat) (a0 : Nat → Nat) (d0 : DKT) (sz : Nat) (p1 : Int32) (r : Int32) (hF : F_X1_backupsReferringTo d0 p1 = some r) : Met l yX1_backupsReferringTo wX1_backupsReferringTo ({ frames := 4, cells := 0, slots := 0, locals := 87 } : Room) (kPc D (TY t) ((wdk t h0 a0 d0)) [.ref h0, .int p1] sz) (kQi D (TY t) ((wdk t h0 a0 d0)) r (va_A ((wdk t h0 a0 d0)) sz)) 0 0 (va_A ((wdk t h0 a0 d0)) sz) := by
  refine kE (cc := cX1_backupsReferringTo) (maxL := 4) (ret := (some .int)) (Qx := fun A => kQi D (TY t) ((wdk t h0 a0 d0)) r A) (lv0 := [(0, .ref h0), (1, .int p1)]) RX1 rfl (by decide) rfl (Nat.le_of_ble_eq_true rfl) rfl ?_
  intro p e s m args below meth c A ls hx hb hml hr hlocks hown hts hA hK hP hD hS hl
  have hP : va_P D vwCl ((wdkF t h0 a0 (dk_settings d0) (dk_numbers d0) (dk_capacities d0) (dk_firsts d0) (dk_containers d0) (dk_codes d0) (dk_places d0) (dk_uses d0) (dk_entries d0) (dk_references d0) (dk_lengths d0) (dk_nextNumber d0) (dk_carried d0))) s.heap := hP
  have hD : va_D A ((wdkF t h0 a0 (dk_settings d0) (dk_numbers d0) (dk_capacities d0) (dk_firsts d0) (dk_containers d0) (dk_codes d0) (dk_places d0) (dk_uses d0) (dk_entries d0) (dk_references d0) (dk_lengths d0) (dk_nextNumber d0) (dk_carried d0))) := hD
  refine lv_iconst (v := 0) hx hb (kd tdlX1_backupsReferringTo_0 0 rfl) (by decide) ?_
  refine lv_istore_n (lv' := [(2, .int 0), (0, .ref h0), (1, .int p1)]) hx hb (kd tdlX1_backupsReferringTo_0 1 rfl) rfl hl (by decide) rfl (fun ls hl => ?_)
  refine lv_iconst (v := 0) hx hb (kd tdlX1_backupsReferringTo_0 2 rfl) (by decide) ?_
  refine lv_istore_n (lv' := [(3, .int 0), (2, .int 0), (0, .ref h0), (1, .int p1)]) hx hb (kd tdlX1_backupsReferringTo_0 3 rfl) rfl hl (by decide) rfl (fun ls hl => ?_)
  refine lp_ind (f := B_X1_backupsReferringTo_4 d0 p1) (r := r) (P := fun s4_ => ∀ (H : Heap) (locs : List Loc) (ls : Array Slot), va_P D vwCl ((wdkF t h0 a0 (dk_settings d0) (dk_numbers d0) (dk_capacities d0) (dk_firsts d0) (dk_containers d0) (dk_codes d0) (dk_places d0) (dk_uses d0) (dk_entries d0) (dk_references d0) (dk_lengths d0) (dk_nextNumber d0) (dk_carried d0))) H → va_D A ((wdkF t h0 a0 (dk_settings d0) (dk_numbers d0) (dk_capacities d0) (dk_firsts d0) (dk_containers d0) (dk_codes d0) (dk_places d0) (dk_uses d0) (dk_entries d0) (dk_references d0) (dk_lengths d0) (dk_nextNumber d0) (dk_carried d0))) → va_S A s.heap H locs → lv_has ls 4 [(0, .ref h0), (1, .int p1), (2, .int s4_.1), (3, .int s4_.2)] → W p l e ({ frames := 4, cells := 0, slots := 0, locals := 87 } : Room) s m args below meth c H locs 0 0 (MQ below (kQi D (TY t) ((wdk t h0 a0 d0)) r A) args s 0 0 A) (F0 m 4 ls [])) ?_ FU (0, 0) hF _ _ _ hP hD hS (lv_sub hl [2, 3, 1, 0] rfl)
  intro self4 ih4 s4_ hF H locs ls hP hD hS hl
  refine lv_iload_n hx hb (kd tdlX1_backupsReferringTo_0 4 rfl) rfl (lv_at hl 3 rfl) ?_
  refine lv_bipush (v := 8) hx hb (kd tdlX1_backupsReferringTo_0 5 rfl) (by decide) ?_
  refine lv_icmp_ge (tgt := 28) hx hb (kd tdlX1_backupsReferringTo_0 6 rfl) (by decide) (fun hc7 => ?_) (fun hc7 => ?_)
  · have hF := kt hc7 hF
    refine lv_iload_n hx hb (kd tdlX1_backupsReferringTo_0 15 rfl) rfl (lv_at hl 2 rfl) ?_
    cases ko hF
    exact ke_i hx hb hr hlocks hK hP hD hS rfl (kd tdlX1_backupsReferringTo_0 16 rfl)
  · have hF := kf hc7 hF
    refine lv_aload_n hx hb (kd tdlX1_backupsReferringTo_0 7 rfl) rfl (lv_at hl 0 rfl) ?_
    refine lv_iload_n hx hb (kd tdlX1_backupsReferringTo_0 8 rfl) rfl (lv_at hl 3 rfl) ?_
    refine lv_iload_n hx hb (kd tdlX1_backupsReferringTo_0 9 rfl) rfl (lv_at hl 1 rfl) ?_
    obtain ⟨v13, e13, hF⟩ := kc hF
    refine kc_i0 (w1 := ((wdkF t h0 a0 (dk_settings d0) (dk_numbers d0) (dk_capacities d0) (dk_firsts d0) (dk_containers d0) (dk_codes d0) (dk_places d0) (dk_uses d0) (dk_entries d0) (dk_references d0) (dk_lengths d0) (dk_nextNumber d0) (dk_carried d0)))) hP hD hS hA (kr_V0 (Qx := (fun A => kQi D (TY t) ((wdkF t h0 a0 (dk_settings d0) (dk_numbers d0) (dk_capacities d0) (dk_firsts d0) (dk_containers d0) (dk_codes d0) (dk_places d0) (dk_uses d0) (dk_entries d0) (dk_references d0) (dk_lengths d0) (dk_nextNumber d0) (dk_carried d0))) v13 A)) (As := [.int s4_.2, .int p1]) (rest := []) ⟨hx, hb, hml, hown, hts⟩ hK hP hD (c_X1_refersTo l D t h0 a0 d0 _ s4_.2 p1 v13 e13) (cwV 2 hts (gcX1_refersTo w_228) rfl rfl rfl hdX1_refersToV ⟨Nat.le_of_ble_eq_true rfl, Nat.le_of_ble_eq_true rfl⟩) (ci := 1) (q0 := 0) rfl rfl rfl hl.1 rfl (Nat.le_of_ble_eq_true rfl) (kd tdlX1_backupsReferringTo_0 10 rfl) ⟨Nat.zero_le _, Nat.zero_le _⟩) (fun H locs hP hD hS => ?_)
    refine lv_if_eq (tgt := 22) hx hb (kd tdlX1_backupsReferringTo_0 11 rfl) (by decide) (fun hc16 => ?_) (fun hc16 => ?_)
    · have hF := kt hc16 hF
      refine lv_iinc (v := (s4_.2 + 1)) (lv' := [(3, .int (s4_.2 + 1)), (0, .ref h0), (1, .int p1), (2, .int s4_.1)]) hx hb (kd tdlX1_backupsReferringTo_0 13 rfl) hl (k := 3) rfl rfl (by decide) rfl (fun ls hl => ?_)
      refine lv_goto (tgt := 4) hx hb (kd tdlX1_backupsReferringTo_0 14 rfl) (by decide) ?_
      exact ih4 (s4_.1, (s4_.2 + 1)) hF _ _ _ hP hD hS (lv_sub hl [1, 2, 3, 0] rfl)
    · have hF := kf hc16 hF
      refine lv_iinc (v := (s4_.1 + 1)) (lv' := [(2, .int (s4_.1 + 1)), (0, .ref h0), (1, .int p1), (3, .int s4_.2)]) hx hb (kd tdlX1_backupsReferringTo_0 12 rfl) hl (k := 2) rfl rfl (by decide) rfl (fun ls hl => ?_)
      refine lv_iinc (v := (s4_.2 + 1)) (lv' := [(3, .int (s4_.2 + 1)), (2, .int (s4_.1 + 1)), (0, .ref h0), (1, .int p1)]) hx hb (kd tdlX1_backupsReferringTo_0 13 rfl) hl (k := 3) rfl rfl (by decide) rfl (fun ls hl => ?_)
      refine lv_goto (tgt := 4) hx hb (kd tdlX1_backupsReferringTo_0 14 rfl) (by decide) ?_
      exact ih4 ((s4_.1 + 1), (s4_.2 + 1)) hF _ _ _ hP hD hS (lv_sub hl [2, 3, 1, 0] rfl)
set_option maxHeartbeats 4000000 in
set_option maxRecDepth 100000 in
theorem c_X1_passThrough (l : Launch) (D : va_G) (t : Nat → ClassId) (h0 : Nat) (a0 : Nat → Nat) (d0 : DKT) (h2 : Nat) (a2 : Nat → Nat) (d2 : SOT) (sz : Nat) (p1 : Int32) (r : SOT) (hF : F_X1_passThrough d0 d2 p1 = some r) : Met l yX1_passThrough wX1_passThrough ({ frames := 3, cells := 0, slots := 0, locals := 64 } : Room) (kPc D (TY t) ((wdk t h0 a0 d0) ++ (wso t h2 a2 d2)) [.ref h0, .int p1, .ref h2] sz) (kQv D (TY t) ((wdk t h0 a0 d0) ++ (wso t h2 a2 r)) (va_A ((wdk t h0 a0 d0) ++ (wso t h2 a2 d2)) sz)) 0 0 (va_A ((wdk t h0 a0 d0) ++ (wso t h2 a2 d2)) sz) := by
  refine kE (cc := cX1_passThrough) (maxL := 4) (ret := none) (Qx := fun A => kQv D (TY t) ((wdk t h0 a0 d0) ++ (wso t h2 a2 r)) A) (lv0 := [(0, .ref h0), (1, .int p1), (2, .ref h2)]) RX1 rfl (by decide) rfl (Nat.le_of_ble_eq_true rfl) rfl ?_
  intro p e s m args below meth c A ls hx hb hml hr hlocks hown hts hA hK hP hD hS hl
  have hP : va_P D vwCl ((wdkF t h0 a0 (dk_settings d0) (dk_numbers d0) (dk_capacities d0) (dk_firsts d0) (dk_containers d0) (dk_codes d0) (dk_places d0) (dk_uses d0) (dk_entries d0) (dk_references d0) (dk_lengths d0) (dk_nextNumber d0) (dk_carried d0)) ++ (wsoF t h2 a2 (so_loaded d2) (so_room d2) (so_held d2) (so_before d2) (so_loads d2) (so_jumps d2))) s.heap := hP
  have hD : va_D A ((wdkF t h0 a0 (dk_settings d0) (dk_numbers d0) (dk_capacities d0) (dk_firsts d0) (dk_containers d0) (dk_codes d0) (dk_places d0) (dk_uses d0) (dk_entries d0) (dk_references d0) (dk_lengths d0) (dk_nextNumber d0) (dk_carried d0)) ++ (wsoF t h2 a2 (so_loaded d2) (so_room d2) (so_held d2) (so_before d2) (so_loads d2) (so_jumps d2))) := hD
  refine lv_iconst (v := 0) hx hb (kd tdlX1_passThrough_0 0 rfl) (by decide) ?_
  refine lv_istore_n (lv' := [(3, .int 0), (0, .ref h0), (1, .int p1), (2, .ref h2)]) hx hb (kd tdlX1_passThrough_0 1 rfl) rfl hl (by decide) rfl (fun ls hl => ?_)
  refine lp_ind (f := B_X1_passThrough_2 d0 p1) (r := r) (P := fun s2_ => ∀ (H : Heap) (locs : List Loc) (ls : Array Slot), va_P D vwCl ((wdkF t h0 a0 (dk_settings d0) (dk_numbers d0) (dk_capacities d0) (dk_firsts d0) (dk_containers d0) (dk_codes d0) (dk_places d0) (dk_uses d0) (dk_entries d0) (dk_references d0) (dk_lengths d0) (dk_nextNumber d0) (dk_carried d0)) ++ (wsoF t h2 a2 (so_loaded s2_.2) (so_room s2_.2) (so_held s2_.2) (so_before s2_.2) (so_loads s2_.2) (so_jumps s2_.2))) H → va_D A ((wdkF t h0 a0 (dk_settings d0) (dk_numbers d0) (dk_capacities d0) (dk_firsts d0) (dk_containers d0) (dk_codes d0) (dk_places d0) (dk_uses d0) (dk_entries d0) (dk_references d0) (dk_lengths d0) (dk_nextNumber d0) (dk_carried d0)) ++ (wsoF t h2 a2 (so_loaded s2_.2) (so_room s2_.2) (so_held s2_.2) (so_before s2_.2) (so_loads s2_.2) (so_jumps s2_.2))) → va_S A s.heap H locs → lv_has ls 4 [(0, .ref h0), (1, .int p1), (2, .ref h2), (3, .int s2_.1)] → W p l e ({ frames := 3, cells := 0, slots := 0, locals := 64 } : Room) s m args below meth c H locs 0 0 (MQ below (kQv D (TY t) ((wdk t h0 a0 d0) ++ (wso t h2 a2 r)) A) args s 0 0 A) (F0 m 2 ls [])) ?_ FU (0, d2) hF _ _ _ hP hD hS (lv_sub hl [1, 2, 3, 0] rfl)
  intro self2 ih2 s2_ hF H locs ls hP hD hS hl
  refine lv_iload_n hx hb (kd tdlX1_passThrough_0 2 rfl) rfl (lv_at hl 3 rfl) ?_
  refine lv_aload_n hx hb (kd tdlX1_passThrough_0 3 rfl) rfl (lv_at hl 0 rfl) ?_
  refine lv_iload_n hx hb (kd tdlX1_passThrough_0 4 rfl) rfl (lv_at hl 1 rfl) ?_
  obtain ⟨v5, e5, hF⟩ := kc hF
  refine kc_iR hK hP hD hS hA [0, 1, 2, 3, 4, 5, 6, 7, 8, 9] rfl (kr_V (Qx := (fun A => kQi D (TY t) ((wdkF t h0 a0 (dk_settings d0) (dk_numbers d0) (dk_capacities d0) (dk_firsts d0) (dk_containers d0) (dk_codes d0) (dk_places d0) (dk_uses d0) (dk_entries d0) (dk_references d0) (dk_lengths d0) (dk_nextNumber d0) (dk_carried d0))) v5 A)) (wc := ((wdkF t h0 a0 (dk_settings d0) (dk_numbers d0) (dk_capacities d0) (dk_firsts d0) (dk_containers d0) (dk_codes d0) (dk_places d0) (dk_uses d0) (dk_entries d0) (dk_references d0) (dk_lengths d0) (dk_nextNumber d0) (dk_carried d0)))) (As := [.int p1]) (rest := [.int s2_.1]) ⟨hx, hb, hml, hown, hts⟩ hK hP hD [0, 1, 2, 3, 4, 5, 6, 7, 8, 9] nd_0_1_2_3_4_5_6_7_8_9 rfl (c_X1_chunksOf l D t h0 a0 d0 _ p1 v5 e5) (cwV 1 hts (gcX1_chunksOf w_232) rfl rfl rfl hdX1_chunksOfV ⟨Nat.le_of_ble_eq_true rfl, Nat.le_of_ble_eq_true rfl⟩) (ci := 1) (q0 := 0) rfl rfl rfl hl.1 rfl (Nat.le_of_ble_eq_true rfl) (kd tdlX1_passThrough_0 5 rfl) ⟨Nat.zero_le _, Nat.zero_le _⟩) (fun H locs hP hS => ?_)
  refine lv_icmp_ge (tgt := 31) hx hb (kd tdlX1_passThrough_0 6 rfl) (by decide) (fun hc8 => ?_) (fun hc8 => ?_)
  · have hF := kt hc8 hF
    cases ko hF
    exact ke_v hx hb hr hlocks hK hP hD hS (kd tdlX1_passThrough_0 17 rfl)
  · have hF := kf hc8 hF
    refine lv_aload_n hx hb (kd tdlX1_passThrough_0 7 rfl) rfl (lv_at hl 2 rfl) ?_
    refine lv_aload_n hx hb (kd tdlX1_passThrough_0 8 rfl) rfl (lv_at hl 0 rfl) ?_
    refine lv_aload_n hx hb (kd tdlX1_passThrough_0 9 rfl) rfl (lv_at hl 0 rfl) ?_
    refine lv_iload_n hx hb (kd tdlX1_passThrough_0 10 rfl) rfl (lv_at hl 1 rfl) ?_
    refine lv_iload_n hx hb (kd tdlX1_passThrough_0 11 rfl) rfl (lv_at hl 3 rfl) ?_
    obtain ⟨v16, e16, hF⟩ := kc hF
    refine kc_iR hK hP hD hS hA [0, 1, 2, 3, 4, 5, 6, 7, 8, 9] rfl (kr_V (Qx := (fun A => kQi D (TY t) ((wdkF t h0 a0 (dk_settings d0) (dk_numbers d0) (dk_capacities d0) (dk_firsts d0) (dk_containers d0) (dk_codes d0) (dk_places d0) (dk_uses d0) (dk_entries d0) (dk_references d0) (dk_lengths d0) (dk_nextNumber d0) (dk_carried d0))) v16 A)) (wc := ((wdkF t h0 a0 (dk_settings d0) (dk_numbers d0) (dk_capacities d0) (dk_firsts d0) (dk_containers d0) (dk_codes d0) (dk_places d0) (dk_uses d0) (dk_entries d0) (dk_references d0) (dk_lengths d0) (dk_nextNumber d0) (dk_carried d0)))) (As := [.int p1, .int s2_.1]) (rest := [.ref h0, .ref h2]) ⟨hx, hb, hml, hown, hts⟩ hK hP hD [0, 1, 2, 3, 4, 5, 6, 7, 8, 9] nd_0_1_2_3_4_5_6_7_8_9 rfl (c_X1_entryReferred l D t h0 a0 d0 _ p1 s2_.1 v16 e16) (cwV 2 hts (gcX1_entryReferred w_240) rfl rfl rfl hdX1_entryReferredV ⟨Nat.le_of_ble_eq_true rfl, Nat.le_of_ble_eq_true rfl⟩) (ci := 1) (q0 := 0) rfl rfl rfl hl.1 rfl (Nat.le_of_ble_eq_true rfl) (kd tdlX1_passThrough_0 12 rfl) ⟨Nat.zero_le _, Nat.zero_le _⟩) (fun H locs hP hS => ?_)
    obtain ⟨v19, e19, hF⟩ := kc hF
    refine kc_iR hK hP hD hS hA [0, 1, 2, 3, 4, 5, 6, 7, 8, 9] rfl (kr_V (Qx := (fun A => kQi D (TY t) ((wdkF t h0 a0 (dk_settings d0) (dk_numbers d0) (dk_capacities d0) (dk_firsts d0) (dk_containers d0) (dk_codes d0) (dk_places d0) (dk_uses d0) (dk_entries d0) (dk_references d0) (dk_lengths d0) (dk_nextNumber d0) (dk_carried d0))) v19 A)) (wc := ((wdkF t h0 a0 (dk_settings d0) (dk_numbers d0) (dk_capacities d0) (dk_firsts d0) (dk_containers d0) (dk_codes d0) (dk_places d0) (dk_uses d0) (dk_entries d0) (dk_references d0) (dk_lengths d0) (dk_nextNumber d0) (dk_carried d0)))) (As := [.int v16]) (rest := [.ref h2]) ⟨hx, hb, hml, hown, hts⟩ hK hP hD [0, 1, 2, 3, 4, 5, 6, 7, 8, 9] nd_0_1_2_3_4_5_6_7_8_9 rfl (c_X1_placeOfEntry l D t h0 a0 d0 _ v16 v19 e19) (cwV 1 hts (gcX1_placeOfEntry w_244) rfl rfl rfl hdX1_placeOfEntryV ⟨Nat.le_of_ble_eq_true rfl, Nat.le_of_ble_eq_true rfl⟩) (ci := 1) (q0 := 0) rfl rfl rfl hl.1 rfl (Nat.le_of_ble_eq_true rfl) (kd tdlX1_passThrough_0 13 rfl) ⟨Nat.zero_le _, Nat.zero_le _⟩) (fun H locs hP hS => ?_)
    obtain ⟨v22, e22, hF⟩ := kc hF
    refine kc_v (w1 := ((wsoF t h2 a2 (so_loaded v22) (so_room v22) (so_held v22) (so_before v22) (so_loads v22) (so_jumps v22)))) (W1 := ((wdkF t h0 a0 (dk_settings d0) (dk_numbers d0) (dk_capacities d0) (dk_firsts d0) (dk_containers d0) (dk_codes d0) (dk_places d0) (dk_uses d0) (dk_entries d0) (dk_references d0) (dk_lengths d0) (dk_nextNumber d0) (dk_carried d0)) ++ (wsoF t h2 a2 (so_loaded v22) (so_room v22) (so_held v22) (so_before v22) (so_loads v22) (so_jumps v22)))) hK hP hD hS hA [10, 11] nd_10_11 rfl rfl rfl (kr_V (Qx := (fun A => kQv D (TY t) ((wsoF t h2 a2 (so_loaded v22) (so_room v22) (so_held v22) (so_before v22) (so_loads v22) (so_jumps v22))) A)) (wc := ((wsoF t h2 a2 (so_loaded s2_.2) (so_room s2_.2) (so_held s2_.2) (so_before s2_.2) (so_loads s2_.2) (so_jumps s2_.2)))) (As := [.int v19]) (rest := []) ⟨hx, hb, hml, hown, hts⟩ hK hP hD [10, 11] nd_10_11 rfl (c_X5_use l D t h2 a2 s2_.2 _ v19 v22 e22) (cwV 1 hts (gcX5_use w_313) rfl rfl rfl hdX5_useV ⟨Nat.le_of_ble_eq_true rfl, Nat.le_of_ble_eq_true rfl⟩) (ci := 4) (q0 := 10) rfl rfl rfl hl.1 rfl (Nat.le_of_ble_eq_true rfl) (kd tdlX1_passThrough_0 14 rfl) ⟨Nat.zero_le _, Nat.zero_le _⟩) (fun H locs hP hD hS => ?_)
    refine lv_iinc (v := (s2_.1 + 1)) (lv' := [(3, .int (s2_.1 + 1)), (0, .ref h0), (1, .int p1), (2, .ref h2)]) hx hb (kd tdlX1_passThrough_0 15 rfl) hl (k := 3) rfl rfl (by decide) rfl (fun ls hl => ?_)
    refine lv_goto (tgt := 2) hx hb (kd tdlX1_passThrough_0 16 rfl) (by decide) ?_
    exact ih2 ((s2_.1 + 1), v22) hF _ _ _ hP hD hS (lv_sub hl [1, 2, 3, 0] rfl)
set_option maxHeartbeats 4000000 in
set_option maxRecDepth 100000 in
theorem c_X1_freeBackup (l : Launch) (D : va_G) (t : Nat → ClassId) (h0 : Nat) (a0 : Nat → Nat) (d0 : DKT) (sz : Nat)  (r : Int32) (hF : F_X1_freeBackup d0 = some r) : Met l yX1_freeBackup wX1_freeBackup ({ frames := 0, cells := 0, slots := 0, locals := 0 } : Room) (kPc D (TY t) ((wdk t h0 a0 d0)) [.ref h0] sz) (kQi D (TY t) ((wdk t h0 a0 d0)) r (va_A ((wdk t h0 a0 d0)) sz)) 0 0 (va_A ((wdk t h0 a0 d0)) sz) := by
  refine kE (cc := cX1_freeBackup) (maxL := 2) (ret := (some .int)) (Qx := fun A => kQi D (TY t) ((wdk t h0 a0 d0)) r A) (lv0 := [(0, .ref h0)]) RX1 rfl (by decide) rfl (Nat.le_of_ble_eq_true rfl) rfl ?_
  intro p e s m args below meth c A ls hx hb hml hr hlocks hown hts hA hK hP hD hS hl
  have L44 := hts (.fieldLink RX1 44 "ChunkCarriers$Desk" "lengths" "[I") (List.mem_cons_of_mem _ w_64)
  have inX1_ : ∀ w ∈ wsX10, w ∈ wX1_freeBackup := fun w h => List.mem_cons_of_mem _ (inlX1 w h)
  have hP : va_P D vwCl ((wdkF t h0 a0 (dk_settings d0) (dk_numbers d0) (dk_capacities d0) (dk_firsts d0) (dk_containers d0) (dk_codes d0) (dk_places d0) (dk_uses d0) (dk_entries d0) (dk_references d0) (dk_lengths d0) (dk_nextNumber d0) (dk_carried d0))) s.heap := hP
  have hD : va_D A ((wdkF t h0 a0 (dk_settings d0) (dk_numbers d0) (dk_capacities d0) (dk_firsts d0) (dk_containers d0) (dk_codes d0) (dk_places d0) (dk_uses d0) (dk_entries d0) (dk_references d0) (dk_lengths d0) (dk_nextNumber d0) (dk_carried d0))) := hD
  refine lv_iconst (v := 0) hx hb (kd tdlX1_freeBackup_0 0 rfl) (by decide) ?_
  refine lv_istore_n (lv' := [(1, .int 0), (0, .ref h0)]) hx hb (kd tdlX1_freeBackup_0 1 rfl) rfl hl (by decide) rfl (fun ls hl => ?_)
  refine lp_ind (f := B_X1_freeBackup_2 d0) (r := r) (P := fun s2_ => ∀ (H : Heap) (locs : List Loc) (ls : Array Slot), va_P D vwCl ((wdkF t h0 a0 (dk_settings d0) (dk_numbers d0) (dk_capacities d0) (dk_firsts d0) (dk_containers d0) (dk_codes d0) (dk_places d0) (dk_uses d0) (dk_entries d0) (dk_references d0) (dk_lengths d0) (dk_nextNumber d0) (dk_carried d0))) H → va_D A ((wdkF t h0 a0 (dk_settings d0) (dk_numbers d0) (dk_capacities d0) (dk_firsts d0) (dk_containers d0) (dk_codes d0) (dk_places d0) (dk_uses d0) (dk_entries d0) (dk_references d0) (dk_lengths d0) (dk_nextNumber d0) (dk_carried d0))) → va_S A s.heap H locs → lv_has ls 2 [(0, .ref h0), (1, .int s2_)] → W p l e ({ frames := 0, cells := 0, slots := 0, locals := 0 } : Room) s m args below meth c H locs 0 0 (MQ below (kQi D (TY t) ((wdk t h0 a0 d0)) r A) args s 0 0 A) (F0 m 2 ls [])) ?_ FU (0) hF _ _ _ hP hD hS (lv_sub hl [1, 0] rfl)
  intro self2 ih2 s2_ hF H locs ls hP hD hS hl
  refine lv_iload_n hx hb (kd tdlX1_freeBackup_0 2 rfl) rfl (lv_at hl 1 rfl) ?_
  refine lv_bipush (v := 8) hx hb (kd tdlX1_freeBackup_0 3 rfl) (by decide) ?_
  refine lv_icmp_ge (tgt := 25) hx hb (kd tdlX1_freeBackup_0 4 rfl) (by decide) (fun hc5 => ?_) (fun hc5 => ?_)
  · have hF := kt hc5 hF
    refine lv_iconst (v := (-1)) hx hb (kd tdlX1_freeBackup_0 14 rfl) (by decide) ?_
    cases ko hF
    exact ke_i hx hb hr hlocks hK hP hD hS rfl (kd tdlX1_freeBackup_0 15 rfl)
  · have hF := kf hc5 hF
    refine lv_aload_n hx hb (kd tdlX1_freeBackup_0 5 rfl) rfl (lv_at hl 0 rfl) ?_
    refine dk_g_lengths hx hb hts inX1_ hown hK hP L44 (kd tdlX1_freeBackup_0 6 rfl) ?_
    refine lv_iload_n hx hb (kd tdlX1_freeBackup_0 7 rfl) rfl (lv_at hl 1 rfl) ?_
    obtain ⟨hi13, hF⟩ := kg hF
    refine dk_l_lengths hx hb hK hP hi13 (kd tdlX1_freeBackup_0 8 rfl) ?_
    refine lv_if_ne (tgt := 19) hx hb (kd tdlX1_freeBackup_0 9 rfl) (by decide) (fun hc14 => ?_) (fun hc14 => ?_)
    · have hF := kf hc14 hF
      refine lv_iinc (v := (s2_ + 1)) (lv' := [(1, .int (s2_ + 1)), (0, .ref h0)]) hx hb (kd tdlX1_freeBackup_0 12 rfl) hl (k := 1) rfl rfl (by decide) rfl (fun ls hl => ?_)
      refine lv_goto (tgt := 2) hx hb (kd tdlX1_freeBackup_0 13 rfl) (by decide) ?_
      exact ih2 ((s2_ + 1)) hF _ _ _ hP hD hS (lv_sub hl [1, 0] rfl)
    · have hF := kt hc14 hF
      refine lv_iload_n hx hb (kd tdlX1_freeBackup_0 10 rfl) rfl (lv_at hl 1 rfl) ?_
      cases ko hF
      exact ke_i hx hb hr hlocks hK hP hD hS rfl (kd tdlX1_freeBackup_0 11 rfl)
