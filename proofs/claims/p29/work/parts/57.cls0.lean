set_option maxHeartbeats 4000000 in
set_option maxRecDepth 100000 in
theorem c_X8_isSetting (l : Launch) (D : va_G) (t : Nat → ClassId)  (sz : Nat) (p0 : Int32) (p1 : Int32) (r : Int32) (hF : F_X8_isSetting p0 p1 = some r) : Met l yX8_isSetting wX8_isSetting ({ frames := 0, cells := 0, slots := 0, locals := 0 } : Room) (kPx D (TY t) (kflat []) [.int p0, .int p1] sz) (kQiS D (TY t) (fun (u : Unit) => (kflat [])) r (va_A (kflat []) sz)) 0 0 (va_A (kflat []) sz) := by
  refine kEx (cc := cX8_isSetting) (maxL := 2) (ret := (some .boolean)) (Qx := fun A => kQiS D (TY t) (fun (u : Unit) => (kflat [])) r A) (lv0 := [(0, .int p0), (1, .int p1)]) RX8 rfl (by decide) rfl (Nat.le_of_ble_eq_true rfl) rfl ?_
  intro p e s m args below meth c A ls hx hb hml hr hlocks hown hts hA hX hK hP hD hS hl
  have L292 := hts (.fieldLink RX8 292 "ChunkCarriers" "LEAST_SETTINGS" "[I") (List.mem_cons_of_mem _ w_421)
  have L296 := hts (.fieldLink RX8 296 "ChunkCarriers" "GREATEST_SETTINGS" "[I") (List.mem_cons_of_mem _ w_422)
  obtain ⟨ts_GREATEST_SETTINGS, hz_GREATEST_SETTINGS, ht_GREATEST_SETTINGS⟩ := hX.2.2.1
  obtain ⟨ts_LEAST_SETTINGS, hz_LEAST_SETTINGS, ht_LEAST_SETTINGS⟩ := hX.2.1
  refine lv_iload_n hx hb (kd tdlX8_isSetting_0 0 rfl) rfl (lv_at hl 0 rfl) ?_
  refine lv_if_lt (tgt := 9) hx hb (kd tdlX8_isSetting_0 1 rfl) (by decide) (fun hc1 => ?_) (fun hc1 => ?_)
  · have hF := kt hc1 hF
    refine lv_iconst (v := 0) hx hb (kd tdlX8_isSetting_0 5 rfl) (by decide) ?_
    cases ko hF
    exact kes_z () hx hb hr hlocks rfl hK hP hD hS rfl (Nat.le_of_ble_eq_true rfl) (Nat.le_of_ble_eq_true rfl) (kd tdlX8_isSetting_0 6 rfl)
  · have hF := kf hc1 hF
    refine lv_iload_n hx hb (kd tdlX8_isSetting_0 2 rfl) rfl (lv_at hl 0 rfl) ?_
    refine lv_iconst (v := 5) hx hb (kd tdlX8_isSetting_0 3 rfl) (by decide) ?_
    refine lv_icmp_lt (tgt := 11) hx hb (kd tdlX8_isSetting_0 4 rfl) (by decide) (fun hc6 => ?_) (fun hc6 => ?_)
    · have hF := kt hc6 hF
      refine lv_iload_n hx hb (kd tdlX8_isSetting_0 7 rfl) rfl (lv_at hl 1 rfl) ?_
      refine va_gets (A := A) (v := .ref ts_LEAST_SETTINGS) hx hb hz_LEAST_SETTINGS hS hown L292 (fun _ h9 => h9) (kd tdlX8_isSetting_0 8 rfl) ?_
      refine lv_iload_n hx hb (kd tdlX8_isSetting_0 9 rfl) rfl (lv_at hl 0 rfl) ?_
      obtain ⟨hi16, hF⟩ := kg hF
      refine va_ti hx hb ht_LEAST_SETTINGS hS hi16 rfl (kd tdlX8_isSetting_0 10 rfl) ?_
      refine lv_icmp_lt (tgt := 33) hx hb (kd tdlX8_isSetting_0 11 rfl) (by decide) (fun hc17 => ?_) (fun hc17 => ?_)
      · have hF := kt hc17 hF
        refine lv_iconst (v := 0) hx hb (kd tdlX8_isSetting_0 19 rfl) (by decide) ?_
        cases ko hF
        exact kes_z () hx hb hr hlocks rfl hK hP hD hS rfl (Nat.le_of_ble_eq_true rfl) (Nat.le_of_ble_eq_true rfl) (kd tdlX8_isSetting_0 20 rfl)
      · have hF := kf hc17 hF
        refine lv_iload_n hx hb (kd tdlX8_isSetting_0 12 rfl) rfl (lv_at hl 1 rfl) ?_
        refine va_gets (A := A) (v := .ref ts_GREATEST_SETTINGS) hx hb hz_GREATEST_SETTINGS hS hown L296 (fun _ h9 => h9) (kd tdlX8_isSetting_0 13 rfl) ?_
        refine lv_iload_n hx hb (kd tdlX8_isSetting_0 14 rfl) rfl (lv_at hl 0 rfl) ?_
        obtain ⟨hi25, hF⟩ := kg hF
        refine va_ti hx hb ht_GREATEST_SETTINGS hS hi25 rfl (kd tdlX8_isSetting_0 15 rfl) ?_
        refine lv_icmp_gt (tgt := 33) hx hb (kd tdlX8_isSetting_0 16 rfl) (by decide) (fun hc26 => ?_) (fun hc26 => ?_)
        · have hF := kt hc26 hF
          refine lv_iconst (v := 0) hx hb (kd tdlX8_isSetting_0 19 rfl) (by decide) ?_
          cases ko hF
          exact kes_z () hx hb hr hlocks rfl hK hP hD hS rfl (Nat.le_of_ble_eq_true rfl) (Nat.le_of_ble_eq_true rfl) (kd tdlX8_isSetting_0 20 rfl)
        · have hF := kf hc26 hF
          refine lv_iconst (v := 1) hx hb (kd tdlX8_isSetting_0 17 rfl) (by decide) ?_
          refine lv_goto (tgt := 34) hx hb (kd tdlX8_isSetting_0 18 rfl) (by decide) ?_
          cases ko hF
          exact kes_z () hx hb hr hlocks rfl hK hP hD hS rfl (Nat.le_of_ble_eq_true rfl) (Nat.le_of_ble_eq_true rfl) (kd tdlX8_isSetting_0 20 rfl)
    · have hF := kf hc6 hF
      refine lv_iconst (v := 0) hx hb (kd tdlX8_isSetting_0 5 rfl) (by decide) ?_
      cases ko hF
      exact kes_z () hx hb hr hlocks rfl hK hP hD hS rfl (Nat.le_of_ble_eq_true rfl) (Nat.le_of_ble_eq_true rfl) (kd tdlX8_isSetting_0 6 rfl)
set_option maxHeartbeats 4000000 in
set_option maxRecDepth 100000 in
theorem c_X1_changeSetting (l : Launch) (D : va_G) (t : Nat → ClassId) (h0 : Nat) (a0 : Nat → Nat) (d0 : DKT) (sz : Nat) (p1 : Int32) (p2 : Int32) (r : Int32 × DKT) (hF : F_X1_changeSetting d0 p1 p2 = some r) : Met l yX1_changeSetting wX1_changeSetting ({ frames := 1, cells := 0, slots := 0, locals := 21 } : Room) (kPx D (TY t) (kflat [(wdk t h0 a0 d0)]) [.ref h0, .int p1, .int p2] sz) (kQiS D (TY t) (fun (u : Unit) => (kflat [(wdk t h0 a0 r.2)])) r.1 (va_A (kflat [(wdk t h0 a0 d0)]) sz)) 0 0 (va_A (kflat [(wdk t h0 a0 d0)]) sz) := by
  refine kEx (cc := cX1_changeSetting) (maxL := 4) (ret := (some .int)) (Qx := fun A => kQiS D (TY t) (fun (u : Unit) => (kflat [(wdk t h0 a0 r.2)])) r.1 A) (lv0 := [(0, .ref h0), (1, .int p1), (2, .int p2)]) RX1 rfl (by decide) rfl (Nat.le_of_ble_eq_true rfl) rfl ?_
  intro p e s m args below meth c A ls hx hb hml hr hlocks hown hts hA hX hK hP hD hS hl
  have L18 := hts (.fieldLink RX1 18 "ChunkCarriers$Desk" "settings" "[I") (List.mem_cons_of_mem _ w_55)
  have inX1_ : ∀ w ∈ wsX10, w ∈ wX1_changeSetting := fun w h => List.mem_cons_of_mem _ (inlX1 w h)
  refine lv_aload_n hx hb (kd tdlX1_changeSetting_0 0 rfl) rfl (lv_at hl 0 rfl) ?_
  refine lv_iload_n hx hb (kd tdlX1_changeSetting_0 1 rfl) rfl (lv_at hl 1 rfl) ?_
  obtain ⟨v2, e2, hF⟩ := kc hF
  refine kcL_i (S := Unit) (wf := (fun (_ : Unit) => [(wdk t h0 a0 d0)])) hP hD hS hA nd_0 rfl (fun _ => rfl) (kL_V (Qx := (fun A => kQi D (TY t) (kflat [(wdk t h0 a0 d0)]) v2 A)) (cs := [(wdk t h0 a0 d0)]) (is := [0]) (As := [.int p1]) (rest := []) ⟨hx, hb, hml, hown, hts⟩ hK hP hD nd_0 rfl (c_X1_settingAt l D t h0 a0 d0 _ p1 v2 e2) (cwV 1 hts (gcX1_settingAt w_427) rfl rfl rfl hdX1_settingAtV ⟨Nat.le_of_ble_eq_true rfl, Nat.le_of_ble_eq_true rfl⟩) (ci := 1) (q0 := 0) rfl rfl rfl hl.1 rfl (Nat.le_of_ble_eq_true rfl) (kd tdlX1_changeSetting_0 2 rfl) ⟨Nat.le_of_ble_eq_true rfl, Nat.le_of_ble_eq_true rfl⟩) (fun _ H locs hP hD hS => ?_)
  have hP : va_P D vwCl (kflat [(wdk t h0 a0 d0)]) H := hP
  have hD : va_D A (kflat [(wdk t h0 a0 d0)]) := hD
  refine lv_istore_n (lv' := [(3, .int v2), (0, .ref h0), (1, .int p1), (2, .int p2)]) hx hb (kd tdlX1_changeSetting_0 3 rfl) rfl hl (by decide) rfl (fun ls hl => ?_)
  refine lv_iload_n hx hb (kd tdlX1_changeSetting_0 4 rfl) rfl (lv_at hl 2 rfl) ?_
  refine lv_iload_n hx hb (kd tdlX1_changeSetting_0 5 rfl) rfl (lv_at hl 3 rfl) ?_
  obtain ⟨v8, e8, hF⟩ := kc hF
  refine kcL_i (S := Unit) (wf := (fun (_ : Unit) => [])) hP hD hS hA nd_ rfl (fun _ => rfl) (kL_SNX (host := "ChunkCarriers") (Qx := (fun A => kQiS D (TY t) (fun (u8 : Unit) => kflat []) v8 A)) (cs := []) (is := []) (As := [.int p1, .int p2]) (rest := []) ⟨hx, hb, hml, hown, hts⟩ hX hS hA hK hP hD nd_ rfl (c_X8_isSetting l D t  _ p1 p2 v8 e8) ⟨va_cnB 2 hts (kgoodI w_420) rfl rfl rfl (hX.2.2.2.2.2.1 _ (List.mem_of_getElem? (i := 7) rfl)) (hts _ (List.mem_cons_of_mem _ w_2)) hdX8_isSettingS ⟨Nat.le_of_ble_eq_true rfl, Nat.le_of_ble_eq_true rfl⟩, hts _ (List.mem_cons_of_mem _ w_419), trivial⟩ rfl hl.1 rfl (Nat.le_of_ble_eq_true rfl) (kd tdlX1_changeSetting_0 6 rfl) ⟨Nat.le_of_ble_eq_true rfl, Nat.le_of_ble_eq_true rfl⟩) (fun _ H locs hP hD hS => ?_)
  have hP : va_P D vwCl (kflat [(wdk t h0 a0 d0)]) H := hP
  have hD : va_D A (kflat [(wdk t h0 a0 d0)]) := hD
  refine lv_if_eq (tgt := 21) hx hb (kd tdlX1_changeSetting_0 7 rfl) (by decide) (fun hc11 => ?_) (fun hc11 => ?_)
  · have hF := kt hc11 hF
    refine lv_iload_n hx hb (kd tdlX1_changeSetting_0 13 rfl) rfl (lv_at hl 0 rfl) ?_
    cases ko hF
    exact kes_i () hx hb hr hlocks hK hP hD hS rfl (Nat.le_of_ble_eq_true rfl) (Nat.le_of_ble_eq_true rfl) (kd tdlX1_changeSetting_0 14 rfl)
  · have hF := kf hc11 hF
    refine lv_aload_n hx hb (kd tdlX1_changeSetting_0 8 rfl) rfl (lv_at hl 1 rfl) ?_
    refine va_get (D := D) (ci := 1) (v := .ref (a0 0)) (C := RX1) (T := TX1) (N := 13) hx hb hts inX1_ hown hK hP 0 rfl rfl 0 (by decide) L18 (fun _ h9 => h9) rfl (kd tdlX1_changeSetting_0 9 rfl) ?_
    refine lv_iload_n hx hb (kd tdlX1_changeSetting_0 10 rfl) rfl (lv_at hl 2 rfl) ?_
    refine lv_iload_n hx hb (kd tdlX1_changeSetting_0 11 rfl) rfl (lv_at hl 3 rfl) ?_
    obtain ⟨hi20, hF⟩ := kg hF
    refine va_iast (D := D) (tys := TY t) hx hb hK hP hD hS 1 0 rfl rfl hi20 (kd tdlX1_changeSetting_0 12 rfl) (fun H locs hP hD hS => ?_)
    have hP : va_P D vwCl (kflat [(wdkF t h0 a0 (upd (dk_settings d0) (Int32.toNatClampNeg p1) p2) (dk_numbers d0) (dk_capacities d0) (dk_firsts d0) (dk_containers d0) (dk_codes d0) (dk_places d0) (dk_uses d0) (dk_entries d0) (dk_references d0) (dk_lengths d0) (dk_nextNumber d0) (dk_carried d0))]) H := hP
    have hD : va_D A (kflat [(wdkF t h0 a0 (upd (dk_settings d0) (Int32.toNatClampNeg p1) p2) (dk_numbers d0) (dk_capacities d0) (dk_firsts d0) (dk_containers d0) (dk_codes d0) (dk_places d0) (dk_uses d0) (dk_entries d0) (dk_references d0) (dk_lengths d0) (dk_nextNumber d0) (dk_carried d0))]) := hD
    refine lv_iload_n hx hb (kd tdlX1_changeSetting_0 13 rfl) rfl (lv_at hl 0 rfl) ?_
    cases ko hF
    exact kes_i () hx hb hr hlocks hK hP hD hS rfl (Nat.le_of_ble_eq_true rfl) (Nat.le_of_ble_eq_true rfl) (kd tdlX1_changeSetting_0 14 rfl)
set_option maxHeartbeats 4000000 in
set_option maxRecDepth 100000 in
theorem c_X8_append (l : Launch) (D : va_G) (t : Nat → ClassId) (h0 : Nat) (g0 : Nat → Nat) (a_text : Nat → Nat) (d_text : TXT) (sz : Nat) (p1 : Int32) (r : Nat × Int32 × TXT) (hF : F_X8_append d_text p1 = some r) (hcd0 : r.1 = 0) : Met l yX8_append wX8_append ({ frames := 2, cells := 0, slots := 0, locals := 41 } : Room) (kPx D (TY t) (kflat [(wx8 h0 g0), (wtx t (g0 0) a_text d_text)]) [.ref h0, .int p1] sz) (kQiS D (TY t) (fun (u : Unit) => (kflat [(wx8 h0 g0), (wtx t (g0 0) a_text r.2.2)])) r.2.1 (va_A (kflat [(wx8 h0 g0), (wtx t (g0 0) a_text d_text)]) sz)) 0 0 (va_A (kflat [(wx8 h0 g0), (wtx t (g0 0) a_text d_text)]) sz) := by
  refine kEx (cc := cX8_append) (maxL := 2) (ret := (some .int)) (Qx := fun A => kQiS D (TY t) (fun (u : Unit) => (kflat [(wx8 h0 g0), (wtx t (g0 0) a_text r.2.2)])) r.2.1 A) (lv0 := [(0, .ref h0), (1, .int p1)]) RX8 rfl (by decide) rfl (Nat.le_of_ble_eq_true rfl) rfl ?_
  intro p e s m args below meth c A ls hx hb hml hr hlocks hown hts hA hX hK hP hD hS hl
  have L10 := hts (.fieldLink RX8 10 "ChunkCarriers" "text" "LChunkCarriers$Text;") (List.mem_cons_of_mem _ w_14)
  have L79 := hts (.fieldLink RX8 79 "ChunkCarriers$Text" "length" "I") (List.mem_cons_of_mem _ w_435)
  have inX7_ : ∀ w ∈ wsX70, w ∈ wX8_append := fun w h => List.mem_cons_of_mem _ (inlX7 w h)
  have inX8_ : ∀ w ∈ wsX80, w ∈ wX8_append := fun w h => List.mem_cons_of_mem _ (inlX8 w h)
  refine lv_iload_n hx hb (kd tdlX8_append_0 0 rfl) rfl (lv_at hl 1 rfl) ?_
  refine lv_if_lt (tgt := 11) hx hb (kd tdlX8_append_0 1 rfl) (by decide) (fun hc1 => ?_) (fun hc1 => ?_)
  · have hF := kt hc1 hF
    cases ko hF
    exact absurd (show (2 : Nat) = 0 from hcd0) (by decide)
  · have hF := kf hc1 hF
    refine lv_iload_n hx hb (kd tdlX8_append_0 2 rfl) rfl (lv_at hl 1 rfl) ?_
    refine lv_sipush (v := 255) hx hb (kd tdlX8_append_0 3 rfl) (by decide) ?_
    refine lv_icmp_le (tgt := 19) hx hb (kd tdlX8_append_0 4 rfl) (by decide) (fun hc8 => ?_) (fun hc8 => ?_)
    · have hF := kt hc8 hF
      refine lv_aload_n hx hb (kd tdlX8_append_0 9 rfl) rfl (lv_at hl 0 rfl) ?_
      refine va_get (D := D) (ci := 7) (v := .ref (g0 0)) (C := RX8) (T := TX8) (N := 9) hx hb hts inX8_ hown hK hP 0 rfl rfl 0 (by decide) L10 (fun _ h9 => h9) rfl (kd tdlX8_append_0 10 rfl) ?_
      obtain ⟨v23, e23, hF⟩ := kc hF
      refine kcL_i (S := Unit) (wf := (fun (_ : Unit) => [(wtx t (g0 0) a_text d_text)])) hP hD hS hA nd_1 rfl (fun _ => rfl) (kL_V (Qx := (fun A => kQi D (TY t) (kflat [(wtx t (g0 0) a_text d_text)]) v23 A)) (cs := [(wtx t (g0 0) a_text d_text)]) (is := [1]) (As := []) (rest := []) ⟨hx, hb, hml, hown, hts⟩ hK hP hD nd_1 rfl (c_X7_isFull l D t (g0 0) a_text d_text _  v23 e23) (cwV 0 hts (gcX7_isFull w_445) rfl rfl rfl hdX7_isFullV ⟨Nat.le_of_ble_eq_true rfl, Nat.le_of_ble_eq_true rfl⟩) (ci := 6) (q0 := 1) rfl rfl rfl hl.1 rfl (Nat.le_of_ble_eq_true rfl) (kd tdlX8_append_0 11 rfl) ⟨Nat.le_of_ble_eq_true rfl, Nat.le_of_ble_eq_true rfl⟩) (fun _ H locs hP hD hS => ?_)
      have hP : va_P D vwCl (kflat [(wx8 h0 g0), (wtx t (g0 0) a_text d_text)]) H := hP
      have hD : va_D A (kflat [(wx8 h0 g0), (wtx t (g0 0) a_text d_text)]) := hD
      refine lv_if_eq (tgt := 37) hx hb (kd tdlX8_append_0 12 rfl) (by decide) (fun hc26 => ?_) (fun hc26 => ?_)
      · have hF := kt hc26 hF
        refine lv_aload_n hx hb (kd tdlX8_append_0 17 rfl) rfl (lv_at hl 0 rfl) ?_
        refine va_get (D := D) (ci := 7) (v := .ref (g0 0)) (C := RX8) (T := TX8) (N := 9) hx hb hts inX8_ hown hK hP 0 rfl rfl 0 (by decide) L10 (fun _ h9 => h9) rfl (kd tdlX8_append_0 18 rfl) ?_
        refine lv_iload_n hx hb (kd tdlX8_append_0 19 rfl) rfl (lv_at hl 1 rfl) ?_
        obtain ⟨v42, e42, hF⟩ := kc hF
        refine kcL_v (S := Unit) (wf := (fun (_ : Unit) => [(wtx t (g0 0) a_text v42)])) hP hD hS hA nd_1 rfl (fun _ => rfl) (kL_V (Qx := (fun A => kQv D (TY t) (kflat [(wtx t (g0 0) a_text v42)]) A)) (cs := [(wtx t (g0 0) a_text d_text)]) (is := [1]) (As := [.int p1]) (rest := []) ⟨hx, hb, hml, hown, hts⟩ hK hP hD nd_1 rfl (c_X7_add l D t (g0 0) a_text d_text _ p1 v42 e42) (cwV 1 hts (gcX7_add w_450) rfl rfl rfl hdX7_addV ⟨Nat.le_of_ble_eq_true rfl, Nat.le_of_ble_eq_true rfl⟩) (ci := 6) (q0 := 1) rfl rfl rfl hl.1 rfl (Nat.le_of_ble_eq_true rfl) (kd tdlX8_append_0 20 rfl) ⟨Nat.le_of_ble_eq_true rfl, Nat.le_of_ble_eq_true rfl⟩) (fun _ H locs hP hD hS => ?_)
        have hP : va_P D vwCl (kflat [(wx8 h0 g0), (wtx t (g0 0) a_text v42)]) H := hP
        have hD : va_D A (kflat [(wx8 h0 g0), (wtx t (g0 0) a_text v42)]) := hD
        refine lv_aload_n hx hb (kd tdlX8_append_0 21 rfl) rfl (lv_at hl 0 rfl) ?_
        refine va_get (D := D) (ci := 7) (v := .ref (g0 0)) (C := RX8) (T := TX8) (N := 9) hx hb hts inX8_ hown hK hP 0 rfl rfl 0 (by decide) L10 (fun _ h9 => h9) rfl (kd tdlX8_append_0 22 rfl) ?_
        refine va_get (D := D) (ci := 6) (v := .int (tx_length v42)) (C := RX7) (T := TX7) (N := 2) hx hb hts inX7_ hown hK hP 1 rfl rfl 1 (by decide) L79 (fun _ h9 => h9) rfl (kd tdlX8_append_0 23 rfl) ?_
        cases ko hF
        exact kes_i () hx hb hr hlocks hK hP hD hS rfl (Nat.le_of_ble_eq_true rfl) (Nat.le_of_ble_eq_true rfl) (kd tdlX8_append_0 24 rfl)
      · have hF := kf hc26 hF
        cases ko hF
        exact absurd (show (3 : Nat) = 0 from hcd0) (by decide)
    · have hF := kf hc8 hF
      cases ko hF
      exact absurd (show (2 : Nat) = 0 from hcd0) (by decide)
set_option maxHeartbeats 4000000 in
set_option maxRecDepth 100000 in
theorem c_X8_clearText (l : Launch) (D : va_G) (t : Nat → ClassId) (h0 : Nat) (g0 : Nat → Nat) (a_text : Nat → Nat) (d_text : TXT) (sz : Nat)  (r : Int32 × TXT) (hF : F_X8_clearText d_text = some r) : Met l yX8_clearText wX8_clearText ({ frames := 0, cells := 0, slots := 0, locals := 0 } : Room) (kPx D (TY t) (kflat [(wx8 h0 g0), (wtx t (g0 0) a_text d_text)]) [.ref h0] sz) (kQiS D (TY t) (fun (u : Unit) => (kflat [(wx8 h0 g0), (wtx t (g0 0) a_text r.2)])) r.1 (va_A (kflat [(wx8 h0 g0), (wtx t (g0 0) a_text d_text)]) sz)) 0 0 (va_A (kflat [(wx8 h0 g0), (wtx t (g0 0) a_text d_text)]) sz) := by
  refine kEx (cc := cX8_clearText) (maxL := 2) (ret := (some .int)) (Qx := fun A => kQiS D (TY t) (fun (u : Unit) => (kflat [(wx8 h0 g0), (wtx t (g0 0) a_text r.2)])) r.1 A) (lv0 := [(0, .ref h0)]) RX8 rfl (by decide) rfl (Nat.le_of_ble_eq_true rfl) rfl ?_
  intro p e s m args below meth c A ls hx hb hml hr hlocks hown hts hA hX hK hP hD hS hl
  have L10 := hts (.fieldLink RX8 10 "ChunkCarriers" "text" "LChunkCarriers$Text;") (List.mem_cons_of_mem _ w_14)
  have L79 := hts (.fieldLink RX8 79 "ChunkCarriers$Text" "length" "I") (List.mem_cons_of_mem _ w_435)
  have inX7_ : ∀ w ∈ wsX70, w ∈ wX8_clearText := fun w h => List.mem_cons_of_mem _ (inlX7 w h)
  have inX8_ : ∀ w ∈ wsX80, w ∈ wX8_clearText := fun w h => List.mem_cons_of_mem _ (inlX8 w h)
  refine lv_aload_n hx hb (kd tdlX8_clearText_0 0 rfl) rfl (lv_at hl 0 rfl) ?_
  refine va_get (D := D) (ci := 7) (v := .ref (g0 0)) (C := RX8) (T := TX8) (N := 9) hx hb hts inX8_ hown hK hP 0 rfl rfl 0 (by decide) L10 (fun _ h9 => h9) rfl (kd tdlX8_clearText_0 1 rfl) ?_
  refine va_get (D := D) (ci := 6) (v := .int (tx_length d_text)) (C := RX7) (T := TX7) (N := 2) hx hb hts inX7_ hown hK hP 1 rfl rfl 1 (by decide) L79 (fun _ h9 => h9) rfl (kd tdlX8_clearText_0 2 rfl) ?_
  refine lv_istore_n (lv' := [(1, .int (tx_length d_text)), (0, .ref h0)]) hx hb (kd tdlX8_clearText_0 3 rfl) rfl hl (by decide) rfl (fun ls hl => ?_)
  refine lv_aload_n hx hb (kd tdlX8_clearText_0 4 rfl) rfl (lv_at hl 1 rfl) ?_
  refine va_get (D := D) (ci := 7) (v := .ref (g0 0)) (C := RX8) (T := TX8) (N := 9) hx hb hts inX8_ hown hK hP 0 rfl rfl 0 (by decide) L10 (fun _ h9 => h9) rfl (kd tdlX8_clearText_0 5 rfl) ?_
  refine lv_iconst (v := 0) hx hb (kd tdlX8_clearText_0 6 rfl) (by decide) ?_
  refine va_put (D := D) (ci := 6) (v := .int 0) (ty := .int) (C := RX7) (T := TX7) (N := 2) hx hb hts inX7_ tyX7 tyX7_ok nmX7 hown hK hP hD hS 1 rfl rfl 1 (by decide) L79 (fun _ h9 => h9) rfl (by decide +kernel) rfl rfl (Nat.le_of_ble_eq_true rfl) (kd tdlX8_clearText_0 7 rfl) (fun H locs hP hD hS => ?_)
  have hP : va_P D vwCl (kflat [(wx8 h0 g0), (wtxF t (g0 0) a_text (tx_signs d_text) 0)]) H := hP
  have hD : va_D A (kflat [(wx8 h0 g0), (wtxF t (g0 0) a_text (tx_signs d_text) 0)]) := hD
  refine lv_iload_n hx hb (kd tdlX8_clearText_0 8 rfl) rfl (lv_at hl 0 rfl) ?_
  cases ko hF
  exact kes_i () hx hb hr hlocks hK hP hD hS rfl (Nat.le_of_ble_eq_true rfl) (Nat.le_of_ble_eq_true rfl) (kd tdlX8_clearText_0 9 rfl)
set_option maxHeartbeats 4000000 in
set_option maxRecDepth 100000 in
theorem c_X8_errorPosition (l : Launch) (D : va_G) (t : Nat → ClassId) (h0 : Nat) (g0 : Nat → Nat) (a_text : Nat → Nat) (d_text : TXT) (sz : Nat)  (r : Int32) (hF : F_X8_errorPosition d_text = some r) : Met l yX8_errorPosition wX8_errorPosition ({ frames := 2, cells := 0, slots := 0, locals := 43 } : Room) (kPx D (TY t) (kflat [(wx8 h0 g0), (wtx t (g0 0) a_text d_text)]) [.ref h0] sz) (kQiS D (TY t) (fun (u : Unit) => (kflat [(wx8 h0 g0), (wtx t (g0 0) a_text d_text)])) r (va_A (kflat [(wx8 h0 g0), (wtx t (g0 0) a_text d_text)]) sz)) 0 0 (va_A (kflat [(wx8 h0 g0), (wtx t (g0 0) a_text d_text)]) sz) := by
  refine kEx (cc := cX8_errorPosition) (maxL := 1) (ret := (some .int)) (Qx := fun A => kQiS D (TY t) (fun (u : Unit) => (kflat [(wx8 h0 g0), (wtx t (g0 0) a_text d_text)])) r A) (lv0 := [(0, .ref h0)]) RX8 rfl (by decide) rfl (Nat.le_of_ble_eq_true rfl) rfl ?_
  intro p e s m args below meth c A ls hx hb hml hr hlocks hown hts hA hX hK hP hD hS hl
  have L10 := hts (.fieldLink RX8 10 "ChunkCarriers" "text" "LChunkCarriers$Text;") (List.mem_cons_of_mem _ w_14)
  have inX8_ : ∀ w ∈ wsX80, w ∈ wX8_errorPosition := fun w h => List.mem_cons_of_mem _ (inlX8 w h)
  refine lv_aload_n hx hb (kd tdlX8_errorPosition_0 0 rfl) rfl (lv_at hl 0 rfl) ?_
  refine va_get (D := D) (ci := 7) (v := .ref (g0 0)) (C := RX8) (T := TX8) (N := 9) hx hb hts inX8_ hown hK hP 0 rfl rfl 0 (by decide) L10 (fun _ h9 => h9) rfl (kd tdlX8_errorPosition_0 1 rfl) ?_
  obtain ⟨v4, e4, hF⟩ := kc hF
  refine kcL_i (S := Unit) (wf := (fun (_ : Unit) => [(wtx t (g0 0) a_text d_text)])) hP hD hS hA nd_1 rfl (fun _ => rfl) (kL_V (Qx := (fun A => kQi D (TY t) (kflat [(wtx t (g0 0) a_text d_text)]) v4 A)) (cs := [(wtx t (g0 0) a_text d_text)]) (is := [1]) (As := []) (rest := []) ⟨hx, hb, hml, hown, hts⟩ hK hP hD nd_1 rfl (c_X7_firstError l D t (g0 0) a_text d_text _  v4 e4) (cwV 0 hts (gcX7_firstError w_631) rfl rfl rfl hdX7_firstErrorV ⟨Nat.le_of_ble_eq_true rfl, Nat.le_of_ble_eq_true rfl⟩) (ci := 6) (q0 := 1) rfl rfl rfl hl.1 rfl (Nat.le_of_ble_eq_true rfl) (kd tdlX8_errorPosition_0 2 rfl) ⟨Nat.le_of_ble_eq_true rfl, Nat.le_of_ble_eq_true rfl⟩) (fun _ H locs hP hD hS => ?_)
  have hP : va_P D vwCl (kflat [(wx8 h0 g0), (wtx t (g0 0) a_text d_text)]) H := hP
  have hD : va_D A (kflat [(wx8 h0 g0), (wtx t (g0 0) a_text d_text)]) := hD
  cases ko hF
  exact kes_i () hx hb hr hlocks hK hP hD hS rfl (Nat.le_of_ble_eq_true rfl) (Nat.le_of_ble_eq_true rfl) (kd tdlX8_errorPosition_0 3 rfl)
set_option maxHeartbeats 4000000 in
set_option maxRecDepth 100000 in
theorem c_X8_about (l : Launch) (D : va_G) (t : Nat → ClassId) (h0 : Nat) (g0 : Nat → Nat) (a_desk : Nat → Nat) (d_desk : DKT) (sz : Nat) (p1 : Int32) (r : Nat × Int32) (hF : F_X8_about d_desk p1 = some r) (hcd0 : r.1 = 0) : Met l yX8_about wX8_about ({ frames := 5, cells := 0, slots := 0, locals := 109 } : Room) (kPx D (TY t) (kflat [(wx8 h0 g0), (wdk t (g0 1) a_desk d_desk)]) [.ref h0, .int p1] sz) (kQiS D (TY t) (fun (u : Unit) => (kflat [(wx8 h0 g0), (wdk t (g0 1) a_desk d_desk)])) r.2 (va_A (kflat [(wx8 h0 g0), (wdk t (g0 1) a_desk d_desk)]) sz)) 0 0 (va_A (kflat [(wx8 h0 g0), (wdk t (g0 1) a_desk d_desk)]) sz) := by
  refine kEx (cc := cX8_about) (maxL := 2) (ret := (some .int)) (Qx := fun A => kQiS D (TY t) (fun (u : Unit) => (kflat [(wx8 h0 g0), (wdk t (g0 1) a_desk d_desk)])) r.2 A) (lv0 := [(0, .ref h0), (1, .int p1)]) RX8 rfl (by decide) rfl (Nat.le_of_ble_eq_true rfl) rfl ?_
  intro p e s m args below meth c A ls hx hb hml hr hlocks hown hts hA hX hK hP hD hS hl
  have L124 := hts (.fieldLink RX8 124 "ChunkCarriers$Desk" "containers" "I") (List.mem_cons_of_mem _ w_129)
  have L130 := hts (.fieldLink RX8 130 "ChunkCarriers$Desk" "entries" "I") (List.mem_cons_of_mem _ w_130)
  have L148 := hts (.fieldLink RX8 148 "ChunkCarriers$Desk" "nextNumber" "I") (List.mem_cons_of_mem _ w_131)
  have L151 := hts (.fieldLink RX8 151 "ChunkCarriers$Desk" "carried" "I") (List.mem_cons_of_mem _ w_132)
  have L19 := hts (.fieldLink RX8 19 "ChunkCarriers" "desk" "LChunkCarriers$Desk;") (List.mem_cons_of_mem _ w_18)
  have inX1_ : ∀ w ∈ wsX10, w ∈ wX8_about := fun w h => List.mem_cons_of_mem _ (inlX1 w h)
  have inX8_ : ∀ w ∈ wsX80, w ∈ wX8_about := fun w h => List.mem_cons_of_mem _ (inlX8 w h)
  refine lv_iload_n hx hb (kd tdlX8_about_0 0 rfl) rfl (lv_at hl 1 rfl) ?_
  by_cases hw1 : (Int32.toInt p1 < 0 ∨ 9 < Int32.toInt p1)
  · have hF := kt hw1 hF
    refine lv_tableOut (tgt := 136) hx hb (kd tdlX8_about_0 1 rfl) hw1 (by decide) ?_
    cases ko hF
    exact absurd (show (2 : Nat) = 0 from hcd0) (by decide)
  · have hF := kf hw1 hF
    by_cases hv1_0 : p1 = 0
    · have hF := kt hv1_0 hF
      refine ksw (n := 0) (off := (55)) (tgt := 56) hx hb (kd tdlX8_about_0 1 rfl) hv1_0 (by decide) (by decide) (by decide) (by decide) ?_
      refine lv_aload_n hx hb (kd tdlX8_about_0 2 rfl) rfl (lv_at hl 0 rfl) ?_
      refine va_get (D := D) (ci := 7) (v := .ref (g0 1)) (C := RX8) (T := TX8) (N := 9) hx hb hts inX8_ hown hK hP 0 rfl rfl 1 (by decide) L19 (fun _ h9 => h9) rfl (kd tdlX8_about_0 3 rfl) ?_
      refine va_get (D := D) (ci := 1) (v := .int (dk_containers d_desk)) (C := RX1) (T := TX1) (N := 13) hx hb hts inX1_ hown hK hP 1 rfl rfl 4 (by decide) L124 (fun _ h9 => h9) rfl (kd tdlX8_about_0 4 rfl) ?_
      cases ko hF
      exact kes_i () hx hb hr hlocks hK hP hD hS rfl (Nat.le_of_ble_eq_true rfl) (Nat.le_of_ble_eq_true rfl) (kd tdlX8_about_0 5 rfl)
    · have hF := kf hv1_0 hF
      by_cases hv1_1 : p1 = 1
      · have hF := kt hv1_1 hF
        refine ksw (n := 1) (off := (63)) (tgt := 64) hx hb (kd tdlX8_about_0 1 rfl) hv1_1 (by decide) (by decide) (by decide) (by decide) ?_
        refine lv_aload_n hx hb (kd tdlX8_about_0 6 rfl) rfl (lv_at hl 0 rfl) ?_
        refine va_get (D := D) (ci := 7) (v := .ref (g0 1)) (C := RX8) (T := TX8) (N := 9) hx hb hts inX8_ hown hK hP 0 rfl rfl 1 (by decide) L19 (fun _ h9 => h9) rfl (kd tdlX8_about_0 7 rfl) ?_
        obtain ⟨v68, e68, hF⟩ := kc hF
        refine kcL_i (S := Unit) (wf := (fun (_ : Unit) => [(wdk t (g0 1) a_desk d_desk)])) hP hD hS hA nd_1 rfl (fun _ => rfl) (kL_V (Qx := (fun A => kQi D (TY t) (kflat [(wdk t (g0 1) a_desk d_desk)]) v68 A)) (cs := [(wdk t (g0 1) a_desk d_desk)]) (is := [1]) (As := []) (rest := []) ⟨hx, hb, hml, hown, hts⟩ hK hP hD nd_1 rfl (c_X1_backups l D t (g0 1) a_desk d_desk _  v68 e68) (cwV 0 hts (gcX1_backups w_112) rfl rfl rfl hdX1_backupsV ⟨Nat.le_of_ble_eq_true rfl, Nat.le_of_ble_eq_true rfl⟩) (ci := 1) (q0 := 1) rfl rfl rfl hl.1 rfl (Nat.le_of_ble_eq_true rfl) (kd tdlX8_about_0 8 rfl) ⟨Nat.le_of_ble_eq_true rfl, Nat.le_of_ble_eq_true rfl⟩) (fun _ H locs hP hD hS => ?_)
        have hP : va_P D vwCl (kflat [(wx8 h0 g0), (wdk t (g0 1) a_desk d_desk)]) H := hP
        have hD : va_D A (kflat [(wx8 h0 g0), (wdk t (g0 1) a_desk d_desk)]) := hD
        cases ko hF
        exact kes_i () hx hb hr hlocks hK hP hD hS rfl (Nat.le_of_ble_eq_true rfl) (Nat.le_of_ble_eq_true rfl) (kd tdlX8_about_0 9 rfl)
      · have hF := kf hv1_1 hF
        by_cases hv1_2 : p1 = 2
        · have hF := kt hv1_2 hF
          refine ksw (n := 2) (off := (71)) (tgt := 72) hx hb (kd tdlX8_about_0 1 rfl) hv1_2 (by decide) (by decide) (by decide) (by decide) ?_
          refine lv_aload_n hx hb (kd tdlX8_about_0 10 rfl) rfl (lv_at hl 0 rfl) ?_
          refine va_get (D := D) (ci := 7) (v := .ref (g0 1)) (C := RX8) (T := TX8) (N := 9) hx hb hts inX8_ hown hK hP 0 rfl rfl 1 (by decide) L19 (fun _ h9 => h9) rfl (kd tdlX8_about_0 11 rfl) ?_
          refine va_get (D := D) (ci := 1) (v := .int (dk_entries d_desk)) (C := RX1) (T := TX1) (N := 13) hx hb hts inX1_ hown hK hP 1 rfl rfl 8 (by decide) L130 (fun _ h9 => h9) rfl (kd tdlX8_about_0 12 rfl) ?_
          cases ko hF
          exact kes_i () hx hb hr hlocks hK hP hD hS rfl (Nat.le_of_ble_eq_true rfl) (Nat.le_of_ble_eq_true rfl) (kd tdlX8_about_0 13 rfl)
        · have hF := kf hv1_2 hF
          by_cases hv1_3 : p1 = 3
          · have hF := kt hv1_3 hF
            refine ksw (n := 3) (off := (79)) (tgt := 80) hx hb (kd tdlX8_about_0 1 rfl) hv1_3 (by decide) (by decide) (by decide) (by decide) ?_
            refine lv_aload_n hx hb (kd tdlX8_about_0 14 rfl) rfl (lv_at hl 0 rfl) ?_
            refine va_get (D := D) (ci := 7) (v := .ref (g0 1)) (C := RX8) (T := TX8) (N := 9) hx hb hts inX8_ hown hK hP 0 rfl rfl 1 (by decide) L19 (fun _ h9 => h9) rfl (kd tdlX8_about_0 15 rfl) ?_
            obtain ⟨v84, e84, hF⟩ := kc hF
            refine kcL_i (S := Unit) (wf := (fun (_ : Unit) => [(wdk t (g0 1) a_desk d_desk)])) hP hD hS hA nd_1 rfl (fun _ => rfl) (kL_V (Qx := (fun A => kQi D (TY t) (kflat [(wdk t (g0 1) a_desk d_desk)]) v84 A)) (cs := [(wdk t (g0 1) a_desk d_desk)]) (is := [1]) (As := []) (rest := []) ⟨hx, hb, hml, hown, hts⟩ hK hP hD nd_1 rfl (c_X1_living l D t (g0 1) a_desk d_desk _  v84 e84) (cwV 0 hts (gcX1_living w_133) rfl rfl rfl hdX1_livingV ⟨Nat.le_of_ble_eq_true rfl, Nat.le_of_ble_eq_true rfl⟩) (ci := 1) (q0 := 1) rfl rfl rfl hl.1 rfl (Nat.le_of_ble_eq_true rfl) (kd tdlX8_about_0 16 rfl) ⟨Nat.le_of_ble_eq_true rfl, Nat.le_of_ble_eq_true rfl⟩) (fun _ H locs hP hD hS => ?_)
            have hP : va_P D vwCl (kflat [(wx8 h0 g0), (wdk t (g0 1) a_desk d_desk)]) H := hP
            have hD : va_D A (kflat [(wx8 h0 g0), (wdk t (g0 1) a_desk d_desk)]) := hD
            cases ko hF
            exact kes_i () hx hb hr hlocks hK hP hD hS rfl (Nat.le_of_ble_eq_true rfl) (Nat.le_of_ble_eq_true rfl) (kd tdlX8_about_0 17 rfl)
          · have hF := kf hv1_3 hF
            by_cases hv1_4 : p1 = 4
            · have hF := kt hv1_4 hF
              refine ksw (n := 4) (off := (87)) (tgt := 88) hx hb (kd tdlX8_about_0 1 rfl) hv1_4 (by decide) (by decide) (by decide) (by decide) ?_
              refine lv_aload_n hx hb (kd tdlX8_about_0 18 rfl) rfl (lv_at hl 0 rfl) ?_
              refine va_get (D := D) (ci := 7) (v := .ref (g0 1)) (C := RX8) (T := TX8) (N := 9) hx hb hts inX8_ hown hK hP 0 rfl rfl 1 (by decide) L19 (fun _ h9 => h9) rfl (kd tdlX8_about_0 19 rfl) ?_
              obtain ⟨v92, e92, hF⟩ := kc hF
              refine kcL_i (S := Unit) (wf := (fun (_ : Unit) => [(wdk t (g0 1) a_desk d_desk)])) hP hD hS hA nd_1 rfl (fun _ => rfl) (kL_V (Qx := (fun A => kQi D (TY t) (kflat [(wdk t (g0 1) a_desk d_desk)]) v92 A)) (cs := [(wdk t (g0 1) a_desk d_desk)]) (is := [1]) (As := []) (rest := []) ⟨hx, hb, hml, hown, hts⟩ hK hP hD nd_1 rfl (c_X1_unlikeChunks l D t (g0 1) a_desk d_desk _  v92 e92) (cwV 0 hts (gcX1_unlikeChunks w_137) rfl rfl rfl hdX1_unlikeChunksV ⟨Nat.le_of_ble_eq_true rfl, Nat.le_of_ble_eq_true rfl⟩) (ci := 1) (q0 := 1) rfl rfl rfl hl.1 rfl (Nat.le_of_ble_eq_true rfl) (kd tdlX8_about_0 20 rfl) ⟨Nat.le_of_ble_eq_true rfl, Nat.le_of_ble_eq_true rfl⟩) (fun _ H locs hP hD hS => ?_)
              have hP : va_P D vwCl (kflat [(wx8 h0 g0), (wdk t (g0 1) a_desk d_desk)]) H := hP
              have hD : va_D A (kflat [(wx8 h0 g0), (wdk t (g0 1) a_desk d_desk)]) := hD
              cases ko hF
              exact kes_i () hx hb hr hlocks hK hP hD hS rfl (Nat.le_of_ble_eq_true rfl) (Nat.le_of_ble_eq_true rfl) (kd tdlX8_about_0 21 rfl)
            · have hF := kf hv1_4 hF
              by_cases hv1_5 : p1 = 5
              · have hF := kt hv1_5 hF
                refine ksw (n := 5) (off := (95)) (tgt := 96) hx hb (kd tdlX8_about_0 1 rfl) hv1_5 (by decide) (by decide) (by decide) (by decide) ?_
                refine lv_aload_n hx hb (kd tdlX8_about_0 22 rfl) rfl (lv_at hl 0 rfl) ?_
                refine va_get (D := D) (ci := 7) (v := .ref (g0 1)) (C := RX8) (T := TX8) (N := 9) hx hb hts inX8_ hown hK hP 0 rfl rfl 1 (by decide) L19 (fun _ h9 => h9) rfl (kd tdlX8_about_0 23 rfl) ?_
                obtain ⟨v100, e100, hF⟩ := kc hF
                refine kcL_i (S := Unit) (wf := (fun (_ : Unit) => [(wdk t (g0 1) a_desk d_desk)])) hP hD hS hA nd_1 rfl (fun _ => rfl) (kL_V (Qx := (fun A => kQi D (TY t) (kflat [(wdk t (g0 1) a_desk d_desk)]) v100 A)) (cs := [(wdk t (g0 1) a_desk d_desk)]) (is := [1]) (As := []) (rest := []) ⟨hx, hb, hml, hown, hts⟩ hK hP hD nd_1 rfl (c_X1_thinContainers l D t (g0 1) a_desk d_desk _  v100 e100) (cwV 0 hts (gcX1_thinContainers w_149) rfl rfl rfl hdX1_thinContainersV ⟨Nat.le_of_ble_eq_true rfl, Nat.le_of_ble_eq_true rfl⟩) (ci := 1) (q0 := 1) rfl rfl rfl hl.1 rfl (Nat.le_of_ble_eq_true rfl) (kd tdlX8_about_0 24 rfl) ⟨Nat.le_of_ble_eq_true rfl, Nat.le_of_ble_eq_true rfl⟩) (fun _ H locs hP hD hS => ?_)
                have hP : va_P D vwCl (kflat [(wx8 h0 g0), (wdk t (g0 1) a_desk d_desk)]) H := hP
                have hD : va_D A (kflat [(wx8 h0 g0), (wdk t (g0 1) a_desk d_desk)]) := hD
                cases ko hF
                exact kes_i () hx hb hr hlocks hK hP hD hS rfl (Nat.le_of_ble_eq_true rfl) (Nat.le_of_ble_eq_true rfl) (kd tdlX8_about_0 25 rfl)
              · have hF := kf hv1_5 hF
                by_cases hv1_6 : p1 = 6
                · have hF := kt hv1_6 hF
                  refine ksw (n := 6) (off := (103)) (tgt := 104) hx hb (kd tdlX8_about_0 1 rfl) hv1_6 (by decide) (by decide) (by decide) (by decide) ?_
                  refine lv_aload_n hx hb (kd tdlX8_about_0 26 rfl) rfl (lv_at hl 0 rfl) ?_
                  refine va_get (D := D) (ci := 7) (v := .ref (g0 1)) (C := RX8) (T := TX8) (N := 9) hx hb hts inX8_ hown hK hP 0 rfl rfl 1 (by decide) L19 (fun _ h9 => h9) rfl (kd tdlX8_about_0 27 rfl) ?_
                  obtain ⟨v108, e108, hF⟩ := kc hF
                  refine kcL_i (S := Unit) (wf := (fun (_ : Unit) => [(wdk t (g0 1) a_desk d_desk)])) hP hD hS hA nd_1 rfl (fun _ => rfl) (kL_V (Qx := (fun A => kQi D (TY t) (kflat [(wdk t (g0 1) a_desk d_desk)]) v108 A)) (cs := [(wdk t (g0 1) a_desk d_desk)]) (is := [1]) (As := []) (rest := []) ⟨hx, hb, hml, hown, hts⟩ hK hP hD nd_1 rfl (c_X1_allReferences l D t (g0 1) a_desk d_desk _  v108 e108) (cwV 0 hts (gcX1_allReferences w_177) rfl rfl rfl hdX1_allReferencesV ⟨Nat.le_of_ble_eq_true rfl, Nat.le_of_ble_eq_true rfl⟩) (ci := 1) (q0 := 1) rfl rfl rfl hl.1 rfl (Nat.le_of_ble_eq_true rfl) (kd tdlX8_about_0 28 rfl) ⟨Nat.le_of_ble_eq_true rfl, Nat.le_of_ble_eq_true rfl⟩) (fun _ H locs hP hD hS => ?_)
                  have hP : va_P D vwCl (kflat [(wx8 h0 g0), (wdk t (g0 1) a_desk d_desk)]) H := hP
                  have hD : va_D A (kflat [(wx8 h0 g0), (wdk t (g0 1) a_desk d_desk)]) := hD
                  cases ko hF
                  exact kes_i () hx hb hr hlocks hK hP hD hS rfl (Nat.le_of_ble_eq_true rfl) (Nat.le_of_ble_eq_true rfl) (kd tdlX8_about_0 29 rfl)
                · have hF := kf hv1_6 hF
                  by_cases hv1_7 : p1 = 7
                  · have hF := kt hv1_7 hF
                    refine ksw (n := 7) (off := (111)) (tgt := 112) hx hb (kd tdlX8_about_0 1 rfl) hv1_7 (by decide) (by decide) (by decide) (by decide) ?_
                    refine lv_aload_n hx hb (kd tdlX8_about_0 30 rfl) rfl (lv_at hl 0 rfl) ?_
                    refine va_get (D := D) (ci := 7) (v := .ref (g0 1)) (C := RX8) (T := TX8) (N := 9) hx hb hts inX8_ hown hK hP 0 rfl rfl 1 (by decide) L19 (fun _ h9 => h9) rfl (kd tdlX8_about_0 31 rfl) ?_
                    obtain ⟨v116, e116, hF⟩ := kc hF
                    refine kcL_i (S := Unit) (wf := (fun (_ : Unit) => [(wdk t (g0 1) a_desk d_desk)])) hP hD hS hA nd_1 rfl (fun _ => rfl) (kL_V (Qx := (fun A => kQi D (TY t) (kflat [(wdk t (g0 1) a_desk d_desk)]) v116 A)) (cs := [(wdk t (g0 1) a_desk d_desk)]) (is := [1]) (As := []) (rest := []) ⟨hx, hb, hml, hown, hts⟩ hK hP hD nd_1 rfl (c_X1_allLetters l D t (g0 1) a_desk d_desk _  v116 e116) (cwV 0 hts (gcX1_allLetters w_181) rfl rfl rfl hdX1_allLettersV ⟨Nat.le_of_ble_eq_true rfl, Nat.le_of_ble_eq_true rfl⟩) (ci := 1) (q0 := 1) rfl rfl rfl hl.1 rfl (Nat.le_of_ble_eq_true rfl) (kd tdlX8_about_0 32 rfl) ⟨Nat.le_of_ble_eq_true rfl, Nat.le_of_ble_eq_true rfl⟩) (fun _ H locs hP hD hS => ?_)
                    have hP : va_P D vwCl (kflat [(wx8 h0 g0), (wdk t (g0 1) a_desk d_desk)]) H := hP
                    have hD : va_D A (kflat [(wx8 h0 g0), (wdk t (g0 1) a_desk d_desk)]) := hD
                    cases ko hF
                    exact kes_i () hx hb hr hlocks hK hP hD hS rfl (Nat.le_of_ble_eq_true rfl) (Nat.le_of_ble_eq_true rfl) (kd tdlX8_about_0 33 rfl)
                  · have hF := kf hv1_7 hF
                    by_cases hv1_8 : p1 = 8
                    · have hF := kt hv1_8 hF
                      refine ksw (n := 8) (off := (119)) (tgt := 120) hx hb (kd tdlX8_about_0 1 rfl) hv1_8 (by decide) (by decide) (by decide) (by decide) ?_
                      refine lv_aload_n hx hb (kd tdlX8_about_0 34 rfl) rfl (lv_at hl 0 rfl) ?_
                      refine va_get (D := D) (ci := 7) (v := .ref (g0 1)) (C := RX8) (T := TX8) (N := 9) hx hb hts inX8_ hown hK hP 0 rfl rfl 1 (by decide) L19 (fun _ h9 => h9) rfl (kd tdlX8_about_0 35 rfl) ?_
                      refine va_get (D := D) (ci := 1) (v := .int (dk_nextNumber d_desk)) (C := RX1) (T := TX1) (N := 13) hx hb hts inX1_ hown hK hP 1 rfl rfl 11 (by decide) L148 (fun _ h9 => h9) rfl (kd tdlX8_about_0 36 rfl) ?_
                      cases ko hF
                      exact kes_i () hx hb hr hlocks hK hP hD hS rfl (Nat.le_of_ble_eq_true rfl) (Nat.le_of_ble_eq_true rfl) (kd tdlX8_about_0 37 rfl)
                    · have hF := kf hv1_8 hF
                      have hv1_9 : p1 = 9 := keq (k := 9) (by have a0 := kne hv1_0 (k := 0) (by decide); have a1 := kne hv1_1 (k := 1) (by decide); have a2 := kne hv1_2 (k := 2) (by decide); have a3 := kne hv1_3 (k := 3) (by decide); have a4 := kne hv1_4 (k := 4) (by decide); have a5 := kne hv1_5 (k := 5) (by decide); have a6 := kne hv1_6 (k := 6) (by decide); have a7 := kne hv1_7 (k := 7) (by decide); have a8 := kne hv1_8 (k := 8) (by decide); omega) (by decide)
                      refine ksw (n := 9) (off := (127)) (tgt := 128) hx hb (kd tdlX8_about_0 1 rfl) hv1_9 (by decide) (by decide) (by decide) (by decide) ?_
                      refine lv_aload_n hx hb (kd tdlX8_about_0 38 rfl) rfl (lv_at hl 0 rfl) ?_
                      refine va_get (D := D) (ci := 7) (v := .ref (g0 1)) (C := RX8) (T := TX8) (N := 9) hx hb hts inX8_ hown hK hP 0 rfl rfl 1 (by decide) L19 (fun _ h9 => h9) rfl (kd tdlX8_about_0 39 rfl) ?_
                      refine va_get (D := D) (ci := 1) (v := .int (dk_carried d_desk)) (C := RX1) (T := TX1) (N := 13) hx hb hts inX1_ hown hK hP 1 rfl rfl 12 (by decide) L151 (fun _ h9 => h9) rfl (kd tdlX8_about_0 40 rfl) ?_
                      cases ko hF
                      exact kes_i () hx hb hr hlocks hK hP hD hS rfl (Nat.le_of_ble_eq_true rfl) (Nat.le_of_ble_eq_true rfl) (kd tdlX8_about_0 41 rfl)
set_option maxHeartbeats 4000000 in
set_option maxRecDepth 100000 in
theorem c_X8_container (l : Launch) (D : va_G) (t : Nat → ClassId) (h0 : Nat) (g0 : Nat → Nat) (a_desk : Nat → Nat) (d_desk : DKT) (sz : Nat) (p1 : Int32) (r : Nat × Int32) (hF : F_X8_container d_desk p1 = some r) (hcd0 : r.1 = 0) : Met l yX8_container wX8_container ({ frames := 2, cells := 0, slots := 0, locals := 42 } : Room) (kPx D (TY t) (kflat [(wx8 h0 g0), (wdk t (g0 1) a_desk d_desk)]) [.ref h0, .int p1] sz) (kQiS D (TY t) (fun (u : Unit) => (kflat [(wx8 h0 g0), (wdk t (g0 1) a_desk d_desk)])) r.2 (va_A (kflat [(wx8 h0 g0), (wdk t (g0 1) a_desk d_desk)]) sz)) 0 0 (va_A (kflat [(wx8 h0 g0), (wdk t (g0 1) a_desk d_desk)]) sz) := by
  refine kEx (cc := cX8_container) (maxL := 2) (ret := (some .int)) (Qx := fun A => kQiS D (TY t) (fun (u : Unit) => (kflat [(wx8 h0 g0), (wdk t (g0 1) a_desk d_desk)])) r.2 A) (lv0 := [(0, .ref h0), (1, .int p1)]) RX8 rfl (by decide) rfl (Nat.le_of_ble_eq_true rfl) rfl ?_
  intro p e s m args below meth c A ls hx hb hml hr hlocks hown hts hA hX hK hP hD hS hl
  have L19 := hts (.fieldLink RX8 19 "ChunkCarriers" "desk" "LChunkCarriers$Desk;") (List.mem_cons_of_mem _ w_18)
  have inX8_ : ∀ w ∈ wsX80, w ∈ wX8_container := fun w h => List.mem_cons_of_mem _ (inlX8 w h)
  refine lv_iload_n hx hb (kd tdlX8_container_0 0 rfl) rfl (lv_at hl 1 rfl) ?_
  refine lv_if_ge (tgt := 12) hx hb (kd tdlX8_container_0 1 rfl) (by decide) (fun hc1 => ?_) (fun hc1 => ?_)
  · have hF := kt hc1 hF
    refine lv_aload_n hx hb (kd tdlX8_container_0 6 rfl) rfl (lv_at hl 0 rfl) ?_
    refine va_get (D := D) (ci := 7) (v := .ref (g0 1)) (C := RX8) (T := TX8) (N := 9) hx hb hts inX8_ hown hK hP 0 rfl rfl 1 (by decide) L19 (fun _ h9 => h9) rfl (kd tdlX8_container_0 7 rfl) ?_
    refine lv_iload_n hx hb (kd tdlX8_container_0 8 rfl) rfl (lv_at hl 1 rfl) ?_
    obtain ⟨v17, e17, hF⟩ := kc hF
    refine kcL_i (S := Unit) (wf := (fun (_ : Unit) => [(wdk t (g0 1) a_desk d_desk)])) hP hD hS hA nd_1 rfl (fun _ => rfl) (kL_V (Qx := (fun A => kQi D (TY t) (kflat [(wdk t (g0 1) a_desk d_desk)]) v17 A)) (cs := [(wdk t (g0 1) a_desk d_desk)]) (is := [1]) (As := [.int p1]) (rest := []) ⟨hx, hb, hml, hown, hts⟩ hK hP hD nd_1 rfl (c_X1_numberAt l D t (g0 1) a_desk d_desk _ p1 v17 e17) (cwV 1 hts (gcX1_numberAt w_201) rfl rfl rfl hdX1_numberAtV ⟨Nat.le_of_ble_eq_true rfl, Nat.le_of_ble_eq_true rfl⟩) (ci := 1) (q0 := 1) rfl rfl rfl hl.1 rfl (Nat.le_of_ble_eq_true rfl) (kd tdlX8_container_0 9 rfl) ⟨Nat.le_of_ble_eq_true rfl, Nat.le_of_ble_eq_true rfl⟩) (fun _ H locs hP hD hS => ?_)
    have hP : va_P D vwCl (kflat [(wx8 h0 g0), (wdk t (g0 1) a_desk d_desk)]) H := hP
    have hD : va_D A (kflat [(wx8 h0 g0), (wdk t (g0 1) a_desk d_desk)]) := hD
    cases ko hF
    exact kes_i () hx hb hr hlocks hK hP hD hS rfl (Nat.le_of_ble_eq_true rfl) (Nat.le_of_ble_eq_true rfl) (kd tdlX8_container_0 10 rfl)
  · have hF := kf hc1 hF
    cases ko hF
    exact absurd (show (2 : Nat) = 0 from hcd0) (by decide)
set_option maxHeartbeats 4000000 in
set_option maxRecDepth 100000 in
theorem c_X8_containerOf (l : Launch) (D : va_G) (t : Nat → ClassId) (h0 : Nat) (g0 : Nat → Nat) (a_desk : Nat → Nat) (d_desk : DKT) (sz : Nat) (p1 : Int32) (p2 : Int32) (r : Nat × Int32) (hF : F_X8_containerOf d_desk p1 p2 = some r) (hcd0 : r.1 = 0) : Met l yX8_containerOf wX8_containerOf ({ frames := 5, cells := 0, slots := 0, locals := 110 } : Room) (kPx D (TY t) (kflat [(wx8 h0 g0), (wdk t (g0 1) a_desk d_desk)]) [.ref h0, .int p1, .int p2] sz) (kQiS D (TY t) (fun (u : Unit) => (kflat [(wx8 h0 g0), (wdk t (g0 1) a_desk d_desk)])) r.2 (va_A (kflat [(wx8 h0 g0), (wdk t (g0 1) a_desk d_desk)]) sz)) 0 0 (va_A (kflat [(wx8 h0 g0), (wdk t (g0 1) a_desk d_desk)]) sz) := by
  refine kEx (cc := cX8_containerOf) (maxL := 4) (ret := (some .int)) (Qx := fun A => kQiS D (TY t) (fun (u : Unit) => (kflat [(wx8 h0 g0), (wdk t (g0 1) a_desk d_desk)])) r.2 A) (lv0 := [(0, .ref h0), (1, .int p1), (2, .int p2)]) RX8 rfl (by decide) rfl (Nat.le_of_ble_eq_true rfl) rfl ?_
  intro p e s m args below meth c A ls hx hb hml hr hlocks hown hts hA hX hK hP hD hS hl
  have L19 := hts (.fieldLink RX8 19 "ChunkCarriers" "desk" "LChunkCarriers$Desk;") (List.mem_cons_of_mem _ w_18)
  have inX8_ : ∀ w ∈ wsX80, w ∈ wX8_containerOf := fun w h => List.mem_cons_of_mem _ (inlX8 w h)
  refine lv_aload_n hx hb (kd tdlX8_containerOf_0 0 rfl) rfl (lv_at hl 0 rfl) ?_
  refine va_get (D := D) (ci := 7) (v := .ref (g0 1)) (C := RX8) (T := TX8) (N := 9) hx hb hts inX8_ hown hK hP 0 rfl rfl 1 (by decide) L19 (fun _ h9 => h9) rfl (kd tdlX8_containerOf_0 1 rfl) ?_
  refine lv_iload_n hx hb (kd tdlX8_containerOf_0 2 rfl) rfl (lv_at hl 1 rfl) ?_
  obtain ⟨v5, e5, hF⟩ := kc hF
  refine kcL_i (S := Unit) (wf := (fun (_ : Unit) => [(wdk t (g0 1) a_desk d_desk)])) hP hD hS hA nd_1 rfl (fun _ => rfl) (kL_V (Qx := (fun A => kQi D (TY t) (kflat [(wdk t (g0 1) a_desk d_desk)]) v5 A)) (cs := [(wdk t (g0 1) a_desk d_desk)]) (is := [1]) (As := [.int p1]) (rest := []) ⟨hx, hb, hml, hown, hts⟩ hK hP hD nd_1 rfl (c_X1_placeOfNumber l D t (g0 1) a_desk d_desk _ p1 v5 e5) (cwV 1 hts (gcX1_placeOfNumber w_213) rfl rfl rfl hdX1_placeOfNumberV ⟨Nat.le_of_ble_eq_true rfl, Nat.le_of_ble_eq_true rfl⟩) (ci := 1) (q0 := 1) rfl rfl rfl hl.1 rfl (Nat.le_of_ble_eq_true rfl) (kd tdlX8_containerOf_0 3 rfl) ⟨Nat.le_of_ble_eq_true rfl, Nat.le_of_ble_eq_true rfl⟩) (fun _ H locs hP hD hS => ?_)
  have hP : va_P D vwCl (kflat [(wx8 h0 g0), (wdk t (g0 1) a_desk d_desk)]) H := hP
  have hD : va_D A (kflat [(wx8 h0 g0), (wdk t (g0 1) a_desk d_desk)]) := hD
  refine lv_istore_n (lv' := [(3, .int v5), (0, .ref h0), (1, .int p1), (2, .int p2)]) hx hb (kd tdlX8_containerOf_0 4 rfl) rfl hl (by decide) rfl (fun ls hl => ?_)
  refine lv_iload_n hx hb (kd tdlX8_containerOf_0 5 rfl) rfl (lv_at hl 0 rfl) ?_
  refine lv_iconst (v := (-1)) hx hb (kd tdlX8_containerOf_0 6 rfl) (by decide) ?_
  refine lv_icmp_ne (tgt := 22) hx hb (kd tdlX8_containerOf_0 7 rfl) (by decide) (fun hc11 => ?_) (fun hc11 => ?_)
  · have hF := kf hc11 hF
    refine lv_iload_n hx hb (kd tdlX8_containerOf_0 12 rfl) rfl (lv_at hl 3 rfl) ?_
    by_cases hw23 : (Int32.toInt p2 < 0 ∨ 4 < Int32.toInt p2)
    · have hF := kt hw23 hF
      refine lv_tableOut (tgt := 109) hx hb (kd tdlX8_containerOf_0 13 rfl) hw23 (by decide) ?_
      cases ko hF
      exact absurd (show (2 : Nat) = 0 from hcd0) (by decide)
    · have hF := kf hw23 hF
      by_cases hv23_0 : p2 = 0
      · have hF := kt hv23_0 hF
        refine ksw (n := 0) (off := (33)) (tgt := 56) hx hb (kd tdlX8_containerOf_0 13 rfl) hv23_0 (by decide) (by decide) (by decide) (by decide) ?_
        refine lv_aload_n hx hb (kd tdlX8_containerOf_0 14 rfl) rfl (lv_at hl 1 rfl) ?_
        refine va_get (D := D) (ci := 7) (v := .ref (g0 1)) (C := RX8) (T := TX8) (N := 9) hx hb hts inX8_ hown hK hP 0 rfl rfl 1 (by decide) L19 (fun _ h9 => h9) rfl (kd tdlX8_containerOf_0 15 rfl) ?_
        refine lv_iload_n hx hb (kd tdlX8_containerOf_0 16 rfl) rfl (lv_at hl 0 rfl) ?_
        obtain ⟨v61, e61, hF⟩ := kc hF
        refine kcL_i (S := Unit) (wf := (fun (_ : Unit) => [(wdk t (g0 1) a_desk d_desk)])) hP hD hS hA nd_1 rfl (fun _ => rfl) (kL_V (Qx := (fun A => kQi D (TY t) (kflat [(wdk t (g0 1) a_desk d_desk)]) v61 A)) (cs := [(wdk t (g0 1) a_desk d_desk)]) (is := [1]) (As := [.int v5]) (rest := []) ⟨hx, hb, hml, hown, hts⟩ hK hP hD nd_1 rfl (c_X1_capacityAt l D t (g0 1) a_desk d_desk _ v5 v61 e61) (cwV 1 hts (gcX1_capacityAt w_217) rfl rfl rfl hdX1_capacityAtV ⟨Nat.le_of_ble_eq_true rfl, Nat.le_of_ble_eq_true rfl⟩) (ci := 1) (q0 := 1) rfl rfl rfl hl.1 rfl (Nat.le_of_ble_eq_true rfl) (kd tdlX8_containerOf_0 17 rfl) ⟨Nat.le_of_ble_eq_true rfl, Nat.le_of_ble_eq_true rfl⟩) (fun _ H locs hP hD hS => ?_)
        have hP : va_P D vwCl (kflat [(wx8 h0 g0), (wdk t (g0 1) a_desk d_desk)]) H := hP
        have hD : va_D A (kflat [(wx8 h0 g0), (wdk t (g0 1) a_desk d_desk)]) := hD
        cases ko hF
        exact kes_i () hx hb hr hlocks hK hP hD hS rfl (Nat.le_of_ble_eq_true rfl) (Nat.le_of_ble_eq_true rfl) (kd tdlX8_containerOf_0 18 rfl)
      · have hF := kf hv23_0 hF
        by_cases hv23_1 : p2 = 1
        · have hF := kt hv23_1 hF
          refine ksw (n := 1) (off := (42)) (tgt := 65) hx hb (kd tdlX8_containerOf_0 13 rfl) hv23_1 (by decide) (by decide) (by decide) (by decide) ?_
          refine lv_aload_n hx hb (kd tdlX8_containerOf_0 19 rfl) rfl (lv_at hl 1 rfl) ?_
          refine va_get (D := D) (ci := 7) (v := .ref (g0 1)) (C := RX8) (T := TX8) (N := 9) hx hb hts inX8_ hown hK hP 0 rfl rfl 1 (by decide) L19 (fun _ h9 => h9) rfl (kd tdlX8_containerOf_0 20 rfl) ?_
          refine lv_iload_n hx hb (kd tdlX8_containerOf_0 21 rfl) rfl (lv_at hl 0 rfl) ?_
          obtain ⟨v70, e70, hF⟩ := kc hF
          refine kcL_i (S := Unit) (wf := (fun (_ : Unit) => [(wdk t (g0 1) a_desk d_desk)])) hP hD hS hA nd_1 rfl (fun _ => rfl) (kL_V (Qx := (fun A => kQi D (TY t) (kflat [(wdk t (g0 1) a_desk d_desk)]) v70 A)) (cs := [(wdk t (g0 1) a_desk d_desk)]) (is := [1]) (As := [.int v5]) (rest := []) ⟨hx, hb, hml, hown, hts⟩ hK hP hD nd_1 rfl (c_X1_sizeAt l D t (g0 1) a_desk d_desk _ v5 v70 e70) (cwV 1 hts (gcX1_sizeAt w_221) rfl rfl rfl hdX1_sizeAtV ⟨Nat.le_of_ble_eq_true rfl, Nat.le_of_ble_eq_true rfl⟩) (ci := 1) (q0 := 1) rfl rfl rfl hl.1 rfl (Nat.le_of_ble_eq_true rfl) (kd tdlX8_containerOf_0 22 rfl) ⟨Nat.le_of_ble_eq_true rfl, Nat.le_of_ble_eq_true rfl⟩) (fun _ H locs hP hD hS => ?_)
          have hP : va_P D vwCl (kflat [(wx8 h0 g0), (wdk t (g0 1) a_desk d_desk)]) H := hP
          have hD : va_D A (kflat [(wx8 h0 g0), (wdk t (g0 1) a_desk d_desk)]) := hD
          cases ko hF
          exact kes_i () hx hb hr hlocks hK hP hD hS rfl (Nat.le_of_ble_eq_true rfl) (Nat.le_of_ble_eq_true rfl) (kd tdlX8_containerOf_0 23 rfl)
        · have hF := kf hv23_1 hF
          by_cases hv23_2 : p2 = 2
          · have hF := kt hv23_2 hF
            refine ksw (n := 2) (off := (51)) (tgt := 74) hx hb (kd tdlX8_containerOf_0 13 rfl) hv23_2 (by decide) (by decide) (by decide) (by decide) ?_
            refine lv_aload_n hx hb (kd tdlX8_containerOf_0 24 rfl) rfl (lv_at hl 1 rfl) ?_
            refine va_get (D := D) (ci := 7) (v := .ref (g0 1)) (C := RX8) (T := TX8) (N := 9) hx hb hts inX8_ hown hK hP 0 rfl rfl 1 (by decide) L19 (fun _ h9 => h9) rfl (kd tdlX8_containerOf_0 25 rfl) ?_
            refine lv_iload_n hx hb (kd tdlX8_containerOf_0 26 rfl) rfl (lv_at hl 0 rfl) ?_
            obtain ⟨v79, e79, hF⟩ := kc hF
            refine kcL_i (S := Unit) (wf := (fun (_ : Unit) => [(wdk t (g0 1) a_desk d_desk)])) hP hD hS hA nd_1 rfl (fun _ => rfl) (kL_V (Qx := (fun A => kQi D (TY t) (kflat [(wdk t (g0 1) a_desk d_desk)]) v79 A)) (cs := [(wdk t (g0 1) a_desk d_desk)]) (is := [1]) (As := [.int v5]) (rest := []) ⟨hx, hb, hml, hown, hts⟩ hK hP hD nd_1 rfl (c_X1_livingAt l D t (g0 1) a_desk d_desk _ v5 v79 e79) (cwV 1 hts (gcX1_livingAt w_222) rfl rfl rfl hdX1_livingAtV ⟨Nat.le_of_ble_eq_true rfl, Nat.le_of_ble_eq_true rfl⟩) (ci := 1) (q0 := 1) rfl rfl rfl hl.1 rfl (Nat.le_of_ble_eq_true rfl) (kd tdlX8_containerOf_0 27 rfl) ⟨Nat.le_of_ble_eq_true rfl, Nat.le_of_ble_eq_true rfl⟩) (fun _ H locs hP hD hS => ?_)
            have hP : va_P D vwCl (kflat [(wx8 h0 g0), (wdk t (g0 1) a_desk d_desk)]) H := hP
            have hD : va_D A (kflat [(wx8 h0 g0), (wdk t (g0 1) a_desk d_desk)]) := hD
            cases ko hF
            exact kes_i () hx hb hr hlocks hK hP hD hS rfl (Nat.le_of_ble_eq_true rfl) (Nat.le_of_ble_eq_true rfl) (kd tdlX8_containerOf_0 28 rfl)
          · have hF := kf hv23_2 hF
            by_cases hv23_3 : p2 = 3
            · have hF := kt hv23_3 hF
              refine ksw (n := 3) (off := (60)) (tgt := 83) hx hb (kd tdlX8_containerOf_0 13 rfl) hv23_3 (by decide) (by decide) (by decide) (by decide) ?_
              refine lv_aload_n hx hb (kd tdlX8_containerOf_0 29 rfl) rfl (lv_at hl 1 rfl) ?_
              refine va_get (D := D) (ci := 7) (v := .ref (g0 1)) (C := RX8) (T := TX8) (N := 9) hx hb hts inX8_ hown hK hP 0 rfl rfl 1 (by decide) L19 (fun _ h9 => h9) rfl (kd tdlX8_containerOf_0 30 rfl) ?_
              refine lv_iload_n hx hb (kd tdlX8_containerOf_0 31 rfl) rfl (lv_at hl 0 rfl) ?_
              obtain ⟨v88, e88, hF⟩ := kc hF
              refine kcL_i (S := Unit) (wf := (fun (_ : Unit) => [(wdk t (g0 1) a_desk d_desk)])) hP hD hS hA nd_1 rfl (fun _ => rfl) (kL_V (Qx := (fun A => kQi D (TY t) (kflat [(wdk t (g0 1) a_desk d_desk)]) v88 A)) (cs := [(wdk t (g0 1) a_desk d_desk)]) (is := [1]) (As := [.int v5]) (rest := []) ⟨hx, hb, hml, hown, hts⟩ hK hP hD nd_1 rfl (c_X1_isThin l D t (g0 1) a_desk d_desk _ v5 v88 e88) (cwV 1 hts (gcX1_isThin w_223) rfl rfl rfl hdX1_isThinV ⟨Nat.le_of_ble_eq_true rfl, Nat.le_of_ble_eq_true rfl⟩) (ci := 1) (q0 := 1) rfl rfl rfl hl.1 rfl (Nat.le_of_ble_eq_true rfl) (kd tdlX8_containerOf_0 32 rfl) ⟨Nat.le_of_ble_eq_true rfl, Nat.le_of_ble_eq_true rfl⟩) (fun _ H locs hP hD hS => ?_)
              have hP : va_P D vwCl (kflat [(wx8 h0 g0), (wdk t (g0 1) a_desk d_desk)]) H := hP
              have hD : va_D A (kflat [(wx8 h0 g0), (wdk t (g0 1) a_desk d_desk)]) := hD
              refine lv_if_eq (tgt := 98) hx hb (kd tdlX8_containerOf_0 33 rfl) (by decide) (fun hc91 => ?_) (fun hc91 => ?_)
              · have hF := kt hc91 hF
                refine lv_iconst (v := 0) hx hb (kd tdlX8_containerOf_0 36 rfl) (by decide) ?_
                cases ko hF
                exact kes_i () hx hb hr hlocks hK hP hD hS rfl (Nat.le_of_ble_eq_true rfl) (Nat.le_of_ble_eq_true rfl) (kd tdlX8_containerOf_0 37 rfl)
              · have hF := kf hc91 hF
                refine lv_iconst (v := 1) hx hb (kd tdlX8_containerOf_0 34 rfl) (by decide) ?_
                refine lv_goto (tgt := 99) hx hb (kd tdlX8_containerOf_0 35 rfl) (by decide) ?_
                cases ko hF
                exact kes_i () hx hb hr hlocks hK hP hD hS rfl (Nat.le_of_ble_eq_true rfl) (Nat.le_of_ble_eq_true rfl) (kd tdlX8_containerOf_0 37 rfl)
            · have hF := kf hv23_3 hF
              have hv23_4 : p2 = 4 := keq (k := 4) (by have a0 := kne hv23_0 (k := 0) (by decide); have a1 := kne hv23_1 (k := 1) (by decide); have a2 := kne hv23_2 (k := 2) (by decide); have a3 := kne hv23_3 (k := 3) (by decide); omega) (by decide)
              refine ksw (n := 4) (off := (77)) (tgt := 100) hx hb (kd tdlX8_containerOf_0 13 rfl) hv23_4 (by decide) (by decide) (by decide) (by decide) ?_
              refine lv_aload_n hx hb (kd tdlX8_containerOf_0 38 rfl) rfl (lv_at hl 1 rfl) ?_
              refine va_get (D := D) (ci := 7) (v := .ref (g0 1)) (C := RX8) (T := TX8) (N := 9) hx hb hts inX8_ hown hK hP 0 rfl rfl 1 (by decide) L19 (fun _ h9 => h9) rfl (kd tdlX8_containerOf_0 39 rfl) ?_
              refine lv_iload_n hx hb (kd tdlX8_containerOf_0 40 rfl) rfl (lv_at hl 0 rfl) ?_
              obtain ⟨v105, e105, hF⟩ := kc hF
              refine kcL_i (S := Unit) (wf := (fun (_ : Unit) => [(wdk t (g0 1) a_desk d_desk)])) hP hD hS hA nd_1 rfl (fun _ => rfl) (kL_V (Qx := (fun A => kQi D (TY t) (kflat [(wdk t (g0 1) a_desk d_desk)]) v105 A)) (cs := [(wdk t (g0 1) a_desk d_desk)]) (is := [1]) (As := [.int v5]) (rest := []) ⟨hx, hb, hml, hown, hts⟩ hK hP hD nd_1 rfl (c_X1_backupsReferringTo l D t (g0 1) a_desk d_desk _ v5 v105 e105) (cwV 1 hts (gcX1_backupsReferringTo w_224) rfl rfl rfl hdX1_backupsReferringToV ⟨Nat.le_of_ble_eq_true rfl, Nat.le_of_ble_eq_true rfl⟩) (ci := 1) (q0 := 1) rfl rfl rfl hl.1 rfl (Nat.le_of_ble_eq_true rfl) (kd tdlX8_containerOf_0 41 rfl) ⟨Nat.le_of_ble_eq_true rfl, Nat.le_of_ble_eq_true rfl⟩) (fun _ H locs hP hD hS => ?_)
              have hP : va_P D vwCl (kflat [(wx8 h0 g0), (wdk t (g0 1) a_desk d_desk)]) H := hP
              have hD : va_D A (kflat [(wx8 h0 g0), (wdk t (g0 1) a_desk d_desk)]) := hD
              cases ko hF
              exact kes_i () hx hb hr hlocks hK hP hD hS rfl (Nat.le_of_ble_eq_true rfl) (Nat.le_of_ble_eq_true rfl) (kd tdlX8_containerOf_0 42 rfl)
  · have hF := kt hc11 hF
    cases ko hF
    exact absurd (show (1 : Nat) = 0 from hcd0) (by decide)
set_option maxHeartbeats 4000000 in
set_option maxRecDepth 100000 in
theorem c_X8_entry (l : Launch) (D : va_G) (t : Nat → ClassId) (h0 : Nat) (g0 : Nat → Nat) (a_desk : Nat → Nat) (d_desk : DKT) (sz : Nat) (p1 : Int32) (p2 : Int32) (p3 : Int32) (r : Nat × Int32) (hF : F_X8_entry d_desk p1 p2 p3 = some r) (hcd0 : r.1 = 0) : Met l yX8_entry wX8_entry ({ frames := 3, cells := 0, slots := 0, locals := 66 } : Room) (kPx D (TY t) (kflat [(wx8 h0 g0), (wdk t (g0 1) a_desk d_desk)]) [.ref h0, .int p1, .int p2, .int p3] sz) (kQiS D (TY t) (fun (u : Unit) => (kflat [(wx8 h0 g0), (wdk t (g0 1) a_desk d_desk)])) r.2 (va_A (kflat [(wx8 h0 g0), (wdk t (g0 1) a_desk d_desk)]) sz)) 0 0 (va_A (kflat [(wx8 h0 g0), (wdk t (g0 1) a_desk d_desk)]) sz) := by
  refine kEx (cc := cX8_entry) (maxL := 6) (ret := (some .int)) (Qx := fun A => kQiS D (TY t) (fun (u : Unit) => (kflat [(wx8 h0 g0), (wdk t (g0 1) a_desk d_desk)])) r.2 A) (lv0 := [(0, .ref h0), (1, .int p1), (2, .int p2), (3, .int p3)]) RX8 rfl (by decide) rfl (Nat.le_of_ble_eq_true rfl) rfl ?_
  intro p e s m args below meth c A ls hx hb hml hr hlocks hown hts hA hX hK hP hD hS hl
  have L19 := hts (.fieldLink RX8 19 "ChunkCarriers" "desk" "LChunkCarriers$Desk;") (List.mem_cons_of_mem _ w_18)
  have inX8_ : ∀ w ∈ wsX80, w ∈ wX8_entry := fun w h => List.mem_cons_of_mem _ (inlX8 w h)
  refine lv_aload_n hx hb (kd tdlX8_entry_0 0 rfl) rfl (lv_at hl 0 rfl) ?_
  refine va_get (D := D) (ci := 7) (v := .ref (g0 1)) (C := RX8) (T := TX8) (N := 9) hx hb hts inX8_ hown hK hP 0 rfl rfl 1 (by decide) L19 (fun _ h9 => h9) rfl (kd tdlX8_entry_0 1 rfl) ?_
  refine lv_iload_n hx hb (kd tdlX8_entry_0 2 rfl) rfl (lv_at hl 1 rfl) ?_
  obtain ⟨v5, e5, hF⟩ := kc hF
  refine kcL_i (S := Unit) (wf := (fun (_ : Unit) => [(wdk t (g0 1) a_desk d_desk)])) hP hD hS hA nd_1 rfl (fun _ => rfl) (kL_V (Qx := (fun A => kQi D (TY t) (kflat [(wdk t (g0 1) a_desk d_desk)]) v5 A)) (cs := [(wdk t (g0 1) a_desk d_desk)]) (is := [1]) (As := [.int p1]) (rest := []) ⟨hx, hb, hml, hown, hts⟩ hK hP hD nd_1 rfl (c_X1_placeOfNumber l D t (g0 1) a_desk d_desk _ p1 v5 e5) (cwV 1 hts (gcX1_placeOfNumber w_213) rfl rfl rfl hdX1_placeOfNumberV ⟨Nat.le_of_ble_eq_true rfl, Nat.le_of_ble_eq_true rfl⟩) (ci := 1) (q0 := 1) rfl rfl rfl hl.1 rfl (Nat.le_of_ble_eq_true rfl) (kd tdlX8_entry_0 3 rfl) ⟨Nat.le_of_ble_eq_true rfl, Nat.le_of_ble_eq_true rfl⟩) (fun _ H locs hP hD hS => ?_)
  have hP : va_P D vwCl (kflat [(wx8 h0 g0), (wdk t (g0 1) a_desk d_desk)]) H := hP
  have hD : va_D A (kflat [(wx8 h0 g0), (wdk t (g0 1) a_desk d_desk)]) := hD
  refine lv_istore (lv' := [(4, .int v5), (0, .ref h0), (1, .int p1), (2, .int p2), (3, .int p3)]) hx hb (kd tdlX8_entry_0 4 rfl) hl (by decide) rfl (fun ls hl => ?_)
  refine lv_iload hx hb (kd tdlX8_entry_0 5 rfl) (lv_at hl 0 rfl) ?_
  refine lv_iconst (v := (-1)) hx hb (kd tdlX8_entry_0 6 rfl) (by decide) ?_
  refine lv_icmp_eq (tgt := 33) hx hb (kd tdlX8_entry_0 7 rfl) (by decide) (fun hc13 => ?_) (fun hc13 => ?_)
  · have hF := kt hc13 hF
    cases ko hF
    exact absurd (show (1 : Nat) = 0 from hcd0) (by decide)
  · have hF := kf hc13 hF
    refine lv_iload_n hx hb (kd tdlX8_entry_0 8 rfl) rfl (lv_at hl 3 rfl) ?_
    refine lv_if_lt (tgt := 33) hx hb (kd tdlX8_entry_0 9 rfl) (by decide) (fun hc17 => ?_) (fun hc17 => ?_)
    · have hF := kt hc17 hF
      cases ko hF
      exact absurd (show (1 : Nat) = 0 from hcd0) (by decide)
    · have hF := kf hc17 hF
      refine lv_iload_n hx hb (kd tdlX8_entry_0 10 rfl) rfl (lv_at hl 3 rfl) ?_
      refine lv_aload_n hx hb (kd tdlX8_entry_0 11 rfl) rfl (lv_at hl 1 rfl) ?_
      refine va_get (D := D) (ci := 7) (v := .ref (g0 1)) (C := RX8) (T := TX8) (N := 9) hx hb hts inX8_ hown hK hP 0 rfl rfl 1 (by decide) L19 (fun _ h9 => h9) rfl (kd tdlX8_entry_0 12 rfl) ?_
      refine lv_iload hx hb (kd tdlX8_entry_0 13 rfl) (lv_at hl 0 rfl) ?_
      obtain ⟨v27, e27, hF⟩ := kc hF
      refine kcL_i (S := Unit) (wf := (fun (_ : Unit) => [(wdk t (g0 1) a_desk d_desk)])) hP hD hS hA nd_1 rfl (fun _ => rfl) (kL_V (Qx := (fun A => kQi D (TY t) (kflat [(wdk t (g0 1) a_desk d_desk)]) v27 A)) (cs := [(wdk t (g0 1) a_desk d_desk)]) (is := [1]) (As := [.int v5]) (rest := [.int p2]) ⟨hx, hb, hml, hown, hts⟩ hK hP hD nd_1 rfl (c_X1_sizeAt l D t (g0 1) a_desk d_desk _ v5 v27 e27) (cwV 1 hts (gcX1_sizeAt w_221) rfl rfl rfl hdX1_sizeAtV ⟨Nat.le_of_ble_eq_true rfl, Nat.le_of_ble_eq_true rfl⟩) (ci := 1) (q0 := 1) rfl rfl rfl hl.1 rfl (Nat.le_of_ble_eq_true rfl) (kd tdlX8_entry_0 14 rfl) ⟨Nat.le_of_ble_eq_true rfl, Nat.le_of_ble_eq_true rfl⟩) (fun _ H locs hP hD hS => ?_)
      have hP : va_P D vwCl (kflat [(wx8 h0 g0), (wdk t (g0 1) a_desk d_desk)]) H := hP
      have hD : va_D A (kflat [(wx8 h0 g0), (wdk t (g0 1) a_desk d_desk)]) := hD
      refine lv_icmp_lt (tgt := 41) hx hb (kd tdlX8_entry_0 15 rfl) (by decide) (fun hc30 => ?_) (fun hc30 => ?_)
      · have hF := kt hc30 hF
        refine lv_aload_n hx hb (kd tdlX8_entry_0 20 rfl) rfl (lv_at hl 1 rfl) ?_
        refine va_get (D := D) (ci := 7) (v := .ref (g0 1)) (C := RX8) (T := TX8) (N := 9) hx hb hts inX8_ hown hK hP 0 rfl rfl 1 (by decide) L19 (fun _ h9 => h9) rfl (kd tdlX8_entry_0 21 rfl) ?_
        refine lv_iload hx hb (kd tdlX8_entry_0 22 rfl) (lv_at hl 0 rfl) ?_
        obtain ⟨v47, e47, hF⟩ := kc hF
        refine kcL_i (S := Unit) (wf := (fun (_ : Unit) => [(wdk t (g0 1) a_desk d_desk)])) hP hD hS hA nd_1 rfl (fun _ => rfl) (kL_V (Qx := (fun A => kQi D (TY t) (kflat [(wdk t (g0 1) a_desk d_desk)]) v47 A)) (cs := [(wdk t (g0 1) a_desk d_desk)]) (is := [1]) (As := [.int v5]) (rest := []) ⟨hx, hb, hml, hown, hts⟩ hK hP hD nd_1 rfl (c_X1_firstEntryAt l D t (g0 1) a_desk d_desk _ v5 v47 e47) (cwV 1 hts (gcX1_firstEntryAt w_252) rfl rfl rfl hdX1_firstEntryAtV ⟨Nat.le_of_ble_eq_true rfl, Nat.le_of_ble_eq_true rfl⟩) (ci := 1) (q0 := 1) rfl rfl rfl hl.1 rfl (Nat.le_of_ble_eq_true rfl) (kd tdlX8_entry_0 23 rfl) ⟨Nat.le_of_ble_eq_true rfl, Nat.le_of_ble_eq_true rfl⟩) (fun _ H locs hP hD hS => ?_)
        have hP : va_P D vwCl (kflat [(wx8 h0 g0), (wdk t (g0 1) a_desk d_desk)]) H := hP
        have hD : va_D A (kflat [(wx8 h0 g0), (wdk t (g0 1) a_desk d_desk)]) := hD
        refine lv_iload_n hx hb (kd tdlX8_entry_0 24 rfl) rfl (lv_at hl 3 rfl) ?_
        refine lv_iadd hx hb (kd tdlX8_entry_0 25 rfl) ?_
        refine lv_istore (lv' := [(5, .int (v47 + p2)), (4, .int v5), (0, .ref h0), (1, .int p1), (2, .int p2), (3, .int p3)]) hx hb (kd tdlX8_entry_0 26 rfl) hl (by decide) rfl (fun ls hl => ?_)
        refine lv_iload_n hx hb (kd tdlX8_entry_0 27 rfl) rfl (lv_at hl 5 rfl) ?_
        by_cases hw55 : (Int32.toInt p3 < 0 ∨ 3 < Int32.toInt p3)
        · have hF := kt hw55 hF
          refine lv_tableOut (tgt := 134) hx hb (kd tdlX8_entry_0 28 rfl) hw55 (by decide) ?_
          cases ko hF
          exact absurd (show (2 : Nat) = 0 from hcd0) (by decide)
        · have hF := kf hw55 hF
          by_cases hv55_0 : p3 = 0
          · have hF := kt hv55_0 hF
            refine ksw (n := 0) (off := (29)) (tgt := 84) hx hb (kd tdlX8_entry_0 28 rfl) hv55_0 (by decide) (by decide) (by decide) (by decide) ?_
            refine lv_aload_n hx hb (kd tdlX8_entry_0 29 rfl) rfl (lv_at hl 2 rfl) ?_
            refine va_get (D := D) (ci := 7) (v := .ref (g0 1)) (C := RX8) (T := TX8) (N := 9) hx hb hts inX8_ hown hK hP 0 rfl rfl 1 (by decide) L19 (fun _ h9 => h9) rfl (kd tdlX8_entry_0 30 rfl) ?_
            refine lv_iload hx hb (kd tdlX8_entry_0 31 rfl) (lv_at hl 0 rfl) ?_
            obtain ⟨v90, e90, hF⟩ := kc hF
            refine kcL_i (S := Unit) (wf := (fun (_ : Unit) => [(wdk t (g0 1) a_desk d_desk)])) hP hD hS hA nd_1 rfl (fun _ => rfl) (kL_V (Qx := (fun A => kQi D (TY t) (kflat [(wdk t (g0 1) a_desk d_desk)]) v90 A)) (cs := [(wdk t (g0 1) a_desk d_desk)]) (is := [1]) (As := [.int (v47 + p2)]) (rest := []) ⟨hx, hb, hml, hown, hts⟩ hK hP hD nd_1 rfl (c_X1_codeOfEntry l D t (g0 1) a_desk d_desk _ (v47 + p2) v90 e90) (cwV 1 hts (gcX1_codeOfEntry w_253) rfl rfl rfl hdX1_codeOfEntryV ⟨Nat.le_of_ble_eq_true rfl, Nat.le_of_ble_eq_true rfl⟩) (ci := 1) (q0 := 1) rfl rfl rfl hl.1 rfl (Nat.le_of_ble_eq_true rfl) (kd tdlX8_entry_0 32 rfl) ⟨Nat.le_of_ble_eq_true rfl, Nat.le_of_ble_eq_true rfl⟩) (fun _ H locs hP hD hS => ?_)
            have hP : va_P D vwCl (kflat [(wx8 h0 g0), (wdk t (g0 1) a_desk d_desk)]) H := hP
            have hD : va_D A (kflat [(wx8 h0 g0), (wdk t (g0 1) a_desk d_desk)]) := hD
            obtain ⟨v93, e93, hF⟩ := kc hF
            refine kcL_i (S := Unit) (wf := (fun (_ : Unit) => [])) hP hD hS hA nd_ rfl (fun _ => rfl) (kL_S (Qx := (fun A => kQi D (TY t) (kflat []) v93 A)) (cs := []) (is := []) (As := [.int v90]) (rest := []) ⟨hx, hb, hml, hown, hts⟩ hK hP hD nd_ rfl (c_X2_count l D t  _ v90 v93 e93) (va_cwS 1 hts (gcX2_count w_257) rfl rfl rfl hdX2_countS ⟨Nat.le_of_ble_eq_true rfl, Nat.le_of_ble_eq_true rfl⟩) rfl hl.1 rfl (Nat.le_of_ble_eq_true rfl) (kd tdlX8_entry_0 33 rfl) ⟨Nat.le_of_ble_eq_true rfl, Nat.le_of_ble_eq_true rfl⟩) (fun _ H locs hP hD hS => ?_)
            have hP : va_P D vwCl (kflat [(wx8 h0 g0), (wdk t (g0 1) a_desk d_desk)]) H := hP
            have hD : va_D A (kflat [(wx8 h0 g0), (wdk t (g0 1) a_desk d_desk)]) := hD
            cases ko hF
            exact kes_i () hx hb hr hlocks hK hP hD hS rfl (Nat.le_of_ble_eq_true rfl) (Nat.le_of_ble_eq_true rfl) (kd tdlX8_entry_0 34 rfl)
          · have hF := kf hv55_0 hF
            by_cases hv55_1 : p3 = 1
            · have hF := kt hv55_1 hF
              refine ksw (n := 1) (off := (42)) (tgt := 97) hx hb (kd tdlX8_entry_0 28 rfl) hv55_1 (by decide) (by decide) (by decide) (by decide) ?_
              refine lv_aload_n hx hb (kd tdlX8_entry_0 35 rfl) rfl (lv_at hl 2 rfl) ?_
              refine va_get (D := D) (ci := 7) (v := .ref (g0 1)) (C := RX8) (T := TX8) (N := 9) hx hb hts inX8_ hown hK hP 0 rfl rfl 1 (by decide) L19 (fun _ h9 => h9) rfl (kd tdlX8_entry_0 36 rfl) ?_
              refine lv_iload hx hb (kd tdlX8_entry_0 37 rfl) (lv_at hl 0 rfl) ?_
              obtain ⟨v103, e103, hF⟩ := kc hF
              refine kcL_i (S := Unit) (wf := (fun (_ : Unit) => [(wdk t (g0 1) a_desk d_desk)])) hP hD hS hA nd_1 rfl (fun _ => rfl) (kL_V (Qx := (fun A => kQi D (TY t) (kflat [(wdk t (g0 1) a_desk d_desk)]) v103 A)) (cs := [(wdk t (g0 1) a_desk d_desk)]) (is := [1]) (As := [.int (v47 + p2)]) (rest := []) ⟨hx, hb, hml, hown, hts⟩ hK hP hD nd_1 rfl (c_X1_codeOfEntry l D t (g0 1) a_desk d_desk _ (v47 + p2) v103 e103) (cwV 1 hts (gcX1_codeOfEntry w_253) rfl rfl rfl hdX1_codeOfEntryV ⟨Nat.le_of_ble_eq_true rfl, Nat.le_of_ble_eq_true rfl⟩) (ci := 1) (q0 := 1) rfl rfl rfl hl.1 rfl (Nat.le_of_ble_eq_true rfl) (kd tdlX8_entry_0 38 rfl) ⟨Nat.le_of_ble_eq_true rfl, Nat.le_of_ble_eq_true rfl⟩) (fun _ H locs hP hD hS => ?_)
              have hP : va_P D vwCl (kflat [(wx8 h0 g0), (wdk t (g0 1) a_desk d_desk)]) H := hP
              have hD : va_D A (kflat [(wx8 h0 g0), (wdk t (g0 1) a_desk d_desk)]) := hD
              obtain ⟨v106, e106, hF⟩ := kc hF
              refine kcL_i (S := Unit) (wf := (fun (_ : Unit) => [])) hP hD hS hA nd_ rfl (fun _ => rfl) (kL_S (Qx := (fun A => kQi D (TY t) (kflat []) v106 A)) (cs := []) (is := []) (As := [.int v103]) (rest := []) ⟨hx, hb, hml, hown, hts⟩ hK hP hD nd_ rfl (c_X2_sum l D t  _ v103 v106 e106) (va_cwS 1 hts (gcX2_sum w_258) rfl rfl rfl hdX2_sumS ⟨Nat.le_of_ble_eq_true rfl, Nat.le_of_ble_eq_true rfl⟩) rfl hl.1 rfl (Nat.le_of_ble_eq_true rfl) (kd tdlX8_entry_0 39 rfl) ⟨Nat.le_of_ble_eq_true rfl, Nat.le_of_ble_eq_true rfl⟩) (fun _ H locs hP hD hS => ?_)
              have hP : va_P D vwCl (kflat [(wx8 h0 g0), (wdk t (g0 1) a_desk d_desk)]) H := hP
              have hD : va_D A (kflat [(wx8 h0 g0), (wdk t (g0 1) a_desk d_desk)]) := hD
              cases ko hF
              exact kes_i () hx hb hr hlocks hK hP hD hS rfl (Nat.le_of_ble_eq_true rfl) (Nat.le_of_ble_eq_true rfl) (kd tdlX8_entry_0 40 rfl)
            · have hF := kf hv55_1 hF
              by_cases hv55_2 : p3 = 2
              · have hF := kt hv55_2 hF
                refine ksw (n := 2) (off := (55)) (tgt := 110) hx hb (kd tdlX8_entry_0 28 rfl) hv55_2 (by decide) (by decide) (by decide) (by decide) ?_
                refine lv_aload_n hx hb (kd tdlX8_entry_0 41 rfl) rfl (lv_at hl 2 rfl) ?_
                refine va_get (D := D) (ci := 7) (v := .ref (g0 1)) (C := RX8) (T := TX8) (N := 9) hx hb hts inX8_ hown hK hP 0 rfl rfl 1 (by decide) L19 (fun _ h9 => h9) rfl (kd tdlX8_entry_0 42 rfl) ?_
                refine lv_iload hx hb (kd tdlX8_entry_0 43 rfl) (lv_at hl 0 rfl) ?_
                obtain ⟨v116, e116, hF⟩ := kc hF
                refine kcL_i (S := Unit) (wf := (fun (_ : Unit) => [(wdk t (g0 1) a_desk d_desk)])) hP hD hS hA nd_1 rfl (fun _ => rfl) (kL_V (Qx := (fun A => kQi D (TY t) (kflat [(wdk t (g0 1) a_desk d_desk)]) v116 A)) (cs := [(wdk t (g0 1) a_desk d_desk)]) (is := [1]) (As := [.int (v47 + p2)]) (rest := []) ⟨hx, hb, hml, hown, hts⟩ hK hP hD nd_1 rfl (c_X1_usesOfEntry l D t (g0 1) a_desk d_desk _ (v47 + p2) v116 e116) (cwV 1 hts (gcX1_usesOfEntry w_265) rfl rfl rfl hdX1_usesOfEntryV ⟨Nat.le_of_ble_eq_true rfl, Nat.le_of_ble_eq_true rfl⟩) (ci := 1) (q0 := 1) rfl rfl rfl hl.1 rfl (Nat.le_of_ble_eq_true rfl) (kd tdlX8_entry_0 44 rfl) ⟨Nat.le_of_ble_eq_true rfl, Nat.le_of_ble_eq_true rfl⟩) (fun _ H locs hP hD hS => ?_)
                have hP : va_P D vwCl (kflat [(wx8 h0 g0), (wdk t (g0 1) a_desk d_desk)]) H := hP
                have hD : va_D A (kflat [(wx8 h0 g0), (wdk t (g0 1) a_desk d_desk)]) := hD
                cases ko hF
                exact kes_i () hx hb hr hlocks hK hP hD hS rfl (Nat.le_of_ble_eq_true rfl) (Nat.le_of_ble_eq_true rfl) (kd tdlX8_entry_1 0 rfl)
              · have hF := kf hv55_2 hF
                have hv55_3 : p3 = 3 := keq (k := 3) (by have a0 := kne hv55_0 (k := 0) (by decide); have a1 := kne hv55_1 (k := 1) (by decide); have a2 := kne hv55_2 (k := 2) (by decide); omega) (by decide)
                refine ksw (n := 3) (off := (65)) (tgt := 120) hx hb (kd tdlX8_entry_0 28 rfl) hv55_3 (by decide) (by decide) (by decide) (by decide) ?_
                refine lv_aload_n hx hb (kd tdlX8_entry_1 1 rfl) rfl (lv_at hl 2 rfl) ?_
                refine va_get (D := D) (ci := 7) (v := .ref (g0 1)) (C := RX8) (T := TX8) (N := 9) hx hb hts inX8_ hown hK hP 0 rfl rfl 1 (by decide) L19 (fun _ h9 => h9) rfl (kd tdlX8_entry_1 2 rfl) ?_
                refine lv_iload hx hb (kd tdlX8_entry_1 3 rfl) (lv_at hl 0 rfl) ?_
                obtain ⟨v126, e126, hF⟩ := kc hF
                refine kcL_i (S := Unit) (wf := (fun (_ : Unit) => [(wdk t (g0 1) a_desk d_desk)])) hP hD hS hA nd_1 rfl (fun _ => rfl) (kL_V (Qx := (fun A => kQi D (TY t) (kflat [(wdk t (g0 1) a_desk d_desk)]) v126 A)) (cs := [(wdk t (g0 1) a_desk d_desk)]) (is := [1]) (As := [.int (v47 + p2)]) (rest := []) ⟨hx, hb, hml, hown, hts⟩ hK hP hD nd_1 rfl (c_X1_codeOfEntry l D t (g0 1) a_desk d_desk _ (v47 + p2) v126 e126) (cwV 1 hts (gcX1_codeOfEntry w_253) rfl rfl rfl hdX1_codeOfEntryV ⟨Nat.le_of_ble_eq_true rfl, Nat.le_of_ble_eq_true rfl⟩) (ci := 1) (q0 := 1) rfl rfl rfl hl.1 rfl (Nat.le_of_ble_eq_true rfl) (kd tdlX8_entry_1 4 rfl) ⟨Nat.le_of_ble_eq_true rfl, Nat.le_of_ble_eq_true rfl⟩) (fun _ H locs hP hD hS => ?_)
                have hP : va_P D vwCl (kflat [(wx8 h0 g0), (wdk t (g0 1) a_desk d_desk)]) H := hP
                have hD : va_D A (kflat [(wx8 h0 g0), (wdk t (g0 1) a_desk d_desk)]) := hD
                refine lv_iconst (v := 0) hx hb (kd tdlX8_entry_1 5 rfl) (by decide) ?_
                obtain ⟨v130, e130, hF⟩ := kc hF
                refine kcL_i (S := Unit) (wf := (fun (_ : Unit) => [])) hP hD hS hA nd_ rfl (fun _ => rfl) (kL_S (Qx := (fun A => kQi D (TY t) (kflat []) v130 A)) (cs := []) (is := []) (As := [.int v126, .int 0]) (rest := []) ⟨hx, hb, hml, hown, hts⟩ hK hP hD nd_ rfl (c_X2_sign l D t  _ v126 0 v130 e130) (va_cwS 2 hts (gcX2_sign w_266) rfl rfl rfl hdX2_signS ⟨Nat.le_of_ble_eq_true rfl, Nat.le_of_ble_eq_true rfl⟩) rfl hl.1 rfl (Nat.le_of_ble_eq_true rfl) (kd tdlX8_entry_1 6 rfl) ⟨Nat.le_of_ble_eq_true rfl, Nat.le_of_ble_eq_true rfl⟩) (fun _ H locs hP hD hS => ?_)
                have hP : va_P D vwCl (kflat [(wx8 h0 g0), (wdk t (g0 1) a_desk d_desk)]) H := hP
                have hD : va_D A (kflat [(wx8 h0 g0), (wdk t (g0 1) a_desk d_desk)]) := hD
                cases ko hF
                exact kes_i () hx hb hr hlocks hK hP hD hS rfl (Nat.le_of_ble_eq_true rfl) (Nat.le_of_ble_eq_true rfl) (kd tdlX8_entry_1 7 rfl)
      · have hF := kf hc30 hF
        cases ko hF
        exact absurd (show (1 : Nat) = 0 from hcd0) (by decide)
set_option maxHeartbeats 4000000 in
set_option maxRecDepth 100000 in
theorem c_X8_jumps (l : Launch) (D : va_G) (t : Nat → ClassId) (h0 : Nat) (g0 : Nat → Nat) (a_store : Nat → Nat) (d_store : SOT) (h1 : Nat) (a1 : Nat → Nat) (d1 : DKT) (sz : Nat) (p2 : Int32) (r : Int32 × SOT) (hF : F_X8_jumps d_store d1 p2 = some r) : Met l yX8_jumps wX8_jumps ({ frames := 4, cells := 0, slots := 0, locals := 87 } : Room) (kPx D (TY t) (kflat [(wx8 h0 g0), (wso t (g0 7) a_store d_store), (wdk t h1 a1 d1)]) [.ref h0, .ref h1, .int p2] sz) (kQiS D (TY t) (fun (u : Unit) => (kflat [(wx8 h0 g0), (wso t (g0 7) a_store r.2), (wdk t h1 a1 d1)])) r.1 (va_A (kflat [(wx8 h0 g0), (wso t (g0 7) a_store d_store), (wdk t h1 a1 d1)]) sz)) 0 0 (va_A (kflat [(wx8 h0 g0), (wso t (g0 7) a_store d_store), (wdk t h1 a1 d1)]) sz) := by
  refine kEx (cc := cX8_jumps) (maxL := 3) (ret := (some .int)) (Qx := fun A => kQiS D (TY t) (fun (u : Unit) => (kflat [(wx8 h0 g0), (wso t (g0 7) a_store r.2), (wdk t h1 a1 d1)])) r.1 A) (lv0 := [(0, .ref h0), (1, .ref h1), (2, .int p2)]) RX8 rfl (by decide) rfl (Nat.le_of_ble_eq_true rfl) rfl ?_
  intro p e s m args below meth c A ls hx hb hml hr hlocks hown hts hA hX hK hP hD hS hl
  have L302 := hts (.fieldLink RX8 302 "ChunkCarriers$Store" "jumps" "I") (List.mem_cons_of_mem _ w_325)
  have L54 := hts (.fieldLink RX8 54 "ChunkCarriers" "store" "LChunkCarriers$Store;") (List.mem_cons_of_mem _ w_36)
  have inX5_ : ∀ w ∈ wsX50, w ∈ wX8_jumps := fun w h => List.mem_cons_of_mem _ (inlX5 w h)
  have inX8_ : ∀ w ∈ wsX80, w ∈ wX8_jumps := fun w h => List.mem_cons_of_mem _ (inlX8 w h)
  refine lv_aload_n hx hb (kd tdlX8_jumps_0 0 rfl) rfl (lv_at hl 0 rfl) ?_
  refine va_get (D := D) (ci := 7) (v := .ref (g0 7)) (C := RX8) (T := TX8) (N := 9) hx hb hts inX8_ hown hK hP 0 rfl rfl 7 (by decide) L54 (fun _ h9 => h9) rfl (kd tdlX8_jumps_0 1 rfl) ?_
  refine lv_aload_n hx hb (kd tdlX8_jumps_0 2 rfl) rfl (lv_at hl 1 rfl) ?_
  refine lv_iconst (v := 4) hx hb (kd tdlX8_jumps_0 3 rfl) (by decide) ?_
  obtain ⟨v6, e6, hF⟩ := kc hF
  refine kcL_i (S := Unit) (wf := (fun (_ : Unit) => [(wdk t h1 a1 d1)])) hP hD hS hA nd_2 rfl (fun _ => rfl) (kL_V (Qx := (fun A => kQi D (TY t) (kflat [(wdk t h1 a1 d1)]) v6 A)) (cs := [(wdk t h1 a1 d1)]) (is := [2]) (As := [.int 4]) (rest := [.ref (g0 7)]) ⟨hx, hb, hml, hown, hts⟩ hK hP hD nd_2 rfl (c_X1_settingAt l D t h1 a1 d1 _ 4 v6 e6) (cwV 1 hts (gcX1_settingAt w_193) rfl rfl rfl hdX1_settingAtV ⟨Nat.le_of_ble_eq_true rfl, Nat.le_of_ble_eq_true rfl⟩) (ci := 1) (q0 := 3) rfl rfl rfl hl.1 rfl (Nat.le_of_ble_eq_true rfl) (kd tdlX8_jumps_0 4 rfl) ⟨Nat.le_of_ble_eq_true rfl, Nat.le_of_ble_eq_true rfl⟩) (fun _ H locs hP hD hS => ?_)
  have hP : va_P D vwCl (kflat [(wx8 h0 g0), (wso t (g0 7) a_store d_store), (wdk t h1 a1 d1)]) H := hP
  have hD : va_D A (kflat [(wx8 h0 g0), (wso t (g0 7) a_store d_store), (wdk t h1 a1 d1)]) := hD
  obtain ⟨v9, e9, hF⟩ := kc hF
  refine kcL_v (S := Unit) (wf := (fun (_ : Unit) => [(wso t (g0 7) a_store v9)])) hP hD hS hA nd_1 rfl (fun _ => rfl) (kL_V (Qx := (fun A => kQv D (TY t) (kflat [(wso t (g0 7) a_store v9)]) A)) (cs := [(wso t (g0 7) a_store d_store)]) (is := [1]) (As := [.int v6]) (rest := []) ⟨hx, hb, hml, hown, hts⟩ hK hP hD nd_1 rfl (c_X5_open l D t (g0 7) a_store d_store _ v6 v9 e9) (cwV 1 hts (gcX5_open w_296) rfl rfl rfl hdX5_openV ⟨Nat.le_of_ble_eq_true rfl, Nat.le_of_ble_eq_true rfl⟩) (ci := 4) (q0 := 1) rfl rfl rfl hl.1 rfl (Nat.le_of_ble_eq_true rfl) (kd tdlX8_jumps_0 5 rfl) ⟨Nat.le_of_ble_eq_true rfl, Nat.le_of_ble_eq_true rfl⟩) (fun _ H locs hP hD hS => ?_)
  have hP : va_P D vwCl (kflat [(wx8 h0 g0), (wso t (g0 7) a_store v9), (wdk t h1 a1 d1)]) H := hP
  have hD : va_D A (kflat [(wx8 h0 g0), (wso t (g0 7) a_store v9), (wdk t h1 a1 d1)]) := hD
  refine lv_aload_n hx hb (kd tdlX8_jumps_0 6 rfl) rfl (lv_at hl 1 rfl) ?_
  refine lv_iload_n hx hb (kd tdlX8_jumps_0 7 rfl) rfl (lv_at hl 2 rfl) ?_
  refine lv_aload_n hx hb (kd tdlX8_jumps_0 8 rfl) rfl (lv_at hl 0 rfl) ?_
  refine va_get (D := D) (ci := 7) (v := .ref (g0 7)) (C := RX8) (T := TX8) (N := 9) hx hb hts inX8_ hown hK hP 0 rfl rfl 7 (by decide) L54 (fun _ h9 => h9) rfl (kd tdlX8_jumps_0 9 rfl) ?_
  obtain ⟨v18, e18, hF⟩ := kc hF
  refine kcL_v (S := Unit) (wf := (fun (_ : Unit) => [(wdk t h1 a1 d1), (wso t (g0 7) a_store v18)])) hP hD hS hA nd_2_1 rfl (fun _ => rfl) (kL_V (Qx := (fun A => kQv D (TY t) (kflat [(wdk t h1 a1 d1), (wso t (g0 7) a_store v18)]) A)) (cs := [(wdk t h1 a1 d1), (wso t (g0 7) a_store v9)]) (is := [2, 1]) (As := [.int p2, .ref (g0 7)]) (rest := []) ⟨hx, hb, hml, hown, hts⟩ hK hP hD nd_2_1 rfl (c_X1_passThrough l D t h1 a1 d1 (g0 7) a_store v9 _ p2 v18 e18) (cwV 2 hts (gcX1_passThrough w_309) rfl rfl rfl hdX1_passThroughV ⟨Nat.le_of_ble_eq_true rfl, Nat.le_of_ble_eq_true rfl⟩) (ci := 1) (q0 := 3) rfl rfl rfl hl.1 rfl (Nat.le_of_ble_eq_true rfl) (kd tdlX8_jumps_0 10 rfl) ⟨Nat.le_of_ble_eq_true rfl, Nat.le_of_ble_eq_true rfl⟩) (fun _ H locs hP hD hS => ?_)
  have hP : va_P D vwCl (kflat [(wx8 h0 g0), (wso t (g0 7) a_store v18), (wdk t h1 a1 d1)]) H := hP
  have hD : va_D A (kflat [(wx8 h0 g0), (wso t (g0 7) a_store v18), (wdk t h1 a1 d1)]) := hD
  refine lv_aload_n hx hb (kd tdlX8_jumps_0 11 rfl) rfl (lv_at hl 0 rfl) ?_
  refine va_get (D := D) (ci := 7) (v := .ref (g0 7)) (C := RX8) (T := TX8) (N := 9) hx hb hts inX8_ hown hK hP 0 rfl rfl 7 (by decide) L54 (fun _ h9 => h9) rfl (kd tdlX8_jumps_0 12 rfl) ?_
  refine va_get (D := D) (ci := 4) (v := .int (so_jumps v18)) (C := RX5) (T := TX5) (N := 6) hx hb hts inX5_ hown hK hP 1 rfl rfl 5 (by decide) L302 (fun _ h9 => h9) rfl (kd tdlX8_jumps_0 13 rfl) ?_
  cases ko hF
  exact kes_i () hx hb hr hlocks hK hP hD hS rfl (Nat.le_of_ble_eq_true rfl) (Nat.le_of_ble_eq_true rfl) (kd tdlX8_jumps_0 14 rfl)
set_option maxHeartbeats 4000000 in
set_option maxRecDepth 100000 in
theorem c_X8_loads (l : Launch) (D : va_G) (t : Nat → ClassId) (h0 : Nat) (g0 : Nat → Nat) (a_store : Nat → Nat) (d_store : SOT) (h1 : Nat) (a1 : Nat → Nat) (d1 : DKT) (sz : Nat) (p2 : Int32) (r : Int32 × SOT) (hF : F_X8_loads d_store d1 p2 = some r) : Met l yX8_loads wX8_loads ({ frames := 4, cells := 0, slots := 0, locals := 87 } : Room) (kPx D (TY t) (kflat [(wx8 h0 g0), (wso t (g0 7) a_store d_store), (wdk t h1 a1 d1)]) [.ref h0, .ref h1, .int p2] sz) (kQiS D (TY t) (fun (u : Unit) => (kflat [(wx8 h0 g0), (wso t (g0 7) a_store r.2), (wdk t h1 a1 d1)])) r.1 (va_A (kflat [(wx8 h0 g0), (wso t (g0 7) a_store d_store), (wdk t h1 a1 d1)]) sz)) 0 0 (va_A (kflat [(wx8 h0 g0), (wso t (g0 7) a_store d_store), (wdk t h1 a1 d1)]) sz) := by
  refine kEx (cc := cX8_loads) (maxL := 3) (ret := (some .int)) (Qx := fun A => kQiS D (TY t) (fun (u : Unit) => (kflat [(wx8 h0 g0), (wso t (g0 7) a_store r.2), (wdk t h1 a1 d1)])) r.1 A) (lv0 := [(0, .ref h0), (1, .ref h1), (2, .int p2)]) RX8 rfl (by decide) rfl (Nat.le_of_ble_eq_true rfl) rfl ?_
  intro p e s m args below meth c A ls hx hb hml hr hlocks hown hts hA hX hK hP hD hS hl
  have L271 := hts (.fieldLink RX8 271 "ChunkCarriers$Store" "loads" "I") (List.mem_cons_of_mem _ w_295)
  have L54 := hts (.fieldLink RX8 54 "ChunkCarriers" "store" "LChunkCarriers$Store;") (List.mem_cons_of_mem _ w_36)
  have inX5_ : ∀ w ∈ wsX50, w ∈ wX8_loads := fun w h => List.mem_cons_of_mem _ (inlX5 w h)
  have inX8_ : ∀ w ∈ wsX80, w ∈ wX8_loads := fun w h => List.mem_cons_of_mem _ (inlX8 w h)
  refine lv_aload_n hx hb (kd tdlX8_loads_0 0 rfl) rfl (lv_at hl 0 rfl) ?_
  refine va_get (D := D) (ci := 7) (v := .ref (g0 7)) (C := RX8) (T := TX8) (N := 9) hx hb hts inX8_ hown hK hP 0 rfl rfl 7 (by decide) L54 (fun _ h9 => h9) rfl (kd tdlX8_loads_0 1 rfl) ?_
  refine lv_aload_n hx hb (kd tdlX8_loads_0 2 rfl) rfl (lv_at hl 1 rfl) ?_
  refine lv_iconst (v := 4) hx hb (kd tdlX8_loads_0 3 rfl) (by decide) ?_
  obtain ⟨v6, e6, hF⟩ := kc hF
  refine kcL_i (S := Unit) (wf := (fun (_ : Unit) => [(wdk t h1 a1 d1)])) hP hD hS hA nd_2 rfl (fun _ => rfl) (kL_V (Qx := (fun A => kQi D (TY t) (kflat [(wdk t h1 a1 d1)]) v6 A)) (cs := [(wdk t h1 a1 d1)]) (is := [2]) (As := [.int 4]) (rest := [.ref (g0 7)]) ⟨hx, hb, hml, hown, hts⟩ hK hP hD nd_2 rfl (c_X1_settingAt l D t h1 a1 d1 _ 4 v6 e6) (cwV 1 hts (gcX1_settingAt w_193) rfl rfl rfl hdX1_settingAtV ⟨Nat.le_of_ble_eq_true rfl, Nat.le_of_ble_eq_true rfl⟩) (ci := 1) (q0 := 3) rfl rfl rfl hl.1 rfl (Nat.le_of_ble_eq_true rfl) (kd tdlX8_loads_0 4 rfl) ⟨Nat.le_of_ble_eq_true rfl, Nat.le_of_ble_eq_true rfl⟩) (fun _ H locs hP hD hS => ?_)
  have hP : va_P D vwCl (kflat [(wx8 h0 g0), (wso t (g0 7) a_store d_store), (wdk t h1 a1 d1)]) H := hP
  have hD : va_D A (kflat [(wx8 h0 g0), (wso t (g0 7) a_store d_store), (wdk t h1 a1 d1)]) := hD
  obtain ⟨v9, e9, hF⟩ := kc hF
  refine kcL_v (S := Unit) (wf := (fun (_ : Unit) => [(wso t (g0 7) a_store v9)])) hP hD hS hA nd_1 rfl (fun _ => rfl) (kL_V (Qx := (fun A => kQv D (TY t) (kflat [(wso t (g0 7) a_store v9)]) A)) (cs := [(wso t (g0 7) a_store d_store)]) (is := [1]) (As := [.int v6]) (rest := []) ⟨hx, hb, hml, hown, hts⟩ hK hP hD nd_1 rfl (c_X5_open l D t (g0 7) a_store d_store _ v6 v9 e9) (cwV 1 hts (gcX5_open w_296) rfl rfl rfl hdX5_openV ⟨Nat.le_of_ble_eq_true rfl, Nat.le_of_ble_eq_true rfl⟩) (ci := 4) (q0 := 1) rfl rfl rfl hl.1 rfl (Nat.le_of_ble_eq_true rfl) (kd tdlX8_loads_0 5 rfl) ⟨Nat.le_of_ble_eq_true rfl, Nat.le_of_ble_eq_true rfl⟩) (fun _ H locs hP hD hS => ?_)
  have hP : va_P D vwCl (kflat [(wx8 h0 g0), (wso t (g0 7) a_store v9), (wdk t h1 a1 d1)]) H := hP
  have hD : va_D A (kflat [(wx8 h0 g0), (wso t (g0 7) a_store v9), (wdk t h1 a1 d1)]) := hD
  refine lv_aload_n hx hb (kd tdlX8_loads_0 6 rfl) rfl (lv_at hl 1 rfl) ?_
  refine lv_iload_n hx hb (kd tdlX8_loads_0 7 rfl) rfl (lv_at hl 2 rfl) ?_
  refine lv_aload_n hx hb (kd tdlX8_loads_0 8 rfl) rfl (lv_at hl 0 rfl) ?_
  refine va_get (D := D) (ci := 7) (v := .ref (g0 7)) (C := RX8) (T := TX8) (N := 9) hx hb hts inX8_ hown hK hP 0 rfl rfl 7 (by decide) L54 (fun _ h9 => h9) rfl (kd tdlX8_loads_0 9 rfl) ?_
  obtain ⟨v18, e18, hF⟩ := kc hF
  refine kcL_v (S := Unit) (wf := (fun (_ : Unit) => [(wdk t h1 a1 d1), (wso t (g0 7) a_store v18)])) hP hD hS hA nd_2_1 rfl (fun _ => rfl) (kL_V (Qx := (fun A => kQv D (TY t) (kflat [(wdk t h1 a1 d1), (wso t (g0 7) a_store v18)]) A)) (cs := [(wdk t h1 a1 d1), (wso t (g0 7) a_store v9)]) (is := [2, 1]) (As := [.int p2, .ref (g0 7)]) (rest := []) ⟨hx, hb, hml, hown, hts⟩ hK hP hD nd_2_1 rfl (c_X1_passThrough l D t h1 a1 d1 (g0 7) a_store v9 _ p2 v18 e18) (cwV 2 hts (gcX1_passThrough w_309) rfl rfl rfl hdX1_passThroughV ⟨Nat.le_of_ble_eq_true rfl, Nat.le_of_ble_eq_true rfl⟩) (ci := 1) (q0 := 3) rfl rfl rfl hl.1 rfl (Nat.le_of_ble_eq_true rfl) (kd tdlX8_loads_0 10 rfl) ⟨Nat.le_of_ble_eq_true rfl, Nat.le_of_ble_eq_true rfl⟩) (fun _ H locs hP hD hS => ?_)
  have hP : va_P D vwCl (kflat [(wx8 h0 g0), (wso t (g0 7) a_store v18), (wdk t h1 a1 d1)]) H := hP
  have hD : va_D A (kflat [(wx8 h0 g0), (wso t (g0 7) a_store v18), (wdk t h1 a1 d1)]) := hD
  refine lv_aload_n hx hb (kd tdlX8_loads_0 11 rfl) rfl (lv_at hl 0 rfl) ?_
  refine va_get (D := D) (ci := 7) (v := .ref (g0 7)) (C := RX8) (T := TX8) (N := 9) hx hb hts inX8_ hown hK hP 0 rfl rfl 7 (by decide) L54 (fun _ h9 => h9) rfl (kd tdlX8_loads_0 12 rfl) ?_
  refine va_get (D := D) (ci := 4) (v := .int (so_loads v18)) (C := RX5) (T := TX5) (N := 6) hx hb hts inX5_ hown hK hP 1 rfl rfl 4 (by decide) L271 (fun _ h9 => h9) rfl (kd tdlX8_loads_0 13 rfl) ?_
  cases ko hF
  exact kes_i () hx hb hr hlocks hK hP hD hS rfl (Nat.le_of_ble_eq_true rfl) (Nat.le_of_ble_eq_true rfl) (kd tdlX8_loads_0 14 rfl)
set_option maxHeartbeats 4000000 in
set_option maxRecDepth 100000 in
theorem c_X8_backupOf (l : Launch) (D : va_G) (t : Nat → ClassId) (h0 : Nat) (g0 : Nat → Nat) (a_desk : Nat → Nat) (d_desk : DKT) (a_store : Nat → Nat) (d_store : SOT) (sz : Nat) (p1 : Int32) (p2 : Int32) (r : Nat × Int32 × SOT) (hF : F_X8_backupOf d_desk d_store p1 p2 = some r) (hcd0 : r.1 = 0) : Met l yX8_backupOf wX8_backupOf ({ frames := 5, cells := 0, slots := 0, locals := 110 } : Room) (kPx D (TY t) (kflat [(wx8 h0 g0), (wdk t (g0 1) a_desk d_desk), (wso t (g0 7) a_store d_store)]) [.ref h0, .int p1, .int p2] sz) (kQiS D (TY t) (fun (u : Unit) => (kflat [(wx8 h0 g0), (wdk t (g0 1) a_desk d_desk), (wso t (g0 7) a_store r.2.2)])) r.2.1 (va_A (kflat [(wx8 h0 g0), (wdk t (g0 1) a_desk d_desk), (wso t (g0 7) a_store d_store)]) sz)) 0 0 (va_A (kflat [(wx8 h0 g0), (wdk t (g0 1) a_desk d_desk), (wso t (g0 7) a_store d_store)]) sz) := by
  refine kEx (cc := cX8_backupOf) (maxL := 3) (ret := (some .int)) (Qx := fun A => kQiS D (TY t) (fun (u : Unit) => (kflat [(wx8 h0 g0), (wdk t (g0 1) a_desk d_desk), (wso t (g0 7) a_store r.2.2)])) r.2.1 A) (lv0 := [(0, .ref h0), (1, .int p1), (2, .int p2)]) RX8 rfl (by decide) rfl (Nat.le_of_ble_eq_true rfl) rfl ?_
  intro p e s m args below meth c A ls hx hb hml hr hlocks hown hts hA hX hK hP hD hS hl
  have L19 := hts (.fieldLink RX8 19 "ChunkCarriers" "desk" "LChunkCarriers$Desk;") (List.mem_cons_of_mem _ w_18)
  have inX8_ : ∀ w ∈ wsX80, w ∈ wX8_backupOf := fun w h => List.mem_cons_of_mem _ (inlX8 w h)
  refine lv_aload_n hx hb (kd tdlX8_backupOf_0 0 rfl) rfl (lv_at hl 0 rfl) ?_
  refine va_get (D := D) (ci := 7) (v := .ref (g0 1)) (C := RX8) (T := TX8) (N := 9) hx hb hts inX8_ hown hK hP 0 rfl rfl 1 (by decide) L19 (fun _ h9 => h9) rfl (kd tdlX8_backupOf_0 1 rfl) ?_
  refine lv_iload_n hx hb (kd tdlX8_backupOf_0 2 rfl) rfl (lv_at hl 1 rfl) ?_
  obtain ⟨v5, e5, hF⟩ := kc hF
  refine kcL_i (S := Unit) (wf := (fun (_ : Unit) => [(wdk t (g0 1) a_desk d_desk)])) hP hD hS hA nd_1 rfl (fun _ => rfl) (kL_V (Qx := (fun A => kQi D (TY t) (kflat [(wdk t (g0 1) a_desk d_desk)]) v5 A)) (cs := [(wdk t (g0 1) a_desk d_desk)]) (is := [1]) (As := [.int p1]) (rest := []) ⟨hx, hb, hml, hown, hts⟩ hK hP hD nd_1 rfl (c_X1_hasBackup l D t (g0 1) a_desk d_desk _ p1 v5 e5) (cwV 1 hts (gcX1_hasBackup w_280) rfl rfl rfl hdX1_hasBackupV ⟨Nat.le_of_ble_eq_true rfl, Nat.le_of_ble_eq_true rfl⟩) (ci := 1) (q0 := 1) rfl rfl rfl hl.1 rfl (Nat.le_of_ble_eq_true rfl) (kd tdlX8_backupOf_0 3 rfl) ⟨Nat.le_of_ble_eq_true rfl, Nat.le_of_ble_eq_true rfl⟩) (fun _ H locs hP hD hS => ?_)
  have hP : va_P D vwCl (kflat [(wx8 h0 g0), (wdk t (g0 1) a_desk d_desk), (wso t (g0 7) a_store d_store)]) H := hP
  have hD : va_D A (kflat [(wx8 h0 g0), (wdk t (g0 1) a_desk d_desk), (wso t (g0 7) a_store d_store)]) := hD
  refine lv_if_ne (tgt := 19) hx hb (kd tdlX8_backupOf_0 4 rfl) (by decide) (fun hc8 => ?_) (fun hc8 => ?_)
  · have hF := kf hc8 hF
    refine lv_iload_n hx hb (kd tdlX8_backupOf_0 9 rfl) rfl (lv_at hl 2 rfl) ?_
    by_cases hw20 : (Int32.toInt p2 < 0 ∨ 4 < Int32.toInt p2)
    · have hF := kt hw20 hF
      refine lv_tableOut (tgt := 103) hx hb (kd tdlX8_backupOf_0 10 rfl) hw20 (by decide) ?_
      cases ko hF
      exact absurd (show (2 : Nat) = 0 from hcd0) (by decide)
    · have hF := kf hw20 hF
      by_cases hv20_0 : p2 = 0
      · have hF := kt hv20_0 hF
        refine ksw (n := 0) (off := (36)) (tgt := 56) hx hb (kd tdlX8_backupOf_0 10 rfl) hv20_0 (by decide) (by decide) (by decide) (by decide) ?_
        refine lv_aload_n hx hb (kd tdlX8_backupOf_0 11 rfl) rfl (lv_at hl 0 rfl) ?_
        refine va_get (D := D) (ci := 7) (v := .ref (g0 1)) (C := RX8) (T := TX8) (N := 9) hx hb hts inX8_ hown hK hP 0 rfl rfl 1 (by decide) L19 (fun _ h9 => h9) rfl (kd tdlX8_backupOf_0 12 rfl) ?_
        refine lv_iload_n hx hb (kd tdlX8_backupOf_0 13 rfl) rfl (lv_at hl 1 rfl) ?_
        obtain ⟨v61, e61, hF⟩ := kc hF
        refine kcL_i (S := Unit) (wf := (fun (_ : Unit) => [(wdk t (g0 1) a_desk d_desk)])) hP hD hS hA nd_1 rfl (fun _ => rfl) (kL_V (Qx := (fun A => kQi D (TY t) (kflat [(wdk t (g0 1) a_desk d_desk)]) v61 A)) (cs := [(wdk t (g0 1) a_desk d_desk)]) (is := [1]) (As := [.int p1]) (rest := []) ⟨hx, hb, hml, hown, hts⟩ hK hP hD nd_1 rfl (c_X1_chunksOf l D t (g0 1) a_desk d_desk _ p1 v61 e61) (cwV 1 hts (gcX1_chunksOf w_281) rfl rfl rfl hdX1_chunksOfV ⟨Nat.le_of_ble_eq_true rfl, Nat.le_of_ble_eq_true rfl⟩) (ci := 1) (q0 := 1) rfl rfl rfl hl.1 rfl (Nat.le_of_ble_eq_true rfl) (kd tdlX8_backupOf_0 14 rfl) ⟨Nat.le_of_ble_eq_true rfl, Nat.le_of_ble_eq_true rfl⟩) (fun _ H locs hP hD hS => ?_)
        have hP : va_P D vwCl (kflat [(wx8 h0 g0), (wdk t (g0 1) a_desk d_desk), (wso t (g0 7) a_store d_store)]) H := hP
        have hD : va_D A (kflat [(wx8 h0 g0), (wdk t (g0 1) a_desk d_desk), (wso t (g0 7) a_store d_store)]) := hD
        cases ko hF
        exact kes_i () hx hb hr hlocks hK hP hD hS rfl (Nat.le_of_ble_eq_true rfl) (Nat.le_of_ble_eq_true rfl) (kd tdlX8_backupOf_0 15 rfl)
      · have hF := kf hv20_0 hF
        by_cases hv20_1 : p2 = 1
        · have hF := kt hv20_1 hF
          refine ksw (n := 1) (off := (45)) (tgt := 65) hx hb (kd tdlX8_backupOf_0 10 rfl) hv20_1 (by decide) (by decide) (by decide) (by decide) ?_
          refine lv_aload_n hx hb (kd tdlX8_backupOf_0 16 rfl) rfl (lv_at hl 0 rfl) ?_
          refine va_get (D := D) (ci := 7) (v := .ref (g0 1)) (C := RX8) (T := TX8) (N := 9) hx hb hts inX8_ hown hK hP 0 rfl rfl 1 (by decide) L19 (fun _ h9 => h9) rfl (kd tdlX8_backupOf_0 17 rfl) ?_
          refine lv_iload_n hx hb (kd tdlX8_backupOf_0 18 rfl) rfl (lv_at hl 1 rfl) ?_
          obtain ⟨v70, e70, hF⟩ := kc hF
          refine kcL_i (S := Unit) (wf := (fun (_ : Unit) => [(wdk t (g0 1) a_desk d_desk)])) hP hD hS hA nd_1 rfl (fun _ => rfl) (kL_V (Qx := (fun A => kQi D (TY t) (kflat [(wdk t (g0 1) a_desk d_desk)]) v70 A)) (cs := [(wdk t (g0 1) a_desk d_desk)]) (is := [1]) (As := [.int p1]) (rest := []) ⟨hx, hb, hml, hown, hts⟩ hK hP hD nd_1 rfl (c_X1_lettersOf l D t (g0 1) a_desk d_desk _ p1 v70 e70) (cwV 1 hts (gcX1_lettersOf w_282) rfl rfl rfl hdX1_lettersOfV ⟨Nat.le_of_ble_eq_true rfl, Nat.le_of_ble_eq_true rfl⟩) (ci := 1) (q0 := 1) rfl rfl rfl hl.1 rfl (Nat.le_of_ble_eq_true rfl) (kd tdlX8_backupOf_0 19 rfl) ⟨Nat.le_of_ble_eq_true rfl, Nat.le_of_ble_eq_true rfl⟩) (fun _ H locs hP hD hS => ?_)
          have hP : va_P D vwCl (kflat [(wx8 h0 g0), (wdk t (g0 1) a_desk d_desk), (wso t (g0 7) a_store d_store)]) H := hP
          have hD : va_D A (kflat [(wx8 h0 g0), (wdk t (g0 1) a_desk d_desk), (wso t (g0 7) a_store d_store)]) := hD
          cases ko hF
          exact kes_i () hx hb hr hlocks hK hP hD hS rfl (Nat.le_of_ble_eq_true rfl) (Nat.le_of_ble_eq_true rfl) (kd tdlX8_backupOf_0 20 rfl)
        · have hF := kf hv20_1 hF
          by_cases hv20_2 : p2 = 2
          · have hF := kt hv20_2 hF
            refine ksw (n := 2) (off := (54)) (tgt := 74) hx hb (kd tdlX8_backupOf_0 10 rfl) hv20_2 (by decide) (by decide) (by decide) (by decide) ?_
            refine lv_aload_n hx hb (kd tdlX8_backupOf_0 21 rfl) rfl (lv_at hl 0 rfl) ?_
            refine va_get (D := D) (ci := 7) (v := .ref (g0 1)) (C := RX8) (T := TX8) (N := 9) hx hb hts inX8_ hown hK hP 0 rfl rfl 1 (by decide) L19 (fun _ h9 => h9) rfl (kd tdlX8_backupOf_0 22 rfl) ?_
            refine lv_iload_n hx hb (kd tdlX8_backupOf_0 23 rfl) rfl (lv_at hl 1 rfl) ?_
            obtain ⟨v79, e79, hF⟩ := kc hF
            refine kcL_i (S := Unit) (wf := (fun (_ : Unit) => [(wdk t (g0 1) a_desk d_desk)])) hP hD hS hA nd_1 rfl (fun _ => rfl) (kL_V (Qx := (fun A => kQi D (TY t) (kflat [(wdk t (g0 1) a_desk d_desk)]) v79 A)) (cs := [(wdk t (g0 1) a_desk d_desk)]) (is := [1]) (As := [.int p1]) (rest := []) ⟨hx, hb, hml, hown, hts⟩ hK hP hD nd_1 rfl (c_X1_containersOf l D t (g0 1) a_desk d_desk _ p1 v79 e79) (cwV 1 hts (gcX1_containersOf w_287) rfl rfl rfl hdX1_containersOfV ⟨Nat.le_of_ble_eq_true rfl, Nat.le_of_ble_eq_true rfl⟩) (ci := 1) (q0 := 1) rfl rfl rfl hl.1 rfl (Nat.le_of_ble_eq_true rfl) (kd tdlX8_backupOf_0 24 rfl) ⟨Nat.le_of_ble_eq_true rfl, Nat.le_of_ble_eq_true rfl⟩) (fun _ H locs hP hD hS => ?_)
            have hP : va_P D vwCl (kflat [(wx8 h0 g0), (wdk t (g0 1) a_desk d_desk), (wso t (g0 7) a_store d_store)]) H := hP
            have hD : va_D A (kflat [(wx8 h0 g0), (wdk t (g0 1) a_desk d_desk), (wso t (g0 7) a_store d_store)]) := hD
            cases ko hF
            exact kes_i () hx hb hr hlocks hK hP hD hS rfl (Nat.le_of_ble_eq_true rfl) (Nat.le_of_ble_eq_true rfl) (kd tdlX8_backupOf_0 25 rfl)
          · have hF := kf hv20_2 hF
            by_cases hv20_3 : p2 = 3
            · have hF := kt hv20_3 hF
              refine ksw (n := 3) (off := (63)) (tgt := 83) hx hb (kd tdlX8_backupOf_0 10 rfl) hv20_3 (by decide) (by decide) (by decide) (by decide) ?_
              refine lv_aload_n hx hb (kd tdlX8_backupOf_0 26 rfl) rfl (lv_at hl 0 rfl) ?_
              refine lv_aload_n hx hb (kd tdlX8_backupOf_0 27 rfl) rfl (lv_at hl 0 rfl) ?_
              refine va_get (D := D) (ci := 7) (v := .ref (g0 1)) (C := RX8) (T := TX8) (N := 9) hx hb hts inX8_ hown hK hP 0 rfl rfl 1 (by decide) L19 (fun _ h9 => h9) rfl (kd tdlX8_backupOf_0 28 rfl) ?_
              refine lv_iload_n hx hb (kd tdlX8_backupOf_0 29 rfl) rfl (lv_at hl 1 rfl) ?_
              obtain ⟨v89, e89, hF⟩ := kc hF
              refine kcL_i (S := Unit) (wf := (fun (_ : Unit) => [(wx8 h0 g0), (wso t (g0 7) a_store v89.2), (wdk t (g0 1) a_desk d_desk)])) hP hD hS hA nd_0_2_1 rfl (fun _ => rfl) (kL_VX (Qx := (fun A => kQiS D (TY t) (fun (u89 : Unit) => kflat [(wx8 h0 g0), (wso t (g0 7) a_store v89.2), (wdk t (g0 1) a_desk d_desk)]) v89.1 A)) (cs := [(wx8 h0 g0), (wso t (g0 7) a_store d_store), (wdk t (g0 1) a_desk d_desk)]) (is := [0, 2, 1]) (As := [.ref (g0 1), .int p1]) (rest := []) ⟨hx, hb, hml, hown, hts⟩ hX hS hA hK hP hD nd_0_2_1 rfl (c_X8_loads l D t h0 g0 a_store d_store (g0 1) a_desk d_desk _ p1 v89 e89) (cwV 2 hts (gcX8_loads w_291) rfl rfl rfl hdX8_loadsV ⟨Nat.le_of_ble_eq_true rfl, Nat.le_of_ble_eq_true rfl⟩) (ci := 7) (q0 := 0) rfl rfl rfl hl.1 rfl (Nat.le_of_ble_eq_true rfl) (kd tdlX8_backupOf_0 30 rfl) ⟨Nat.le_of_ble_eq_true rfl, Nat.le_of_ble_eq_true rfl⟩) (fun _ H locs hP hD hS => ?_)
              have hP : va_P D vwCl (kflat [(wx8 h0 g0), (wdk t (g0 1) a_desk d_desk), (wso t (g0 7) a_store v89.2)]) H := hP
              have hD : va_D A (kflat [(wx8 h0 g0), (wdk t (g0 1) a_desk d_desk), (wso t (g0 7) a_store v89.2)]) := hD
              cases ko hF
              exact kes_i () hx hb hr hlocks hK hP hD hS rfl (Nat.le_of_ble_eq_true rfl) (Nat.le_of_ble_eq_true rfl) (kd tdlX8_backupOf_0 31 rfl)
            · have hF := kf hv20_3 hF
              have hv20_4 : p2 = 4 := keq (k := 4) (by have a0 := kne hv20_0 (k := 0) (by decide); have a1 := kne hv20_1 (k := 1) (by decide); have a2 := kne hv20_2 (k := 2) (by decide); have a3 := kne hv20_3 (k := 3) (by decide); omega) (by decide)
              refine ksw (n := 4) (off := (73)) (tgt := 93) hx hb (kd tdlX8_backupOf_0 10 rfl) hv20_4 (by decide) (by decide) (by decide) (by decide) ?_
              refine lv_aload_n hx hb (kd tdlX8_backupOf_0 32 rfl) rfl (lv_at hl 0 rfl) ?_
              refine lv_aload_n hx hb (kd tdlX8_backupOf_0 33 rfl) rfl (lv_at hl 0 rfl) ?_
              refine va_get (D := D) (ci := 7) (v := .ref (g0 1)) (C := RX8) (T := TX8) (N := 9) hx hb hts inX8_ hown hK hP 0 rfl rfl 1 (by decide) L19 (fun _ h9 => h9) rfl (kd tdlX8_backupOf_0 34 rfl) ?_
              refine lv_iload_n hx hb (kd tdlX8_backupOf_0 35 rfl) rfl (lv_at hl 1 rfl) ?_
              obtain ⟨v99, e99, hF⟩ := kc hF
              refine kcL_i (S := Unit) (wf := (fun (_ : Unit) => [(wx8 h0 g0), (wso t (g0 7) a_store v99.2), (wdk t (g0 1) a_desk d_desk)])) hP hD hS hA nd_0_2_1 rfl (fun _ => rfl) (kL_VX (Qx := (fun A => kQiS D (TY t) (fun (u99 : Unit) => kflat [(wx8 h0 g0), (wso t (g0 7) a_store v99.2), (wdk t (g0 1) a_desk d_desk)]) v99.1 A)) (cs := [(wx8 h0 g0), (wso t (g0 7) a_store d_store), (wdk t (g0 1) a_desk d_desk)]) (is := [0, 2, 1]) (As := [.ref (g0 1), .int p1]) (rest := []) ⟨hx, hb, hml, hown, hts⟩ hX hS hA hK hP hD nd_0_2_1 rfl (c_X8_jumps l D t h0 g0 a_store d_store (g0 1) a_desk d_desk _ p1 v99 e99) (cwV 2 hts (gcX8_jumps w_321) rfl rfl rfl hdX8_jumpsV ⟨Nat.le_of_ble_eq_true rfl, Nat.le_of_ble_eq_true rfl⟩) (ci := 7) (q0 := 0) rfl rfl rfl hl.1 rfl (Nat.le_of_ble_eq_true rfl) (kd tdlX8_backupOf_0 36 rfl) ⟨Nat.le_of_ble_eq_true rfl, Nat.le_of_ble_eq_true rfl⟩) (fun _ H locs hP hD hS => ?_)
              have hP : va_P D vwCl (kflat [(wx8 h0 g0), (wdk t (g0 1) a_desk d_desk), (wso t (g0 7) a_store v99.2)]) H := hP
              have hD : va_D A (kflat [(wx8 h0 g0), (wdk t (g0 1) a_desk d_desk), (wso t (g0 7) a_store v99.2)]) := hD
              cases ko hF
              exact kes_i () hx hb hr hlocks hK hP hD hS rfl (Nat.le_of_ble_eq_true rfl) (Nat.le_of_ble_eq_true rfl) (kd tdlX8_backupOf_0 37 rfl)
  · have hF := kt hc8 hF
    cases ko hF
    exact absurd (show (1 : Nat) = 0 from hcd0) (by decide)
set_option maxHeartbeats 4000000 in
set_option maxRecDepth 100000 in
theorem c_X8_reference (l : Launch) (D : va_G) (t : Nat → ClassId) (h0 : Nat) (g0 : Nat → Nat) (a_desk : Nat → Nat) (d_desk : DKT) (sz : Nat) (p1 : Int32) (p2 : Int32) (p3 : Int32) (r : Nat × Int32) (hF : F_X8_reference d_desk p1 p2 p3 = some r) (hcd0 : r.1 = 0) : Met l yX8_reference wX8_reference ({ frames := 3, cells := 0, slots := 0, locals := 64 } : Room) (kPx D (TY t) (kflat [(wx8 h0 g0), (wdk t (g0 1) a_desk d_desk)]) [.ref h0, .int p1, .int p2, .int p3] sz) (kQiS D (TY t) (fun (u : Unit) => (kflat [(wx8 h0 g0), (wdk t (g0 1) a_desk d_desk)])) r.2 (va_A (kflat [(wx8 h0 g0), (wdk t (g0 1) a_desk d_desk)]) sz)) 0 0 (va_A (kflat [(wx8 h0 g0), (wdk t (g0 1) a_desk d_desk)]) sz) := by
  refine kEx (cc := cX8_reference) (maxL := 6) (ret := (some .int)) (Qx := fun A => kQiS D (TY t) (fun (u : Unit) => (kflat [(wx8 h0 g0), (wdk t (g0 1) a_desk d_desk)])) r.2 A) (lv0 := [(0, .ref h0), (1, .int p1), (2, .int p2), (3, .int p3)]) RX8 rfl (by decide) rfl (Nat.le_of_ble_eq_true rfl) rfl ?_
  intro p e s m args below meth c A ls hx hb hml hr hlocks hown hts hA hX hK hP hD hS hl
  have L19 := hts (.fieldLink RX8 19 "ChunkCarriers" "desk" "LChunkCarriers$Desk;") (List.mem_cons_of_mem _ w_18)
  have inX8_ : ∀ w ∈ wsX80, w ∈ wX8_reference := fun w h => List.mem_cons_of_mem _ (inlX8 w h)
  refine lv_aload_n hx hb (kd tdlX8_reference_0 0 rfl) rfl (lv_at hl 0 rfl) ?_
  refine va_get (D := D) (ci := 7) (v := .ref (g0 1)) (C := RX8) (T := TX8) (N := 9) hx hb hts inX8_ hown hK hP 0 rfl rfl 1 (by decide) L19 (fun _ h9 => h9) rfl (kd tdlX8_reference_0 1 rfl) ?_
  refine lv_iload_n hx hb (kd tdlX8_reference_0 2 rfl) rfl (lv_at hl 1 rfl) ?_
  obtain ⟨v5, e5, hF⟩ := kc hF
  refine kcL_i (S := Unit) (wf := (fun (_ : Unit) => [(wdk t (g0 1) a_desk d_desk)])) hP hD hS hA nd_1 rfl (fun _ => rfl) (kL_V (Qx := (fun A => kQi D (TY t) (kflat [(wdk t (g0 1) a_desk d_desk)]) v5 A)) (cs := [(wdk t (g0 1) a_desk d_desk)]) (is := [1]) (As := [.int p1]) (rest := []) ⟨hx, hb, hml, hown, hts⟩ hK hP hD nd_1 rfl (c_X1_hasBackup l D t (g0 1) a_desk d_desk _ p1 v5 e5) (cwV 1 hts (gcX1_hasBackup w_280) rfl rfl rfl hdX1_hasBackupV ⟨Nat.le_of_ble_eq_true rfl, Nat.le_of_ble_eq_true rfl⟩) (ci := 1) (q0 := 1) rfl rfl rfl hl.1 rfl (Nat.le_of_ble_eq_true rfl) (kd tdlX8_reference_0 3 rfl) ⟨Nat.le_of_ble_eq_true rfl, Nat.le_of_ble_eq_true rfl⟩) (fun _ H locs hP hD hS => ?_)
  have hP : va_P D vwCl (kflat [(wx8 h0 g0), (wdk t (g0 1) a_desk d_desk)]) H := hP
  have hD : va_D A (kflat [(wx8 h0 g0), (wdk t (g0 1) a_desk d_desk)]) := hD
  refine lv_if_ne (tgt := 19) hx hb (kd tdlX8_reference_0 4 rfl) (by decide) (fun hc8 => ?_) (fun hc8 => ?_)
  · have hF := kf hc8 hF
    refine lv_iload_n hx hb (kd tdlX8_reference_0 9 rfl) rfl (lv_at hl 2 rfl) ?_
    refine lv_if_lt (tgt := 32) hx hb (kd tdlX8_reference_0 10 rfl) (by decide) (fun hc20 => ?_) (fun hc20 => ?_)
    · have hF := kt hc20 hF
      cases ko hF
      exact absurd (show (2 : Nat) = 0 from hcd0) (by decide)
    · have hF := kf hc20 hF
      refine lv_iload_n hx hb (kd tdlX8_reference_0 11 rfl) rfl (lv_at hl 3 rfl) ?_
      refine lv_if_lt (tgt := 32) hx hb (kd tdlX8_reference_0 12 rfl) (by decide) (fun hc24 => ?_) (fun hc24 => ?_)
      · have hF := kt hc24 hF
        cases ko hF
        exact absurd (show (2 : Nat) = 0 from hcd0) (by decide)
      · have hF := kf hc24 hF
        refine lv_iload_n hx hb (kd tdlX8_reference_0 13 rfl) rfl (lv_at hl 3 rfl) ?_
        refine lv_iconst (v := 1) hx hb (kd tdlX8_reference_0 14 rfl) (by decide) ?_
        refine lv_icmp_le (tgt := 40) hx hb (kd tdlX8_reference_0 15 rfl) (by decide) (fun hc29 => ?_) (fun hc29 => ?_)
        · have hF := kt hc29 hF
          refine lv_aload_n hx hb (kd tdlX8_reference_0 20 rfl) rfl (lv_at hl 0 rfl) ?_
          refine va_get (D := D) (ci := 7) (v := .ref (g0 1)) (C := RX8) (T := TX8) (N := 9) hx hb hts inX8_ hown hK hP 0 rfl rfl 1 (by decide) L19 (fun _ h9 => h9) rfl (kd tdlX8_reference_0 21 rfl) ?_
          refine lv_iload_n hx hb (kd tdlX8_reference_0 22 rfl) rfl (lv_at hl 1 rfl) ?_
          refine lv_iload_n hx hb (kd tdlX8_reference_0 23 rfl) rfl (lv_at hl 2 rfl) ?_
          obtain ⟨v46, e46, hF⟩ := kc hF
          refine kcL_i (S := Unit) (wf := (fun (_ : Unit) => [(wdk t (g0 1) a_desk d_desk)])) hP hD hS hA nd_1 rfl (fun _ => rfl) (kL_V (Qx := (fun A => kQi D (TY t) (kflat [(wdk t (g0 1) a_desk d_desk)]) v46 A)) (cs := [(wdk t (g0 1) a_desk d_desk)]) (is := [1]) (As := [.int p1, .int p2]) (rest := []) ⟨hx, hb, hml, hown, hts⟩ hK hP hD nd_1 rfl (c_X1_entryReferred l D t (g0 1) a_desk d_desk _ p1 p2 v46 e46) (cwV 2 hts (gcX1_entryReferred w_330) rfl rfl rfl hdX1_entryReferredV ⟨Nat.le_of_ble_eq_true rfl, Nat.le_of_ble_eq_true rfl⟩) (ci := 1) (q0 := 1) rfl rfl rfl hl.1 rfl (Nat.le_of_ble_eq_true rfl) (kd tdlX8_reference_0 24 rfl) ⟨Nat.le_of_ble_eq_true rfl, Nat.le_of_ble_eq_true rfl⟩) (fun _ H locs hP hD hS => ?_)
          have hP : va_P D vwCl (kflat [(wx8 h0 g0), (wdk t (g0 1) a_desk d_desk)]) H := hP
          have hD : va_D A (kflat [(wx8 h0 g0), (wdk t (g0 1) a_desk d_desk)]) := hD
          refine lv_istore (lv' := [(4, .int v46), (0, .ref h0), (1, .int p1), (2, .int p2), (3, .int p3)]) hx hb (kd tdlX8_reference_0 25 rfl) hl (by decide) rfl (fun ls hl => ?_)
          refine lv_iload hx hb (kd tdlX8_reference_0 26 rfl) (lv_at hl 0 rfl) ?_
          refine lv_iconst (v := (-1)) hx hb (kd tdlX8_reference_0 27 rfl) (by decide) ?_
          refine lv_icmp_ne (tgt := 59) hx hb (kd tdlX8_reference_0 28 rfl) (by decide) (fun hc54 => ?_) (fun hc54 => ?_)
          · have hF := kf hc54 hF
            refine lv_aload_n hx hb (kd tdlX8_reference_0 31 rfl) rfl (lv_at hl 1 rfl) ?_
            refine va_get (D := D) (ci := 7) (v := .ref (g0 1)) (C := RX8) (T := TX8) (N := 9) hx hb hts inX8_ hown hK hP 0 rfl rfl 1 (by decide) L19 (fun _ h9 => h9) rfl (kd tdlX8_reference_0 32 rfl) ?_
            refine lv_iload hx hb (kd tdlX8_reference_0 33 rfl) (lv_at hl 0 rfl) ?_
            obtain ⟨v65, e65, hF⟩ := kc hF
            refine kcL_i (S := Unit) (wf := (fun (_ : Unit) => [(wdk t (g0 1) a_desk d_desk)])) hP hD hS hA nd_1 rfl (fun _ => rfl) (kL_V (Qx := (fun A => kQi D (TY t) (kflat [(wdk t (g0 1) a_desk d_desk)]) v65 A)) (cs := [(wdk t (g0 1) a_desk d_desk)]) (is := [1]) (As := [.int v46]) (rest := []) ⟨hx, hb, hml, hown, hts⟩ hK hP hD nd_1 rfl (c_X1_placeOfEntry l D t (g0 1) a_desk d_desk _ v46 v65 e65) (cwV 1 hts (gcX1_placeOfEntry w_331) rfl rfl rfl hdX1_placeOfEntryV ⟨Nat.le_of_ble_eq_true rfl, Nat.le_of_ble_eq_true rfl⟩) (ci := 1) (q0 := 1) rfl rfl rfl hl.1 rfl (Nat.le_of_ble_eq_true rfl) (kd tdlX8_reference_0 34 rfl) ⟨Nat.le_of_ble_eq_true rfl, Nat.le_of_ble_eq_true rfl⟩) (fun _ H locs hP hD hS => ?_)
            have hP : va_P D vwCl (kflat [(wx8 h0 g0), (wdk t (g0 1) a_desk d_desk)]) H := hP
            have hD : va_D A (kflat [(wx8 h0 g0), (wdk t (g0 1) a_desk d_desk)]) := hD
            refine lv_istore (lv' := [(5, .int v65), (4, .int v46), (0, .ref h0), (1, .int p1), (2, .int p2), (3, .int p3)]) hx hb (kd tdlX8_reference_0 35 rfl) hl (by decide) rfl (fun ls hl => ?_)
            refine lv_iload_n hx hb (kd tdlX8_reference_0 36 rfl) rfl (lv_at hl 5 rfl) ?_
            refine lv_if_ne (tgt := 86) hx hb (kd tdlX8_reference_0 37 rfl) (by decide) (fun hc71 => ?_) (fun hc71 => ?_)
            · have hF := kf hc71 hF
              refine lv_iload hx hb (kd tdlX8_reference_0 43 rfl) (lv_at hl 1 rfl) ?_
              refine lv_aload_n hx hb (kd tdlX8_reference_0 44 rfl) rfl (lv_at hl 2 rfl) ?_
              refine va_get (D := D) (ci := 7) (v := .ref (g0 1)) (C := RX8) (T := TX8) (N := 9) hx hb hts inX8_ hown hK hP 0 rfl rfl 1 (by decide) L19 (fun _ h9 => h9) rfl (kd tdlX8_reference_1 0 rfl) ?_
              refine lv_iload hx hb (kd tdlX8_reference_1 1 rfl) (lv_at hl 0 rfl) ?_
              obtain ⟨v94, e94, hF⟩ := kc hF
              refine kcL_i (S := Unit) (wf := (fun (_ : Unit) => [(wdk t (g0 1) a_desk d_desk)])) hP hD hS hA nd_1 rfl (fun _ => rfl) (kL_V (Qx := (fun A => kQi D (TY t) (kflat [(wdk t (g0 1) a_desk d_desk)]) v94 A)) (cs := [(wdk t (g0 1) a_desk d_desk)]) (is := [1]) (As := [.int v65]) (rest := [.int v46]) ⟨hx, hb, hml, hown, hts⟩ hK hP hD nd_1 rfl (c_X1_firstEntryAt l D t (g0 1) a_desk d_desk _ v65 v94 e94) (cwV 1 hts (gcX1_firstEntryAt w_252) rfl rfl rfl hdX1_firstEntryAtV ⟨Nat.le_of_ble_eq_true rfl, Nat.le_of_ble_eq_true rfl⟩) (ci := 1) (q0 := 1) rfl rfl rfl hl.1 rfl (Nat.le_of_ble_eq_true rfl) (kd tdlX8_reference_1 2 rfl) ⟨Nat.le_of_ble_eq_true rfl, Nat.le_of_ble_eq_true rfl⟩) (fun _ H locs hP hD hS => ?_)
              have hP : va_P D vwCl (kflat [(wx8 h0 g0), (wdk t (g0 1) a_desk d_desk)]) H := hP
              have hD : va_D A (kflat [(wx8 h0 g0), (wdk t (g0 1) a_desk d_desk)]) := hD
              refine lv_isub hx hb (kd tdlX8_reference_1 3 rfl) ?_
              cases ko hF
              exact kes_i () hx hb hr hlocks hK hP hD hS rfl (Nat.le_of_ble_eq_true rfl) (Nat.le_of_ble_eq_true rfl) (kd tdlX8_reference_1 4 rfl)
            · have hF := kt hc71 hF
              refine lv_aload_n hx hb (kd tdlX8_reference_0 38 rfl) rfl (lv_at hl 2 rfl) ?_
              refine va_get (D := D) (ci := 7) (v := .ref (g0 1)) (C := RX8) (T := TX8) (N := 9) hx hb hts inX8_ hown hK hP 0 rfl rfl 1 (by decide) L19 (fun _ h9 => h9) rfl (kd tdlX8_reference_0 39 rfl) ?_
              refine lv_iload hx hb (kd tdlX8_reference_0 40 rfl) (lv_at hl 0 rfl) ?_
              obtain ⟨v80, e80, hF⟩ := kc hF
              refine kcL_i (S := Unit) (wf := (fun (_ : Unit) => [(wdk t (g0 1) a_desk d_desk)])) hP hD hS hA nd_1 rfl (fun _ => rfl) (kL_V (Qx := (fun A => kQi D (TY t) (kflat [(wdk t (g0 1) a_desk d_desk)]) v80 A)) (cs := [(wdk t (g0 1) a_desk d_desk)]) (is := [1]) (As := [.int v65]) (rest := []) ⟨hx, hb, hml, hown, hts⟩ hK hP hD nd_1 rfl (c_X1_numberAt l D t (g0 1) a_desk d_desk _ v65 v80 e80) (cwV 1 hts (gcX1_numberAt w_201) rfl rfl rfl hdX1_numberAtV ⟨Nat.le_of_ble_eq_true rfl, Nat.le_of_ble_eq_true rfl⟩) (ci := 1) (q0 := 1) rfl rfl rfl hl.1 rfl (Nat.le_of_ble_eq_true rfl) (kd tdlX8_reference_0 41 rfl) ⟨Nat.le_of_ble_eq_true rfl, Nat.le_of_ble_eq_true rfl⟩) (fun _ H locs hP hD hS => ?_)
              have hP : va_P D vwCl (kflat [(wx8 h0 g0), (wdk t (g0 1) a_desk d_desk)]) H := hP
              have hD : va_D A (kflat [(wx8 h0 g0), (wdk t (g0 1) a_desk d_desk)]) := hD
              refine lv_goto (tgt := 98) hx hb (kd tdlX8_reference_0 42 rfl) (by decide) ?_
              cases ko hF
              exact kes_i () hx hb hr hlocks hK hP hD hS rfl (Nat.le_of_ble_eq_true rfl) (Nat.le_of_ble_eq_true rfl) (kd tdlX8_reference_1 4 rfl)
          · have hF := kt hc54 hF
            refine lv_iconst (v := (-1)) hx hb (kd tdlX8_reference_0 29 rfl) (by decide) ?_
            cases ko hF
            exact kes_i () hx hb hr hlocks hK hP hD hS rfl (Nat.le_of_ble_eq_true rfl) (Nat.le_of_ble_eq_true rfl) (kd tdlX8_reference_0 30 rfl)
        · have hF := kf hc29 hF
          cases ko hF
          exact absurd (show (2 : Nat) = 0 from hcd0) (by decide)
  · have hF := kt hc8 hF
    cases ko hF
    exact absurd (show (1 : Nat) = 0 from hcd0) (by decide)
set_option maxHeartbeats 4000000 in
set_option maxRecDepth 100000 in
theorem c_X8_setting (l : Launch) (D : va_G) (t : Nat → ClassId) (h0 : Nat) (g0 : Nat → Nat) (a_desk : Nat → Nat) (d_desk : DKT) (sz : Nat) (p1 : Int32) (r : Nat × Int32) (hF : F_X8_setting d_desk p1 = some r) (hcd0 : r.1 = 0) : Met l yX8_setting wX8_setting ({ frames := 1, cells := 0, slots := 0, locals := 21 } : Room) (kPx D (TY t) (kflat [(wx8 h0 g0), (wdk t (g0 1) a_desk d_desk)]) [.ref h0, .int p1] sz) (kQiS D (TY t) (fun (u : Unit) => (kflat [(wx8 h0 g0), (wdk t (g0 1) a_desk d_desk)])) r.2 (va_A (kflat [(wx8 h0 g0), (wdk t (g0 1) a_desk d_desk)]) sz)) 0 0 (va_A (kflat [(wx8 h0 g0), (wdk t (g0 1) a_desk d_desk)]) sz) := by
  refine kEx (cc := cX8_setting) (maxL := 2) (ret := (some .int)) (Qx := fun A => kQiS D (TY t) (fun (u : Unit) => (kflat [(wx8 h0 g0), (wdk t (g0 1) a_desk d_desk)])) r.2 A) (lv0 := [(0, .ref h0), (1, .int p1)]) RX8 rfl (by decide) rfl (Nat.le_of_ble_eq_true rfl) rfl ?_
  intro p e s m args below meth c A ls hx hb hml hr hlocks hown hts hA hX hK hP hD hS hl
  have L19 := hts (.fieldLink RX8 19 "ChunkCarriers" "desk" "LChunkCarriers$Desk;") (List.mem_cons_of_mem _ w_18)
  have inX8_ : ∀ w ∈ wsX80, w ∈ wX8_setting := fun w h => List.mem_cons_of_mem _ (inlX8 w h)
  refine lv_iload_n hx hb (kd tdlX8_setting_0 0 rfl) rfl (lv_at hl 1 rfl) ?_
  refine lv_if_lt (tgt := 9) hx hb (kd tdlX8_setting_0 1 rfl) (by decide) (fun hc1 => ?_) (fun hc1 => ?_)
  · have hF := kt hc1 hF
    cases ko hF
    exact absurd (show (2 : Nat) = 0 from hcd0) (by decide)
  · have hF := kf hc1 hF
    refine lv_iload_n hx hb (kd tdlX8_setting_0 2 rfl) rfl (lv_at hl 1 rfl) ?_
    refine lv_iconst (v := 5) hx hb (kd tdlX8_setting_0 3 rfl) (by decide) ?_
    refine lv_icmp_lt (tgt := 17) hx hb (kd tdlX8_setting_0 4 rfl) (by decide) (fun hc6 => ?_) (fun hc6 => ?_)
    · have hF := kt hc6 hF
      refine lv_aload_n hx hb (kd tdlX8_setting_0 9 rfl) rfl (lv_at hl 0 rfl) ?_
      refine va_get (D := D) (ci := 7) (v := .ref (g0 1)) (C := RX8) (T := TX8) (N := 9) hx hb hts inX8_ hown hK hP 0 rfl rfl 1 (by decide) L19 (fun _ h9 => h9) rfl (kd tdlX8_setting_0 10 rfl) ?_
      refine lv_iload_n hx hb (kd tdlX8_setting_0 11 rfl) rfl (lv_at hl 1 rfl) ?_
      obtain ⟨v22, e22, hF⟩ := kc hF
      refine kcL_i (S := Unit) (wf := (fun (_ : Unit) => [(wdk t (g0 1) a_desk d_desk)])) hP hD hS hA nd_1 rfl (fun _ => rfl) (kL_V (Qx := (fun A => kQi D (TY t) (kflat [(wdk t (g0 1) a_desk d_desk)]) v22 A)) (cs := [(wdk t (g0 1) a_desk d_desk)]) (is := [1]) (As := [.int p1]) (rest := []) ⟨hx, hb, hml, hown, hts⟩ hK hP hD nd_1 rfl (c_X1_settingAt l D t (g0 1) a_desk d_desk _ p1 v22 e22) (cwV 1 hts (gcX1_settingAt w_193) rfl rfl rfl hdX1_settingAtV ⟨Nat.le_of_ble_eq_true rfl, Nat.le_of_ble_eq_true rfl⟩) (ci := 1) (q0 := 1) rfl rfl rfl hl.1 rfl (Nat.le_of_ble_eq_true rfl) (kd tdlX8_setting_0 12 rfl) ⟨Nat.le_of_ble_eq_true rfl, Nat.le_of_ble_eq_true rfl⟩) (fun _ H locs hP hD hS => ?_)
      have hP : va_P D vwCl (kflat [(wx8 h0 g0), (wdk t (g0 1) a_desk d_desk)]) H := hP
      have hD : va_D A (kflat [(wx8 h0 g0), (wdk t (g0 1) a_desk d_desk)]) := hD
      cases ko hF
      exact kes_i () hx hb hr hlocks hK hP hD hS rfl (Nat.le_of_ble_eq_true rfl) (Nat.le_of_ble_eq_true rfl) (kd tdlX8_setting_0 13 rfl)
    · have hF := kf hc6 hF
      cases ko hF
      exact absurd (show (2 : Nat) = 0 from hcd0) (by decide)
