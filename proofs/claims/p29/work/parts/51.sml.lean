set_option maxHeartbeats 4000000 in
set_option maxRecDepth 100000 in
theorem c_X5_open (l : Launch) (D : va_G) (t : Nat → ClassId) (h0 : Nat) (a0 : Nat → Nat) (d0 : SOT) (sz : Nat) (p1 : Int32) (r : SOT) (hF : F_X5_open d0 p1 = some r) : Met l yX5_open wX5_open ({ frames := 1, cells := 0, slots := 0, locals := 21 } : Room) (kPc D (TY t) ((wso t h0 a0 d0)) [.ref h0, .int p1] sz) (kQv D (TY t) ((wso t h0 a0 r)) (va_A ((wso t h0 a0 d0)) sz)) 0 0 (va_A ((wso t h0 a0 d0)) sz) := by
  refine kE (cc := cX5_open) (maxL := 2) (ret := none) (Qx := fun A => kQv D (TY t) ((wso t h0 a0 r)) A) (lv0 := [(0, .ref h0), (1, .int p1)]) RX5 rfl (by decide) rfl (Nat.le_of_ble_eq_true rfl) rfl ?_
  intro p e s m args below meth c A ls hx hb hml hr hlocks hown hts hA hK hP hD hS hl
  have L24 := hts (.fieldLink RX5 24 "ChunkCarriers$Store" "room" "I") (List.mem_cons_of_mem _ w_304)
  have L28 := hts (.fieldLink RX5 28 "ChunkCarriers$Store" "held" "I") (List.mem_cons_of_mem _ w_305)
  have L31 := hts (.fieldLink RX5 31 "ChunkCarriers$Store" "before" "I") (List.mem_cons_of_mem _ w_306)
  have L34 := hts (.fieldLink RX5 34 "ChunkCarriers$Store" "loads" "I") (List.mem_cons_of_mem _ w_307)
  have L37 := hts (.fieldLink RX5 37 "ChunkCarriers$Store" "jumps" "I") (List.mem_cons_of_mem _ w_308)
  have L9 := hts (.fieldLink RX5 9 "ChunkCarriers$Store" "loaded" "[I") (List.mem_cons_of_mem _ w_85)
  have inX5_ : ∀ w ∈ wsX50, w ∈ wX5_open := fun w h => List.mem_cons_of_mem _ (inlX5 w h)
  have hP : va_P D vwCl ((wsoF t h0 a0 (so_loaded d0) (so_room d0) (so_held d0) (so_before d0) (so_loads d0) (so_jumps d0))) s.heap := hP
  have hD : va_D A ((wsoF t h0 a0 (so_loaded d0) (so_room d0) (so_held d0) (so_before d0) (so_loads d0) (so_jumps d0))) := hD
  refine lv_aload_n hx hb (kd tdlX5_open_0 0 rfl) rfl (lv_at hl 0 rfl) ?_
  refine lv_iconst (v := 1) hx hb (kd tdlX5_open_0 1 rfl) (by decide) ?_
  refine lv_iload_n hx hb (kd tdlX5_open_0 2 rfl) rfl (lv_at hl 1 rfl) ?_
  refine lv_aload_n hx hb (kd tdlX5_open_0 3 rfl) rfl (lv_at hl 0 rfl) ?_
  refine so_g_loaded hx hb hts inX5_ hown hK hP L9 (kd tdlX5_open_0 4 rfl) ?_
  refine va_alen (v := 4) (D := D) (tys := TY t) hx hb hK hP 1 0 rfl rfl rfl (kd tdlX5_open_0 5 rfl) ?_
  refine kmmmin hx hb (hml.trans hl.1.symm) hown hts (index := 15) w_300 (Nat.zero_le _) (Nat.zero_le _) (Nat.le_of_ble_eq_true rfl) (Nat.le_of_ble_eq_true rfl) (kd tdlX5_open_0 6 rfl) ?_
  refine kmmmax hx hb (hml.trans hl.1.symm) hown hts (index := 21) w_303 (Nat.zero_le _) (Nat.zero_le _) (Nat.le_of_ble_eq_true rfl) (Nat.le_of_ble_eq_true rfl) (kd tdlX5_open_0 7 rfl) ?_
  refine so_p_room hx hb hts inX5_ hown hK hP hD hS L24 (kd tdlX5_open_0 8 rfl) (fun H locs hP hD hS => ?_)
  refine lv_aload_n hx hb (kd tdlX5_open_0 9 rfl) rfl (lv_at hl 0 rfl) ?_
  refine lv_iconst (v := 0) hx hb (kd tdlX5_open_0 10 rfl) (by decide) ?_
  refine so_p_held hx hb hts inX5_ hown hK hP hD hS L28 (kd tdlX5_open_0 11 rfl) (fun H locs hP hD hS => ?_)
  refine lv_aload_n hx hb (kd tdlX5_open_0 12 rfl) rfl (lv_at hl 0 rfl) ?_
  refine lv_iconst (v := (-1)) hx hb (kd tdlX5_open_0 13 rfl) (by decide) ?_
  refine so_p_before hx hb hts inX5_ hown hK hP hD hS L31 (kd tdlX5_open_0 14 rfl) (fun H locs hP hD hS => ?_)
  refine lv_aload_n hx hb (kd tdlX5_open_0 15 rfl) rfl (lv_at hl 0 rfl) ?_
  refine lv_iconst (v := 0) hx hb (kd tdlX5_open_0 16 rfl) (by decide) ?_
  refine so_p_loads hx hb hts inX5_ hown hK hP hD hS L34 (kd tdlX5_open_0 17 rfl) (fun H locs hP hD hS => ?_)
  refine lv_aload_n hx hb (kd tdlX5_open_0 18 rfl) rfl (lv_at hl 0 rfl) ?_
  refine lv_iconst (v := 0) hx hb (kd tdlX5_open_0 19 rfl) (by decide) ?_
  refine so_p_jumps hx hb hts inX5_ hown hK hP hD hS L37 (kd tdlX5_open_0 20 rfl) (fun H locs hP hD hS => ?_)
  cases ko hF
  exact ke_v hx hb hr hlocks hK hP hD hS (kd tdlX5_open_0 21 rfl)
set_option maxHeartbeats 4000000 in
set_option maxRecDepth 100000 in
theorem c_X5_find (l : Launch) (D : va_G) (t : Nat → ClassId) (h0 : Nat) (a0 : Nat → Nat) (d0 : SOT) (sz : Nat) (p1 : Int32) (r : Int32) (hF : F_X5_find d0 p1 = some r) : Met l yX5_find wX5_find ({ frames := 0, cells := 0, slots := 0, locals := 0 } : Room) (kPc D (TY t) ((wso t h0 a0 d0)) [.ref h0, .int p1] sz) (kQi D (TY t) ((wso t h0 a0 d0)) r (va_A ((wso t h0 a0 d0)) sz)) 0 0 (va_A ((wso t h0 a0 d0)) sz) := by
  refine kE (cc := cX5_find) (maxL := 3) (ret := (some .int)) (Qx := fun A => kQi D (TY t) ((wso t h0 a0 d0)) r A) (lv0 := [(0, .ref h0), (1, .int p1)]) RX5 rfl (by decide) rfl (Nat.le_of_ble_eq_true rfl) rfl ?_
  intro p e s m args below meth c A ls hx hb hml hr hlocks hown hts hA hK hP hD hS hl
  have L28 := hts (.fieldLink RX5 28 "ChunkCarriers$Store" "held" "I") (List.mem_cons_of_mem _ w_305)
  have L9 := hts (.fieldLink RX5 9 "ChunkCarriers$Store" "loaded" "[I") (List.mem_cons_of_mem _ w_85)
  have inX5_ : ∀ w ∈ wsX50, w ∈ wX5_find := fun w h => List.mem_cons_of_mem _ (inlX5 w h)
  have hP : va_P D vwCl ((wsoF t h0 a0 (so_loaded d0) (so_room d0) (so_held d0) (so_before d0) (so_loads d0) (so_jumps d0))) s.heap := hP
  have hD : va_D A ((wsoF t h0 a0 (so_loaded d0) (so_room d0) (so_held d0) (so_before d0) (so_loads d0) (so_jumps d0))) := hD
  refine lv_iconst (v := 0) hx hb (kd tdlX5_find_0 0 rfl) (by decide) ?_
  refine lv_istore_n (lv' := [(2, .int 0), (0, .ref h0), (1, .int p1)]) hx hb (kd tdlX5_find_0 1 rfl) rfl hl (by decide) rfl (fun ls hl => ?_)
  refine lp_ind (f := B_X5_find_2 d0 p1) (r := r) (P := fun s2_ => ∀ (H : Heap) (locs : List Loc) (ls : Array Slot), va_P D vwCl ((wsoF t h0 a0 (so_loaded d0) (so_room d0) (so_held d0) (so_before d0) (so_loads d0) (so_jumps d0))) H → va_D A ((wsoF t h0 a0 (so_loaded d0) (so_room d0) (so_held d0) (so_before d0) (so_loads d0) (so_jumps d0))) → va_S A s.heap H locs → lv_has ls 3 [(0, .ref h0), (1, .int p1), (2, .int s2_)] → W p l e ({ frames := 0, cells := 0, slots := 0, locals := 0 } : Room) s m args below meth c H locs 0 0 (MQ below (kQi D (TY t) ((wso t h0 a0 d0)) r A) args s 0 0 A) (F0 m 2 ls [])) ?_ FU (0) hF _ _ _ hP hD hS (lv_sub hl [1, 2, 0] rfl)
  intro self2 ih2 s2_ hF H locs ls hP hD hS hl
  refine lv_iload_n hx hb (kd tdlX5_find_0 2 rfl) rfl (lv_at hl 2 rfl) ?_
  refine lv_aload_n hx hb (kd tdlX5_find_0 3 rfl) rfl (lv_at hl 0 rfl) ?_
  refine so_g_held hx hb hts inX5_ hown hK hP L28 (kd tdlX5_find_0 4 rfl) ?_
  refine lv_icmp_ge (tgt := 28) hx hb (kd tdlX5_find_0 5 rfl) (by decide) (fun hc7 => ?_) (fun hc7 => ?_)
  · have hF := kt hc7 hF
    refine lv_aload_n hx hb (kd tdlX5_find_0 16 rfl) rfl (lv_at hl 0 rfl) ?_
    refine so_g_held hx hb hts inX5_ hown hK hP L28 (kd tdlX5_find_0 17 rfl) ?_
    cases ko hF
    exact ke_i hx hb hr hlocks hK hP hD hS rfl (kd tdlX5_find_0 18 rfl)
  · have hF := kf hc7 hF
    refine lv_aload_n hx hb (kd tdlX5_find_0 6 rfl) rfl (lv_at hl 0 rfl) ?_
    refine so_g_loaded hx hb hts inX5_ hown hK hP L9 (kd tdlX5_find_0 7 rfl) ?_
    refine lv_iload_n hx hb (kd tdlX5_find_0 8 rfl) rfl (lv_at hl 2 rfl) ?_
    obtain ⟨hi15, hF⟩ := kg hF
    refine so_l_loaded hx hb hK hP hi15 (kd tdlX5_find_0 9 rfl) ?_
    refine lv_iload_n hx hb (kd tdlX5_find_0 10 rfl) rfl (lv_at hl 1 rfl) ?_
    refine lv_icmp_ne (tgt := 22) hx hb (kd tdlX5_find_0 11 rfl) (by decide) (fun hc17 => ?_) (fun hc17 => ?_)
    · have hF := kf hc17 hF
      refine lv_iinc (v := (s2_ + 1)) (lv' := [(2, .int (s2_ + 1)), (0, .ref h0), (1, .int p1)]) hx hb (kd tdlX5_find_0 14 rfl) hl (k := 2) rfl rfl (by decide) rfl (fun ls hl => ?_)
      refine lv_goto (tgt := 2) hx hb (kd tdlX5_find_0 15 rfl) (by decide) ?_
      exact ih2 ((s2_ + 1)) hF _ _ _ hP hD hS (lv_sub hl [1, 2, 0] rfl)
    · have hF := kt hc17 hF
      refine lv_iload_n hx hb (kd tdlX5_find_0 12 rfl) rfl (lv_at hl 2 rfl) ?_
      cases ko hF
      exact ke_i hx hb hr hlocks hK hP hD hS rfl (kd tdlX5_find_0 13 rfl)
set_option maxHeartbeats 4000000 in
set_option maxRecDepth 100000 in
theorem c_X5_use (l : Launch) (D : va_G) (t : Nat → ClassId) (h0 : Nat) (a0 : Nat → Nat) (d0 : SOT) (sz : Nat) (p1 : Int32) (r : SOT) (hF : F_X5_use d0 p1 = some r) : Met l yX5_use wX5_use ({ frames := 1, cells := 0, slots := 0, locals := 22 } : Room) (kPc D (TY t) ((wso t h0 a0 d0)) [.ref h0, .int p1] sz) (kQv D (TY t) ((wso t h0 a0 r)) (va_A ((wso t h0 a0 d0)) sz)) 0 0 (va_A ((wso t h0 a0 d0)) sz) := by
  refine kE (cc := cX5_use) (maxL := 4) (ret := none) (Qx := fun A => kQv D (TY t) ((wso t h0 a0 r)) A) (lv0 := [(0, .ref h0), (1, .int p1)]) RX5 rfl (by decide) rfl (Nat.le_of_ble_eq_true rfl) rfl ?_
  intro p e s m args below meth c A ls hx hb hml hr hlocks hown hts hA hK hP hD hS hl
  have L24 := hts (.fieldLink RX5 24 "ChunkCarriers$Store" "room" "I") (List.mem_cons_of_mem _ w_304)
  have L28 := hts (.fieldLink RX5 28 "ChunkCarriers$Store" "held" "I") (List.mem_cons_of_mem _ w_305)
  have L31 := hts (.fieldLink RX5 31 "ChunkCarriers$Store" "before" "I") (List.mem_cons_of_mem _ w_306)
  have L34 := hts (.fieldLink RX5 34 "ChunkCarriers$Store" "loads" "I") (List.mem_cons_of_mem _ w_307)
  have L37 := hts (.fieldLink RX5 37 "ChunkCarriers$Store" "jumps" "I") (List.mem_cons_of_mem _ w_308)
  have L9 := hts (.fieldLink RX5 9 "ChunkCarriers$Store" "loaded" "[I") (List.mem_cons_of_mem _ w_85)
  have inX5_ : ∀ w ∈ wsX50, w ∈ wX5_use := fun w h => List.mem_cons_of_mem _ (inlX5 w h)
  have hP : va_P D vwCl ((wsoF t h0 a0 (so_loaded d0) (so_room d0) (so_held d0) (so_before d0) (so_loads d0) (so_jumps d0))) s.heap := hP
  have hD : va_D A ((wsoF t h0 a0 (so_loaded d0) (so_room d0) (so_held d0) (so_before d0) (so_loads d0) (so_jumps d0))) := hD
  refine lv_aload_n hx hb (kd tdlX5_use_0 0 rfl) rfl (lv_at hl 0 rfl) ?_
  refine so_g_before hx hb hts inX5_ hown hK hP L31 (kd tdlX5_use_0 1 rfl) ?_
  refine lv_iconst (v := (-1)) hx hb (kd tdlX5_use_0 2 rfl) (by decide) ?_
  have hJ26 : ∀ j26 : Int32, J_X5_use_26 d0 p1 j26 = some r → ∀ (H : Heap) (locs : List Loc) (ls : Array Slot), va_P D vwCl ((wsoF t h0 a0 (so_loaded d0) (so_room d0) (so_held d0) (so_before d0) (so_loads d0) j26)) H → va_D A ((wsoF t h0 a0 (so_loaded d0) (so_room d0) (so_held d0) (so_before d0) (so_loads d0) j26)) → va_S A s.heap H locs → lv_has ls 4 [(0, .ref h0), (1, .int p1)] → W p l e ({ frames := 1, cells := 0, slots := 0, locals := 22 } : Room) s m args below meth c H locs 0 0 (MQ below (kQv D (TY t) ((wso t h0 a0 r)) A) args s 0 0 A) (F0 m 26 ls []) := by
    intro j26 hF H locs ls hP hD hS hl
    refine lv_aload_n hx hb (kd tdlX5_use_0 14 rfl) rfl (lv_at hl 0 rfl) ?_
    refine lv_iload_n hx hb (kd tdlX5_use_0 15 rfl) rfl (lv_at hl 1 rfl) ?_
    refine so_p_before hx hb hts inX5_ hown hK hP hD hS L31 (kd tdlX5_use_0 16 rfl) (fun H locs hP hD hS => ?_)
    refine lv_aload_n hx hb (kd tdlX5_use_0 17 rfl) rfl (lv_at hl 0 rfl) ?_
    refine lv_iload_n hx hb (kd tdlX5_use_0 18 rfl) rfl (lv_at hl 1 rfl) ?_
    obtain ⟨v33, e33, hF⟩ := kc hF
    refine kc_i0 (w1 := ((wsoF t h0 a0 (so_loaded d0) (so_room d0) (so_held d0) p1 (so_loads d0) j26))) hP hD hS hA (kr_V0 (Qx := (fun A => kQi D (TY t) ((wsoF t h0 a0 (so_loaded d0) (so_room d0) (so_held d0) p1 (so_loads d0) j26)) v33 A)) (As := [.int p1]) (rest := []) ⟨hx, hb, hml, hown, hts⟩ hK hP hD (c_X5_find l D t h0 a0 ((so_loaded d0), (so_room d0), (so_held d0), p1, (so_loads d0), j26) _ p1 v33 e33) (cwV 1 hts (gcX5_find w_317) rfl rfl rfl hdX5_findV ⟨Nat.le_of_ble_eq_true rfl, Nat.le_of_ble_eq_true rfl⟩) (ci := 4) (q0 := 0) rfl rfl rfl hl.1 rfl (Nat.le_of_ble_eq_true rfl) (kd tdlX5_use_0 19 rfl) ⟨Nat.zero_le _, Nat.zero_le _⟩) (fun H locs hP hD hS => ?_)
    refine lv_istore_n (lv' := [(2, .int v33), (0, .ref h0), (1, .int p1)]) hx hb (kd tdlX5_use_0 20 rfl) rfl hl (by decide) rfl (fun ls hl => ?_)
    refine lv_iload_n hx hb (kd tdlX5_use_0 21 rfl) rfl (lv_at hl 0 rfl) ?_
    refine lv_aload_n hx hb (kd tdlX5_use_0 22 rfl) rfl (lv_at hl 1 rfl) ?_
    refine so_g_held hx hb hts inX5_ hown hK hP L28 (kd tdlX5_use_0 23 rfl) ?_
    have hJ82 : ∀ j82 : Int32 × Int32 × Int32, J_X5_use_82 p1 d0 j26 j82 = some r → ∀ (H : Heap) (locs : List Loc) (ls : Array Slot), va_P D vwCl ((wsoF t h0 a0 (so_loaded d0) (so_room d0) j82.2.1 p1 j82.2.2 j26)) H → va_D A ((wsoF t h0 a0 (so_loaded d0) (so_room d0) j82.2.1 p1 j82.2.2 j26)) → va_S A s.heap H locs → lv_has ls 4 [(0, .ref h0), (1, .int p1), (2, .int j82.1)] → W p l e ({ frames := 1, cells := 0, slots := 0, locals := 22 } : Room) s m args below meth c H locs 0 0 (MQ below (kQv D (TY t) ((wso t h0 a0 r)) A) args s 0 0 A) (F0 m 82 ls []) := by
      intro j82 hF H locs ls hP hD hS hl
      refine lv_iload_n hx hb (kd tdlX5_use_0 44 rfl) rfl (lv_at hl 2 rfl) ?_
      refine lv_istore_n (lv' := [(3, .int j82.1), (0, .ref h0), (1, .int p1), (2, .int j82.1)]) hx hb (kd tdlX5_use_1 0 rfl) rfl hl (by decide) rfl (fun ls hl => ?_)
      have hK108 : ∀ k108 : (Nat → Int32), K_X5_use_108 p1 d0 j82 j26 k108 = some r → ∀ (H : Heap) (locs : List Loc) (ls : Array Slot), va_P D vwCl ((wsoF t h0 a0 k108 (so_room d0) j82.2.1 p1 j82.2.2 j26)) H → va_D A ((wsoF t h0 a0 k108 (so_room d0) j82.2.1 p1 j82.2.2 j26)) → va_S A s.heap H locs → lv_has ls 4 [(0, .ref h0), (1, .int p1)] → W p l e ({ frames := 1, cells := 0, slots := 0, locals := 22 } : Room) s m args below meth c H locs 0 0 (MQ below (kQv D (TY t) ((wso t h0 a0 r)) A) args s 0 0 A) (F0 m 108 ls []) := by
        intro k108 hF H locs ls hP hD hS hl
        refine lv_aload_n hx hb (kd tdlX5_use_1 15 rfl) rfl (lv_at hl 0 rfl) ?_
        refine so_g_loaded hx hb hts inX5_ hown hK hP L9 (kd tdlX5_use_1 16 rfl) ?_
        refine lv_iconst (v := 0) hx hb (kd tdlX5_use_1 17 rfl) (by decide) ?_
        refine lv_iload_n hx hb (kd tdlX5_use_1 18 rfl) rfl (lv_at hl 1 rfl) ?_
        obtain ⟨hi114, hF⟩ := kg hF
        refine so_s_loaded hx hb hK hP hD hS hi114 (kd tdlX5_use_1 19 rfl) (fun H locs hP hD hS => ?_)
        cases ko hF
        exact ke_v hx hb hr hlocks hK hP hD hS (kd tdlX5_use_1 20 rfl)
      refine lp_ind (f := B_X5_use_84 (K_X5_use_108 p1 d0 j82 j26)) (r := r) (P := fun s84_ => ∀ (H : Heap) (locs : List Loc) (ls : Array Slot), va_P D vwCl ((wsoF t h0 a0 s84_.2 (so_room d0) j82.2.1 p1 j82.2.2 j26)) H → va_D A ((wsoF t h0 a0 s84_.2 (so_room d0) j82.2.1 p1 j82.2.2 j26)) → va_S A s.heap H locs → lv_has ls 4 [(0, .ref h0), (1, .int p1), (3, .int s84_.1)] → W p l e ({ frames := 1, cells := 0, slots := 0, locals := 22 } : Room) s m args below meth c H locs 0 0 (MQ below (kQv D (TY t) ((wso t h0 a0 r)) A) args s 0 0 A) (F0 m 84 ls [])) ?_ FU (j82.1, (so_loaded d0)) hF _ _ _ hP hD hS (lv_sub hl [1, 2, 0] rfl)
      intro self84 ih84 s84_ hF H locs ls hP hD hS hl
      refine lv_iload_n hx hb (kd tdlX5_use_1 1 rfl) rfl (lv_at hl 2 rfl) ?_
      refine lv_if_le (tgt := 108) hx hb (kd tdlX5_use_1 2 rfl) (by decide) (fun hc85 => ?_) (fun hc85 => ?_)
      · have hF := kt hc85 hF
        exact hK108 (s84_.2) hF _ _ _ hP hD hS (lv_sub hl [0, 1] rfl)
      · have hF := kf hc85 hF
        refine lv_aload_n hx hb (kd tdlX5_use_1 3 rfl) rfl (lv_at hl 0 rfl) ?_
        refine so_g_loaded hx hb hts inX5_ hown hK hP L9 (kd tdlX5_use_1 4 rfl) ?_
        refine lv_iload_n hx hb (kd tdlX5_use_1 5 rfl) rfl (lv_at hl 2 rfl) ?_
        refine lv_aload_n hx hb (kd tdlX5_use_1 6 rfl) rfl (lv_at hl 0 rfl) ?_
        refine so_g_loaded hx hb hts inX5_ hown hK hP L9 (kd tdlX5_use_1 7 rfl) ?_
        refine lv_iload_n hx hb (kd tdlX5_use_1 8 rfl) rfl (lv_at hl 2 rfl) ?_
        refine lv_iconst (v := 1) hx hb (kd tdlX5_use_1 9 rfl) (by decide) ?_
        refine lv_isub hx hb (kd tdlX5_use_1 10 rfl) ?_
        obtain ⟨hi100, hF⟩ := kg hF
        refine so_l_loaded hx hb hK hP hi100 (kd tdlX5_use_1 11 rfl) ?_
        obtain ⟨hi101, hF⟩ := kg hF
        refine so_s_loaded hx hb hK hP hD hS hi101 (kd tdlX5_use_1 12 rfl) (fun H locs hP hD hS => ?_)
        refine lv_iinc (v := (s84_.1 + (-1))) (lv' := [(3, .int (s84_.1 + (-1))), (0, .ref h0), (1, .int p1)]) hx hb (kd tdlX5_use_1 13 rfl) hl (k := 2) rfl rfl (by decide) rfl (fun ls hl => ?_)
        refine lv_goto (tgt := 84) hx hb (kd tdlX5_use_1 14 rfl) (by decide) ?_
        exact ih84 ((s84_.1 + (-1)), (upd s84_.2 (Int32.toNatClampNeg s84_.1) (s84_.2 (Int32.toNatClampNeg (s84_.1 - 1))))) hF _ _ _ hP hD hS (lv_sub hl [1, 2, 0] rfl)
    refine lv_icmp_ne (tgt := 82) hx hb (kd tdlX5_use_0 24 rfl) (by decide) (fun hc42 => ?_) (fun hc42 => ?_)
    · have hF := kf hc42 hF
      exact hJ82 (v33, (so_held d0), (so_loads d0)) hF _ _ _ hP hD hS (lv_sub hl [1, 2, 0] rfl)
    · have hF := kt hc42 hF
      refine lv_aload_n hx hb (kd tdlX5_use_0 25 rfl) rfl (lv_at hl 1 rfl) ?_
      refine lv_dup hx hb (kd tdlX5_use_0 26 rfl) rfl ?_
      refine so_g_loads hx hb hts inX5_ hown hK hP L34 (kd tdlX5_use_0 27 rfl) ?_
      refine lv_iconst (v := 1) hx hb (kd tdlX5_use_0 28 rfl) (by decide) ?_
      refine lv_iadd hx hb (kd tdlX5_use_0 29 rfl) ?_
      refine so_p_loads hx hb hts inX5_ hown hK hP hD hS L34 (kd tdlX5_use_0 30 rfl) (fun H locs hP hD hS => ?_)
      refine lv_aload_n hx hb (kd tdlX5_use_0 31 rfl) rfl (lv_at hl 1 rfl) ?_
      refine so_g_held hx hb hts inX5_ hown hK hP L28 (kd tdlX5_use_0 32 rfl) ?_
      refine lv_aload_n hx hb (kd tdlX5_use_0 33 rfl) rfl (lv_at hl 1 rfl) ?_
      refine so_g_room hx hb hts inX5_ hown hK hP L24 (kd tdlX5_use_0 34 rfl) ?_
      refine lv_icmp_ge (tgt := 79) hx hb (kd tdlX5_use_0 35 rfl) (by decide) (fun hc63 => ?_) (fun hc63 => ?_)
      · have hF := kt hc63 hF
        refine lv_iinc (v := (v33 + (-1))) (lv' := [(2, .int (v33 + (-1))), (0, .ref h0), (1, .int p1)]) hx hb (kd tdlX5_use_0 43 rfl) hl (k := 0) rfl rfl (by decide) rfl (fun ls hl => ?_)
        exact hJ82 ((v33 + (-1)), (so_held d0), ((so_loads d0) + 1)) hF _ _ _ hP hD hS (lv_sub hl [1, 2, 0] rfl)
      · have hF := kf hc63 hF
        refine lv_aload_n hx hb (kd tdlX5_use_0 36 rfl) rfl (lv_at hl 1 rfl) ?_
        refine lv_dup hx hb (kd tdlX5_use_0 37 rfl) rfl ?_
        refine so_g_held hx hb hts inX5_ hown hK hP L28 (kd tdlX5_use_0 38 rfl) ?_
        refine lv_iconst (v := 1) hx hb (kd tdlX5_use_0 39 rfl) (by decide) ?_
        refine lv_iadd hx hb (kd tdlX5_use_0 40 rfl) ?_
        refine so_p_held hx hb hts inX5_ hown hK hP hD hS L28 (kd tdlX5_use_0 41 rfl) (fun H locs hP hD hS => ?_)
        refine lv_goto (tgt := 82) hx hb (kd tdlX5_use_0 42 rfl) (by decide) ?_
        exact hJ82 (v33, ((so_held d0) + 1), ((so_loads d0) + 1)) hF _ _ _ hP hD hS (lv_sub hl [1, 2, 0] rfl)
  refine lv_icmp_eq (tgt := 26) hx hb (kd tdlX5_use_0 3 rfl) (by decide) (fun hc5 => ?_) (fun hc5 => ?_)
  · have hF := kt hc5 hF
    exact hJ26 ((so_jumps d0)) hF _ _ _ hP hD hS (lv_sub hl [0, 1] rfl)
  · have hF := kf hc5 hF
    refine lv_aload_n hx hb (kd tdlX5_use_0 4 rfl) rfl (lv_at hl 0 rfl) ?_
    refine so_g_before hx hb hts inX5_ hown hK hP L31 (kd tdlX5_use_0 5 rfl) ?_
    refine lv_iload_n hx hb (kd tdlX5_use_0 6 rfl) rfl (lv_at hl 1 rfl) ?_
    refine lv_icmp_eq (tgt := 26) hx hb (kd tdlX5_use_0 7 rfl) (by decide) (fun hc13 => ?_) (fun hc13 => ?_)
    · have hF := kt hc13 hF
      exact hJ26 ((so_jumps d0)) hF _ _ _ hP hD hS (lv_sub hl [0, 1] rfl)
    · have hF := kf hc13 hF
      refine lv_aload_n hx hb (kd tdlX5_use_0 8 rfl) rfl (lv_at hl 0 rfl) ?_
      refine lv_dup hx hb (kd tdlX5_use_0 9 rfl) rfl ?_
      refine so_g_jumps hx hb hts inX5_ hown hK hP L37 (kd tdlX5_use_0 10 rfl) ?_
      refine lv_iconst (v := 1) hx hb (kd tdlX5_use_0 11 rfl) (by decide) ?_
      refine lv_iadd hx hb (kd tdlX5_use_0 12 rfl) ?_
      refine so_p_jumps hx hb hts inX5_ hown hK hP hD hS L37 (kd tdlX5_use_0 13 rfl) (fun H locs hP hD hS => ?_)
      exact hJ26 (((so_jumps d0) + 1)) hF _ _ _ hP hD hS (lv_sub hl [0, 1] rfl)
set_option maxHeartbeats 4000000 in
set_option maxRecDepth 100000 in
theorem c_X6_begin (l : Launch) (D : va_G) (t : Nat → ClassId) (h0 : Nat) (a0 : Nat → Nat) (d0 : SMT) (sz : Nat)  (r : SMT) (hF : F_X6_begin d0 = some r) : Met l yX6_begin wX6_begin ({ frames := 0, cells := 0, slots := 0, locals := 0 } : Room) (kPc D (TY t) ((wsm t h0 a0 d0)) [.ref h0] sz) (kQv D (TY t) ((wsm t h0 a0 r)) (va_A ((wsm t h0 a0 d0)) sz)) 0 0 (va_A ((wsm t h0 a0 d0)) sz) := by
  refine kE (cc := cX6_begin) (maxL := 1) (ret := none) (Qx := fun A => kQv D (TY t) ((wsm t h0 a0 r)) A) (lv0 := [(0, .ref h0)]) RX6 rfl (by decide) rfl (Nat.le_of_ble_eq_true rfl) rfl ?_
  intro p e s m args below meth c A ls hx hb hml hr hlocks hown hts hA hK hP hD hS hl
  have L18 := hts (.fieldLink RX6 18 "ChunkCarriers$Stream" "letters" "I") (List.mem_cons_of_mem _ w_482)
  have L22 := hts (.fieldLink RX6 22 "ChunkCarriers$Stream" "chunks" "I") (List.mem_cons_of_mem _ w_483)
  have inX6_ : ∀ w ∈ wsX60, w ∈ wX6_begin := fun w h => List.mem_cons_of_mem _ (inlX6 w h)
  have hP : va_P D vwCl ((wsmF t h0 a0 (sm_worths d0) (sm_codes d0) (sm_letters d0) (sm_chunks d0))) s.heap := hP
  have hD : va_D A ((wsmF t h0 a0 (sm_worths d0) (sm_codes d0) (sm_letters d0) (sm_chunks d0))) := hD
  refine lv_aload_n hx hb (kd tdlX6_begin_0 0 rfl) rfl (lv_at hl 0 rfl) ?_
  refine lv_iconst (v := 0) hx hb (kd tdlX6_begin_0 1 rfl) (by decide) ?_
  refine sm_p_letters hx hb hts inX6_ hown hK hP hD hS L18 (kd tdlX6_begin_0 2 rfl) (fun H locs hP hD hS => ?_)
  refine lv_aload_n hx hb (kd tdlX6_begin_0 3 rfl) rfl (lv_at hl 0 rfl) ?_
  refine lv_iconst (v := 0) hx hb (kd tdlX6_begin_0 4 rfl) (by decide) ?_
  refine sm_p_chunks hx hb hts inX6_ hown hK hP hD hS L22 (kd tdlX6_begin_0 5 rfl) (fun H locs hP hD hS => ?_)
  cases ko hF
  exact ke_v hx hb hr hlocks hK hP hD hS (kd tdlX6_begin_0 6 rfl)
set_option maxHeartbeats 4000000 in
set_option maxRecDepth 100000 in
theorem c_X6_take (l : Launch) (D : va_G) (t : Nat → ClassId) (h0 : Nat) (a0 : Nat → Nat) (d0 : SMT) (sz : Nat) (p1 : Int32) (r : SMT) (hF : F_X6_take d0 p1 = some r) : Met l yX6_take wX6_take ({ frames := 0, cells := 0, slots := 0, locals := 0 } : Room) (kPc D (TY t) ((wsm t h0 a0 d0)) [.ref h0, .int p1] sz) (kQv D (TY t) ((wsm t h0 a0 r)) (va_A ((wsm t h0 a0 d0)) sz)) 0 0 (va_A ((wsm t h0 a0 d0)) sz) := by
  refine kE (cc := cX6_take) (maxL := 2) (ret := none) (Qx := fun A => kQv D (TY t) ((wsm t h0 a0 r)) A) (lv0 := [(0, .ref h0), (1, .int p1)]) RX6 rfl (by decide) rfl (Nat.le_of_ble_eq_true rfl) rfl ?_
  intro p e s m args below meth c A ls hx hb hml hr hlocks hown hts hA hK hP hD hS hl
  have L18 := hts (.fieldLink RX6 18 "ChunkCarriers$Stream" "letters" "I") (List.mem_cons_of_mem _ w_482)
  have L9 := hts (.fieldLink RX6 9 "ChunkCarriers$Stream" "worths" "[I") (List.mem_cons_of_mem _ w_73)
  have inX6_ : ∀ w ∈ wsX60, w ∈ wX6_take := fun w h => List.mem_cons_of_mem _ (inlX6 w h)
  have hP : va_P D vwCl ((wsmF t h0 a0 (sm_worths d0) (sm_codes d0) (sm_letters d0) (sm_chunks d0))) s.heap := hP
  have hD : va_D A ((wsmF t h0 a0 (sm_worths d0) (sm_codes d0) (sm_letters d0) (sm_chunks d0))) := hD
  refine lv_aload_n hx hb (kd tdlX6_take_0 0 rfl) rfl (lv_at hl 0 rfl) ?_
  refine sm_g_letters hx hb hts inX6_ hown hK hP L18 (kd tdlX6_take_0 1 rfl) ?_
  refine lv_aload_n hx hb (kd tdlX6_take_0 2 rfl) rfl (lv_at hl 0 rfl) ?_
  refine sm_g_worths hx hb hts inX6_ hown hK hP L9 (kd tdlX6_take_0 3 rfl) ?_
  refine va_alen (v := 30) (D := D) (tys := TY t) hx hb hK hP 1 0 rfl rfl rfl (kd tdlX6_take_0 4 rfl) ?_
  refine lv_icmp_lt (tgt := 13) hx hb (kd tdlX6_take_0 5 rfl) (by decide) (fun hc9 => ?_) (fun hc9 => ?_)
  · have hF := kt hc9 hF
    refine lv_aload_n hx hb (kd tdlX6_take_0 7 rfl) rfl (lv_at hl 0 rfl) ?_
    refine sm_g_worths hx hb hts inX6_ hown hK hP L9 (kd tdlX6_take_0 8 rfl) ?_
    refine lv_aload_n hx hb (kd tdlX6_take_0 9 rfl) rfl (lv_at hl 0 rfl) ?_
    refine sm_g_letters hx hb hts inX6_ hown hK hP L18 (kd tdlX6_take_0 10 rfl) ?_
    refine lv_iload_n hx hb (kd tdlX6_take_0 11 rfl) rfl (lv_at hl 1 rfl) ?_
    obtain ⟨hi22, hF⟩ := kg hF
    refine sm_s_worths hx hb hK hP hD hS hi22 (kd tdlX6_take_0 12 rfl) (fun H locs hP hD hS => ?_)
    refine lv_aload_n hx hb (kd tdlX6_take_0 13 rfl) rfl (lv_at hl 0 rfl) ?_
    refine lv_dup hx hb (kd tdlX6_take_0 14 rfl) rfl ?_
    refine sm_g_letters hx hb hts inX6_ hown hK hP L18 (kd tdlX6_take_0 15 rfl) ?_
    refine lv_iconst (v := 1) hx hb (kd tdlX6_take_0 16 rfl) (by decide) ?_
    refine lv_iadd hx hb (kd tdlX6_take_0 17 rfl) ?_
    refine sm_p_letters hx hb hts inX6_ hown hK hP hD hS L18 (kd tdlX6_take_0 18 rfl) (fun H locs hP hD hS => ?_)
    cases ko hF
    exact ke_v hx hb hr hlocks hK hP hD hS (kd tdlX6_take_0 19 rfl)
  · have hF := kf hc9 hF
    cases ko hF
    exact ke_v hx hb hr hlocks hK hP hD hS (kd tdlX6_take_0 6 rfl)
set_option maxHeartbeats 4000000 in
set_option maxRecDepth 100000 in
theorem c_X6_codeAt (l : Launch) (D : va_G) (t : Nat → ClassId) (h0 : Nat) (a0 : Nat → Nat) (d0 : SMT) (sz : Nat) (p1 : Int32) (r : Int32) (hF : F_X6_codeAt d0 p1 = some r) : Met l yX6_codeAt wX6_codeAt ({ frames := 0, cells := 0, slots := 0, locals := 0 } : Room) (kPc D (TY t) ((wsm t h0 a0 d0)) [.ref h0, .int p1] sz) (kQi D (TY t) ((wsm t h0 a0 d0)) r (va_A ((wsm t h0 a0 d0)) sz)) 0 0 (va_A ((wsm t h0 a0 d0)) sz) := by
  refine kE (cc := cX6_codeAt) (maxL := 2) (ret := (some .int)) (Qx := fun A => kQi D (TY t) ((wsm t h0 a0 d0)) r A) (lv0 := [(0, .ref h0), (1, .int p1)]) RX6 rfl (by decide) rfl (Nat.le_of_ble_eq_true rfl) rfl ?_
  intro p e s m args below meth c A ls hx hb hml hr hlocks hown hts hA hK hP hD hS hl
  have L15 := hts (.fieldLink RX6 15 "ChunkCarriers$Stream" "codes" "[I") (List.mem_cons_of_mem _ w_74)
  have L22 := hts (.fieldLink RX6 22 "ChunkCarriers$Stream" "chunks" "I") (List.mem_cons_of_mem _ w_483)
  have inX6_ : ∀ w ∈ wsX60, w ∈ wX6_codeAt := fun w h => List.mem_cons_of_mem _ (inlX6 w h)
  have hP : va_P D vwCl ((wsmF t h0 a0 (sm_worths d0) (sm_codes d0) (sm_letters d0) (sm_chunks d0))) s.heap := hP
  have hD : va_D A ((wsmF t h0 a0 (sm_worths d0) (sm_codes d0) (sm_letters d0) (sm_chunks d0))) := hD
  refine lv_iload_n hx hb (kd tdlX6_codeAt_0 0 rfl) rfl (lv_at hl 1 rfl) ?_
  refine lv_if_lt (tgt := 21) hx hb (kd tdlX6_codeAt_0 1 rfl) (by decide) (fun hc1 => ?_) (fun hc1 => ?_)
  · have hF := kt hc1 hF
    refine lv_iconst (v := 1) hx hb (kd tdlX6_codeAt_0 11 rfl) (by decide) ?_
    cases ko hF
    exact ke_i hx hb hr hlocks hK hP hD hS rfl (kd tdlX6_codeAt_0 12 rfl)
  · have hF := kf hc1 hF
    refine lv_iload_n hx hb (kd tdlX6_codeAt_0 2 rfl) rfl (lv_at hl 1 rfl) ?_
    refine lv_aload_n hx hb (kd tdlX6_codeAt_0 3 rfl) rfl (lv_at hl 0 rfl) ?_
    refine sm_g_chunks hx hb hts inX6_ hown hK hP L22 (kd tdlX6_codeAt_0 4 rfl) ?_
    refine lv_icmp_ge (tgt := 21) hx hb (kd tdlX6_codeAt_0 5 rfl) (by decide) (fun hc9 => ?_) (fun hc9 => ?_)
    · have hF := kt hc9 hF
      refine lv_iconst (v := 1) hx hb (kd tdlX6_codeAt_0 11 rfl) (by decide) ?_
      cases ko hF
      exact ke_i hx hb hr hlocks hK hP hD hS rfl (kd tdlX6_codeAt_0 12 rfl)
    · have hF := kf hc9 hF
      refine lv_aload_n hx hb (kd tdlX6_codeAt_0 6 rfl) rfl (lv_at hl 0 rfl) ?_
      refine sm_g_codes hx hb hts inX6_ hown hK hP L15 (kd tdlX6_codeAt_0 7 rfl) ?_
      refine lv_iload_n hx hb (kd tdlX6_codeAt_0 8 rfl) rfl (lv_at hl 1 rfl) ?_
      obtain ⟨hi17, hF⟩ := kg hF
      refine sm_l_codes hx hb hK hP hi17 (kd tdlX6_codeAt_0 9 rfl) ?_
      refine lv_goto (tgt := 22) hx hb (kd tdlX6_codeAt_0 10 rfl) (by decide) ?_
      cases ko hF
      exact ke_i hx hb hr hlocks hK hP hD hS rfl (kd tdlX6_codeAt_0 12 rfl)
set_option maxHeartbeats 4000000 in
set_option maxRecDepth 100000 in
theorem c_X6_endsBehind (l : Launch) (D : va_G) (t : Nat → ClassId) (h0 : Nat) (a0 : Nat → Nat) (d0 : SMT) (sz : Nat) (p1 : Int32) (p2 : Int32) (p3 : Int32) (r : Int32) (hF : F_X6_endsBehind d0 p1 p2 p3 = some r) : Met l yX6_endsBehind wX6_endsBehind ({ frames := 0, cells := 0, slots := 0, locals := 0 } : Room) (kPc D (TY t) ((wsm t h0 a0 d0)) [.ref h0, .int p1, .int p2, .int p3] sz) (kQi D (TY t) ((wsm t h0 a0 d0)) r (va_A ((wsm t h0 a0 d0)) sz)) 0 0 (va_A ((wsm t h0 a0 d0)) sz) := by
  refine kE (cc := cX6_endsBehind) (maxL := 4) (ret := (some .boolean)) (Qx := fun A => kQi D (TY t) ((wsm t h0 a0 d0)) r A) (lv0 := [(0, .ref h0), (1, .int p1), (2, .int p2), (3, .int p3)]) RX6 rfl (by decide) rfl (Nat.le_of_ble_eq_true rfl) rfl ?_
  intro p e s m args below meth c A ls hx hb hml hr hlocks hown hts hA hK hP hD hS hl
  have L18 := hts (.fieldLink RX6 18 "ChunkCarriers$Stream" "letters" "I") (List.mem_cons_of_mem _ w_482)
  have L9 := hts (.fieldLink RX6 9 "ChunkCarriers$Stream" "worths" "[I") (List.mem_cons_of_mem _ w_73)
  have inX6_ : ∀ w ∈ wsX60, w ∈ wX6_endsBehind := fun w h => List.mem_cons_of_mem _ (inlX6 w h)
  have hP : va_P D vwCl ((wsmF t h0 a0 (sm_worths d0) (sm_codes d0) (sm_letters d0) (sm_chunks d0))) s.heap := hP
  have hD : va_D A ((wsmF t h0 a0 (sm_worths d0) (sm_codes d0) (sm_letters d0) (sm_chunks d0))) := hD
  refine lv_iload_n hx hb (kd tdlX6_endsBehind_0 0 rfl) rfl (lv_at hl 1 rfl) ?_
  refine lv_aload_n hx hb (kd tdlX6_endsBehind_0 1 rfl) rfl (lv_at hl 0 rfl) ?_
  refine sm_g_letters hx hb hts inX6_ hown hK hP L18 (kd tdlX6_endsBehind_0 2 rfl) ?_
  refine lv_iconst (v := 1) hx hb (kd tdlX6_endsBehind_0 3 rfl) (by decide) ?_
  refine lv_isub hx hb (kd tdlX6_endsBehind_0 4 rfl) ?_
  refine lv_icmp_eq (tgt := 16) hx hb (kd tdlX6_endsBehind_0 5 rfl) (by decide) (fun hc7 => ?_) (fun hc7 => ?_)
  · have hF := kt hc7 hF
    refine lv_iconst (v := 1) hx hb (kd tdlX6_endsBehind_0 9 rfl) (by decide) ?_
    cases ko hF
    exact ke_z hx hb hr hlocks rfl hK hP hD hS rfl (kd tdlX6_endsBehind_0 10 rfl)
  · have hF := kf hc7 hF
    refine lv_iload_n hx hb (kd tdlX6_endsBehind_0 6 rfl) rfl (lv_at hl 2 rfl) ?_
    refine lv_bipush (v := 6) hx hb (kd tdlX6_endsBehind_0 7 rfl) (by decide) ?_
    refine lv_icmp_ne (tgt := 18) hx hb (kd tdlX6_endsBehind_0 8 rfl) (by decide) (fun hc13 => ?_) (fun hc13 => ?_)
    · have hF := kf hc13 hF
      refine lv_iload_n hx hb (kd tdlX6_endsBehind_0 11 rfl) rfl (lv_at hl 1 rfl) ?_
      refine lv_iconst (v := 1) hx hb (kd tdlX6_endsBehind_0 12 rfl) (by decide) ?_
      refine lv_icmp_lt (tgt := 33) hx hb (kd tdlX6_endsBehind_0 13 rfl) (by decide) (fun hc20 => ?_) (fun hc20 => ?_)
      · have hF := kt hc20 hF
        refine lv_iconst (v := 0) hx hb (kd tdlX6_endsBehind_0 20 rfl) (by decide) ?_
        cases ko hF
        exact ke_z hx hb hr hlocks rfl hK hP hD hS rfl (kd tdlX6_endsBehind_0 21 rfl)
      · have hF := kf hc20 hF
        refine lv_iload_n hx hb (kd tdlX6_endsBehind_0 14 rfl) rfl (lv_at hl 2 rfl) ?_
        refine lv_iconst (v := 2) hx hb (kd tdlX6_endsBehind_0 15 rfl) (by decide) ?_
        refine lv_icmp_lt (tgt := 33) hx hb (kd tdlX6_endsBehind_0 16 rfl) (by decide) (fun hc25 => ?_) (fun hc25 => ?_)
        · have hF := kt hc25 hF
          refine lv_iconst (v := 0) hx hb (kd tdlX6_endsBehind_0 20 rfl) (by decide) ?_
          cases ko hF
          exact ke_z hx hb hr hlocks rfl hK hP hD hS rfl (kd tdlX6_endsBehind_0 21 rfl)
        · have hF := kf hc25 hF
          refine lv_iload_n hx hb (kd tdlX6_endsBehind_0 17 rfl) rfl (lv_at hl 3 rfl) ?_
          refine lv_iconst (v := 1) hx hb (kd tdlX6_endsBehind_0 18 rfl) (by decide) ?_
          refine lv_icmp_ge (tgt := 35) hx hb (kd tdlX6_endsBehind_0 19 rfl) (by decide) (fun hc30 => ?_) (fun hc30 => ?_)
          · have hF := kt hc30 hF
            refine lv_aload_n hx hb (kd tdlX6_endsBehind_0 22 rfl) rfl (lv_at hl 0 rfl) ?_
            refine sm_g_worths hx hb hts inX6_ hown hK hP L9 (kd tdlX6_endsBehind_0 23 rfl) ?_
            refine lv_iload_n hx hb (kd tdlX6_endsBehind_0 24 rfl) rfl (lv_at hl 1 rfl) ?_
            refine lv_iconst (v := 1) hx hb (kd tdlX6_endsBehind_0 25 rfl) (by decide) ?_
            refine lv_isub hx hb (kd tdlX6_endsBehind_0 26 rfl) ?_
            obtain ⟨hi42, hF⟩ := kg hF
            refine sm_l_worths hx hb hK hP hi42 (kd tdlX6_endsBehind_0 27 rfl) ?_
            refine lv_aload_n hx hb (kd tdlX6_endsBehind_0 28 rfl) rfl (lv_at hl 0 rfl) ?_
            refine sm_g_worths hx hb hts inX6_ hown hK hP L9 (kd tdlX6_endsBehind_0 29 rfl) ?_
            refine lv_iload_n hx hb (kd tdlX6_endsBehind_0 30 rfl) rfl (lv_at hl 1 rfl) ?_
            obtain ⟨hi48, hF⟩ := kg hF
            refine sm_l_worths hx hb hK hP hi48 (kd tdlX6_endsBehind_0 31 rfl) ?_
            refine lv_iadd hx hb (kd tdlX6_endsBehind_0 32 rfl) ?_
            refine lv_iload_n hx hb (kd tdlX6_endsBehind_0 33 rfl) rfl (lv_at hl 3 rfl) ?_
            obtain ⟨hz51, hF⟩ := kgz hF
            refine lv_irem hx hb (kd tdlX6_endsBehind_0 34 rfl) hz51 ?_
            refine lv_if_ne (tgt := 59) hx hb (kd tdlX6_endsBehind_0 35 rfl) (by decide) (fun hc52 => ?_) (fun hc52 => ?_)
            · have hF := kf hc52 hF
              refine lv_iconst (v := 0) hx hb (kd tdlX6_endsBehind_0 38 rfl) (by decide) ?_
              cases ko hF
              exact ke_z hx hb hr hlocks rfl hK hP hD hS rfl (kd tdlX6_endsBehind_0 39 rfl)
            · have hF := kt hc52 hF
              refine lv_iconst (v := 1) hx hb (kd tdlX6_endsBehind_0 36 rfl) (by decide) ?_
              refine lv_goto (tgt := 60) hx hb (kd tdlX6_endsBehind_0 37 rfl) (by decide) ?_
              cases ko hF
              exact ke_z hx hb hr hlocks rfl hK hP hD hS rfl (kd tdlX6_endsBehind_0 39 rfl)
          · have hF := kf hc30 hF
            refine lv_iconst (v := 0) hx hb (kd tdlX6_endsBehind_0 20 rfl) (by decide) ?_
            cases ko hF
            exact ke_z hx hb hr hlocks rfl hK hP hD hS rfl (kd tdlX6_endsBehind_0 21 rfl)
    · have hF := kt hc13 hF
      refine lv_iconst (v := 1) hx hb (kd tdlX6_endsBehind_0 9 rfl) (by decide) ?_
      cases ko hF
      exact ke_z hx hb hr hlocks rfl hK hP hD hS rfl (kd tdlX6_endsBehind_0 10 rfl)
set_option maxHeartbeats 4000000 in
set_option maxRecDepth 100000 in
theorem c_X6_close (l : Launch) (D : va_G) (t : Nat → ClassId) (h0 : Nat) (a0 : Nat → Nat) (d0 : SMT) (sz : Nat) (p1 : Int32) (r : SMT) (hF : F_X6_close d0 p1 = some r) : Met l yX6_close wX6_close ({ frames := 0, cells := 0, slots := 0, locals := 0 } : Room) (kPc D (TY t) ((wsm t h0 a0 d0)) [.ref h0, .int p1] sz) (kQv D (TY t) ((wsm t h0 a0 r)) (va_A ((wsm t h0 a0 d0)) sz)) 0 0 (va_A ((wsm t h0 a0 d0)) sz) := by
  refine kE (cc := cX6_close) (maxL := 2) (ret := none) (Qx := fun A => kQv D (TY t) ((wsm t h0 a0 r)) A) (lv0 := [(0, .ref h0), (1, .int p1)]) RX6 rfl (by decide) rfl (Nat.le_of_ble_eq_true rfl) rfl ?_
  intro p e s m args below meth c A ls hx hb hml hr hlocks hown hts hA hK hP hD hS hl
  have L15 := hts (.fieldLink RX6 15 "ChunkCarriers$Stream" "codes" "[I") (List.mem_cons_of_mem _ w_74)
  have L22 := hts (.fieldLink RX6 22 "ChunkCarriers$Stream" "chunks" "I") (List.mem_cons_of_mem _ w_483)
  have inX6_ : ∀ w ∈ wsX60, w ∈ wX6_close := fun w h => List.mem_cons_of_mem _ (inlX6 w h)
  have hP : va_P D vwCl ((wsmF t h0 a0 (sm_worths d0) (sm_codes d0) (sm_letters d0) (sm_chunks d0))) s.heap := hP
  have hD : va_D A ((wsmF t h0 a0 (sm_worths d0) (sm_codes d0) (sm_letters d0) (sm_chunks d0))) := hD
  refine lv_aload_n hx hb (kd tdlX6_close_0 0 rfl) rfl (lv_at hl 0 rfl) ?_
  refine sm_g_chunks hx hb hts inX6_ hown hK hP L22 (kd tdlX6_close_0 1 rfl) ?_
  refine lv_aload_n hx hb (kd tdlX6_close_0 2 rfl) rfl (lv_at hl 0 rfl) ?_
  refine sm_g_codes hx hb hts inX6_ hown hK hP L15 (kd tdlX6_close_0 3 rfl) ?_
  refine va_alen (v := 15) (D := D) (tys := TY t) hx hb hK hP 2 0 rfl rfl rfl (kd tdlX6_close_0 4 rfl) ?_
  refine lv_icmp_lt (tgt := 13) hx hb (kd tdlX6_close_0 5 rfl) (by decide) (fun hc9 => ?_) (fun hc9 => ?_)
  · have hF := kt hc9 hF
    refine lv_aload_n hx hb (kd tdlX6_close_0 7 rfl) rfl (lv_at hl 0 rfl) ?_
    refine sm_g_codes hx hb hts inX6_ hown hK hP L15 (kd tdlX6_close_0 8 rfl) ?_
    refine lv_aload_n hx hb (kd tdlX6_close_0 9 rfl) rfl (lv_at hl 0 rfl) ?_
    refine sm_g_chunks hx hb hts inX6_ hown hK hP L22 (kd tdlX6_close_0 10 rfl) ?_
    refine lv_iload_n hx hb (kd tdlX6_close_0 11 rfl) rfl (lv_at hl 1 rfl) ?_
    obtain ⟨hi22, hF⟩ := kg hF
    refine sm_s_codes hx hb hK hP hD hS hi22 (kd tdlX6_close_0 12 rfl) (fun H locs hP hD hS => ?_)
    refine lv_aload_n hx hb (kd tdlX6_close_0 13 rfl) rfl (lv_at hl 0 rfl) ?_
    refine lv_dup hx hb (kd tdlX6_close_0 14 rfl) rfl ?_
    refine sm_g_chunks hx hb hts inX6_ hown hK hP L22 (kd tdlX6_close_0 15 rfl) ?_
    refine lv_iconst (v := 1) hx hb (kd tdlX6_close_0 16 rfl) (by decide) ?_
    refine lv_iadd hx hb (kd tdlX6_close_0 17 rfl) ?_
    refine sm_p_chunks hx hb hts inX6_ hown hK hP hD hS L22 (kd tdlX6_close_0 18 rfl) (fun H locs hP hD hS => ?_)
    cases ko hF
    exact ke_v hx hb hr hlocks hK hP hD hS (kd tdlX6_close_0 19 rfl)
  · have hF := kf hc9 hF
    cases ko hF
    exact ke_v hx hb hr hlocks hK hP hD hS (kd tdlX6_close_0 6 rfl)
set_option maxHeartbeats 4000000 in
set_option maxRecDepth 100000 in
theorem c_X6_cut (l : Launch) (D : va_G) (t : Nat → ClassId) (h0 : Nat) (a0 : Nat → Nat) (d0 : SMT) (sz : Nat) (p1 : Int32) (r : SMT) (hF : F_X6_cut d0 p1 = some r) : Met l yX6_cut wX6_cut ({ frames := 1, cells := 0, slots := 0, locals := 23 } : Room) (kPc D (TY t) ((wsm t h0 a0 d0)) [.ref h0, .int p1] sz) (kQv D (TY t) ((wsm t h0 a0 r)) (va_A ((wsm t h0 a0 d0)) sz)) 0 0 (va_A ((wsm t h0 a0 d0)) sz) := by
  refine kE (cc := cX6_cut) (maxL := 5) (ret := none) (Qx := fun A => kQv D (TY t) ((wsm t h0 a0 r)) A) (lv0 := [(0, .ref h0), (1, .int p1)]) RX6 rfl (by decide) rfl (Nat.le_of_ble_eq_true rfl) rfl ?_
  intro p e s m args below meth c A ls hx hb hml hr hlocks hown hts hA hK hP hD hS hl
  have L18 := hts (.fieldLink RX6 18 "ChunkCarriers$Stream" "letters" "I") (List.mem_cons_of_mem _ w_482)
  have L22 := hts (.fieldLink RX6 22 "ChunkCarriers$Stream" "chunks" "I") (List.mem_cons_of_mem _ w_483)
  have L9 := hts (.fieldLink RX6 9 "ChunkCarriers$Stream" "worths" "[I") (List.mem_cons_of_mem _ w_73)
  have inX6_ : ∀ w ∈ wsX60, w ∈ wX6_cut := fun w h => List.mem_cons_of_mem _ (inlX6 w h)
  have hP : va_P D vwCl ((wsmF t h0 a0 (sm_worths d0) (sm_codes d0) (sm_letters d0) (sm_chunks d0))) s.heap := hP
  have hD : va_D A ((wsmF t h0 a0 (sm_worths d0) (sm_codes d0) (sm_letters d0) (sm_chunks d0))) := hD
  refine lv_aload_n hx hb (kd tdlX6_cut_0 0 rfl) rfl (lv_at hl 0 rfl) ?_
  refine lv_iconst (v := 0) hx hb (kd tdlX6_cut_0 1 rfl) (by decide) ?_
  refine sm_p_chunks hx hb hts inX6_ hown hK hP hD hS L22 (kd tdlX6_cut_0 2 rfl) (fun H locs hP hD hS => ?_)
  refine lv_iconst (v := 1) hx hb (kd tdlX6_cut_0 3 rfl) (by decide) ?_
  refine lv_istore_n (lv' := [(2, .int 1), (0, .ref h0), (1, .int p1)]) hx hb (kd tdlX6_cut_0 4 rfl) rfl hl (by decide) rfl (fun ls hl => ?_)
  refine lv_iconst (v := 0) hx hb (kd tdlX6_cut_0 5 rfl) (by decide) ?_
  refine lv_istore_n (lv' := [(3, .int 0), (2, .int 1), (0, .ref h0), (1, .int p1)]) hx hb (kd tdlX6_cut_0 6 rfl) rfl hl (by decide) rfl (fun ls hl => ?_)
  refine lv_iconst (v := 0) hx hb (kd tdlX6_cut_0 7 rfl) (by decide) ?_
  refine lv_istore (lv' := [(4, .int 0), (3, .int 0), (2, .int 1), (0, .ref h0), (1, .int p1)]) hx hb (kd tdlX6_cut_0 8 rfl) hl (by decide) rfl (fun ls hl => ?_)
  refine lp_ind (f := B_X6_cut_12 p1) (r := r) (P := fun s12_ => ∀ (H : Heap) (locs : List Loc) (ls : Array Slot), va_P D vwCl ((wsmF t h0 a0 (sm_worths s12_.2.2.2) (sm_codes s12_.2.2.2) (sm_letters s12_.2.2.2) (sm_chunks s12_.2.2.2))) H → va_D A ((wsmF t h0 a0 (sm_worths s12_.2.2.2) (sm_codes s12_.2.2.2) (sm_letters s12_.2.2.2) (sm_chunks s12_.2.2.2))) → va_S A s.heap H locs → lv_has ls 5 [(0, .ref h0), (1, .int p1), (2, .int s12_.1), (3, .int s12_.2.1), (4, .int s12_.2.2.1)] → W p l e ({ frames := 1, cells := 0, slots := 0, locals := 23 } : Room) s m args below meth c H locs 0 0 (MQ below (kQv D (TY t) ((wsm t h0 a0 r)) A) args s 0 0 A) (F0 m 12 ls [])) ?_ FU (1, 0, 0, ((sm_worths d0), (sm_codes d0), (sm_letters d0), 0)) hF _ _ _ hP hD hS (lv_sub hl [3, 4, 2, 1, 0] rfl)
  intro self12 ih12 s12_ hF H locs ls hP hD hS hl
  refine lv_iload hx hb (kd tdlX6_cut_0 9 rfl) (lv_at hl 4 rfl) ?_
  refine lv_aload_n hx hb (kd tdlX6_cut_0 10 rfl) rfl (lv_at hl 0 rfl) ?_
  refine sm_g_letters hx hb hts inX6_ hown hK hP L18 (kd tdlX6_cut_0 11 rfl) ?_
  refine lv_icmp_ge (tgt := 62) hx hb (kd tdlX6_cut_0 12 rfl) (by decide) (fun hc18 => ?_) (fun hc18 => ?_)
  · have hF := kt hc18 hF
    cases ko hF
    exact ke_v hx hb hr hlocks hK hP hD hS (kd tdlX6_cut_0 36 rfl)
  · have hF := kf hc18 hF
    refine lv_iload_n hx hb (kd tdlX6_cut_0 13 rfl) rfl (lv_at hl 2 rfl) ?_
    refine lv_aload_n hx hb (kd tdlX6_cut_0 14 rfl) rfl (lv_at hl 0 rfl) ?_
    refine sm_g_worths hx hb hts inX6_ hown hK hP L9 (kd tdlX6_cut_0 15 rfl) ?_
    refine lv_iload hx hb (kd tdlX6_cut_0 16 rfl) (lv_at hl 4 rfl) ?_
    obtain ⟨hi28, hF⟩ := kg hF
    refine sm_l_worths hx hb hK hP hi28 (kd tdlX6_cut_0 17 rfl) ?_
    obtain ⟨v29, e29, hF⟩ := kc hF
    refine kc_iR hK hP hD hS hA [] rfl (kr_S (Qx := (fun A => kQi D (TY t) ([] : va_W) v29 A)) (wc := ([] : va_W)) (As := [.int s12_.1, .int ((sm_worths s12_.2.2.2) (Int32.toNatClampNeg s12_.2.2.1))]) (rest := []) ⟨hx, hb, hml, hown, hts⟩ hK hP hD [] nd_ rfl (c_X2_with l D t  _ s12_.1 ((sm_worths s12_.2.2.2) (Int32.toNatClampNeg s12_.2.2.1)) v29 e29) (va_cwS 2 hts (gcX2_with w_496) rfl rfl rfl hdX2_withS ⟨Nat.le_of_ble_eq_true rfl, Nat.le_of_ble_eq_true rfl⟩) rfl hl.1 rfl (Nat.le_of_ble_eq_true rfl) (kd tdlX6_cut_0 18 rfl) ⟨Nat.zero_le _, Nat.zero_le _⟩) (fun H locs hP hS => ?_)
    refine lv_istore_n (lv' := [(2, .int v29), (0, .ref h0), (1, .int p1), (3, .int s12_.2.1), (4, .int s12_.2.2.1)]) hx hb (kd tdlX6_cut_0 19 rfl) rfl hl (by decide) rfl (fun ls hl => ?_)
    refine lv_iinc (v := (s12_.2.1 + 1)) (lv' := [(3, .int (s12_.2.1 + 1)), (2, .int v29), (0, .ref h0), (1, .int p1), (4, .int s12_.2.2.1)]) hx hb (kd tdlX6_cut_0 20 rfl) hl (k := 3) rfl rfl (by decide) rfl (fun ls hl => ?_)
    refine lv_aload_n hx hb (kd tdlX6_cut_0 21 rfl) rfl (lv_at hl 2 rfl) ?_
    refine lv_iload hx hb (kd tdlX6_cut_0 22 rfl) (lv_at hl 4 rfl) ?_
    refine lv_iload_n hx hb (kd tdlX6_cut_0 23 rfl) rfl (lv_at hl 0 rfl) ?_
    refine lv_iload_n hx hb (kd tdlX6_cut_0 24 rfl) rfl (lv_at hl 3 rfl) ?_
    obtain ⟨v41, e41, hF⟩ := kc hF
    refine kc_i0 (w1 := ((wsmF t h0 a0 (sm_worths s12_.2.2.2) (sm_codes s12_.2.2.2) (sm_letters s12_.2.2.2) (sm_chunks s12_.2.2.2)))) hP hD hS hA (kr_V0 (Qx := (fun A => kQi D (TY t) ((wsmF t h0 a0 (sm_worths s12_.2.2.2) (sm_codes s12_.2.2.2) (sm_letters s12_.2.2.2) (sm_chunks s12_.2.2.2))) v41 A)) (As := [.int s12_.2.2.1, .int (s12_.2.1 + 1), .int p1]) (rest := []) ⟨hx, hb, hml, hown, hts⟩ hK hP hD (c_X6_endsBehind l D t h0 a0 s12_.2.2.2 _ s12_.2.2.1 (s12_.2.1 + 1) p1 v41 e41) (cwV 3 hts (gcX6_endsBehind w_499) rfl rfl rfl hdX6_endsBehindV ⟨Nat.le_of_ble_eq_true rfl, Nat.le_of_ble_eq_true rfl⟩) (ci := 5) (q0 := 0) rfl rfl rfl hl.1 rfl (Nat.le_of_ble_eq_true rfl) (kd tdlX6_cut_0 25 rfl) ⟨Nat.zero_le _, Nat.zero_le _⟩) (fun H locs hP hD hS => ?_)
    refine lv_if_eq (tgt := 56) hx hb (kd tdlX6_cut_0 26 rfl) (by decide) (fun hc44 => ?_) (fun hc44 => ?_)
    · have hF := kt hc44 hF
      refine lv_iinc (v := (s12_.2.2.1 + 1)) (lv' := [(4, .int (s12_.2.2.1 + 1)), (3, .int (s12_.2.1 + 1)), (2, .int v29), (0, .ref h0), (1, .int p1)]) hx hb (kd tdlX6_cut_0 34 rfl) hl (k := 4) rfl rfl (by decide) rfl (fun ls hl => ?_)
      refine lv_goto (tgt := 12) hx hb (kd tdlX6_cut_0 35 rfl) (by decide) ?_
      exact ih12 (v29, (s12_.2.1 + 1), (s12_.2.2.1 + 1), s12_.2.2.2) hF _ _ _ hP hD hS (lv_sub hl [3, 4, 2, 1, 0] rfl)
    · have hF := kf hc44 hF
      refine lv_aload_n hx hb (kd tdlX6_cut_0 27 rfl) rfl (lv_at hl 2 rfl) ?_
      refine lv_iload_n hx hb (kd tdlX6_cut_0 28 rfl) rfl (lv_at hl 1 rfl) ?_
      obtain ⟨v49, e49, hF⟩ := kc hF
      refine kc_v0 (w1 := ((wsmF t h0 a0 (sm_worths v49) (sm_codes v49) (sm_letters v49) (sm_chunks v49)))) hP hD hS hA (kr_V0 (Qx := (fun A => kQv D (TY t) ((wsmF t h0 a0 (sm_worths v49) (sm_codes v49) (sm_letters v49) (sm_chunks v49))) A)) (As := [.int v29]) (rest := []) ⟨hx, hb, hml, hown, hts⟩ hK hP hD (c_X6_close l D t h0 a0 s12_.2.2.2 _ v29 v49 e49) (cwV 1 hts (gcX6_close w_503) rfl rfl rfl hdX6_closeV ⟨Nat.le_of_ble_eq_true rfl, Nat.le_of_ble_eq_true rfl⟩) (ci := 5) (q0 := 0) rfl rfl rfl hl.1 rfl (Nat.le_of_ble_eq_true rfl) (kd tdlX6_cut_0 29 rfl) ⟨Nat.zero_le _, Nat.zero_le _⟩) (fun H locs hP hD hS => ?_)
      refine lv_iconst (v := 1) hx hb (kd tdlX6_cut_0 30 rfl) (by decide) ?_
      refine lv_istore_n (lv' := [(2, .int 1), (3, .int (s12_.2.1 + 1)), (0, .ref h0), (1, .int p1), (4, .int s12_.2.2.1)]) hx hb (kd tdlX6_cut_0 31 rfl) rfl hl (by decide) rfl (fun ls hl => ?_)
      refine lv_iconst (v := 0) hx hb (kd tdlX6_cut_0 32 rfl) (by decide) ?_
      refine lv_istore_n (lv' := [(3, .int 0), (2, .int 1), (0, .ref h0), (1, .int p1), (4, .int s12_.2.2.1)]) hx hb (kd tdlX6_cut_0 33 rfl) rfl hl (by decide) rfl (fun ls hl => ?_)
      refine lv_iinc (v := (s12_.2.2.1 + 1)) (lv' := [(4, .int (s12_.2.2.1 + 1)), (3, .int 0), (2, .int 1), (0, .ref h0), (1, .int p1)]) hx hb (kd tdlX6_cut_0 34 rfl) hl (k := 4) rfl rfl (by decide) rfl (fun ls hl => ?_)
      refine lv_goto (tgt := 12) hx hb (kd tdlX6_cut_0 35 rfl) (by decide) ?_
      exact ih12 (1, 0, (s12_.2.2.1 + 1), v49) hF _ _ _ hP hD hS (lv_sub hl [3, 4, 2, 1, 0] rfl)
set_option maxHeartbeats 4000000 in
set_option maxRecDepth 100000 in
theorem c_X7_isFull (l : Launch) (D : va_G) (t : Nat → ClassId) (h0 : Nat) (a0 : Nat → Nat) (d0 : TXT) (sz : Nat)  (r : Int32) (hF : F_X7_isFull d0 = some r) : Met l yX7_isFull wX7_isFull ({ frames := 0, cells := 0, slots := 0, locals := 0 } : Room) (kPc D (TY t) ((wtx t h0 a0 d0)) [.ref h0] sz) (kQi D (TY t) ((wtx t h0 a0 d0)) r (va_A ((wtx t h0 a0 d0)) sz)) 0 0 (va_A ((wtx t h0 a0 d0)) sz) := by
  refine kE (cc := cX7_isFull) (maxL := 1) (ret := (some .boolean)) (Qx := fun A => kQi D (TY t) ((wtx t h0 a0 d0)) r A) (lv0 := [(0, .ref h0)]) RX7 rfl (by decide) rfl (Nat.le_of_ble_eq_true rfl) rfl ?_
  intro p e s m args below meth c A ls hx hb hml hr hlocks hown hts hA hK hP hD hS hl
  have L15 := hts (.fieldLink RX7 15 "ChunkCarriers$Text" "length" "I") (List.mem_cons_of_mem _ w_449)
  have L9 := hts (.fieldLink RX7 9 "ChunkCarriers$Text" "signs" "[C") (List.mem_cons_of_mem _ w_45)
  have inX7_ : ∀ w ∈ wsX70, w ∈ wX7_isFull := fun w h => List.mem_cons_of_mem _ (inlX7 w h)
  have hP : va_P D vwCl ((wtxF t h0 a0 (tx_signs d0) (tx_length d0))) s.heap := hP
  have hD : va_D A ((wtxF t h0 a0 (tx_signs d0) (tx_length d0))) := hD
  refine lv_aload_n hx hb (kd tdlX7_isFull_0 0 rfl) rfl (lv_at hl 0 rfl) ?_
  refine tx_g_length hx hb hts inX7_ hown hK hP L15 (kd tdlX7_isFull_0 1 rfl) ?_
  refine lv_aload_n hx hb (kd tdlX7_isFull_0 2 rfl) rfl (lv_at hl 0 rfl) ?_
  refine tx_g_signs hx hb hts inX7_ hown hK hP L9 (kd tdlX7_isFull_0 3 rfl) ?_
  refine va_alen (v := 120) (D := D) (tys := TY t) hx hb hK hP 1 1 rfl rfl rfl (kd tdlX7_isFull_0 4 rfl) ?_
  refine lv_icmp_lt (tgt := 16) hx hb (kd tdlX7_isFull_0 5 rfl) (by decide) (fun hc9 => ?_) (fun hc9 => ?_)
  · have hF := kt hc9 hF
    refine lv_iconst (v := 0) hx hb (kd tdlX7_isFull_0 8 rfl) (by decide) ?_
    cases ko hF
    exact ke_z hx hb hr hlocks rfl hK hP hD hS rfl (kd tdlX7_isFull_0 9 rfl)
  · have hF := kf hc9 hF
    refine lv_iconst (v := 1) hx hb (kd tdlX7_isFull_0 6 rfl) (by decide) ?_
    refine lv_goto (tgt := 17) hx hb (kd tdlX7_isFull_0 7 rfl) (by decide) ?_
    cases ko hF
    exact ke_z hx hb hr hlocks rfl hK hP hD hS rfl (kd tdlX7_isFull_0 9 rfl)
set_option maxHeartbeats 4000000 in
set_option maxRecDepth 100000 in
theorem c_X7_add (l : Launch) (D : va_G) (t : Nat → ClassId) (h0 : Nat) (a0 : Nat → Nat) (d0 : TXT) (sz : Nat) (p1 : Int32) (r : TXT) (hF : F_X7_add d0 p1 = some r) : Met l yX7_add wX7_add ({ frames := 1, cells := 0, slots := 0, locals := 20 } : Room) (kPc D (TY t) ((wtx t h0 a0 d0)) [.ref h0, .int p1] sz) (kQv D (TY t) ((wtx t h0 a0 r)) (va_A ((wtx t h0 a0 d0)) sz)) 0 0 (va_A ((wtx t h0 a0 d0)) sz) := by
  refine kE (cc := cX7_add) (maxL := 2) (ret := none) (Qx := fun A => kQv D (TY t) ((wtx t h0 a0 r)) A) (lv0 := [(0, .ref h0), (1, .int p1)]) RX7 rfl (by decide) rfl (Nat.le_of_ble_eq_true rfl) rfl ?_
  intro p e s m args below meth c A ls hx hb hml hr hlocks hown hts hA hK hP hD hS hl
  have L15 := hts (.fieldLink RX7 15 "ChunkCarriers$Text" "length" "I") (List.mem_cons_of_mem _ w_449)
  have L9 := hts (.fieldLink RX7 9 "ChunkCarriers$Text" "signs" "[C") (List.mem_cons_of_mem _ w_45)
  have inX7_ : ∀ w ∈ wsX70, w ∈ wX7_add := fun w h => List.mem_cons_of_mem _ (inlX7 w h)
  have hP : va_P D vwCl ((wtxF t h0 a0 (tx_signs d0) (tx_length d0))) s.heap := hP
  have hD : va_D A ((wtxF t h0 a0 (tx_signs d0) (tx_length d0))) := hD
  refine lv_aload_n hx hb (kd tdlX7_add_0 0 rfl) rfl (lv_at hl 0 rfl) ?_
  obtain ⟨v1, e1, hF⟩ := kc hF
  refine kc_i0 (w1 := ((wtxF t h0 a0 (tx_signs d0) (tx_length d0)))) hP hD hS hA (kr_V0 (Qx := (fun A => kQi D (TY t) ((wtxF t h0 a0 (tx_signs d0) (tx_length d0))) v1 A)) (As := []) (rest := []) ⟨hx, hb, hml, hown, hts⟩ hK hP hD (c_X7_isFull l D t h0 a0 d0 _  v1 e1) (cwV 0 hts (gcX7_isFull w_454) rfl rfl rfl hdX7_isFullV ⟨Nat.le_of_ble_eq_true rfl, Nat.le_of_ble_eq_true rfl⟩) (ci := 6) (q0 := 0) rfl rfl rfl hl.1 rfl (Nat.le_of_ble_eq_true rfl) (kd tdlX7_add_0 1 rfl) ⟨Nat.zero_le _, Nat.zero_le _⟩) (fun H locs hP hD hS => ?_)
  refine lv_if_eq (tgt := 8) hx hb (kd tdlX7_add_0 2 rfl) (by decide) (fun hc4 => ?_) (fun hc4 => ?_)
  · have hF := kt hc4 hF
    refine lv_aload_n hx hb (kd tdlX7_add_0 4 rfl) rfl (lv_at hl 0 rfl) ?_
    refine tx_g_signs hx hb hts inX7_ hown hK hP L9 (kd tdlX7_add_0 5 rfl) ?_
    refine lv_aload_n hx hb (kd tdlX7_add_0 6 rfl) rfl (lv_at hl 0 rfl) ?_
    refine tx_g_length hx hb hts inX7_ hown hK hP L15 (kd tdlX7_add_0 7 rfl) ?_
    refine lv_iload_n hx hb (kd tdlX7_add_0 8 rfl) rfl (lv_at hl 1 rfl) ?_
    refine lv_i2c hx hb (kd tdlX7_add_0 9 rfl) rfl ?_
    obtain ⟨hi18, hF⟩ := kg hF
    refine tx_s_signs hx hb hK hP hD hS hi18 (kd tdlX7_add_0 10 rfl) (fun H locs hP hD hS => ?_)
    refine lv_aload_n hx hb (kd tdlX7_add_0 11 rfl) rfl (lv_at hl 0 rfl) ?_
    refine lv_dup hx hb (kd tdlX7_add_0 12 rfl) rfl ?_
    refine tx_g_length hx hb hts inX7_ hown hK hP L15 (kd tdlX7_add_0 13 rfl) ?_
    refine lv_iconst (v := 1) hx hb (kd tdlX7_add_0 14 rfl) (by decide) ?_
    refine lv_iadd hx hb (kd tdlX7_add_0 15 rfl) ?_
    refine tx_p_length hx hb hts inX7_ hown hK hP hD hS L15 (kd tdlX7_add_0 16 rfl) (fun H locs hP hD hS => ?_)
    cases ko hF
    exact ke_v hx hb hr hlocks hK hP hD hS (kd tdlX7_add_0 17 rfl)
  · have hF := kf hc4 hF
    cases ko hF
    exact ke_v hx hb hr hlocks hK hP hD hS (kd tdlX7_add_0 3 rfl)
set_option maxHeartbeats 4000000 in
set_option maxRecDepth 100000 in
theorem c_X7_isLetter (l : Launch) (D : va_G) (t : Nat → ClassId)  (sz : Nat) (p0 : Int32) (r : Int32) (hF : F_X7_isLetter p0 = some r) : Met l yX7_isLetter wX7_isLetter ({ frames := 0, cells := 0, slots := 0, locals := 0 } : Room) (kPc D (TY t) ([] : va_W) [.int p0] sz) (kQi D (TY t) ([] : va_W) r (va_A ([] : va_W) sz)) 0 0 (va_A ([] : va_W) sz) := by
  refine kE (cc := cX7_isLetter) (maxL := 1) (ret := (some .boolean)) (Qx := fun A => kQi D (TY t) ([] : va_W) r A) (lv0 := [(0, .int p0)]) RX7 rfl (by decide) rfl (Nat.le_of_ble_eq_true rfl) rfl ?_
  intro p e s m args below meth c A ls hx hb hml hr hlocks hown hts hA hK hP hD hS hl
  have hP : va_P D vwCl (([] : va_W)) s.heap := hP
  have hD : va_D A (([] : va_W)) := hD
  refine lv_iload_n hx hb (kd tdlX7_isLetter_0 0 rfl) rfl (lv_at hl 0 rfl) ?_
  refine lv_bipush (v := 97) hx hb (kd tdlX7_isLetter_0 1 rfl) (by decide) ?_
  refine lv_icmp_lt (tgt := 16) hx hb (kd tdlX7_isLetter_0 2 rfl) (by decide) (fun hc3 => ?_) (fun hc3 => ?_)
  · have hF := kt hc3 hF
    refine lv_iconst (v := 0) hx hb (kd tdlX7_isLetter_0 8 rfl) (by decide) ?_
    cases ko hF
    exact ke_z hx hb hr hlocks rfl hK hP hD hS rfl (kd tdlX7_isLetter_0 9 rfl)
  · have hF := kf hc3 hF
    refine lv_iload_n hx hb (kd tdlX7_isLetter_0 3 rfl) rfl (lv_at hl 0 rfl) ?_
    refine lv_bipush (v := 104) hx hb (kd tdlX7_isLetter_0 4 rfl) (by decide) ?_
    refine lv_icmp_gt (tgt := 16) hx hb (kd tdlX7_isLetter_0 5 rfl) (by decide) (fun hc9 => ?_) (fun hc9 => ?_)
    · have hF := kt hc9 hF
      refine lv_iconst (v := 0) hx hb (kd tdlX7_isLetter_0 8 rfl) (by decide) ?_
      cases ko hF
      exact ke_z hx hb hr hlocks rfl hK hP hD hS rfl (kd tdlX7_isLetter_0 9 rfl)
    · have hF := kf hc9 hF
      refine lv_iconst (v := 1) hx hb (kd tdlX7_isLetter_0 6 rfl) (by decide) ?_
      refine lv_goto (tgt := 17) hx hb (kd tdlX7_isLetter_0 7 rfl) (by decide) ?_
      cases ko hF
      exact ke_z hx hb hr hlocks rfl hK hP hD hS rfl (kd tdlX7_isLetter_0 9 rfl)
set_option maxHeartbeats 4000000 in
set_option maxRecDepth 100000 in
theorem c_X7_firstError (l : Launch) (D : va_G) (t : Nat → ClassId) (h0 : Nat) (a0 : Nat → Nat) (d0 : TXT) (sz : Nat)  (r : Int32) (hF : F_X7_firstError d0 = some r) : Met l yX7_firstError wX7_firstError ({ frames := 1, cells := 0, slots := 0, locals := 20 } : Room) (kPc D (TY t) ((wtx t h0 a0 d0)) [.ref h0] sz) (kQi D (TY t) ((wtx t h0 a0 d0)) r (va_A ((wtx t h0 a0 d0)) sz)) 0 0 (va_A ((wtx t h0 a0 d0)) sz) := by
  refine kE (cc := cX7_firstError) (maxL := 4) (ret := (some .int)) (Qx := fun A => kQi D (TY t) ((wtx t h0 a0 d0)) r A) (lv0 := [(0, .ref h0)]) RX7 rfl (by decide) rfl (Nat.le_of_ble_eq_true rfl) rfl ?_
  intro p e s m args below meth c A ls hx hb hml hr hlocks hown hts hA hK hP hD hS hl
  have L15 := hts (.fieldLink RX7 15 "ChunkCarriers$Text" "length" "I") (List.mem_cons_of_mem _ w_449)
  have L9 := hts (.fieldLink RX7 9 "ChunkCarriers$Text" "signs" "[C") (List.mem_cons_of_mem _ w_45)
  have inX7_ : ∀ w ∈ wsX70, w ∈ wX7_firstError := fun w h => List.mem_cons_of_mem _ (inlX7 w h)
  have hP : va_P D vwCl ((wtxF t h0 a0 (tx_signs d0) (tx_length d0))) s.heap := hP
  have hD : va_D A ((wtxF t h0 a0 (tx_signs d0) (tx_length d0))) := hD
  refine lv_iconst (v := 1) hx hb (kd tdlX7_firstError_0 0 rfl) (by decide) ?_
  refine lv_istore_n (lv' := [(1, .int 1), (0, .ref h0)]) hx hb (kd tdlX7_firstError_0 1 rfl) rfl hl (by decide) rfl (fun ls hl => ?_)
  refine lv_iconst (v := 0) hx hb (kd tdlX7_firstError_0 2 rfl) (by decide) ?_
  refine lv_istore_n (lv' := [(2, .int 0), (1, .int 1), (0, .ref h0)]) hx hb (kd tdlX7_firstError_0 3 rfl) rfl hl (by decide) rfl (fun ls hl => ?_)
  refine lv_iconst (v := 0) hx hb (kd tdlX7_firstError_0 4 rfl) (by decide) ?_
  refine lv_istore_n (lv' := [(3, .int 0), (2, .int 0), (1, .int 1), (0, .ref h0)]) hx hb (kd tdlX7_firstError_0 5 rfl) rfl hl (by decide) rfl (fun ls hl => ?_)
  have hK74 : ∀ k74 : Int32, K_X7_firstError_74 d0 k74 = some r → ∀ (H : Heap) (locs : List Loc) (ls : Array Slot), va_P D vwCl ((wtxF t h0 a0 (tx_signs d0) (tx_length d0))) H → va_D A ((wtxF t h0 a0 (tx_signs d0) (tx_length d0))) → va_S A s.heap H locs → lv_has ls 4 [(0, .ref h0), (2, .int k74)] → W p l e ({ frames := 1, cells := 0, slots := 0, locals := 20 } : Room) s m args below meth c H locs 0 0 (MQ below (kQi D (TY t) ((wtx t h0 a0 d0)) r A) args s 0 0 A) (F0 m 74 ls []) := by
    intro k74 hF H locs ls hP hD hS hl
    refine lv_iload_n hx hb (kd tdlX7_firstError_0 40 rfl) rfl (lv_at hl 1 rfl) ?_
    refine lv_if_le (tgt := 82) hx hb (kd tdlX7_firstError_0 41 rfl) (by decide) (fun hc75 => ?_) (fun hc75 => ?_)
    · have hF := kt hc75 hF
      refine lv_aload_n hx hb (kd tdlX7_firstError_0 44 rfl) rfl (lv_at hl 0 rfl) ?_
      refine tx_g_length hx hb hts inX7_ hown hK hP L15 (kd tdlX7_firstError_1 0 rfl) ?_
      cases ko hF
      exact ke_i hx hb hr hlocks hK hP hD hS rfl (kd tdlX7_firstError_1 1 rfl)
    · have hF := kf hc75 hF
      refine lv_iconst (v := (-1)) hx hb (kd tdlX7_firstError_0 42 rfl) (by decide) ?_
      refine lv_goto (tgt := 86) hx hb (kd tdlX7_firstError_0 43 rfl) (by decide) ?_
      cases ko hF
      exact ke_i hx hb hr hlocks hK hP hD hS rfl (kd tdlX7_firstError_1 1 rfl)
  refine lp_ind (f := B_X7_firstError_6 d0 (K_X7_firstError_74 d0)) (r := r) (P := fun s6_ => ∀ (H : Heap) (locs : List Loc) (ls : Array Slot), va_P D vwCl ((wtxF t h0 a0 (tx_signs d0) (tx_length d0))) H → va_D A ((wtxF t h0 a0 (tx_signs d0) (tx_length d0))) → va_S A s.heap H locs → lv_has ls 4 [(0, .ref h0), (1, .int s6_.1), (2, .int s6_.2.1), (3, .int s6_.2.2)] → W p l e ({ frames := 1, cells := 0, slots := 0, locals := 20 } : Room) s m args below meth c H locs 0 0 (MQ below (kQi D (TY t) ((wtx t h0 a0 d0)) r A) args s 0 0 A) (F0 m 6 ls [])) ?_ FU (1, 0, 0) hF _ _ _ hP hD hS (lv_sub hl [3, 2, 1, 0] rfl)
  intro self6 ih6 s6_ hF H locs ls hP hD hS hl
  refine lv_iload_n hx hb (kd tdlX7_firstError_0 6 rfl) rfl (lv_at hl 3 rfl) ?_
  refine lv_aload_n hx hb (kd tdlX7_firstError_0 7 rfl) rfl (lv_at hl 0 rfl) ?_
  refine tx_g_length hx hb hts inX7_ hown hK hP L15 (kd tdlX7_firstError_0 8 rfl) ?_
  refine lv_icmp_ge (tgt := 74) hx hb (kd tdlX7_firstError_0 9 rfl) (by decide) (fun hc11 => ?_) (fun hc11 => ?_)
  · have hF := kt hc11 hF
    exact hK74 (s6_.2.1) hF _ _ _ hP hD hS (lv_sub hl [0, 2] rfl)
  · have hF := kf hc11 hF
    refine lv_aload_n hx hb (kd tdlX7_firstError_0 10 rfl) rfl (lv_at hl 0 rfl) ?_
    refine tx_g_signs hx hb hts inX7_ hown hK hP L9 (kd tdlX7_firstError_0 11 rfl) ?_
    refine lv_iload_n hx hb (kd tdlX7_firstError_0 12 rfl) rfl (lv_at hl 3 rfl) ?_
    obtain ⟨hi19, hF⟩ := kg hF
    refine tx_l_signs hx hb hK hP hi19 (kd tdlX7_firstError_0 13 rfl) ?_
    obtain ⟨v20, e20, hF⟩ := kc hF
    refine kc_iR hK hP hD hS hA [] rfl (kr_S (Qx := (fun A => kQi D (TY t) ([] : va_W) v20 A)) (wc := ([] : va_W)) (As := [.int ((tx_signs d0) (Int32.toNatClampNeg s6_.2.2))]) (rest := []) ⟨hx, hb, hml, hown, hts⟩ hK hP hD [] nd_ rfl (c_X7_isLetter l D t  _ ((tx_signs d0) (Int32.toNatClampNeg s6_.2.2)) v20 e20) (va_cwS 1 hts (gcX7_isLetter w_471) rfl rfl rfl hdX7_isLetterS ⟨Nat.le_of_ble_eq_true rfl, Nat.le_of_ble_eq_true rfl⟩) rfl hl.1 rfl (Nat.le_of_ble_eq_true rfl) (kd tdlX7_firstError_0 14 rfl) ⟨Nat.zero_le _, Nat.zero_le _⟩) (fun H locs hP hS => ?_)
    have hJ38 : ∀ j38 : Unit, J_X7_firstError_38 s6_ d0 self6 j38 = some r → ∀ (H : Heap) (locs : List Loc) (ls : Array Slot), va_P D vwCl ((wtxF t h0 a0 (tx_signs d0) (tx_length d0))) H → va_D A ((wtxF t h0 a0 (tx_signs d0) (tx_length d0))) → va_S A s.heap H locs → lv_has ls 4 [(0, .ref h0), (1, .int s6_.1), (2, .int s6_.2.1), (3, .int s6_.2.2)] → W p l e ({ frames := 1, cells := 0, slots := 0, locals := 20 } : Room) s m args below meth c H locs 0 0 (MQ below (kQi D (TY t) ((wtx t h0 a0 d0)) r A) args s 0 0 A) (F0 m 38 ls []) := by
      intro j38 hF H locs ls hP hD hS hl
      refine lv_aload_n hx hb (kd tdlX7_firstError_0 21 rfl) rfl (lv_at hl 0 rfl) ?_
      refine tx_g_signs hx hb hts inX7_ hown hK hP L9 (kd tdlX7_firstError_0 22 rfl) ?_
      refine lv_iload_n hx hb (kd tdlX7_firstError_0 23 rfl) rfl (lv_at hl 3 rfl) ?_
      obtain ⟨hi43, hF⟩ := kg hF
      refine tx_l_signs hx hb hK hP hi43 (kd tdlX7_firstError_0 24 rfl) ?_
      refine lv_bipush (v := 44) hx hb (kd tdlX7_firstError_0 25 rfl) (by decide) ?_
      refine lv_icmp_ne (tgt := 66) hx hb (kd tdlX7_firstError_0 26 rfl) (by decide) (fun hc46 => ?_) (fun hc46 => ?_)
      · have hF := kf hc46 hF
        refine lv_iload_n hx hb (kd tdlX7_firstError_0 36 rfl) rfl (lv_at hl 3 rfl) ?_
        cases ko hF
        exact ke_i hx hb hr hlocks hK hP hD hS rfl (kd tdlX7_firstError_0 37 rfl)
      · have hF := kt hc46 hF
        refine lv_iload_n hx hb (kd tdlX7_firstError_0 27 rfl) rfl (lv_at hl 2 rfl) ?_
        refine lv_if_le (tgt := 66) hx hb (kd tdlX7_firstError_0 28 rfl) (by decide) (fun hc50 => ?_) (fun hc50 => ?_)
        · have hF := kt hc50 hF
          refine lv_iload_n hx hb (kd tdlX7_firstError_0 36 rfl) rfl (lv_at hl 3 rfl) ?_
          cases ko hF
          exact ke_i hx hb hr hlocks hK hP hD hS rfl (kd tdlX7_firstError_0 37 rfl)
        · have hF := kf hc50 hF
          refine lv_iload_n hx hb (kd tdlX7_firstError_0 29 rfl) rfl (lv_at hl 1 rfl) ?_
          refine lv_iconst (v := 4) hx hb (kd tdlX7_firstError_0 30 rfl) (by decide) ?_
          refine lv_icmp_ge (tgt := 66) hx hb (kd tdlX7_firstError_0 31 rfl) (by decide) (fun hc55 => ?_) (fun hc55 => ?_)
          · have hF := kt hc55 hF
            refine lv_iload_n hx hb (kd tdlX7_firstError_0 36 rfl) rfl (lv_at hl 3 rfl) ?_
            cases ko hF
            exact ke_i hx hb hr hlocks hK hP hD hS rfl (kd tdlX7_firstError_0 37 rfl)
          · have hF := kf hc55 hF
            refine lv_iinc (v := (s6_.1 + 1)) (lv' := [(1, .int (s6_.1 + 1)), (0, .ref h0), (2, .int s6_.2.1), (3, .int s6_.2.2)]) hx hb (kd tdlX7_firstError_0 32 rfl) hl (k := 1) rfl rfl (by decide) rfl (fun ls hl => ?_)
            refine lv_iconst (v := 0) hx hb (kd tdlX7_firstError_0 33 rfl) (by decide) ?_
            refine lv_istore_n (lv' := [(2, .int 0), (1, .int (s6_.1 + 1)), (0, .ref h0), (3, .int s6_.2.2)]) hx hb (kd tdlX7_firstError_0 34 rfl) rfl hl (by decide) rfl (fun ls hl => ?_)
            refine lv_goto (tgt := 68) hx hb (kd tdlX7_firstError_0 35 rfl) (by decide) ?_
            refine lv_iinc (v := (s6_.2.2 + 1)) (lv' := [(3, .int (s6_.2.2 + 1)), (2, .int 0), (1, .int (s6_.1 + 1)), (0, .ref h0)]) hx hb (kd tdlX7_firstError_0 38 rfl) hl (k := 3) rfl rfl (by decide) rfl (fun ls hl => ?_)
            refine lv_goto (tgt := 6) hx hb (kd tdlX7_firstError_0 39 rfl) (by decide) ?_
            exact ih6 ((s6_.1 + 1), 0, (s6_.2.2 + 1)) hF _ _ _ hP hD hS (lv_sub hl [3, 2, 1, 0] rfl)
    refine lv_if_eq (tgt := 38) hx hb (kd tdlX7_firstError_0 15 rfl) (by decide) (fun hc23 => ?_) (fun hc23 => ?_)
    · have hF := kt hc23 hF
      exact hJ38 () hF _ _ _ hP hD hS (lv_sub hl [0, 1, 2, 3] rfl)
    · have hF := kf hc23 hF
      refine lv_iload_n hx hb (kd tdlX7_firstError_0 16 rfl) rfl (lv_at hl 2 rfl) ?_
      refine lv_bipush (v := 30) hx hb (kd tdlX7_firstError_0 17 rfl) (by decide) ?_
      refine lv_icmp_ge (tgt := 38) hx hb (kd tdlX7_firstError_0 18 rfl) (by decide) (fun hc29 => ?_) (fun hc29 => ?_)
      · have hF := kt hc29 hF
        exact hJ38 () hF _ _ _ hP hD hS (lv_sub hl [0, 1, 2, 3] rfl)
      · have hF := kf hc29 hF
        refine lv_iinc (v := (s6_.2.1 + 1)) (lv' := [(2, .int (s6_.2.1 + 1)), (0, .ref h0), (1, .int s6_.1), (3, .int s6_.2.2)]) hx hb (kd tdlX7_firstError_0 19 rfl) hl (k := 2) rfl rfl (by decide) rfl (fun ls hl => ?_)
        refine lv_goto (tgt := 68) hx hb (kd tdlX7_firstError_0 20 rfl) (by decide) ?_
        refine lv_iinc (v := (s6_.2.2 + 1)) (lv' := [(3, .int (s6_.2.2 + 1)), (2, .int (s6_.2.1 + 1)), (0, .ref h0), (1, .int s6_.1)]) hx hb (kd tdlX7_firstError_0 38 rfl) hl (k := 3) rfl rfl (by decide) rfl (fun ls hl => ?_)
        refine lv_goto (tgt := 6) hx hb (kd tdlX7_firstError_0 39 rfl) (by decide) ?_
        exact ih6 (s6_.1, (s6_.2.1 + 1), (s6_.2.2 + 1)) hF _ _ _ hP hD hS (lv_sub hl [2, 3, 1, 0] rfl)
set_option maxHeartbeats 4000000 in
set_option maxRecDepth 100000 in
theorem c_X7_startOf (l : Launch) (D : va_G) (t : Nat → ClassId) (h0 : Nat) (a0 : Nat → Nat) (d0 : TXT) (sz : Nat) (p1 : Int32) (r : Int32) (hF : F_X7_startOf d0 p1 = some r) : Met l yX7_startOf wX7_startOf ({ frames := 0, cells := 0, slots := 0, locals := 0 } : Room) (kPc D (TY t) ((wtx t h0 a0 d0)) [.ref h0, .int p1] sz) (kQi D (TY t) ((wtx t h0 a0 d0)) r (va_A ((wtx t h0 a0 d0)) sz)) 0 0 (va_A ((wtx t h0 a0 d0)) sz) := by
  refine kE (cc := cX7_startOf) (maxL := 4) (ret := (some .int)) (Qx := fun A => kQi D (TY t) ((wtx t h0 a0 d0)) r A) (lv0 := [(0, .ref h0), (1, .int p1)]) RX7 rfl (by decide) rfl (Nat.le_of_ble_eq_true rfl) rfl ?_
  intro p e s m args below meth c A ls hx hb hml hr hlocks hown hts hA hK hP hD hS hl
  have L15 := hts (.fieldLink RX7 15 "ChunkCarriers$Text" "length" "I") (List.mem_cons_of_mem _ w_449)
  have L9 := hts (.fieldLink RX7 9 "ChunkCarriers$Text" "signs" "[C") (List.mem_cons_of_mem _ w_45)
  have inX7_ : ∀ w ∈ wsX70, w ∈ wX7_startOf := fun w h => List.mem_cons_of_mem _ (inlX7 w h)
  have hP : va_P D vwCl ((wtxF t h0 a0 (tx_signs d0) (tx_length d0))) s.heap := hP
  have hD : va_D A ((wtxF t h0 a0 (tx_signs d0) (tx_length d0))) := hD
  refine lv_iload_n hx hb (kd tdlX7_startOf_0 0 rfl) rfl (lv_at hl 1 rfl) ?_
  refine lv_if_ne (tgt := 6) hx hb (kd tdlX7_startOf_0 1 rfl) (by decide) (fun hc1 => ?_) (fun hc1 => ?_)
  · have hF := kf hc1 hF
    refine lv_iconst (v := 0) hx hb (kd tdlX7_startOf_0 4 rfl) (by decide) ?_
    refine lv_istore_n (lv' := [(2, .int 0), (0, .ref h0), (1, .int p1)]) hx hb (kd tdlX7_startOf_0 5 rfl) rfl hl (by decide) rfl (fun ls hl => ?_)
    refine lv_iconst (v := 0) hx hb (kd tdlX7_startOf_0 6 rfl) (by decide) ?_
    refine lv_istore_n (lv' := [(3, .int 0), (2, .int 0), (0, .ref h0), (1, .int p1)]) hx hb (kd tdlX7_startOf_0 7 rfl) rfl hl (by decide) rfl (fun ls hl => ?_)
    refine lp_ind (f := B_X7_startOf_10 d0 p1) (r := r) (P := fun s10_ => ∀ (H : Heap) (locs : List Loc) (ls : Array Slot), va_P D vwCl ((wtxF t h0 a0 (tx_signs d0) (tx_length d0))) H → va_D A ((wtxF t h0 a0 (tx_signs d0) (tx_length d0))) → va_S A s.heap H locs → lv_has ls 4 [(0, .ref h0), (1, .int p1), (2, .int s10_.1), (3, .int s10_.2)] → W p l e ({ frames := 0, cells := 0, slots := 0, locals := 0 } : Room) s m args below meth c H locs 0 0 (MQ below (kQi D (TY t) ((wtx t h0 a0 d0)) r A) args s 0 0 A) (F0 m 10 ls [])) ?_ FU (0, 0) hF _ _ _ hP hD hS (lv_sub hl [2, 3, 1, 0] rfl)
    intro self10 ih10 s10_ hF H locs ls hP hD hS hl
    refine lv_iload_n hx hb (kd tdlX7_startOf_0 8 rfl) rfl (lv_at hl 3 rfl) ?_
    refine lv_aload_n hx hb (kd tdlX7_startOf_0 9 rfl) rfl (lv_at hl 0 rfl) ?_
    refine tx_g_length hx hb hts inX7_ hown hK hP L15 (kd tdlX7_startOf_0 10 rfl) ?_
    refine lv_icmp_ge (tgt := 47) hx hb (kd tdlX7_startOf_0 11 rfl) (by decide) (fun hc15 => ?_) (fun hc15 => ?_)
    · have hF := kt hc15 hF
      refine lv_iconst (v := (-1)) hx hb (kd tdlX7_startOf_0 28 rfl) (by decide) ?_
      cases ko hF
      exact ke_i hx hb hr hlocks hK hP hD hS rfl (kd tdlX7_startOf_0 29 rfl)
    · have hF := kf hc15 hF
      refine lv_aload_n hx hb (kd tdlX7_startOf_0 12 rfl) rfl (lv_at hl 0 rfl) ?_
      refine tx_g_signs hx hb hts inX7_ hown hK hP L9 (kd tdlX7_startOf_0 13 rfl) ?_
      refine lv_iload_n hx hb (kd tdlX7_startOf_0 14 rfl) rfl (lv_at hl 3 rfl) ?_
      obtain ⟨hi23, hF⟩ := kg hF
      refine tx_l_signs hx hb hK hP hi23 (kd tdlX7_startOf_0 15 rfl) ?_
      refine lv_bipush (v := 44) hx hb (kd tdlX7_startOf_0 16 rfl) (by decide) ?_
      have hJ32 : ∀ j32 : Int32, J_X7_startOf_32 p1 s10_ self10 j32 = some r → ∀ (H : Heap) (locs : List Loc) (ls : Array Slot), va_P D vwCl ((wtxF t h0 a0 (tx_signs d0) (tx_length d0))) H → va_D A ((wtxF t h0 a0 (tx_signs d0) (tx_length d0))) → va_S A s.heap H locs → lv_has ls 4 [(0, .ref h0), (1, .int p1), (2, .int j32), (3, .int s10_.2)] → W p l e ({ frames := 0, cells := 0, slots := 0, locals := 0 } : Room) s m args below meth c H locs 0 0 (MQ below (kQi D (TY t) ((wtx t h0 a0 d0)) r A) args s 0 0 A) (F0 m 32 ls []) := by
        intro j32 hF H locs ls hP hD hS hl
        refine lv_iload_n hx hb (kd tdlX7_startOf_0 19 rfl) rfl (lv_at hl 2 rfl) ?_
        refine lv_iload_n hx hb (kd tdlX7_startOf_0 20 rfl) rfl (lv_at hl 1 rfl) ?_
        refine lv_icmp_ne (tgt := 41) hx hb (kd tdlX7_startOf_0 21 rfl) (by decide) (fun hc34 => ?_) (fun hc34 => ?_)
        · have hF := kf hc34 hF
          refine lv_iinc (v := (s10_.2 + 1)) (lv' := [(3, .int (s10_.2 + 1)), (0, .ref h0), (1, .int p1), (2, .int j32)]) hx hb (kd tdlX7_startOf_0 26 rfl) hl (k := 3) rfl rfl (by decide) rfl (fun ls hl => ?_)
          refine lv_goto (tgt := 10) hx hb (kd tdlX7_startOf_0 27 rfl) (by decide) ?_
          exact ih10 (j32, (s10_.2 + 1)) hF _ _ _ hP hD hS (lv_sub hl [1, 2, 3, 0] rfl)
        · have hF := kt hc34 hF
          refine lv_iload_n hx hb (kd tdlX7_startOf_0 22 rfl) rfl (lv_at hl 3 rfl) ?_
          refine lv_iconst (v := 1) hx hb (kd tdlX7_startOf_0 23 rfl) (by decide) ?_
          refine lv_iadd hx hb (kd tdlX7_startOf_0 24 rfl) ?_
          cases ko hF
          exact ke_i hx hb hr hlocks hK hP hD hS rfl (kd tdlX7_startOf_0 25 rfl)
      refine lv_icmp_ne (tgt := 32) hx hb (kd tdlX7_startOf_0 17 rfl) (by decide) (fun hc26 => ?_) (fun hc26 => ?_)
      · have hF := kf hc26 hF
        exact hJ32 (s10_.1) hF _ _ _ hP hD hS (lv_sub hl [0, 1, 2, 3] rfl)
      · have hF := kt hc26 hF
        refine lv_iinc (v := (s10_.1 + 1)) (lv' := [(2, .int (s10_.1 + 1)), (0, .ref h0), (1, .int p1), (3, .int s10_.2)]) hx hb (kd tdlX7_startOf_0 18 rfl) hl (k := 2) rfl rfl (by decide) rfl (fun ls hl => ?_)
        exact hJ32 ((s10_.1 + 1)) hF _ _ _ hP hD hS (lv_sub hl [1, 2, 0, 3] rfl)
  · have hF := kt hc1 hF
    refine lv_iconst (v := 0) hx hb (kd tdlX7_startOf_0 2 rfl) (by decide) ?_
    cases ko hF
    exact ke_i hx hb hr hlocks hK hP hD hS rfl (kd tdlX7_startOf_0 3 rfl)
set_option maxHeartbeats 4000000 in
set_option maxRecDepth 100000 in
theorem c_X7_readStream (l : Launch) (D : va_G) (t : Nat → ClassId) (h0 : Nat) (a0 : Nat → Nat) (d0 : TXT) (h2 : Nat) (a2 : Nat → Nat) (d2 : SMT) (sz : Nat) (p1 : Int32) (r : Int32 × SMT) (hF : F_X7_readStream d0 d2 p1 = some r) : Met l yX7_readStream wX7_readStream ({ frames := 2, cells := 0, slots := 0, locals := 43 } : Room) (kPc D (TY t) ((wtx t h0 a0 d0) ++ (wsm t h2 a2 d2)) [.ref h0, .int p1, .ref h2] sz) (kQi D (TY t) ((wtx t h0 a0 d0) ++ (wsm t h2 a2 r.2)) r.1 (va_A ((wtx t h0 a0 d0) ++ (wsm t h2 a2 d2)) sz)) 0 0 (va_A ((wtx t h0 a0 d0) ++ (wsm t h2 a2 d2)) sz) := by
  refine kE (cc := cX7_readStream) (maxL := 5) (ret := (some .boolean)) (Qx := fun A => kQi D (TY t) ((wtx t h0 a0 d0) ++ (wsm t h2 a2 r.2)) r.1 A) (lv0 := [(0, .ref h0), (1, .int p1), (2, .ref h2)]) RX7 rfl (by decide) rfl (Nat.le_of_ble_eq_true rfl) rfl ?_
  intro p e s m args below meth c A ls hx hb hml hr hlocks hown hts hA hK hP hD hS hl
  have L15 := hts (.fieldLink RX7 15 "ChunkCarriers$Text" "length" "I") (List.mem_cons_of_mem _ w_449)
  have L9 := hts (.fieldLink RX7 9 "ChunkCarriers$Text" "signs" "[C") (List.mem_cons_of_mem _ w_45)
  have inX7_ : ∀ w ∈ wsX70, w ∈ wX7_readStream := fun w h => List.mem_cons_of_mem _ (inlX7 w h)
  have hP : va_P D vwCl ((wtxF t h0 a0 (tx_signs d0) (tx_length d0)) ++ (wsmF t h2 a2 (sm_worths d2) (sm_codes d2) (sm_letters d2) (sm_chunks d2))) s.heap := hP
  have hD : va_D A ((wtxF t h0 a0 (tx_signs d0) (tx_length d0)) ++ (wsmF t h2 a2 (sm_worths d2) (sm_codes d2) (sm_letters d2) (sm_chunks d2))) := hD
  refine lv_iload_n hx hb (kd tdlX7_readStream_0 0 rfl) rfl (lv_at hl 1 rfl) ?_
  refine lv_if_lt (tgt := 12) hx hb (kd tdlX7_readStream_0 1 rfl) (by decide) (fun hc1 => ?_) (fun hc1 => ?_)
  · have hF := kt hc1 hF
    refine lv_iconst (v := 0) hx hb (kd tdlX7_readStream_0 6 rfl) (by decide) ?_
    cases ko hF
    exact ke_z hx hb hr hlocks rfl hK hP hD hS rfl (kd tdlX7_readStream_0 7 rfl)
  · have hF := kf hc1 hF
    refine lv_aload_n hx hb (kd tdlX7_readStream_0 2 rfl) rfl (lv_at hl 0 rfl) ?_
    obtain ⟨v5, e5, hF⟩ := kc hF
    refine kc_iR hK hP hD hS hA [0, 1] rfl (kr_V (Qx := (fun A => kQi D (TY t) ((wtxF t h0 a0 (tx_signs d0) (tx_length d0))) v5 A)) (wc := ((wtxF t h0 a0 (tx_signs d0) (tx_length d0)))) (As := []) (rest := []) ⟨hx, hb, hml, hown, hts⟩ hK hP hD [0, 1] nd_0_1 rfl (c_X7_firstError l D t h0 a0 d0 _  v5 e5) (cwV 0 hts (gcX7_firstError w_467) rfl rfl rfl hdX7_firstErrorV ⟨Nat.le_of_ble_eq_true rfl, Nat.le_of_ble_eq_true rfl⟩) (ci := 6) (q0 := 0) rfl rfl rfl hl.1 rfl (Nat.le_of_ble_eq_true rfl) (kd tdlX7_readStream_0 3 rfl) ⟨Nat.zero_le _, Nat.zero_le _⟩) (fun H locs hP hS => ?_)
    refine lv_iconst (v := (-1)) hx hb (kd tdlX7_readStream_0 4 rfl) (by decide) ?_
    refine lv_icmp_eq (tgt := 14) hx hb (kd tdlX7_readStream_0 5 rfl) (by decide) (fun hc9 => ?_) (fun hc9 => ?_)
    · have hF := kt hc9 hF
      refine lv_aload_n hx hb (kd tdlX7_readStream_0 8 rfl) rfl (lv_at hl 0 rfl) ?_
      refine lv_iload_n hx hb (kd tdlX7_readStream_0 9 rfl) rfl (lv_at hl 1 rfl) ?_
      obtain ⟨v16, e16, hF⟩ := kc hF
      refine kc_iR hK hP hD hS hA [0, 1] rfl (kr_V (Qx := (fun A => kQi D (TY t) ((wtxF t h0 a0 (tx_signs d0) (tx_length d0))) v16 A)) (wc := ((wtxF t h0 a0 (tx_signs d0) (tx_length d0)))) (As := [.int p1]) (rest := []) ⟨hx, hb, hml, hown, hts⟩ hK hP hD [0, 1] nd_0_1 rfl (c_X7_startOf l D t h0 a0 d0 _ p1 v16 e16) (cwV 1 hts (gcX7_startOf w_474) rfl rfl rfl hdX7_startOfV ⟨Nat.le_of_ble_eq_true rfl, Nat.le_of_ble_eq_true rfl⟩) (ci := 6) (q0 := 0) rfl rfl rfl hl.1 rfl (Nat.le_of_ble_eq_true rfl) (kd tdlX7_readStream_0 10 rfl) ⟨Nat.zero_le _, Nat.zero_le _⟩) (fun H locs hP hS => ?_)
      refine lv_istore_n (lv' := [(3, .int v16), (0, .ref h0), (1, .int p1), (2, .ref h2)]) hx hb (kd tdlX7_readStream_0 11 rfl) rfl hl (by decide) rfl (fun ls hl => ?_)
      refine lv_iload_n hx hb (kd tdlX7_readStream_0 12 rfl) rfl (lv_at hl 0 rfl) ?_
      refine lv_iconst (v := (-1)) hx hb (kd tdlX7_readStream_0 13 rfl) (by decide) ?_
      refine lv_icmp_ne (tgt := 27) hx hb (kd tdlX7_readStream_0 14 rfl) (by decide) (fun hc22 => ?_) (fun hc22 => ?_)
      · have hF := kf hc22 hF
        refine lv_aload_n hx hb (kd tdlX7_readStream_0 17 rfl) rfl (lv_at hl 3 rfl) ?_
        obtain ⟨v28, e28, hF⟩ := kc hF
        refine kc_v (w1 := ((wsmF t h2 a2 (sm_worths v28) (sm_codes v28) (sm_letters v28) (sm_chunks v28)))) (W1 := ((wtxF t h0 a0 (tx_signs d0) (tx_length d0)) ++ (wsmF t h2 a2 (sm_worths v28) (sm_codes v28) (sm_letters v28) (sm_chunks v28)))) hK hP hD hS hA [2, 3, 4] nd_2_3_4 rfl rfl rfl (kr_V (Qx := (fun A => kQv D (TY t) ((wsmF t h2 a2 (sm_worths v28) (sm_codes v28) (sm_letters v28) (sm_chunks v28))) A)) (wc := ((wsmF t h2 a2 (sm_worths d2) (sm_codes d2) (sm_letters d2) (sm_chunks d2)))) (As := []) (rest := []) ⟨hx, hb, hml, hown, hts⟩ hK hP hD [2, 3, 4] nd_2_3_4 rfl (c_X6_begin l D t h2 a2 d2 _  v28 e28) (cwV 0 hts (gcX6_begin w_478) rfl rfl rfl hdX6_beginV ⟨Nat.le_of_ble_eq_true rfl, Nat.le_of_ble_eq_true rfl⟩) (ci := 5) (q0 := 2) rfl rfl rfl hl.1 rfl (Nat.le_of_ble_eq_true rfl) (kd tdlX7_readStream_0 18 rfl) ⟨Nat.zero_le _, Nat.zero_le _⟩) (fun H locs hP hD hS => ?_)
        refine lv_iload_n hx hb (kd tdlX7_readStream_0 19 rfl) rfl (lv_at hl 0 rfl) ?_
        refine lv_istore (lv' := [(4, .int v16), (3, .int v16), (0, .ref h0), (1, .int p1), (2, .ref h2)]) hx hb (kd tdlX7_readStream_0 20 rfl) hl (by decide) rfl (fun ls hl => ?_)
        refine lp_ind (f := B_X7_readStream_34 d0) (r := r) (P := fun s34_ => ∀ (H : Heap) (locs : List Loc) (ls : Array Slot), va_P D vwCl ((wtxF t h0 a0 (tx_signs d0) (tx_length d0)) ++ (wsmF t h2 a2 (sm_worths s34_.2) (sm_codes s34_.2) (sm_letters s34_.2) (sm_chunks s34_.2))) H → va_D A ((wtxF t h0 a0 (tx_signs d0) (tx_length d0)) ++ (wsmF t h2 a2 (sm_worths s34_.2) (sm_codes s34_.2) (sm_letters s34_.2) (sm_chunks s34_.2))) → va_S A s.heap H locs → lv_has ls 5 [(0, .ref h0), (2, .ref h2), (4, .int s34_.1)] → W p l e ({ frames := 2, cells := 0, slots := 0, locals := 43 } : Room) s m args below meth c H locs 0 0 (MQ below (kQi D (TY t) ((wtx t h0 a0 d0) ++ (wsm t h2 a2 r.2)) r.1 A) args s 0 0 A) (F0 m 34 ls [])) ?_ FU (v16, v28) hF _ _ _ hP hD hS (lv_sub hl [2, 4, 0] rfl)
        intro self34 ih34 s34_ hF H locs ls hP hD hS hl
        refine lv_iload hx hb (kd tdlX7_readStream_0 21 rfl) (lv_at hl 2 rfl) ?_
        refine lv_aload_n hx hb (kd tdlX7_readStream_0 22 rfl) rfl (lv_at hl 0 rfl) ?_
        refine va_get (D := D) (ci := 6) (v := .int (tx_length d0)) (C := RX7) (T := TX7) (N := 2) hx hb hts inX7_ hown hK hP 0 rfl rfl 1 (by decide) L15 (fun _ h9 => h9) rfl (kd tdlX7_readStream_0 23 rfl) ?_
        refine lv_icmp_ge (tgt := 77) hx hb (kd tdlX7_readStream_0 24 rfl) (by decide) (fun hc40 => ?_) (fun hc40 => ?_)
        · have hF := kt hc40 hF
          refine lv_iconst (v := 1) hx hb (kd tdlX7_readStream_0 43 rfl) (by decide) ?_
          cases ko hF
          exact ke_z hx hb hr hlocks rfl hK hP hD hS rfl (kd tdlX7_readStream_0 44 rfl)
        · have hF := kf hc40 hF
          refine lv_aload_n hx hb (kd tdlX7_readStream_0 25 rfl) rfl (lv_at hl 0 rfl) ?_
          refine va_get (D := D) (ci := 6) (v := .ref (a0 0)) (C := RX7) (T := TX7) (N := 2) hx hb hts inX7_ hown hK hP 0 rfl rfl 0 (by decide) L9 (fun _ h9 => h9) rfl (kd tdlX7_readStream_0 26 rfl) ?_
          refine lv_iload hx hb (kd tdlX7_readStream_0 27 rfl) (lv_at hl 2 rfl) ?_
          obtain ⟨hi49, hF⟩ := kg hF
          refine va_cald (D := D) (tys := TY t) hx hb hK hP 1 1 rfl rfl hi49 (kd tdlX7_readStream_0 28 rfl) ?_
          refine lv_bipush (v := 44) hx hb (kd tdlX7_readStream_0 29 rfl) (by decide) ?_
          refine lv_icmp_eq (tgt := 77) hx hb (kd tdlX7_readStream_0 30 rfl) (by decide) (fun hc52 => ?_) (fun hc52 => ?_)
          · have hF := kt hc52 hF
            refine lv_iconst (v := 1) hx hb (kd tdlX7_readStream_0 43 rfl) (by decide) ?_
            cases ko hF
            exact ke_z hx hb hr hlocks rfl hK hP hD hS rfl (kd tdlX7_readStream_0 44 rfl)
          · have hF := kf hc52 hF
            refine lv_aload_n hx hb (kd tdlX7_readStream_0 31 rfl) rfl (lv_at hl 1 rfl) ?_
            refine lv_aload_n hx hb (kd tdlX7_readStream_0 32 rfl) rfl (lv_at hl 0 rfl) ?_
            refine va_get (D := D) (ci := 6) (v := .ref (a0 0)) (C := RX7) (T := TX7) (N := 2) hx hb hts inX7_ hown hK hP 0 rfl rfl 0 (by decide) L9 (fun _ h9 => h9) rfl (kd tdlX7_readStream_0 33 rfl) ?_
            refine lv_iload hx hb (kd tdlX7_readStream_0 34 rfl) (lv_at hl 2 rfl) ?_
            obtain ⟨hi62, hF⟩ := kg hF
            refine va_cald (D := D) (tys := TY t) hx hb hK hP 1 1 rfl rfl hi62 (kd tdlX7_readStream_0 35 rfl) ?_
            refine lv_bipush (v := 97) hx hb (kd tdlX7_readStream_0 36 rfl) (by decide) ?_
            refine lv_isub hx hb (kd tdlX7_readStream_0 37 rfl) ?_
            refine lv_iconst (v := 1) hx hb (kd tdlX7_readStream_0 38 rfl) (by decide) ?_
            refine lv_iadd hx hb (kd tdlX7_readStream_0 39 rfl) ?_
            obtain ⟨v68, e68, hF⟩ := kc hF
            refine kc_v (w1 := ((wsmF t h2 a2 (sm_worths v68) (sm_codes v68) (sm_letters v68) (sm_chunks v68)))) (W1 := ((wtxF t h0 a0 (tx_signs d0) (tx_length d0)) ++ (wsmF t h2 a2 (sm_worths v68) (sm_codes v68) (sm_letters v68) (sm_chunks v68)))) hK hP hD hS hA [2, 3, 4] nd_2_3_4 rfl rfl rfl (kr_V (Qx := (fun A => kQv D (TY t) ((wsmF t h2 a2 (sm_worths v68) (sm_codes v68) (sm_letters v68) (sm_chunks v68))) A)) (wc := ((wsmF t h2 a2 (sm_worths s34_.2) (sm_codes s34_.2) (sm_letters s34_.2) (sm_chunks s34_.2)))) (As := [.int ((((tx_signs d0) (Int32.toNatClampNeg s34_.1)) - 97) + 1)]) (rest := []) ⟨hx, hb, hml, hown, hts⟩ hK hP hD [2, 3, 4] nd_2_3_4 rfl (c_X6_take l D t h2 a2 s34_.2 _ ((((tx_signs d0) (Int32.toNatClampNeg s34_.1)) - 97) + 1) v68 e68) (cwV 1 hts (gcX6_take w_484) rfl rfl rfl hdX6_takeV ⟨Nat.le_of_ble_eq_true rfl, Nat.le_of_ble_eq_true rfl⟩) (ci := 5) (q0 := 2) rfl rfl rfl hl.1 rfl (Nat.le_of_ble_eq_true rfl) (kd tdlX7_readStream_0 40 rfl) ⟨Nat.zero_le _, Nat.zero_le _⟩) (fun H locs hP hD hS => ?_)
            refine lv_iinc (v := (s34_.1 + 1)) (lv' := [(4, .int (s34_.1 + 1)), (0, .ref h0), (2, .ref h2)]) hx hb (kd tdlX7_readStream_0 41 rfl) hl (k := 2) rfl rfl (by decide) rfl (fun ls hl => ?_)
            refine lv_goto (tgt := 34) hx hb (kd tdlX7_readStream_0 42 rfl) (by decide) ?_
            exact ih34 ((s34_.1 + 1), v68) hF _ _ _ hP hD hS (lv_sub hl [1, 2, 0] rfl)
      · have hF := kt hc22 hF
        refine lv_iconst (v := 0) hx hb (kd tdlX7_readStream_0 15 rfl) (by decide) ?_
        cases ko hF
        exact ke_z hx hb hr hlocks rfl hK hP hD hS rfl (kd tdlX7_readStream_0 16 rfl)
    · have hF := kf hc9 hF
      refine lv_iconst (v := 0) hx hb (kd tdlX7_readStream_0 6 rfl) (by decide) ?_
      cases ko hF
      exact ke_z hx hb hr hlocks rfl hK hP hD hS rfl (kd tdlX7_readStream_0 7 rfl)
