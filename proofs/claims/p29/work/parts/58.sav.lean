/-! SAVE AND RESTORE -/
theorem wsv_sp (t : Nat → ClassId) (h : Nat) (u : UAT) (d : SVT) (k : Nat) (hk : k < 2) : ∃ Pre Post : va_W, ∀ (u' : UAT) (d' : SVT), (∀ i, i ≠ k → u'.1 i = u.1 i ∧ u'.2 i = u.2 i ∧ d'.1 i = d.1 i ∧ d'.2 i = d.2 i) →
    wsv t h u' d' = (h, .inl (t 3, 2, .inr (.inr (.inr (.inr (fun i => if d'.1 i then some (u'.1 i) else none)))))) :: (Pre ++ (wdB t u' d'.1 d'.2 k ++ Post)) := by
  refine ⟨(List.range' 0 k).flatMap (wdB t u d.1 d.2), (List.range' (k + 1) (2 - k - 1)).flatMap (wdB t u d.1 d.2), fun u' d' he => ?_⟩
  have hb : ∀ i, i ≠ k → wdB t u d.1 d.2 i = wdB t u' d'.1 d'.2 i := fun i hi => by
    obtain ⟨h1, h2, h3, h4⟩ := he i hi
    unfold wdB
    rw [h1, h2, h3, h4]
  rw [wdl_cg (f := wdB t u d.1 d.2) (g := wdB t u' d'.1 d'.2) (L := List.range' 0 k) fun i hi => hb i (by have := List.mem_range'_1.mp hi; omega), wdl_cg (f := wdB t u d.1 d.2) (g := wdB t u' d'.1 d'.2) (L := List.range' (k + 1) (2 - k - 1)) fun i hi => hb i (by have := List.mem_range'_1.mp hi; omega)]
  unfold wsv
  rw [wda_sp t 2 k hk]
def wsh (h : Nat) (t3 : ClassId) (f : Nat → Option Nat) : va_W := [(h, .inl (t3, 2, .inr (.inr (.inr (.inr f)))))]
theorem ksvA (X E : va_W) (h : Nat) (t3 : ClassId) (f : Nat → Option Nat) (Pre B Post : va_W) : kflat [X, E, (h, .inl (t3, 2, .inr (.inr (.inr (.inr f))))) :: (Pre ++ (B ++ Post))] = kflat [X, E, wsh h t3 f, Pre, B, Post] := by
  rw [kflat_eq, kflat_eq]
  simp [wsh]
theorem kidx4 {A B C Pre rest : va_W} {z : Nat × va_E} : (A ++ (B ++ (C ++ (Pre ++ (z :: rest)))))[A.length + B.length + C.length + Pre.length]? = some z := by
  rw [← List.append_assoc, ← List.append_assoc, ← List.append_assoc, List.getElem?_append_right (by simp only [List.length_append]; omega)]
  simp only [List.length_append]
  rw [Nat.sub_self]
  rfl
set_option maxHeartbeats 4000000 in
set_option maxRecDepth 100000 in
theorem c_X8_save (l : Launch) (D : va_G) (t : Nat → ClassId) (h0 : Nat) (g0 : Nat → Nat) (a_desk : Nat → Nat) (d_desk : DKT) (u_sv : UAT) (d_sv : SVT) (sz : Nat) (p1 : Int32) (r : Nat × Int32 × SVT) (hF : F_X8_save d_desk d_sv p1 = some r) (hcd0 : r.1 = 0) : Met l yX8_save wX8_save ({ frames := 6, cells := 10, slots := 1085, locals := 89 } : Room) (kPx D (TY t) (kflat [wx8 h0 g0, wdk t (g0 1) a_desk d_desk, wsv t (g0 4) u_sv d_sv]) [.ref h0, .int p1] sz) (kQiS D (TY t) (fun (u : UAT) => kflat [wx8 h0 g0, wdk t (g0 1) a_desk d_desk, wsv t (g0 4) u r.2.2]) r.2.1 (va_A (kflat [wx8 h0 g0, wdk t (g0 1) a_desk d_desk, wsv t (g0 4) u_sv d_sv]) sz)) 10 1085 (va_A (kflat [wx8 h0 g0, wdk t (g0 1) a_desk d_desk, wsv t (g0 4) u_sv d_sv]) sz) := by
  unfold F_X8_save at hF
  refine kEx (cc := cX8_save) (maxL := 2) (ret := (some .int)) (Qx := fun A => kQiS D (TY t) (fun (u : UAT) => kflat [wx8 h0 g0, wdk t (g0 1) a_desk d_desk, wsv t (g0 4) u r.2.2]) r.2.1 A) (lv0 := [(0, .ref h0), (1, .int p1)]) RX8 rfl (by decide) rfl (Nat.le_of_ble_eq_true rfl) rfl ?_
  intro p e s m args below meth c A ls hx hb hml hr hlocks hown hts hA hX hK hP hD hS hl
  have L19 := hts (.fieldLink RX8 19 "ChunkCarriers" "desk" "LChunkCarriers$Desk;") (List.mem_cons_of_mem _ w_18)
  have L33 := hts (.fieldLink RX8 33 "ChunkCarriers" "saved" "[LChunkCarriers$Desk;") (List.mem_cons_of_mem _ w_24)
  have inX8_ : ∀ w ∈ wsX80, w ∈ wX8_save := fun w h => List.mem_cons_of_mem _ (inlX8 w h)
  have inX1_ : ∀ w ∈ wsX10, w ∈ wX8_save := fun w h => List.mem_cons_of_mem _ (inlX1 w h)
  have thr : some (1, 0, d_sv) = some r → W p l e ({ frames := 6, cells := 10, slots := 1085, locals := 89 } : Room) s m args below meth c s.heap [] 0 0 (MQ below (kQiS D (TY t) (fun (u : UAT) => kflat [wx8 h0 g0, wdk t (g0 1) a_desk d_desk, wsv t (g0 4) u r.2.2]) r.2.1 A) args s 10 1085 A) (F0 m 9 ls []) := by
    intro hF
    cases ko hF
    exact absurd (show (1 : Nat) = 0 from hcd0) (by decide)
  refine lv_iload_n hx hb (kd tdlX8_save_0 0 rfl) rfl (lv_at hl 1 rfl) ?_
  refine lv_if_lt (tgt := 9) hx hb (kd tdlX8_save_0 1 rfl) (by decide) (fun hc => ?_) (fun hc => ?_)
  · exact thr (kt hc hF)
  have hF := kf hc hF
  refine lv_iload_n hx hb (kd tdlX8_save_0 2 rfl) rfl (lv_at hl 1 rfl) ?_
  refine lv_iconst (v := 2) hx hb (kd tdlX8_save_0 3 rfl) (by decide) ?_
  refine lv_icmp_lt (tgt := 17) hx hb (kd tdlX8_save_0 4 rfl) (by decide) (fun hc2 => ?_) (fun hc2 => ?_)
  rotate_left
  · exact thr (kf hc2 hF)
  clear thr
  obtain ⟨hin, hF⟩ := kg (kt hc2 hF)
  obtain ⟨v, ev, hF⟩ := kc hF
  obtain ⟨b, eb, hF⟩ := kc hF
  have hF := ko hF
  have hk : p1.toNatClampNeg < 2 := Nat.not_le.mp fun q => hin (Or.inr q)
  obtain ⟨Pre, Post, hsp⟩ := wsv_sp t (g0 4) u_sv d_sv _ hk
  have e0 := hsp u_sv d_sv fun i _ => ⟨rfl, rfl, rfl, rfl⟩
  rw [e0, ksvA] at hP hD
  have fr : ∀ (q : Nat) (aq : Nat → Nat), kflat [wx8 h0 g0, wdk t (g0 1) a_desk d_desk, wsv t (g0 4) (va_up u_sv.1 p1.toNatClampNeg q, va_up u_sv.2 p1.toNatClampNeg aq) r.2.2] = kflat [wx8 h0 g0, wdk t (g0 1) a_desk d_desk, wsh (g0 4) (t 3) (va_up (fun i => if d_sv.1 i then some (u_sv.1 i) else none) p1.toNatClampNeg (some q)), Pre, wdk t q aq v, Post] := by
    intro q aq
    rw [← hF]
    rw [hsp (va_up u_sv.1 p1.toNatClampNeg q, va_up u_sv.2 p1.toNatClampNeg aq) (sv_put d_sv p1.toNatClampNeg v) fun i hi => ⟨va_up_ne _ _ hi, va_up_ne _ _ hi, by simp [sv_put, hi], by simp [sv_put, hi]⟩, ksvA]
    have e3 : (fun i => if (sv_put d_sv p1.toNatClampNeg v).1 i then some ((va_up u_sv.1 p1.toNatClampNeg q, va_up u_sv.2 p1.toNatClampNeg aq).1 i) else none) = va_up (fun i => if d_sv.1 i then some (u_sv.1 i) else none) p1.toNatClampNeg (some q) := by
      funext i
      by_cases hi : i = p1.toNatClampNeg
      · simp [va_up, hi, sv_put]
      · simp [va_up, hi, sv_put]
    have e4 : wdB t (va_up u_sv.1 p1.toNatClampNeg q, va_up u_sv.2 p1.toNatClampNeg aq) (sv_put d_sv p1.toNatClampNeg v).1 (sv_put d_sv p1.toNatClampNeg v).2 p1.toNatClampNeg = wdk t q aq v := by
      unfold wdB
      simp [va_up, sv_put]
    rw [e3, e4]
  clear hsp e0
  generalize hf : (fun i => if d_sv.1 i then some (u_sv.1 i) else none) = f at hP hD fr
  have tail : ∀ (q : Nat) (aq : Nat → Nat) (cells slots : Nat) (H : Heap) (locs : List Loc), cells ≤ 10 → slots ≤ 1085 → va_P D vwCl (kflat [wx8 h0 g0, wdk t (g0 1) a_desk d_desk, wsh (g0 4) (t 3) (va_up f p1.toNatClampNeg (some q)), Pre, wdk t q aq (if d_sv.1 p1.toNatClampNeg then d_sv.2 p1.toNatClampNeg else DK0), Post]) H → va_D A (kflat [wx8 h0 g0, wdk t (g0 1) a_desk d_desk, wsh (g0 4) (t 3) (va_up f p1.toNatClampNeg (some q)), Pre, wdk t q aq (if d_sv.1 p1.toNatClampNeg then d_sv.2 p1.toNatClampNeg else DK0), Post]) → va_S A s.heap H locs →
      W p l e ({ frames := 6, cells := 10, slots := 1085, locals := 89 } : Room) s m args below meth c H locs cells slots (MQ below (kQiS D (TY t) (fun (u : UAT) => kflat [wx8 h0 g0, wdk t (g0 1) a_desk d_desk, wsv t (g0 4) u r.2.2]) r.2.1 A) args s 10 1085 A) (F0 m 39 ls []) := by
    intro q aq cells slots H locs hcl hsl hP hD hS
    refine lv_aload_n hx hb (kd tdlX8_save_0 21 rfl) rfl (lv_at hl 0 rfl) ?_
    refine va_get (D := D) (ci := 7) (v := .ref (g0 4)) (C := RX8) (T := TX8) (N := 9) hx hb hts inX8_ hown hK hP 0 rfl rfl 4 (by decide) L33 (fun _ h9 => h9) rfl (kd tdlX8_save_0 22 rfl) ?_
    refine lv_iload_n hx hb (kd tdlX8_save_0 23 rfl) rfl (lv_at hl 1 rfl) ?_
    refine va_aldq (C := RX1) hx hb hK hP 11 3 rfl rfl hin (kd tdlX8_save_0 24 rfl) ?_
    rw [va_up_self]
    refine W.eq (g2 := F0 m 45 ls [.ref q]) rfl ?_
    refine lv_aload_n hx hb (kd tdlX8_save_0 25 rfl) rfl (lv_at hl 0 rfl) ?_
    refine va_get (D := D) (ci := 7) (v := .ref (g0 1)) (C := RX8) (T := TX8) (N := 9) hx hb hts inX8_ hown hK hP 0 rfl rfl 1 (by decide) L19 (fun _ h9 => h9) rfl (kd tdlX8_save_0 26 rfl) ?_
    refine kcL_v (S := Unit) (cs := [wdk t q aq (if d_sv.1 p1.toNatClampNeg then d_sv.2 p1.toNatClampNeg else DK0), wdk t (g0 1) a_desk d_desk]) (is := [4, 1]) (wf := (fun (_ : Unit) => [wdk t q aq v, wdk t (g0 1) a_desk d_desk])) hP hD hS hA nd_4_1 rfl (fun _ => rfl) (kL_V (Qx := (fun A => kQv D (TY t) (kflat [wdk t q aq v, wdk t (g0 1) a_desk d_desk]) A)) (cs := [wdk t q aq (if d_sv.1 p1.toNatClampNeg then d_sv.2 p1.toNatClampNeg else DK0), wdk t (g0 1) a_desk d_desk]) (is := [4, 1]) (As := [.ref (g0 1)]) (rest := []) ⟨hx, hb, hml, hown, hts⟩ hK hP hD nd_4_1 rfl (c_X1_copyFrom l D t q aq _ (g0 1) a_desk d_desk _ v ev) (cwV 1 hts (gcX1_copyFrom w_100) rfl rfl rfl hdX1_copyFromV ⟨(Nat.le_of_ble_eq_true rfl), (Nat.le_of_ble_eq_true rfl)⟩) (ci := 1) rfl kidx4 rfl hl.1 rfl (Nat.le_of_ble_eq_true rfl) (kd tdlX8_save_0 27 rfl) ⟨hcl, hsl⟩) (fun _ H locs hP hD hS => ?_)
    have hP : va_P D vwCl (kflat [wx8 h0 g0, wdk t (g0 1) a_desk d_desk, wsh (g0 4) (t 3) (va_up f p1.toNatClampNeg (some q)), Pre, wdk t q aq v, Post]) H := hP
    have hD : va_D A (kflat [wx8 h0 g0, wdk t (g0 1) a_desk d_desk, wsh (g0 4) (t 3) (va_up f p1.toNatClampNeg (some q)), Pre, wdk t q aq v, Post]) := hD
    rw [← fr q aq] at hP hD
    refine lv_aload_n hx hb (kd tdlX8_save_0 28 rfl) rfl (lv_at hl 0 rfl) ?_
    refine va_get (D := D) (ci := 7) (v := .ref (g0 1)) (C := RX8) (T := TX8) (N := 9) hx hb hts inX8_ hown hK hP 0 rfl rfl 1 (by decide) L19 (fun _ h9 => h9) rfl (kd tdlX8_save_0 29 rfl) ?_
    refine kcL_i (S := Unit) (cs := [wdk t (g0 1) a_desk d_desk]) (is := [1]) (wf := (fun (_ : Unit) => [(wdk t (g0 1) a_desk d_desk)])) hP hD hS hA nd_1 rfl (fun _ => rfl) (kL_V (Qx := (fun A => kQi D (TY t) (kflat [(wdk t (g0 1) a_desk d_desk)]) b A)) (cs := [(wdk t (g0 1) a_desk d_desk)]) (is := [1]) (As := []) (rest := []) ⟨hx, hb, hml, hown, hts⟩ hK hP hD nd_1 rfl (c_X1_backups l D t (g0 1) a_desk d_desk _ b eb) (cwV 0 hts (gcX1_backups w_112) rfl rfl rfl hdX1_backupsV ⟨(Nat.le_of_ble_eq_true rfl), (Nat.le_of_ble_eq_true rfl)⟩) (ci := 1) (q0 := 1) rfl rfl rfl hl.1 rfl (Nat.le_of_ble_eq_true rfl) (kd tdlX8_save_0 30 rfl) ⟨hcl, hsl⟩) (fun _ H locs hP hD hS => ?_)
    have hP : va_P D vwCl (kflat [wx8 h0 g0, wdk t (g0 1) a_desk d_desk, wsv t (g0 4) (va_up u_sv.1 p1.toNatClampNeg q, va_up u_sv.2 p1.toNatClampNeg aq) r.2.2]) H := hP
    have hD : va_D A (kflat [wx8 h0 g0, wdk t (g0 1) a_desk d_desk, wsv t (g0 4) (va_up u_sv.1 p1.toNatClampNeg q, va_up u_sv.2 p1.toNatClampNeg aq) r.2.2]) := hD
    exact kes_i (va_up u_sv.1 p1.toNatClampNeg q, va_up u_sv.2 p1.toNatClampNeg aq) hx hb hr hlocks hK hP hD hS (by rw [← hF]) hcl hsl (kd tdlX8_save_0 31 rfl)
  refine lv_aload_n hx hb (kd tdlX8_save_0 9 rfl) rfl (lv_at hl 0 rfl) ?_
  refine va_get (D := D) (ci := 7) (v := .ref (g0 4)) (C := RX8) (T := TX8) (N := 9) hx hb hts inX8_ hown hK hP 0 rfl rfl 4 (by decide) L33 (fun _ h9 => h9) rfl (kd tdlX8_save_0 10 rfl) ?_
  refine lv_iload_n hx hb (kd tdlX8_save_0 11 rfl) rfl (lv_at hl 1 rfl) ?_
  refine va_aldq (C := RX1) hx hb hK hP 11 3 rfl rfl hin (kd tdlX8_save_0 12 rfl) ?_
  by_cases hh : d_sv.1 p1.toNatClampNeg = true
  · have ef : f p1.toNatClampNeg = some (u_sv.1 p1.toNatClampNeg) := by rw [← hf]; simp [hh]
    rw [ef]
    refine W.eq (g2 := F0 m 23 ls [.ref (u_sv.1 p1.toNatClampNeg)]) rfl ?_
    refine lv_ifnonnull (tgt := 39) hx hb (kd tdlX8_save_0 13 rfl) (by decide) ?_
    have e7 : va_up f p1.toNatClampNeg (some (u_sv.1 p1.toNatClampNeg)) = f := by
      funext j
      by_cases hj : j = p1.toNatClampNeg
      · rw [hj, va_up_self, ef]
      · rw [va_up_ne _ _ hj]
    refine tail (u_sv.1 p1.toNatClampNeg) (u_sv.2 p1.toNatClampNeg) 0 0 _ _ (by omega) (by omega) ?_ ?_ hS
    · rw [e7, if_pos hh]
      unfold wdB at hP
      rw [if_pos hh] at hP
      exact hP
    · rw [e7, if_pos hh]
      unfold wdB at hD
      rw [if_pos hh] at hD
      exact hD
  · have ef : f p1.toNatClampNeg = none := by rw [← hf]; simp [hh]
    rw [ef]
    refine W.eq (g2 := F0 m 23 ls [.null]) rfl ?_
    refine lv_ifnonnullN hx hb (kd tdlX8_save_0 13 rfl) ?_
    unfold wdB at hP hD
    rw [if_neg hh] at hP hD
    refine lv_aload_n hx hb (kd tdlX8_save_0 14 rfl) rfl (lv_at hl 0 rfl) ?_
    refine va_get (D := D) (ci := 7) (v := .ref (g0 4)) (C := RX8) (T := TX8) (N := 9) hx hb hts inX8_ hown hK hP 0 rfl rfl 4 (by decide) L33 (fun _ h9 => h9) rfl (kd tdlX8_save_0 15 rfl) ?_
    refine lv_iload_n hx hb (kd tdlX8_save_0 16 rfl) rfl (lv_at hl 1 rfl) ?_
    refine va_new (C := RX1) (T := TX1) (N := 13) (ci := 1) (fs := [.null, .null, .null, .null, .int 0, .null, .null, .null, .int 0, .null, .null, .int 0, .int 0]) hx hb hts inX1_ tyX1 tyX1_ok hown (hts _ (List.mem_cons_of_mem _ w_15)) (hts _ (List.mem_cons_of_mem _ w_16)) (hts _ (List.mem_cons_of_mem _ w_17)) hK hP hD hS hA rfl (fun j hj => match j, hj with | 0, _ => rfl | 1, _ => rfl | 2, _ => rfl | 3, _ => rfl | 4, _ => rfl | 5, _ => rfl | 6, _ => rfl | 7, _ => rfl | 8, _ => rfl | 9, _ => rfl | 10, _ => rfl | 11, _ => rfl | 12, _ => rfl | (n + 13), h => absurd h (by omega)) (Nat.le_of_ble_eq_true rfl) (Nat.le_of_ble_eq_true rfl) (kd tdlX8_save_0 17 rfl) (fun q H hP hD hS => ?_)
    have hP : va_P D vwCl (kflat [wx8 h0 g0, wdk t (g0 1) a_desk d_desk, wsh (g0 4) (t 3) f, Pre, [], Post, [(q, .inr (1, [.null, .null, .null, .null, .int 0, .null, .null, .null, .int 0, .null, .null, .int 0, .int 0]))]]) H := kPsn [wx8 h0 g0, wdk t (g0 1) a_desk d_desk, wsh (g0 4) (t 3) f, Pre, [], Post] [(q, .inr (1, [.null, .null, .null, .null, .int 0, .null, .null, .null, .int 0, .null, .null, .int 0, .int 0]))] hP
    have hD : va_D A (kflat [wx8 h0 g0, wdk t (g0 1) a_desk d_desk, wsh (g0 4) (t 3) f, Pre, [], Post, [(q, .inr (1, [.null, .null, .null, .null, .int 0, .null, .null, .null, .int 0, .null, .null, .int 0, .int 0]))]]) := kDsn [wx8 h0 g0, wdk t (g0 1) a_desk d_desk, wsh (g0 4) (t 3) f, Pre, [], Post] [(q, .inr (1, [.null, .null, .null, .null, .int 0, .null, .null, .null, .int 0, .null, .null, .int 0, .int 0]))] hD
    refine lv_dup hx hb (kd tdlX8_save_0 18 rfl) rfl ?_
    refine kcL_v (S := Nat → Nat) (cs := [[(q, .inr (1, [.null, .null, .null, .null, .int 0, .null, .null, .null, .int 0, .null, .null, .int 0, .int 0]))]]) (is := [6]) (wf := (fun (aq : Nat → Nat) => [wdk t q aq DKI])) hP hD hS hA nd_6 rfl (fun _ => rfl) (va_runIN (mc := 9) (ms := 1072) (rm := { frames := 1, cells := 9, slots := 1072, locals := 30 }) (As := []) (b := q) (rest := [.ref q, .int p1, .ref (g0 4)]) ⟨hx, hb, hml, hown, hts⟩ (c_X1_init l D t q _) ⟨va_cnB (own := RX8) (index := 18) (y := yX1_init) (host := "ChunkCarriers") 0 hts (kgoodI w_47) rfl rfl rfl (hX.2.2.2.2.2.1 ("ChunkCarriers", 18, yX1_init) (by simp [NWM])) (hts _ (List.mem_cons_of_mem _ w_17)) (by decide +kernel) ⟨(Nat.le_of_ble_eq_true rfl), (Nat.le_of_ble_eq_true rfl)⟩, rfl, hts _ (List.mem_cons_of_mem _ w_46)⟩ ⟨kPx_blind, kpreX (cs := [[(q, .inr (1, [.null, .null, .null, .null, .int 0, .null, .null, .null, .int 0, .null, .null, .int 0, .int 0]))]]) (is := [6]) hX hS hA hK hP hD nd_6 rfl⟩ rfl rfl hl.1 rfl (Nat.le_of_ble_eq_true rfl) (kd tdlX8_save_0 19 rfl) ⟨(Nat.le_of_ble_eq_true rfl), (Nat.le_of_ble_eq_true rfl)⟩) (fun aq H locs hP hD hS => ?_)
    have pm : (kflat [wx8 h0 g0, wdk t (g0 1) a_desk d_desk, wsh (g0 4) (t 3) f, Pre, [], Post, wdk t q aq DKI]).Perm (kflat [wx8 h0 g0, wdk t (g0 1) a_desk d_desk, wsh (g0 4) (t 3) f, Pre, wdk t q aq DKI, Post]) := by
      rw [kflat_eq, kflat_eq]
      simp only [List.flatten_cons, List.flatten_nil, List.append_nil, List.nil_append]
      exact (((List.perm_append_comm.append_left _).append_left _).append_left _).append_left _
    have hP : va_P D vwCl (kflat [wx8 h0 g0, wdk t (g0 1) a_desk d_desk, wsh (g0 4) (t 3) f, Pre, [], Post, wdk t q aq DKI]) H := hP
    have hD : va_D A (kflat [wx8 h0 g0, wdk t (g0 1) a_desk d_desk, wsh (g0 4) (t 3) f, Pre, [], Post, wdk t q aq DKI]) := hD
    have hP := kPperm pm hP
    have hD := kDperm pm hD
    refine va_astq (r := (RX1, TX1, 13)) hx hb hK hP hD hS 11 3 _ 1 rfl rfl kidx4 rfl hin (kd tdlX8_save_0 20 rfl) (fun H locs hP hD hS => ?_)
    refine tail q aq _ _ _ _ (Nat.le_of_ble_eq_true rfl) (Nat.le_of_ble_eq_true rfl) ?_ ?_ hS
    · rw [if_neg hh]
      exact hP
    · rw [if_neg hh]
      exact hD
theorem ksvB (X E F : va_W) (h : Nat) (t3 : ClassId) (f : Nat → Option Nat) (Pre B Post : va_W) : kflat [X, E, F, (h, .inl (t3, 2, .inr (.inr (.inr (.inr f))))) :: (Pre ++ (B ++ Post))] = kflat [X, E, F, wsh h t3 f, Pre, B, Post] := by
  rw [kflat_eq, kflat_eq]
  simp [wsh]
theorem kidx3 {A B C rest : va_W} {z : Nat × va_E} : (A ++ (B ++ (C ++ (z :: rest))))[A.length + B.length + C.length]? = some z := by
  rw [← List.append_assoc, ← List.append_assoc, List.getElem?_append_right (by simp only [List.length_append]; omega)]
  simp only [List.length_append]
  rw [Nat.sub_self]
  rfl
set_option maxHeartbeats 4000000 in
set_option maxRecDepth 100000 in
theorem c_X8_restore (l : Launch) (D : va_G) (t : Nat → ClassId) (h0 : Nat) (g0 : Nat → Nat) (a_desk : Nat → Nat) (d_desk : DKT) (a_past : Nat → Nat) (u_past : UAT) (d_past : PAT) (u_sv : UAT) (d_sv : SVT) (sz : Nat) (p1 : Int32) (r : Nat × Int32 × DKT × PAT) (hF : F_X8_restore d_desk d_past d_sv p1 = some r) (hcd0 : r.1 = 0) : Met l yX8_restore wX8_restore ({ frames := 6, cells := 1, slots := 6, locals := 89 } : Room) (kPx D (TY t) (kflat [wx8 h0 g0, wdk t (g0 1) a_desk d_desk, wpa t (g0 3) a_past u_past d_past, wsv t (g0 4) u_sv d_sv]) [.ref h0, .int p1] sz) (kQiS D (TY t) (fun (_ : Unit) => kflat [wx8 h0 g0, wdk t (g0 1) a_desk r.2.2.1, wpa t (g0 3) a_past u_past r.2.2.2, wsv t (g0 4) u_sv d_sv]) r.2.1 (va_A (kflat [wx8 h0 g0, wdk t (g0 1) a_desk d_desk, wpa t (g0 3) a_past u_past d_past, wsv t (g0 4) u_sv d_sv]) sz)) 1 6 (va_A (kflat [wx8 h0 g0, wdk t (g0 1) a_desk d_desk, wpa t (g0 3) a_past u_past d_past, wsv t (g0 4) u_sv d_sv]) sz) := by
  unfold F_X8_restore at hF
  refine kEx (cc := cX8_restore) (maxL := 2) (ret := (some .int)) (Qx := fun A => kQiS D (TY t) (fun (_ : Unit) => kflat [wx8 h0 g0, wdk t (g0 1) a_desk r.2.2.1, wpa t (g0 3) a_past u_past r.2.2.2, wsv t (g0 4) u_sv d_sv]) r.2.1 A) (lv0 := [(0, .ref h0), (1, .int p1)]) RX8 rfl (by decide) rfl (Nat.le_of_ble_eq_true rfl) rfl ?_
  intro p e s m args below meth c A ls hx hb hml hr hlocks hown hts hA hX hK hP hD hS hl
  have L19 := hts (.fieldLink RX8 19 "ChunkCarriers" "desk" "LChunkCarriers$Desk;") (List.mem_cons_of_mem _ w_18)
  have L29 := hts (.fieldLink RX8 29 "ChunkCarriers" "past" "LChunkCarriers$Past;") (List.mem_cons_of_mem _ w_23)
  have L33 := hts (.fieldLink RX8 33 "ChunkCarriers" "saved" "[LChunkCarriers$Desk;") (List.mem_cons_of_mem _ w_24)
  have inX8_ : ∀ w ∈ wsX80, w ∈ wX8_restore := fun w h => List.mem_cons_of_mem _ (inlX8 w h)
  have thr : some (1, 0, d_desk, d_past) = some r → W p l e ({ frames := 6, cells := 1, slots := 6, locals := 89 } : Room) s m args below meth c s.heap [] 0 0 (MQ below (kQiS D (TY t) (fun (_ : Unit) => kflat [wx8 h0 g0, wdk t (g0 1) a_desk r.2.2.1, wpa t (g0 3) a_past u_past r.2.2.2, wsv t (g0 4) u_sv d_sv]) r.2.1 A) args s 1 6 A) (F0 m 9 ls []) := by
    intro hF
    cases ko hF
    exact absurd (show (1 : Nat) = 0 from hcd0) (by decide)
  refine lv_iload_n hx hb (kd tdlX8_restore_0 0 rfl) rfl (lv_at hl 1 rfl) ?_
  refine lv_if_lt (tgt := 9) hx hb (kd tdlX8_restore_0 1 rfl) (by decide) (fun hc => ?_) (fun hc => ?_)
  · exact thr (kt hc hF)
  have hF := kf hc hF
  refine lv_iload_n hx hb (kd tdlX8_restore_0 2 rfl) rfl (lv_at hl 1 rfl) ?_
  refine lv_iconst (v := 2) hx hb (kd tdlX8_restore_0 3 rfl) (by decide) ?_
  refine lv_icmp_lt (tgt := 17) hx hb (kd tdlX8_restore_0 4 rfl) (by decide) (fun hc2 => ?_) (fun hc2 => ?_)
  rotate_left
  · exact thr (kf hc2 hF)
  clear thr
  obtain ⟨hin, hF⟩ := kg (kt hc2 hF)
  have hk : p1.toNatClampNeg < 2 := Nat.not_le.mp fun q => hin (Or.inr q)
  refine lv_aload_n hx hb (kd tdlX8_restore_0 9 rfl) rfl (lv_at hl 0 rfl) ?_
  refine va_get (D := D) (ci := 7) (v := .ref (g0 4)) (C := RX8) (T := TX8) (N := 9) hx hb hts inX8_ hown hK hP 0 rfl rfl 4 (by decide) L33 (fun _ h9 => h9) rfl (kd tdlX8_restore_0 10 rfl) ?_
  refine lv_iload_n hx hb (kd tdlX8_restore_0 11 rfl) rfl (lv_at hl 1 rfl) ?_
  refine va_aldq (C := RX1) (f := fun i => if d_sv.1 i then some (u_sv.1 i) else none) hx hb hK hP _ 3 (kidx3 (A := wx8 h0 g0) (B := wdk t (g0 1) a_desk d_desk) (C := wpa t (g0 3) a_past u_past d_past)) rfl hin (kd tdlX8_restore_0 12 rfl) ?_
  by_cases hh : d_sv.1 p1.toNatClampNeg = true
  · rw [if_pos hh] at hF
    obtain ⟨v, ev, hF⟩ := kc hF
    obtain ⟨q, eq, hF⟩ := kc hF
    obtain ⟨b, eb, hF⟩ := kc hF
    have hF := ko hF
    rw [if_pos hh]
    refine W.eq (g2 := F0 m 23 ls [.ref (u_sv.1 p1.toNatClampNeg)]) rfl ?_
    refine lv_ifnonnull (tgt := 34) hx hb (kd tdlX8_restore_0 13 rfl) (by decide) ?_
    obtain ⟨Pre, Post, hsp⟩ := wsv_sp t (g0 4) u_sv d_sv _ hk
    have e0 := hsp u_sv d_sv fun i _ => ⟨rfl, rfl, rfl, rfl⟩
    unfold wdB at e0
    rw [if_pos hh] at e0
    rw [e0, ksvB] at hP hD
    refine lv_aload_n hx hb (kd tdlX8_restore_0 18 rfl) rfl (lv_at hl 0 rfl) ?_
    refine va_get (D := D) (ci := 7) (v := .ref (g0 1)) (C := RX8) (T := TX8) (N := 9) hx hb hts inX8_ hown hK hP 0 rfl rfl 1 (by decide) L19 (fun _ h9 => h9) rfl (kd tdlX8_restore_0 19 rfl) ?_
    refine lv_aload_n hx hb (kd tdlX8_restore_0 20 rfl) rfl (lv_at hl 0 rfl) ?_
    refine va_get (D := D) (ci := 7) (v := .ref (g0 4)) (C := RX8) (T := TX8) (N := 9) hx hb hts inX8_ hown hK hP 0 rfl rfl 4 (by decide) L33 (fun _ h9 => h9) rfl (kd tdlX8_restore_0 21 rfl) ?_
    refine lv_iload_n hx hb (kd tdlX8_restore_0 22 rfl) rfl (lv_at hl 1 rfl) ?_
    refine va_aldq (C := RX1) (f := fun i => if d_sv.1 i then some (u_sv.1 i) else none) hx hb hK hP _ 3 (kidx3 (A := wx8 h0 g0) (B := wdk t (g0 1) a_desk d_desk) (C := wpa t (g0 3) a_past u_past d_past)) rfl hin (kd tdlX8_restore_0 23 rfl) ?_
    rw [if_pos hh]
    refine W.eq (g2 := F0 m 44 ls [.ref (u_sv.1 p1.toNatClampNeg), .ref (g0 1)]) rfl ?_
    refine kcL_v (S := Unit) (cs := [wdk t (g0 1) a_desk d_desk, wdk t (u_sv.1 p1.toNatClampNeg) (u_sv.2 p1.toNatClampNeg) (d_sv.2 p1.toNatClampNeg)]) (is := [1, 5]) (wf := (fun (_ : Unit) => [wdk t (g0 1) a_desk v, wdk t (u_sv.1 p1.toNatClampNeg) (u_sv.2 p1.toNatClampNeg) (d_sv.2 p1.toNatClampNeg)])) hP hD hS hA nd_1_5 rfl (fun _ => rfl) (kL_V (Qx := (fun A => kQv D (TY t) (kflat [wdk t (g0 1) a_desk v, wdk t (u_sv.1 p1.toNatClampNeg) (u_sv.2 p1.toNatClampNeg) (d_sv.2 p1.toNatClampNeg)]) A)) (cs := [wdk t (g0 1) a_desk d_desk, wdk t (u_sv.1 p1.toNatClampNeg) (u_sv.2 p1.toNatClampNeg) (d_sv.2 p1.toNatClampNeg)]) (is := [1, 5]) (As := [.ref (u_sv.1 p1.toNatClampNeg)]) (rest := []) ⟨hx, hb, hml, hown, hts⟩ hK hP hD nd_1_5 rfl (c_X1_copyFrom l D t (g0 1) a_desk d_desk _ _ _ _ v ev) (cwV 1 hts (gcX1_copyFrom w_100) rfl rfl rfl hdX1_copyFromV ⟨(Nat.le_of_ble_eq_true rfl), (Nat.le_of_ble_eq_true rfl)⟩) (ci := 1) (q0 := 1) rfl rfl rfl hl.1 rfl (Nat.le_of_ble_eq_true rfl) (kd tdlX8_restore_0 24 rfl) ⟨(Nat.le_of_ble_eq_true rfl), (Nat.le_of_ble_eq_true rfl)⟩) (fun _ H locs hP hD hS => ?_)
    have hP : va_P D vwCl (kflat [wx8 h0 g0, wdk t (g0 1) a_desk v, wpa t (g0 3) a_past u_past d_past, wsh (g0 4) (t 3) (fun i => if d_sv.1 i then some (u_sv.1 i) else none), Pre, wdk t (u_sv.1 p1.toNatClampNeg) (u_sv.2 p1.toNatClampNeg) (d_sv.2 p1.toNatClampNeg), Post]) H := hP
    have hD : va_D A (kflat [wx8 h0 g0, wdk t (g0 1) a_desk v, wpa t (g0 3) a_past u_past d_past, wsh (g0 4) (t 3) (fun i => if d_sv.1 i then some (u_sv.1 i) else none), Pre, wdk t (u_sv.1 p1.toNatClampNeg) (u_sv.2 p1.toNatClampNeg) (d_sv.2 p1.toNatClampNeg), Post]) := hD
    rw [← ksvB, ← e0] at hP hD
    refine lv_aload_n hx hb (kd tdlX8_restore_0 25 rfl) rfl (lv_at hl 0 rfl) ?_
    refine va_get (D := D) (ci := 7) (v := .ref (g0 3)) (C := RX8) (T := TX8) (N := 9) hx hb hts inX8_ hown hK hP 0 rfl rfl 3 (by decide) L29 (fun _ h9 => h9) rfl (kd tdlX8_restore_0 26 rfl) ?_
    refine kcL_v (S := Unit) (cs := [wpa t (g0 3) a_past u_past d_past]) (is := [2]) (wf := (fun (_ : Unit) => [wpa t (g0 3) a_past u_past q])) hP hD hS hA nd_2 rfl (fun _ => rfl) (kL_V (Qx := (fun A => kQv D (TY t) (kflat [wpa t (g0 3) a_past u_past q]) A)) (cs := [wpa t (g0 3) a_past u_past d_past]) (is := [2]) (As := []) (rest := []) ⟨hx, hb, hml, hown, hts⟩ hK hP hD nd_2 rfl (c_X3_forget l D t (g0 3) a_past u_past d_past _ q eq) (cwV 0 hts (kgood w_648 w_649 w_650 w_22 w_651) rfl rfl rfl (by decide +kernel) ⟨(Nat.le_of_ble_eq_true rfl), (Nat.le_of_ble_eq_true rfl)⟩) (ci := 2) (q0 := 11) rfl rfl rfl hl.1 rfl (Nat.le_of_ble_eq_true rfl) (kd tdlX8_restore_0 27 rfl) ⟨(Nat.le_of_ble_eq_true rfl), (Nat.le_of_ble_eq_true rfl)⟩) (fun _ H locs hP hD hS => ?_)
    have hP : va_P D vwCl (kflat [wx8 h0 g0, wdk t (g0 1) a_desk v, wpa t (g0 3) a_past u_past q, wsv t (g0 4) u_sv d_sv]) H := hP
    have hD : va_D A (kflat [wx8 h0 g0, wdk t (g0 1) a_desk v, wpa t (g0 3) a_past u_past q, wsv t (g0 4) u_sv d_sv]) := hD
    refine lv_aload_n hx hb (kd tdlX8_restore_0 28 rfl) rfl (lv_at hl 0 rfl) ?_
    refine va_get (D := D) (ci := 7) (v := .ref (g0 1)) (C := RX8) (T := TX8) (N := 9) hx hb hts inX8_ hown hK hP 0 rfl rfl 1 (by decide) L19 (fun _ h9 => h9) rfl (kd tdlX8_restore_0 29 rfl) ?_
    refine kcL_i (S := Unit) (cs := [wdk t (g0 1) a_desk v]) (is := [1]) (wf := (fun (_ : Unit) => [(wdk t (g0 1) a_desk v)])) hP hD hS hA nd_1 rfl (fun _ => rfl) (kL_V (Qx := (fun A => kQi D (TY t) (kflat [(wdk t (g0 1) a_desk v)]) b A)) (cs := [(wdk t (g0 1) a_desk v)]) (is := [1]) (As := []) (rest := []) ⟨hx, hb, hml, hown, hts⟩ hK hP hD nd_1 rfl (c_X1_backups l D t (g0 1) a_desk v _ b eb) (cwV 0 hts (gcX1_backups w_112) rfl rfl rfl hdX1_backupsV ⟨(Nat.le_of_ble_eq_true rfl), (Nat.le_of_ble_eq_true rfl)⟩) (ci := 1) (q0 := 1) rfl rfl rfl hl.1 rfl (Nat.le_of_ble_eq_true rfl) (kd tdlX8_restore_0 30 rfl) ⟨(Nat.le_of_ble_eq_true rfl), (Nat.le_of_ble_eq_true rfl)⟩) (fun _ H locs hP hD hS => ?_)
    have hP : va_P D vwCl (kflat [wx8 h0 g0, wdk t (g0 1) a_desk v, wpa t (g0 3) a_past u_past q, wsv t (g0 4) u_sv d_sv]) H := hP
    have hD : va_D A (kflat [wx8 h0 g0, wdk t (g0 1) a_desk v, wpa t (g0 3) a_past u_past q, wsv t (g0 4) u_sv d_sv]) := hD
    subst hF
    exact kes_i () hx hb hr hlocks hK hP hD hS rfl (Nat.le_of_ble_eq_true rfl) (Nat.le_of_ble_eq_true rfl) (kd tdlX8_restore_0 31 rfl)
  · rw [if_neg hh] at hF
    rw [if_neg hh]
    refine W.eq (g2 := F0 m 23 ls [.null]) rfl ?_
    refine lv_ifnonnullN hx hb (kd tdlX8_restore_0 13 rfl) ?_
    cases ko hF
    exact absurd (show (3 : Nat) = 0 from hcd0) (by decide)
