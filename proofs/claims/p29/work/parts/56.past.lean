theorem kPperm {D : va_G} {ws ws' : va_W} {H : Heap} (h : ws.Perm ws') (hP : va_P D vwCl ws H) : va_P D vwCl ws' H := kP_iff.mpr fun q hq => kP_iff.mp hP q (h.mem_iff.mpr hq)
theorem kDperm {A : Nat → Prop} {ws ws' : va_W} (h : ws.Perm ws') (hD : va_D A ws) : va_D A ws' := by
  obtain ⟨h1, h2⟩ := kD_iff.mp hD
  exact kD_iff.mpr ⟨(h.map Prod.fst).nodup_iff.mp h1, fun q hq => h2 q (h.mem_iff.mpr hq)⟩
def wdB (t : Nat → ClassId) (u : UAT) (has : Nat → Bool) (ds : Nat → DKT) (i : Nat) : va_W := if has i then wdk t (u.1 i) (u.2 i) (ds i) else []
theorem wdl_cg {f g : Nat → va_W} : ∀ {L : List Nat}, (∀ i ∈ L, f i = g i) → L.flatMap f = L.flatMap g
  | [], _ => rfl
  | a :: L, h => by rw [List.flatMap_cons, List.flatMap_cons, h a List.mem_cons_self, wdl_cg fun i hi => h i (List.mem_cons_of_mem _ hi)]
theorem wda_sp (t : Nat → ClassId) (N k : Nat) (hk : k < N) (u : UAT) (has : Nat → Bool) (ds : Nat → DKT) : wda t N u has ds = (List.range' 0 k).flatMap (wdB t u has ds) ++ (wdB t u has ds k ++ (List.range' (k + 1) (N - k - 1)).flatMap (wdB t u has ds)) := by
  have h : List.range N = List.range' 0 k ++ ([k] ++ List.range' (k + 1) (N - k - 1)) := by
    have h1 : List.range' 0 k ++ List.range' (0 + k) (N - k) = List.range' 0 (k + (N - k)) := List.range'_append_1
    have h2 : List.range' k 1 ++ List.range' (k + 1) (N - k - 1) = List.range' k (1 + (N - k - 1)) := List.range'_append_1
    have h3 : List.range' 0 N = List.range' 0 k ++ List.range' k (N - k) := by
      have := h1
      rw [Nat.zero_add, show k + (N - k) = N by omega] at this
      exact this.symm
    have h4 : List.range' k (N - k) = [k] ++ List.range' (k + 1) (N - k - 1) := by
      have := h2
      rw [show 1 + (N - k - 1) = N - k by omega] at this
      exact this.symm
    rw [List.range_eq_range', h3, h4]
  show (List.range N).flatMap (wdB t u has ds) = _
  rw [h, List.flatMap_append, List.flatMap_append]
  congr 2
  exact List.append_nil _
def wph (h a0 : Nat) (x y : Int32) (t3 : ClassId) (f : Nat → Option Nat) : va_W := [(h, .inr (2, [.ref a0, .int x, .int y])), (a0, .inl (t3, 14, .inr (.inr (.inr (.inr f)))))]
theorem wpa_sp (t : Nat → ClassId) (h : Nat) (a : Nat → Nat) (u : UAT) (d : PAT) (k : Nat) (hk : k < 14) : ∃ Pre Post : va_W, ∀ (u' : UAT) (d' : PAT) (E : va_W), (∀ i, i ≠ k → u'.1 i = u.1 i ∧ u'.2 i = u.2 i ∧ pa_has d' i = pa_has d i ∧ pa_ds d' i = pa_ds d i) →
    kflat [wpa t h a u' d', E] = kflat [wph h (a 0) (pa_oldest d') (pa_count d') (t 3) (fun i => if pa_has d' i then some (u'.1 i) else none), Pre, wdB t u' (pa_has d') (pa_ds d') k, Post, E] := by
  refine ⟨(List.range' 0 k).flatMap (wdB t u (pa_has d) (pa_ds d)), (List.range' (k + 1) (14 - k - 1)).flatMap (wdB t u (pa_has d) (pa_ds d)), fun u' d' E he => ?_⟩
  have hb : ∀ i, i ≠ k → wdB t u (pa_has d) (pa_ds d) i = wdB t u' (pa_has d') (pa_ds d') i := fun i hi => by
    obtain ⟨h1, h2, h3, h4⟩ := he i hi
    unfold wdB
    rw [h1, h2, h3, h4]
  rw [wdl_cg (f := wdB t u (pa_has d) (pa_ds d)) (g := wdB t u' (pa_has d') (pa_ds d')) (L := List.range' 0 k) fun i hi => hb i (by have := List.mem_range'_1.mp hi; omega), wdl_cg (f := wdB t u (pa_has d) (pa_ds d)) (g := wdB t u' (pa_has d') (pa_ds d')) (L := List.range' (k + 1) (14 - k - 1)) fun i hi => hb i (by have := List.mem_range'_1.mp hi; omega)]
  unfold wpa
  rw [wda_sp t 14 k hk]
  rw [kflat_eq, kflat_eq]
  simp [wph]
theorem kidx {x y z : Nat × va_E} {Pre rest : va_W} : (x :: y :: (Pre ++ (z :: rest)))[Pre.length + 2]? = some z := by
  show (Pre ++ (z :: rest))[Pre.length]? = some z
  rw [List.getElem?_append_right (Nat.le_refl _), Nat.sub_self]
  rfl
set_option maxHeartbeats 4000000 in
set_option maxRecDepth 100000 in
theorem c_X3_remember (l : Launch) (D : va_G) (t : Nat → ClassId) (h0 : Nat) (a0 : Nat → Nat) (u : UAT) (d0 : PAT) (h1 : Nat) (a1 : Nat → Nat) (d1 : DKT) (sz : Nat) (r : PAT) (hF : F_X3_remember d0 d1 = some r) : Met l yX3_remember wX3_remember ({ frames := 3, cells := 10, slots := 1085, locals := 100 } : Room) (kPx D (TY t) (kflat [wpa t h0 a0 u d0, wdk t h1 a1 d1]) [.ref h0, .ref h1] sz) (kQvS D (TY t) (fun (u : UAT) => kflat [wpa t h0 a0 u r, wdk t h1 a1 d1]) (va_A (kflat [wpa t h0 a0 u d0, wdk t h1 a1 d1]) sz)) 10 1085 (va_A (kflat [wpa t h0 a0 u d0, wdk t h1 a1 d1]) sz) := by
  unfold F_X3_remember at hF
  obtain ⟨hin, hF⟩ := kg hF
  obtain ⟨v, ev, hF⟩ := kc hF
  have hk : (irm (pa_oldest d0 + pa_count d0) 14).toNatClampNeg < 14 := Nat.not_le.mp fun q => hin (Or.inr q)
  obtain ⟨Pre, Post, hsp⟩ := wpa_sp t h0 a0 u d0 _ hk
  refine kEx (cc := cX3_remember) (maxL := 3) (ret := none) (Qx := fun A => kQvS D (TY t) (fun (u : UAT) => kflat [wpa t h0 a0 u r, wdk t h1 a1 d1]) A) (lv0 := [(0, .ref h0), (1, .ref h1)]) RX3 rfl (by decide) rfl (Nat.le_of_ble_eq_true rfl) rfl ?_
  intro p e s m args below meth c A ls hx hb hml hr hlocks hown hts hA hX hK hP hD hS hl
  have L11 := hts (.fieldLink RX3 11 "ChunkCarriers$Past" "desks" "[LChunkCarriers$Desk;") (List.mem_cons_of_mem _ w_69)
  have L17 := hts (.fieldLink RX3 17 "ChunkCarriers$Past" "oldest" "I") (List.mem_cons_of_mem _ w_350)
  have L21 := hts (.fieldLink RX3 21 "ChunkCarriers$Past" "count" "I") (List.mem_cons_of_mem _ w_351)
  have inX3_ : ∀ w ∈ wsX30, w ∈ wX3_remember := fun w h => List.mem_cons_of_mem _ (inlX3 w h)
  have inX1_ : ∀ w ∈ wsX10, w ∈ wX3_remember := fun w h => List.mem_cons_of_mem _ (inlX1 w h)
  refine lv_aload_n hx hb (kd tdlX3_remember_0 0 rfl) rfl (lv_at hl 0 rfl) ?_
  refine va_get (D := D) (ci := 2) (v := .int (pa_oldest d0)) (C := RX3) (T := TX3) (N := 3) hx hb hts inX3_ hown hK hP 0 rfl rfl 1 (by decide) L17 (fun _ h9 => h9) rfl (kd tdlX3_remember_0 1 rfl) ?_
  refine lv_aload_n hx hb (kd tdlX3_remember_0 2 rfl) rfl (lv_at hl 0 rfl) ?_
  refine va_get (D := D) (ci := 2) (v := .int (pa_count d0)) (C := RX3) (T := TX3) (N := 3) hx hb hts inX3_ hown hK hP 0 rfl rfl 2 (by decide) L21 (fun _ h9 => h9) rfl (kd tdlX3_remember_0 3 rfl) ?_
  refine lv_iadd hx hb (kd tdlX3_remember_0 4 rfl) ?_
  refine lv_bipush (v := 14) hx hb (kd tdlX3_remember_0 5 rfl) (by decide) ?_
  refine lv_irem hx hb (kd tdlX3_remember_0 6 rfl) (by decide) ?_
  refine W.eq (g2 := F0 m 12 ls [.int (irm (pa_oldest d0 + pa_count d0) 14)]) rfl ?_
  refine lv_istore_n (lv' := [(2, .int (irm (pa_oldest d0 + pa_count d0) 14)), (0, .ref h0), (1, .ref h1)]) hx hb (kd tdlX3_remember_0 7 rfl) rfl hl (by decide) rfl (fun ls hl => ?_)
  have h0' := hsp u d0 (wdk t h1 a1 d1) fun i _ => ⟨rfl, rfl, rfl, rfl⟩
  have fr : ∀ (q : Nat) (aq : Nat → Nat) (r' : PAT), r'.2.2 = (pa_put d0 (irm (pa_oldest d0 + pa_count d0) 14).toNatClampNeg v).2.2 →
      kflat [wpa t h0 a0 (va_up u.1 (irm (pa_oldest d0 + pa_count d0) 14).toNatClampNeg q, va_up u.2 (irm (pa_oldest d0 + pa_count d0) 14).toNatClampNeg aq) r', wdk t h1 a1 d1] = kflat [wph h0 (a0 0) (pa_oldest r') (pa_count r') (t 3) (va_up (fun i => if pa_has d0 i then some (u.1 i) else none) (irm (pa_oldest d0 + pa_count d0) 14).toNatClampNeg (some q)), Pre, wdk t q aq v, Post, wdk t h1 a1 d1] := by
    intro q aq r' hr'
    have e1 : pa_has r' = fun j => if j = (irm (pa_oldest d0 + pa_count d0) 14).toNatClampNeg then true else pa_has d0 j := congrArg Prod.fst hr'
    have e2 : pa_ds r' = fun j => if j = (irm (pa_oldest d0 + pa_count d0) 14).toNatClampNeg then v else pa_ds d0 j := congrArg Prod.snd hr'
    rw [hsp (va_up u.1 (irm (pa_oldest d0 + pa_count d0) 14).toNatClampNeg q, va_up u.2 (irm (pa_oldest d0 + pa_count d0) 14).toNatClampNeg aq) r' _ fun i hi => ⟨va_up_ne _ _ hi, va_up_ne _ _ hi, by rw [e1]; simp [hi], by rw [e2]; simp [hi]⟩]
    have e3 : (fun i => if pa_has r' i then some ((va_up u.1 (irm (pa_oldest d0 + pa_count d0) 14).toNatClampNeg q, va_up u.2 (irm (pa_oldest d0 + pa_count d0) 14).toNatClampNeg aq).1 i) else none) = va_up (fun i => if pa_has d0 i then some (u.1 i) else none) (irm (pa_oldest d0 + pa_count d0) 14).toNatClampNeg (some q) := by
      funext i
      rw [e1]
      by_cases hi : i = (irm (pa_oldest d0 + pa_count d0) 14).toNatClampNeg
      · simp [va_up, hi]
      · simp [va_up, hi]
    have e4 : wdB t (va_up u.1 (irm (pa_oldest d0 + pa_count d0) 14).toNatClampNeg q, va_up u.2 (irm (pa_oldest d0 + pa_count d0) 14).toNatClampNeg aq) (pa_has r') (pa_ds r') (irm (pa_oldest d0 + pa_count d0) 14).toNatClampNeg = wdk t q aq v := by
      unfold wdB
      rw [e1, e2]
      simp [va_up]
    rw [e3, e4]
  rw [h0'] at hP hD
  clear h0' hsp
  revert fr ev hin hF hl
  revert hP hD
  generalize irm (pa_oldest d0 + pa_count d0) 14 = at_
  intro hP hD
  intro hin ev hF hl fr
  generalize hf : (fun i => if pa_has d0 i then some (u.1 i) else none) = f at hP hD fr
  have tail : ∀ (q : Nat) (aq : Nat → Nat) (cells slots : Nat) (H : Heap) (locs : List Loc), cells ≤ 10 → slots ≤ 1085 → va_P D vwCl (kflat [wph h0 (a0 0) (pa_oldest d0) (pa_count d0) (t 3) (va_up f at_.toNatClampNeg (some q)), Pre, wdk t q aq (if pa_has d0 at_.toNatClampNeg then pa_ds d0 at_.toNatClampNeg else DK0), Post, wdk t h1 a1 d1]) H → va_D A (kflat [wph h0 (a0 0) (pa_oldest d0) (pa_count d0) (t 3) (va_up f at_.toNatClampNeg (some q)), Pre, wdk t q aq (if pa_has d0 at_.toNatClampNeg then pa_ds d0 at_.toNatClampNeg else DK0), Post, wdk t h1 a1 d1]) → va_S A s.heap H locs →
      W p l e ({ frames := 3, cells := 10, slots := 1085, locals := 100 } : Room) s m args below meth c H locs cells slots (MQ below (kQvS D (TY t) (fun (u : UAT) => kflat [wpa t h0 a0 u r, wdk t h1 a1 d1]) A) args s 10 1085 A) (F0 m 35 ls []) := by
    intro q aq cells slots H locs hcl hsl hP hD hS
    refine lv_aload_n hx hb (kd tdlX3_remember_0 20 rfl) rfl (lv_at hl 1 rfl) ?_
    refine va_get (D := D) (ci := 2) (v := .ref (a0 0)) (C := RX3) (T := TX3) (N := 3) hx hb hts inX3_ hown hK hP 0 rfl rfl 0 (by decide) L11 (fun _ h9 => h9) rfl (kd tdlX3_remember_0 21 rfl) ?_
    refine lv_iload_n hx hb (kd tdlX3_remember_0 22 rfl) rfl (lv_at hl 0 rfl) ?_
    refine va_aldq (C := RX1) hx hb hK hP 1 3 rfl rfl hin (kd tdlX3_remember_0 23 rfl) ?_
    rw [va_up_self]
    refine W.eq (g2 := F0 m 41 ls [.ref q]) rfl ?_
    refine lv_aload_n hx hb (kd tdlX3_remember_0 24 rfl) rfl (lv_at hl 2 rfl) ?_
    refine kcL_v (S := Unit) (wf := (fun (_ : Unit) => [wdk t q aq v, wdk t h1 a1 d1])) hP hD hS hA nd_2_4 rfl (fun _ => rfl) (kL_V (Qx := (fun A => kQv D (TY t) (kflat [wdk t q aq v, wdk t h1 a1 d1]) A)) (cs := [wdk t q aq (if pa_has d0 at_.toNatClampNeg then pa_ds d0 at_.toNatClampNeg else DK0), wdk t h1 a1 d1]) (is := [2, 4]) (As := [.ref h1]) (rest := []) ⟨hx, hb, hml, hown, hts⟩ hK hP hD nd_2_4 rfl (c_X1_copyFrom l D t q aq _ h1 a1 d1 _ v ev) (cwV 1 hts (gcX1_copyFrom w_352) rfl rfl rfl hdX1_copyFromV ⟨Nat.le_of_ble_eq_true rfl, Nat.le_of_ble_eq_true rfl⟩) (ci := 1) (q0 := Pre.length + 2) rfl kidx rfl hl.1 rfl (Nat.le_of_ble_eq_true rfl) (kd tdlX3_remember_0 25 rfl) ⟨hcl, hsl⟩) (fun _ H locs hP hD hS => ?_)
    have hP : va_P D vwCl (kflat [wph h0 (a0 0) (pa_oldest d0) (pa_count d0) (t 3) (va_up f at_.toNatClampNeg (some q)), Pre, wdk t q aq v, Post, wdk t h1 a1 d1]) H := hP
    have hD : va_D A (kflat [wph h0 (a0 0) (pa_oldest d0) (pa_count d0) (t 3) (va_up f at_.toNatClampNeg (some q)), Pre, wdk t q aq v, Post, wdk t h1 a1 d1]) := hD
    refine lv_aload_n hx hb (kd tdlX3_remember_0 26 rfl) rfl (lv_at hl 1 rfl) ?_
    refine va_get (D := D) (ci := 2) (v := .int (pa_count d0)) (C := RX3) (T := TX3) (N := 3) hx hb hts inX3_ hown hK hP 0 rfl rfl 2 (by decide) L21 (fun _ h9 => h9) rfl (kd tdlX3_remember_0 27 rfl) ?_
    refine lv_bipush (v := 14) hx hb (kd tdlX3_remember_0 28 rfl) (by decide) ?_
    refine lv_icmp_ge (tgt := 67) hx hb (kd tdlX3_remember_0 29 rfl) (by decide) (fun hc => ?_) (fun hc => ?_)
    · have hF := ko (kt hc hF)
      refine lv_aload_n hx hb (kd tdlX3_remember_0 37 rfl) rfl (lv_at hl 1 rfl) ?_
      refine lv_aload_n hx hb (kd tdlX3_remember_0 38 rfl) rfl (lv_at hl 1 rfl) ?_
      refine va_get (D := D) (ci := 2) (v := .int (pa_oldest d0)) (C := RX3) (T := TX3) (N := 3) hx hb hts inX3_ hown hK hP 0 rfl rfl 1 (by decide) L17 (fun _ h9 => h9) rfl (kd tdlX3_remember_0 39 rfl) ?_
      refine lv_iconst (v := 1) hx hb (kd tdlX3_remember_0 40 rfl) (by decide) ?_
      refine lv_iadd hx hb (kd tdlX3_remember_0 41 rfl) ?_
      refine lv_bipush (v := 14) hx hb (kd tdlX3_remember_0 42 rfl) (by decide) ?_
      refine lv_irem hx hb (kd tdlX3_remember_0 43 rfl) (by decide) ?_
      refine W.eq (g2 := F0 m 77 ls [.int (irm (pa_oldest d0 + 1) 14), .ref h0]) rfl ?_
      refine va_put (D := D) (ci := 2) (v := .int (irm (pa_oldest d0 + 1) 14)) (ty := .int) (C := RX3) (T := TX3) (N := 3) hx hb hts inX3_ tyX3 tyX3_ok nmX3 hown hK hP hD hS 0 rfl rfl 1 (by decide) L17 (fun _ h9 => h9) rfl (by decide +kernel) rfl rfl (Nat.le_of_ble_eq_true rfl) (kd tdlX3_remember_0 44 rfl) (fun H locs hP hD hS => ?_)
      have e5 := fr q aq r (by rw [← hF])
      have e6 : pa_oldest r = irm (pa_oldest d0 + 1) 14 ∧ pa_count r = pa_count d0 := by rw [← hF]; exact ⟨rfl, rfl⟩
      rw [e6.1, e6.2] at e5
      have hP : va_P D vwCl (kflat [wph h0 (a0 0) (irm (pa_oldest d0 + 1) 14) (pa_count d0) (t 3) (va_up f at_.toNatClampNeg (some q)), Pre, wdk t q aq v, Post, wdk t h1 a1 d1]) H := hP
      have hD : va_D A (kflat [wph h0 (a0 0) (irm (pa_oldest d0 + 1) 14) (pa_count d0) (t 3) (va_up f at_.toNatClampNeg (some q)), Pre, wdk t q aq v, Post, wdk t h1 a1 d1]) := hD
      rw [← e5] at hP hD
      exact kes_v (va_up u.1 at_.toNatClampNeg q, va_up u.2 at_.toNatClampNeg aq) hx hb hr hlocks hK hP hD hS hcl hsl (kd tdlX3_remember_1 0 rfl)
    · have hF := ko (kf hc hF)
      refine lv_aload_n hx hb (kd tdlX3_remember_0 30 rfl) rfl (lv_at hl 1 rfl) ?_
      refine lv_dup hx hb (kd tdlX3_remember_0 31 rfl) rfl ?_
      refine va_get (D := D) (ci := 2) (v := .int (pa_count d0)) (C := RX3) (T := TX3) (N := 3) hx hb hts inX3_ hown hK hP 0 rfl rfl 2 (by decide) L21 (fun _ h9 => h9) rfl (kd tdlX3_remember_0 32 rfl) ?_
      refine lv_iconst (v := 1) hx hb (kd tdlX3_remember_0 33 rfl) (by decide) ?_
      refine lv_iadd hx hb (kd tdlX3_remember_0 34 rfl) ?_
      refine va_put (D := D) (ci := 2) (v := .int (pa_count d0 + 1)) (ty := .int) (C := RX3) (T := TX3) (N := 3) hx hb hts inX3_ tyX3 tyX3_ok nmX3 hown hK hP hD hS 0 rfl rfl 2 (by decide) L21 (fun _ h9 => h9) rfl (by decide +kernel) rfl rfl (Nat.le_of_ble_eq_true rfl) (kd tdlX3_remember_0 35 rfl) (fun H locs hP hD hS => ?_)
      refine lv_goto (tgt := 80) hx hb (kd tdlX3_remember_0 36 rfl) (by decide) ?_
      have e5 := fr q aq r (by rw [← hF])
      have e6 : pa_oldest r = pa_oldest d0 ∧ pa_count r = pa_count d0 + 1 := by rw [← hF]; exact ⟨rfl, rfl⟩
      rw [e6.1, e6.2] at e5
      have hP : va_P D vwCl (kflat [wph h0 (a0 0) (pa_oldest d0) (pa_count d0 + 1) (t 3) (va_up f at_.toNatClampNeg (some q)), Pre, wdk t q aq v, Post, wdk t h1 a1 d1]) H := hP
      have hD : va_D A (kflat [wph h0 (a0 0) (pa_oldest d0) (pa_count d0 + 1) (t 3) (va_up f at_.toNatClampNeg (some q)), Pre, wdk t q aq v, Post, wdk t h1 a1 d1]) := hD
      rw [← e5] at hP hD
      exact kes_v (va_up u.1 at_.toNatClampNeg q, va_up u.2 at_.toNatClampNeg aq) hx hb hr hlocks hK hP hD hS hcl hsl (kd tdlX3_remember_1 0 rfl)
  refine lv_aload_n hx hb (kd tdlX3_remember_0 8 rfl) rfl (lv_at hl 1 rfl) ?_
  refine va_get (D := D) (ci := 2) (v := .ref (a0 0)) (C := RX3) (T := TX3) (N := 3) hx hb hts inX3_ hown hK hP 0 rfl rfl 0 (by decide) L11 (fun _ h9 => h9) rfl (kd tdlX3_remember_0 9 rfl) ?_
  refine lv_iload_n hx hb (kd tdlX3_remember_0 10 rfl) rfl (lv_at hl 0 rfl) ?_
  refine va_aldq (C := RX1) hx hb hK hP 1 3 rfl rfl hin (kd tdlX3_remember_0 11 rfl) ?_
  by_cases hh : pa_has d0 at_.toNatClampNeg = true
  · have ef : f at_.toNatClampNeg = some (u.1 at_.toNatClampNeg) := by rw [← hf]; simp [hh]
    rw [ef]
    refine W.eq (g2 := F0 m 19 ls [.ref (u.1 at_.toNatClampNeg)]) rfl ?_
    refine lv_ifnonnull (tgt := 35) hx hb (kd tdlX3_remember_0 12 rfl) (by decide) ?_
    have e7 : va_up f at_.toNatClampNeg (some (u.1 at_.toNatClampNeg)) = f := by
      funext j
      by_cases hj : j = at_.toNatClampNeg
      · rw [hj, va_up_self, ef]
      · rw [va_up_ne _ _ hj]
    refine tail (u.1 at_.toNatClampNeg) (u.2 at_.toNatClampNeg) 0 0 _ _ (by omega) (by omega) ?_ ?_ hS
    · rw [e7, if_pos hh]
      unfold wdB at hP
      rw [if_pos hh] at hP
      exact hP
    · rw [e7, if_pos hh]
      unfold wdB at hD
      rw [if_pos hh] at hD
      exact hD
  · have ef : f at_.toNatClampNeg = none := by rw [← hf]; simp [hh]
    rw [ef]
    refine W.eq (g2 := F0 m 19 ls [.null]) rfl ?_
    refine lv_ifnonnullN hx hb (kd tdlX3_remember_0 12 rfl) ?_
    unfold wdB at hP hD
    rw [if_neg hh] at hP hD
    refine lv_aload_n hx hb (kd tdlX3_remember_0 13 rfl) rfl (lv_at hl 1 rfl) ?_
    refine va_get (D := D) (ci := 2) (v := .ref (a0 0)) (C := RX3) (T := TX3) (N := 3) hx hb hts inX3_ hown hK hP 0 rfl rfl 0 (by decide) L11 (fun _ h9 => h9) rfl (kd tdlX3_remember_0 14 rfl) ?_
    refine lv_iload_n hx hb (kd tdlX3_remember_0 15 rfl) rfl (lv_at hl 0 rfl) ?_
    refine va_new (C := RX1) (T := TX1) (N := 13) (ci := 1) (fs := [.null, .null, .null, .null, .int 0, .null, .null, .null, .int 0, .null, .null, .int 0, .int 0]) hx hb hts inX1_ tyX1 tyX1_ok hown (hts _ (List.mem_cons_of_mem _ w_68)) (hts _ (List.mem_cons_of_mem _ w_16)) (hts _ (List.mem_cons_of_mem _ w_17)) hK hP hD hS hA rfl (fun j hj => match j, hj with | 0, _ => rfl | 1, _ => rfl | 2, _ => rfl | 3, _ => rfl | 4, _ => rfl | 5, _ => rfl | 6, _ => rfl | 7, _ => rfl | 8, _ => rfl | 9, _ => rfl | 10, _ => rfl | 11, _ => rfl | 12, _ => rfl | (n + 13), h => absurd h (by omega)) (Nat.le_of_ble_eq_true rfl) (Nat.le_of_ble_eq_true rfl) (kd tdlX3_remember_0 16 rfl) (fun q H hP hD hS => ?_)
    have e8 : kflat [wph h0 (a0 0) (pa_oldest d0) (pa_count d0) (t 3) f, Pre, [], Post, wdk t h1 a1 d1] ++ [(q, .inr (1, [.null, .null, .null, .null, .int 0, .null, .null, .null, .int 0, .null, .null, .int 0, .int 0]))] = kflat [wph h0 (a0 0) (pa_oldest d0) (pa_count d0) (t 3) f, Pre, [], Post, wdk t h1 a1 d1, [(q, .inr (1, [.null, .null, .null, .null, .int 0, .null, .null, .null, .int 0, .null, .null, .int 0, .int 0]))]] := by
      rw [kflat_eq, kflat_eq]
      simp
    rw [e8] at hP hD
    refine lv_dup hx hb (kd tdlX3_remember_0 17 rfl) rfl ?_
    refine kcL_v (S := Nat → Nat) (cs := [[(q, .inr (1, [.null, .null, .null, .null, .int 0, .null, .null, .null, .int 0, .null, .null, .int 0, .int 0]))]]) (is := [5]) (wf := (fun (aq : Nat → Nat) => [wdk t q aq DKI])) hP hD hS hA nd_5 rfl (fun _ => rfl) (va_runIN (mc := 9) (ms := 1072) (rm := { frames := 1, cells := 9, slots := 1072, locals := 30 }) (As := []) (b := q) (rest := [.ref q, .int at_, .ref (a0 0)]) ⟨hx, hb, hml, hown, hts⟩ (c_X1_init l D t q _) ⟨va_cnB (own := RX3) (index := 24) (y := yX1_init) (host := "ChunkCarriers") 0 hts (kgoodI w_47) rfl rfl rfl (hX.2.2.2.2.2.1 ("ChunkCarriers$Past", 24, yX1_init) (by simp [NWM])) (hts _ (List.mem_cons_of_mem _ w_17)) (by decide +kernel) ⟨Nat.le_of_ble_eq_true rfl, Nat.le_of_ble_eq_true rfl⟩, rfl, hts _ (List.mem_cons_of_mem _ w_46)⟩ ⟨kPx_blind, kpreX (cs := [[(q, .inr (1, [.null, .null, .null, .null, .int 0, .null, .null, .null, .int 0, .null, .null, .int 0, .int 0]))]]) (is := [5]) hX hS hA hK hP hD nd_5 rfl⟩ rfl rfl hl.1 rfl (Nat.le_of_ble_eq_true rfl) (kd tdlX3_remember_0 18 rfl) ⟨Nat.le_of_ble_eq_true rfl, Nat.le_of_ble_eq_true rfl⟩) (fun aq H locs hP hD hS => ?_)
    have pm : (kflat [wph h0 (a0 0) (pa_oldest d0) (pa_count d0) (t 3) f, Pre, [], Post, wdk t h1 a1 d1, wdk t q aq DKI]).Perm (kflat [wph h0 (a0 0) (pa_oldest d0) (pa_count d0) (t 3) f, Pre, wdk t q aq DKI, Post, wdk t h1 a1 d1]) := by
      rw [kflat_eq, kflat_eq]
      simp only [List.flatten_cons, List.flatten_nil, List.append_nil, List.nil_append]
      rw [← List.append_assoc Post]
      exact (List.perm_append_comm.append_left _).append_left _
    have hP : va_P D vwCl (kflat [wph h0 (a0 0) (pa_oldest d0) (pa_count d0) (t 3) f, Pre, [], Post, wdk t h1 a1 d1, wdk t q aq DKI]) H := hP
    have hD : va_D A (kflat [wph h0 (a0 0) (pa_oldest d0) (pa_count d0) (t 3) f, Pre, [], Post, wdk t h1 a1 d1, wdk t q aq DKI]) := hD
    have hP := kPperm pm hP
    have hD := kDperm pm hD
    refine va_astq (r := (RX1, TX1, 13)) hx hb hK hP hD hS 1 3 (Pre.length + 2) 1 rfl rfl kidx rfl hin (kd tdlX3_remember_0 19 rfl) (fun H locs hP hD hS => ?_)
    refine tail q aq _ _ _ _ (Nat.le_of_ble_eq_true rfl) (Nat.le_of_ble_eq_true rfl) ?_ ?_ hS
    · rw [if_neg hh]
      exact hP
    · rw [if_neg hh]
      exact hD
theorem kidx2 {x y z : Nat × va_E} {Pre B Post rest : va_W} : (x :: y :: (Pre ++ (B ++ (Post ++ (z :: rest)))))[Pre.length + B.length + Post.length + 2]? = some z := by
  show (Pre ++ (B ++ (Post ++ (z :: rest))))[Pre.length + B.length + Post.length]? = some z
  rw [← List.append_assoc, ← List.append_assoc, List.getElem?_append_right (by simp only [List.length_append]; omega)]
  simp only [List.length_append]
  rw [Nat.sub_self]
  rfl
set_option maxHeartbeats 4000000 in
set_option maxRecDepth 100000 in
theorem c_X3_takeBack (l : Launch) (D : va_G) (t : Nat → ClassId) (h0 : Nat) (a0 : Nat → Nat) (u : UAT) (d0 : PAT) (h1 : Nat) (a1 : Nat → Nat) (d1 : DKT) (sz : Nat) (r : PAT × DKT) (hF : F_X3_takeBack d0 d1 = some r) : Met l yX3_takeBack wX3_takeBack ({ frames := 2, cells := 0, slots := 0, locals := 60 } : Room) (kPx D (TY t) (kflat [wpa t h0 a0 u d0, wdk t h1 a1 d1]) [.ref h0, .ref h1] sz) (kQvS D (TY t) (fun (u : UAT) => kflat [wpa t h0 a0 u r.1, wdk t h1 a1 r.2]) (va_A (kflat [wpa t h0 a0 u d0, wdk t h1 a1 d1]) sz)) 0 0 (va_A (kflat [wpa t h0 a0 u d0, wdk t h1 a1 d1]) sz) := by
  unfold F_X3_takeBack at hF
  refine kEx (cc := cX3_takeBack) (maxL := 2) (ret := none) (Qx := fun A => kQvS D (TY t) (fun (u : UAT) => kflat [wpa t h0 a0 u r.1, wdk t h1 a1 r.2]) A) (lv0 := [(0, .ref h0), (1, .ref h1)]) RX3 rfl (by decide) rfl (Nat.le_of_ble_eq_true rfl) rfl ?_
  intro p e s m args below meth c A ls hx hb hml hr hlocks hown hts hA hX hK hP hD hS hl
  have L11 := hts (.fieldLink RX3 11 "ChunkCarriers$Past" "desks" "[LChunkCarriers$Desk;") (List.mem_cons_of_mem _ w_69)
  have L17 := hts (.fieldLink RX3 17 "ChunkCarriers$Past" "oldest" "I") (List.mem_cons_of_mem _ w_350)
  have L21 := hts (.fieldLink RX3 21 "ChunkCarriers$Past" "count" "I") (List.mem_cons_of_mem _ w_351)
  have inX3_ : ∀ w ∈ wsX30, w ∈ wX3_takeBack := fun w h => List.mem_cons_of_mem _ (inlX3 w h)
  refine lv_aload_n hx hb (kd tdlX3_takeBack_0 0 rfl) rfl (lv_at hl 0 rfl) ?_
  refine va_get (D := D) (ci := 2) (v := .int (pa_count d0)) (C := RX3) (T := TX3) (N := 3) hx hb hts inX3_ hown hK hP 0 rfl rfl 2 (by decide) L21 (fun _ h9 => h9) rfl (kd tdlX3_takeBack_0 1 rfl) ?_
  refine lv_if_ne (tgt := 8) hx hb (kd tdlX3_takeBack_0 2 rfl) (by decide) (fun hc => ?_) (fun hc => ?_)
  · obtain ⟨hin, hF⟩ := kg (kf hc hF)
    have hk : (irm (pa_oldest d0 + (pa_count d0 - 1)) 14).toNatClampNeg < 14 := Nat.not_le.mp fun q => hin (Or.inr q)
    have hh : pa_has d0 (irm (pa_oldest d0 + (pa_count d0 - 1)) 14).toNatClampNeg = true := by
      by_cases hh : pa_has d0 (irm (pa_oldest d0 + (pa_count d0 - 1)) 14).toNatClampNeg = true
      · exact hh
      · rw [if_neg hh] at hF
        cases hF
    rw [if_pos hh] at hF
    obtain ⟨v, ev, hF⟩ := kc hF
    have hF := ko hF
    obtain ⟨Pre, Post, hsp⟩ := wpa_sp t h0 a0 u d0 _ hk
    have e0 := hsp u d0 (wdk t h1 a1 d1) fun i _ => ⟨rfl, rfl, rfl, rfl⟩
    have e1 := hsp u r.1 (wdk t h1 a1 r.2) fun i _ => by rw [← hF]; exact ⟨rfl, rfl, rfl, rfl⟩
    have e2 : pa_oldest r.1 = pa_oldest d0 ∧ pa_count r.1 = pa_count d0 - 1 ∧ pa_has r.1 = pa_has d0 ∧ pa_ds r.1 = pa_ds d0 ∧ r.2 = v := by rw [← hF]; exact ⟨rfl, rfl, rfl, rfl, rfl⟩
    rw [e2.1, e2.2.1, e2.2.2.1, e2.2.2.2.1] at e1
    unfold wdB at e0 e1
    rw [if_pos hh] at e0 e1
    rw [e0] at hP hD
    refine lv_aload_n hx hb (kd tdlX3_takeBack_0 4 rfl) rfl (lv_at hl 0 rfl) ?_
    refine lv_dup hx hb (kd tdlX3_takeBack_0 5 rfl) rfl ?_
    refine va_get (D := D) (ci := 2) (v := .int (pa_count d0)) (C := RX3) (T := TX3) (N := 3) hx hb hts inX3_ hown hK hP 0 rfl rfl 2 (by decide) L21 (fun _ h9 => h9) rfl (kd tdlX3_takeBack_0 6 rfl) ?_
    refine lv_iconst (v := 1) hx hb (kd tdlX3_takeBack_0 7 rfl) (by decide) ?_
    refine lv_isub hx hb (kd tdlX3_takeBack_0 8 rfl) ?_
    refine va_put (D := D) (ci := 2) (v := .int (pa_count d0 - 1)) (ty := .int) (C := RX3) (T := TX3) (N := 3) hx hb hts inX3_ tyX3 tyX3_ok nmX3 hown hK hP hD hS 0 rfl rfl 2 (by decide) L21 (fun _ h9 => h9) rfl (by decide +kernel) rfl rfl (Nat.le_of_ble_eq_true rfl) (kd tdlX3_takeBack_0 9 rfl) (fun H locs hP hD hS => ?_)
    have hP : va_P D vwCl (kflat [wph h0 (a0 0) (pa_oldest d0) (pa_count d0 - 1) (t 3) (fun i => if pa_has d0 i then some (u.1 i) else none), Pre, wdk t (u.1 (irm (pa_oldest d0 + (pa_count d0 - 1)) 14).toNatClampNeg) (u.2 (irm (pa_oldest d0 + (pa_count d0 - 1)) 14).toNatClampNeg) (pa_ds d0 (irm (pa_oldest d0 + (pa_count d0 - 1)) 14).toNatClampNeg), Post, wdk t h1 a1 d1]) H := hP
    have hD : va_D A (kflat [wph h0 (a0 0) (pa_oldest d0) (pa_count d0 - 1) (t 3) (fun i => if pa_has d0 i then some (u.1 i) else none), Pre, wdk t (u.1 (irm (pa_oldest d0 + (pa_count d0 - 1)) 14).toNatClampNeg) (u.2 (irm (pa_oldest d0 + (pa_count d0 - 1)) 14).toNatClampNeg) (pa_ds d0 (irm (pa_oldest d0 + (pa_count d0 - 1)) 14).toNatClampNeg), Post, wdk t h1 a1 d1]) := hD
    refine lv_aload_n hx hb (kd tdlX3_takeBack_0 10 rfl) rfl (lv_at hl 1 rfl) ?_
    refine lv_aload_n hx hb (kd tdlX3_takeBack_0 11 rfl) rfl (lv_at hl 0 rfl) ?_
    refine va_get (D := D) (ci := 2) (v := .ref (a0 0)) (C := RX3) (T := TX3) (N := 3) hx hb hts inX3_ hown hK hP 0 rfl rfl 0 (by decide) L11 (fun _ h9 => h9) rfl (kd tdlX3_takeBack_0 12 rfl) ?_
    refine lv_aload_n hx hb (kd tdlX3_takeBack_0 13 rfl) rfl (lv_at hl 0 rfl) ?_
    refine va_get (D := D) (ci := 2) (v := .int (pa_oldest d0)) (C := RX3) (T := TX3) (N := 3) hx hb hts inX3_ hown hK hP 0 rfl rfl 1 (by decide) L17 (fun _ h9 => h9) rfl (kd tdlX3_takeBack_0 14 rfl) ?_
    refine lv_aload_n hx hb (kd tdlX3_takeBack_0 15 rfl) rfl (lv_at hl 0 rfl) ?_
    refine va_get (D := D) (ci := 2) (v := .int (pa_count d0 - 1)) (C := RX3) (T := TX3) (N := 3) hx hb hts inX3_ hown hK hP 0 rfl rfl 2 (by decide) L21 (fun _ h9 => h9) rfl (kd tdlX3_takeBack_0 16 rfl) ?_
    refine lv_iadd hx hb (kd tdlX3_takeBack_0 17 rfl) ?_
    refine lv_bipush (v := 14) hx hb (kd tdlX3_takeBack_0 18 rfl) (by decide) ?_
    refine lv_irem hx hb (kd tdlX3_takeBack_0 19 rfl) (by decide) ?_
    refine W.eq (g2 := F0 m 35 ls [.int (irm (pa_oldest d0 + (pa_count d0 - 1)) 14), .ref (a0 0), .ref h1]) rfl ?_
    refine va_aldq (C := RX1) hx hb hK hP 1 3 rfl rfl hin (kd tdlX3_takeBack_0 20 rfl) ?_
    rw [if_pos hh]
    refine W.eq (g2 := F0 m 36 ls [.ref (u.1 (irm (pa_oldest d0 + (pa_count d0 - 1)) 14).toNatClampNeg), .ref h1]) rfl ?_
    refine kcL_v (S := Unit) (wf := (fun (_ : Unit) => [wdk t h1 a1 v, wdk t (u.1 (irm (pa_oldest d0 + (pa_count d0 - 1)) 14).toNatClampNeg) (u.2 (irm (pa_oldest d0 + (pa_count d0 - 1)) 14).toNatClampNeg) (pa_ds d0 (irm (pa_oldest d0 + (pa_count d0 - 1)) 14).toNatClampNeg)])) hP hD hS hA nd_4_2 rfl (fun _ => rfl) (kL_V (Qx := (fun A => kQv D (TY t) (kflat [wdk t h1 a1 v, wdk t (u.1 (irm (pa_oldest d0 + (pa_count d0 - 1)) 14).toNatClampNeg) (u.2 (irm (pa_oldest d0 + (pa_count d0 - 1)) 14).toNatClampNeg) (pa_ds d0 (irm (pa_oldest d0 + (pa_count d0 - 1)) 14).toNatClampNeg)]) A)) (cs := [wdk t h1 a1 d1, wdk t (u.1 (irm (pa_oldest d0 + (pa_count d0 - 1)) 14).toNatClampNeg) (u.2 (irm (pa_oldest d0 + (pa_count d0 - 1)) 14).toNatClampNeg) (pa_ds d0 (irm (pa_oldest d0 + (pa_count d0 - 1)) 14).toNatClampNeg)]) (is := [4, 2]) (As := [.ref (u.1 (irm (pa_oldest d0 + (pa_count d0 - 1)) 14).toNatClampNeg)]) (rest := []) ⟨hx, hb, hml, hown, hts⟩ hK hP hD nd_4_2 rfl (c_X1_copyFrom l D t h1 a1 _ _ _ _ _ v ev) (cwV 1 hts (gcX1_copyFrom w_352) rfl rfl rfl hdX1_copyFromV ⟨Nat.le_of_ble_eq_true rfl, Nat.le_of_ble_eq_true rfl⟩) (ci := 1) rfl kidx2 rfl hl.1 rfl (Nat.le_of_ble_eq_true rfl) (kd tdlX3_takeBack_0 21 rfl) ⟨Nat.le_of_ble_eq_true rfl, Nat.le_of_ble_eq_true rfl⟩) (fun _ H locs hP hD hS => ?_)
    rw [e2.2.2.2.2] at e1
    refine kes_v (wf := fun (u : UAT) => kflat [wpa t h0 a0 u r.1, wdk t h1 a1 r.2]) u hx hb hr hlocks hK ?_ ?_ hS (Nat.le_of_ble_eq_true rfl) (Nat.le_of_ble_eq_true rfl) (kd tdlX3_takeBack_0 22 rfl)
    · rw [e2.2.2.2.2, e1]
      exact hP
    · rw [e2.2.2.2.2, e1]
      exact hD
  · have hF := ko (kt hc hF)
    subst hF
    exact kes_v u hx hb hr hlocks hK hP hD hS (Nat.le_of_ble_eq_true rfl) (Nat.le_of_ble_eq_true rfl) (kd tdlX3_takeBack_0 3 rfl)
set_option maxHeartbeats 4000000 in
set_option maxRecDepth 100000 in
theorem c_X3_forget (l : Launch) (D : va_G) (t : Nat → ClassId) (h0 : Nat) (a0 : Nat → Nat) (u : UAT) (d0 : PAT) (sz : Nat) (r : PAT) (hF : F_X3_forget d0 = some r) : Met l yX3_forget wX3_forget ({ frames := 1, cells := 0, slots := 0, locals := 30 } : Room) (kPc D (TY t) (wpa t h0 a0 u d0) [.ref h0] sz) (kQv D (TY t) (wpa t h0 a0 u r) (va_A (wpa t h0 a0 u d0) sz)) 0 0 (va_A (wpa t h0 a0 u d0) sz) := by
  have hF := ko hF
  refine kE (cc := cX3_forget) (maxL := 1) (ret := none) (Qx := fun A => kQv D (TY t) (wpa t h0 a0 u r) A) (lv0 := [(0, .ref h0)]) RX3 rfl (by decide) rfl (Nat.le_of_ble_eq_true rfl) rfl ?_
  intro p e s m args below meth c A ls hx hb hml hr hlocks hown hts hA hK hP hD hS hl
  have L17 := hts (.fieldLink RX3 17 "ChunkCarriers$Past" "oldest" "I") (List.mem_cons_of_mem _ w_350)
  have L21 := hts (.fieldLink RX3 21 "ChunkCarriers$Past" "count" "I") (List.mem_cons_of_mem _ w_351)
  have inX3_ : ∀ w ∈ wsX30, w ∈ wX3_forget := fun w h => List.mem_cons_of_mem _ (inlX3 w h)
  refine lv_aload_n hx hb (kd tdlX3_forget_0 0 rfl) rfl (lv_at hl 0 rfl) ?_
  refine lv_iconst (v := 0) hx hb (kd tdlX3_forget_0 1 rfl) (by decide) ?_
  refine va_put (D := D) (ci := 2) (v := .int 0) (ty := .int) (C := RX3) (T := TX3) (N := 3) hx hb hts inX3_ tyX3 tyX3_ok nmX3 hown hK hP hD hS 0 rfl rfl 1 (by decide) L17 (fun _ h9 => h9) rfl (by decide +kernel) rfl rfl (Nat.le_of_ble_eq_true rfl) (kd tdlX3_forget_0 2 rfl) (fun H locs hP hD hS => ?_)
  have hP : va_P D vwCl (wpa t h0 a0 u (0, pa_count d0, d0.2.2)) H := hP
  have hD : va_D A (wpa t h0 a0 u (0, pa_count d0, d0.2.2)) := hD
  refine lv_aload_n hx hb (kd tdlX3_forget_0 3 rfl) rfl (lv_at hl 0 rfl) ?_
  refine lv_iconst (v := 0) hx hb (kd tdlX3_forget_0 4 rfl) (by decide) ?_
  refine va_put (D := D) (ci := 2) (v := .int 0) (ty := .int) (C := RX3) (T := TX3) (N := 3) hx hb hts inX3_ tyX3 tyX3_ok nmX3 hown hK hP hD hS 0 rfl rfl 2 (by decide) L21 (fun _ h9 => h9) rfl (by decide +kernel) rfl rfl (Nat.le_of_ble_eq_true rfl) (kd tdlX3_forget_0 5 rfl) (fun H locs hP hD hS => ?_)
  have hP : va_P D vwCl (wpa t h0 a0 u (0, 0, d0.2.2)) H := hP
  have hD : va_D A (wpa t h0 a0 u (0, 0, d0.2.2)) := hD
  subst hF
  exact ke_v hx hb hr hlocks hK hP hD hS (kd tdlX3_forget_0 6 rfl)
