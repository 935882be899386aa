/-! FROM THE LAW'S ENTRY -/
theorem ndw_0 : ([0] : List Nat).Nodup := by decide
set_option maxHeartbeats 4000000 in
set_option maxRecDepth 100000 in
theorem whole_of {p : Program} {e : Env} {s : State} {m : MethodId} {below : List Frame} {meth : Method} {c : Code} (l : Launch) {b L : Nat} {xs : Nat → Int32} (C0 : lw_At p s m meth c b L xs) (hF : F_L_law L xs TXI DKI DKI PA0 SVI SMI PLI SOI CRI = some 1) : W p l e room_1 s m #[Value.ref b] below meth c s.heap [] 0 0 (lw_Z below #[Value.ref b] s) (entryFrame m ([Value.ref b] : List Value).toArray 25) := by
  obtain ⟨hx, hb, hr, hml, hown, htsL, hsx, hbl, hlocks, hgv⟩ := id C0
  have hB : ∀ w ∈ BIG, w.before #[Value.ref b] s = true := fun w h => htsL w (hBIG w h)
  have hts : ∀ w ∈ (Cond.initialized RX8) :: BIG, w.before #[Value.ref b] s = true := List.forall_mem_cons.mpr ⟨hB _ w_2, hB⟩
  obtain ⟨D, t, hK⟩ := lawK htsL
  have hX := lawX htsL hgv
  have hA : ∀ q : Nat, s.heap.size ≤ q → (fun q : Nat => s.heap.size ≤ q) q := fun _ h => h
  have hbA : ¬ (fun q : Nat => s.heap.size ≤ q) b := Nat.not_le.mpr hbl
  have hown : s.vm.findClass RL = some m.cls := hown
  have hS : va_S (fun q : Nat => s.heap.size ≤ q) s.heap s.heap [] := va_S.rf
  have hP : va_P D vwCl [] s.heap := fun k q h => by simp at h
  have hD : va_D (fun q : Nat => s.heap.size ≤ q) [] := ⟨fun i j p q h => by simp at h, fun k q h => by simp at h⟩
  have hl := lv_entry ([.ref b]) (n := 25) (Nat.le_of_ble_eq_true rfl)
  rw [lg_entry_eq]
  generalize (lg_sl ([.ref b]) ++ List.replicate (25 - (lg_sl ([.ref b])).length) Slot.unset).toArray = ls at hl ⊢
  have hl : lv_has ls 25 [(0, .ref b)] := hl
  have in8 : ∀ w ∈ wsX80, w ∈ (Cond.initialized RX8) :: BIG := fun w h => List.mem_cons_of_mem _ (inlX8 w h)
  refine va_new (C := RX8) (T := TX8) (N := 9) (ci := 7) (fs := [.null, .null, .null, .null, .null, .null, .null, .null, .null]) hx hb hts in8 tyX8 tyX8_ok hown (hB _ w_0) (hB _ w_1) (hB _ w_2) hK hP hD hS hA rfl (fun j hj => match j, hj with | 0, _ => rfl | 1, _ => rfl | 2, _ => rfl | 3, _ => rfl | 4, _ => rfl | 5, _ => rfl | 6, _ => rfl | 7, _ => rfl | 8, _ => rfl | (n + 9), h => absurd h (by omega)) (Nat.le_of_ble_eq_true rfl) (Nat.le_of_ble_eq_true rfl) (kd tdlL_law_0 0 rfl) (fun h8 H hP hD hS => ?_)
  have hP : va_P D vwCl (kflat [[(h8, .inr (7, [.null, .null, .null, .null, .null, .null, .null, .null, .null]))]]) H := hP
  have hD : va_D (fun q : Nat => s.heap.size ≤ q) (kflat [[(h8, .inr (7, [.null, .null, .null, .null, .null, .null, .null, .null, .null]))]]) := hD
  refine lv_dup hx hb (kd tdlL_law_0 1 rfl) rfl ?_
  refine kcL_v (S := (Nat → Nat) × (Nat → Nat → Nat)) (cs := [[(h8, .inr (7, [.null, .null, .null, .null, .null, .null, .null, .null, .null]))]]) (is := [0]) (wf := (fun x => [kflat [wx8 h8 x.1, wtx t (x.1 0) (x.2 0) TXI, wdk t (x.1 1) (x.2 1) DKI, wdk t (x.1 2) (x.2 2) DKI, wpa t (x.1 3) (x.2 3) (fun _ => 0, fun _ _ => 0) PA0, wsv t (x.1 4) (fun _ => 0, fun _ _ => 0) SVI, wsm t (x.1 5) (x.2 5) SMI, wpl t (x.1 6) (x.2 6) PLI, wso t (x.1 7) (x.2 7) SOI, wcr t (x.1 8) (x.2 8) CRI]])) hP hD hS hA ndw_0 rfl (fun _ => rfl) (va_runI (mc := 40) (ms := 3140) (rm := { frames := 2, cells := 40, slots := 3140, locals := 60 }) (As := []) (b := h8) (rest := [.ref h8]) ⟨hx, hb, hml, hown, hts⟩ (c_X8_init l D t h8 _) (cwI 0 hts (kgoodI w_7) rfl rfl rfl (hB _ w_2) (hB _ w_5) (hB _ w_6) rfl (by decide +kernel) ⟨(Nat.le_of_ble_eq_true rfl), (Nat.le_of_ble_eq_true rfl)⟩) ⟨kPx_blind, kpreX (cs := [[(h8, .inr (7, [.null, .null, .null, .null, .null, .null, .null, .null, .null]))]]) (is := [0]) hX hS hA hK hP hD ndw_0 rfl⟩ rfl rfl hl.1 rfl (lv_room (Nat.le_of_ble_eq_true rfl)) (kd tdlL_law_0 2 rfl) ⟨(Nat.le_of_ble_eq_true rfl), (Nat.le_of_ble_eq_true rfl)⟩) (fun x H locs hP hD hS => ?_)
  have hP : va_P D vwCl (kflat [wx8 h8 x.1, wtx t (x.1 0) (x.2 0) TXI, wdk t (x.1 1) (x.2 1) DKI, wdk t (x.1 2) (x.2 2) DKI, wpa t (x.1 3) (x.2 3) (fun _ => 0, fun _ _ => 0) PA0, wsv t (x.1 4) (fun _ => 0, fun _ _ => 0) SVI, wsm t (x.1 5) (x.2 5) SMI, wpl t (x.1 6) (x.2 6) PLI, wso t (x.1 7) (x.2 7) SOI, wcr t (x.1 8) (x.2 8) CRI]) H := hP
  have hD : va_D (fun q : Nat => s.heap.size ≤ q) (kflat [wx8 h8 x.1, wtx t (x.1 0) (x.2 0) TXI, wdk t (x.1 1) (x.2 1) DKI, wdk t (x.1 2) (x.2 2) DKI, wpa t (x.1 3) (x.2 3) (fun _ => 0, fun _ _ => 0) PA0, wsv t (x.1 4) (fun _ => 0, fun _ _ => 0) SVI, wsm t (x.1 5) (x.2 5) SMI, wpl t (x.1 6) (x.2 6) PLI, wso t (x.1 7) (x.2 7) SOI, wcr t (x.1 8) (x.2 8) CRI]) := hD
  refine lv_astore_n (lv' := [(1, .ref h8), (0, .ref b)]) hx hb (kd tdlL_law_0 3 rfl) rfl hl (by decide) rfl (fun ls hl => ?_)
  exact law_run h8 x.1 (x.2 0) TXI (x.2 1) DKI (x.2 2) DKI (x.2 3) (fun _ => 0, fun _ _ => 0) PA0 (fun _ => 0, fun _ _ => 0) SVI (x.2 5) SMI (x.2 6) PLI (x.2 7) SOI (x.2 8) CRI hx hb hr hlocks hml hown hts hX hK hA (fun _ h => h) hsx hbl hbA hS hP hD hl (Nat.le_of_ble_eq_true rfl) (Nat.le_of_ble_eq_true rfl) hF
