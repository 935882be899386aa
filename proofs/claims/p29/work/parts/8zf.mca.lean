/-! THE PURE SIDE: the Model carries forward -/
def MW (s : Nat → Int32) (A : AT) (k w : Nat) : Prop := RMc s (a_se A) (ms (TH A) A k w).2 (ms (TH A) A k w).1 ∧ RMb s (fun b => (a_bs A b).map (crw A w)) ∧ s 6 = a_ca A
theorem ms_f {A : AT} {k w : Nat} (hk : k + 1 < (a_cs A).length) : nu (ms (TH A) A k w).1 (kl (TH A) (a_cs A) k).length = nu (a_cs A) k ∧ si (ms (TH A) A k w).1 (kl (TH A) (a_cs A) k).length = si (a_cs A) k ∧ ∀ i, ch (ms (TH A) A k w).1 (kl (TH A) (a_cs A) k).length i = ch (a_cs A) k i := by
  have h := (ms_at (T := TH A) (w := w) hk).2
  unfold nu si ch
  rw [h]
  exact ⟨rfl, rfl, fun _ => rfl⟩
/-- one entry of a thin container is put away -/
theorem mput_M {s : Nat → Int32} {A : AT} {N k i : Nat} (hW : WF A N) (hN : N ≤ 600) (hk : k + 1 < (a_cs A).length) (hi : i < si (a_cs A) k) (hw : wtg (TH A) (a_cs A) (a_bs A) (st (a_cs A) k + i) = true) (hM : MW s A k (cp (wtg (TH A) (a_cs A) (a_bs A)) (st (a_cs A) k + i))) : ∃ s1 s2 L, F_X9_puts s (J (c9 (ch (a_cs A) k i))) = some s1 ∧ s1 7 = J L ∧ 1 ≤ L ∧ L ≤ 89 ∧ s1 (8 + 11 * (L - 1)) = J (nrf (lw (TH A) A (cp (wtg (TH A) (a_cs A) (a_bs A)) (st (a_cs A) k + i) + 1)).1).1 ∧ s1 (8 + 11 * (L - 1) + 2) = J ((nrf (lw (TH A) A (cp (wtg (TH A) (a_cs A) (a_bs A)) (st (a_cs A) k + i) + 1)).1).2 + 1) ∧ F_X9_leads s1 (J (nu (a_cs A) k)) (J i) (J (nrf (lw (TH A) A (cp (wtg (TH A) (a_cs A) (a_bs A)) (st (a_cs A) k + i) + 1)).1).1) (J (nrf (lw (TH A) A (cp (wtg (TH A) (a_cs A) (a_bs A)) (st (a_cs A) k + i) + 1)).1).2) = some s2 ∧ MW s2 A k (cp (wtg (TH A) (a_cs A) (a_bs A)) (st (a_cs A) k + i) + 1) := by
  have hk2 : k < (a_cs A).length := by omega
  have h0 : 0 < (a_cs A).length := by omega
  have hin := st_in (a_cs A) hk2
  have het : st (a_cs A) k + i < st (a_cs A) (a_cs A).length := by omega
  have hlt : cp (wtg (TH A) (a_cs A) (a_bs A)) (st (a_cs A) k + i) < wm (TH A) A := cp_lt het hw
  have hwn : wn (TH A) A (cp (wtg (TH A) (a_cs A) (a_bs A)) (st (a_cs A) k + i)) = st (a_cs A) k + i := nth_at het hw
  have hst8 := (hW.1.2.1 k hk2)
  have hcpi : cp (wtg (TH A) (a_cs A) (a_bs A)) (st (a_cs A) k + i) ≤ cp (wtg (TH A) (a_cs A) (a_bs A)) (st (a_cs A) k) + i := by
    rw [cp_add]
    have := cp_le (fun j => wtg (TH A) (a_cs A) (a_bs A) (st (a_cs A) k + j)) i
    omega
  have hstep := crw_step (i := i) (b := 0) hW hk hi hw
  have hcs := fun b hb => crw_step (i := i) (b := b) hW hk hi hw hb
  clear hstep
  generalize hv : cp (wtg (TH A) (a_cs A) (a_bs A)) (st (a_cs A) k + i) = v at *
  obtain ⟨m1, m2, m3⟩ := hM
  obtain ⟨a1, a2⟩ := ms_all (k := k) (w := v) hW hN hk2 (by omega)
  obtain ⟨b1, b2⟩ := ms_all (k := k) (w := v + 1) hW hN hk2 (by omega)
  have hb2 := b2 (by have := hst8.2.1; have := hst8.2.2.2.1; omega)
  have hms := ms_put (T := TH A) (A := A) (k := k) (w := v) hk2
  have hcf : cf (a_cs A) (wn (TH A) A v) = ch (a_cs A) k i := by rw [hwn, cf_at hk2 hi]
  rw [hcf] at hms
  have hnr := ms_nrf (T := TH A) (A := A) (k := k) (w := v + 1) hk2
  rw [hms] at b1 hb2 hnr
  have hb2' : (put (a_se A 1) (ms (TH A) A k v).1 (ms (TH A) A k v).2 (ch (a_cs A) k i)).length ≤ 89 := hb2
  obtain ⟨s1, y1, y2, y3⟩ := puts_M (l := ch (a_cs A) k i) m1 a1 (by omega)
  have hpl := put_len (cap := a_se A 1) (nx := (ms (TH A) A k v).2) (cs := (ms (TH A) A k v).1) (l := ch (a_cs A) k i)
  obtain ⟨n1, n2⟩ := put_new (cap := a_se A 1) (nx := (ms (TH A) A k v).2) (cs := (ms (TH A) A k v).1) (l := ch (a_cs A) k i)
  have hRb : RMb s1 (fun b => (a_bs A b).map (crw A v)) := by
    intro b hb
    obtain ⟨g1, g2, g3⟩ := m2 b hb
    exact ⟨by rw [y3 _ (by omega) (by omega) (by omega)]; exact g1, by rw [y3 _ (by omega) (by omega) (by omega)]; exact g2, fun i hi => by rw [y3 _ (by omega) (by omega) (by omega), y3 _ (by omega) (by omega) (by omega)]; exact g3 i hi⟩
  have hnu := hst8.2.2.2.2.1
  have hx := hW.1.1
  obtain ⟨s2, z1, z2, z3⟩ := leads_M (n2 := (nrf (lw (TH A) A (v + 1)).1).1) (o2 := (nrf (lw (TH A) A (v + 1)).1).2) hRb (ms_all (k := 0) (w := v) hW hN h0 (by omega)).1 (ms_Wb hW hN h0 (by omega)) (n := nu (a_cs A) k) (o := i) (by omega) (by have := hst8.2.1; have := hst8.2.2.2.1; omega)
  obtain ⟨g1, g2, g3, g4⟩ := y2.2.2.2 ((put (a_se A 1) (ms (TH A) A k v).1 (ms (TH A) A k v).2 (ch (a_cs A) k i)).length - 1) (by omega)
  refine ⟨s1, s2, (put (a_se A 1) (ms (TH A) A k v).1 (ms (TH A) A k v).2 (ch (a_cs A) k i)).length, y1, y2.2.2.1, by omega, hb2', ?_, ?_, z1, ?_, ?_, ?_⟩
  · rw [← hnr]; exact g1
  · rw [← hnr]
    refine g3.trans ?_
    congr 1
    exact (Nat.sub_add_cancel n2).symm
  · rw [hms]
    obtain ⟨r1, r2, r3, r4⟩ := y2
    refine ⟨fun j hj => by rw [z3 _ (by omega)]; exact r1 j hj, by rw [z3 _ (by omega)]; exact r2, by rw [z3 _ (by omega)]; exact r3, fun j hj => ?_⟩
    have hj' : j < (put (a_se A 1) (ms (TH A) A k v).1 (ms (TH A) A k v).2 (ch (a_cs A) k i)).length := hj
    obtain ⟨c1, c2, c3, c4⟩ := r4 j hj
    obtain ⟨d1, d2, d3, d4, d5, d6⟩ := b1.2.1 j hj
    have d2' : si (put (a_se A 1) (ms (TH A) A k v).1 (ms (TH A) A k v).2 (ch (a_cs A) k i)) j ≤ 8 := Nat.le_trans d2 d4
    exact ⟨by rw [z3 _ (by omega)]; exact c1, by rw [z3 _ (by omega)]; exact c2, by rw [z3 _ (by omega)]; exact c3, fun y hy => by
      have hy' : y < si (put (a_se A 1) (ms (TH A) A k v).1 (ms (TH A) A k v).2 (ch (a_cs A) k i)) j := hy
      rw [z3 _ (by omega)]; exact c4 y hy⟩
  · intro b hb
    have := z2 b hb
    have hb3 := hcs b hb
    show s2 (998 + 34 * b) = J (min 1 ((a_bs A b).map (crw A (v + 1))).length) ∧ s2 (998 + 34 * b + 1) = J ((a_bs A b).map (crw A (v + 1))).length ∧ ∀ i, i < ((a_bs A b).map (crw A (v + 1))).length → s2 (998 + 34 * b + 2 + 2 * i) = J (rf ((a_bs A b).map (crw A (v + 1))) i).1 ∧ s2 (998 + 34 * b + 2 + 2 * i + 1) = J (rf ((a_bs A b).map (crw A (v + 1))) i).2
    rw [← hb3]
    exact this
  · rw [z3 6 (by omega), y3 6 (by omega) (by omega) (by omega)]
    exact m3
