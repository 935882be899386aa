/-! THE PURE SIDE: the Model carries forward: a thin container goes -/
theorem mdrop_M {s : Nat → Int32} {A : AT} {N k w : Nat} (hW : WF A N) (hN : N ≤ 600) (hk : k + 1 < (a_cs A).length) (hT : TH A k = true) (hw : w ≤ wm (TH A) A) (hw2 : w ≤ cp (wtg (TH A) (a_cs A) (a_bs A)) (st (a_cs A) k) + 8) (hM : MW s A k w) : ∃ s', F_X9_drops s (J (kl (TH A) (a_cs A) k).length) = some s' ∧ MW s' A (k + 1) w := by
  obtain ⟨m1, m2, m3⟩ := hM
  obtain ⟨a1, a2⟩ := ms_all (k := k) (w := w) hW hN (by omega) hw
  have a3 := a2 hw2
  obtain ⟨s', y1, y2, y3, y4⟩ := drops_M m1 a1 (by omega) (ms_at (T := TH A) (w := w) hk).1
  obtain ⟨d1, d2⟩ := ms_drop (w := w) hk hT
  rw [d1, d2] at y2
  refine ⟨s', y1, y2, fun b hb => ?_, y3.trans m3⟩
  obtain ⟨g1, g2, g3⟩ := m2 b hb
  exact ⟨by rw [y4 _ (by omega)]; exact g1, by rw [y4 _ (by omega)]; exact g2, fun i hi => by rw [y4 _ (by omega), y4 _ (by omega)]; exact g3 i hi⟩
