/-! P29, THE PURE SIDE: remembered, taken back, saved -/
def PC (pa : PAT) (H : List AT) : Prop := H.length ≤ 14 ∧ pa_count pa = J H.length ∧ (∃ o, o < 14 ∧ pa_oldest pa = J o ∧ ∀ i A, H[i]? = some A → pa_has pa ((o + i) % 14) = true ∧ DR (pa_ds pa ((o + i) % 14)) A) ∧ ∀ h ∈ H, ∃ n, WF h n
/-- without the oldest, if there are 14 -/
def tl14 (H : List AT) : List AT := if H.length = 14 then H.drop 1 else H
theorem tl14_len {H : List AT} (h : H.length ≤ 14) : (tl14 H).length ≤ 13 := by
  unfold tl14
  split
  · rw [List.length_drop]; omega
  · omega
theorem tl14_snoc {H : List AT} (A : AT) (h : H.length ≤ 13) : ∃ H', tl14 (H ++ [A]) = H' ++ [A] := by
  unfold tl14
  split
  · next q =>
    have hq : H.length = 13 := by rw [List.length_append] at q; simp at q; omega
    refine ⟨H.drop 1, ?_⟩
    rw [List.drop_append, show 1 - H.length = 0 by omega]
    rfl
  · exact ⟨H, rfl⟩
theorem psh_tl (H : List AT) (A : AT) : psh H A = tl14 H ++ [A] := by
  unfold psh tl14
  split <;> rfl
theorem remember_V {pa : PAT} {H : List AT} {d : DKT} {A : AT} {n : Nat} (hP : PC pa H) (hd : DR d A) (hW : WF A n) : ∃ pa', F_X3_remember pa d = some pa' ∧ PC pa' (tl14 H ++ [A]) := by
  obtain ⟨p1, p2, ⟨o, o1, o2, o3⟩, p4⟩ := hP
  obtain ⟨v, v1, v2⟩ := copy_D (d0 := if pa_has pa ((o + H.length) % 14) then pa_ds pa ((o + H.length) % 14) else DK0) hd hW
  have hm14 : (o + H.length) % 14 < 14 := Nat.mod_lt _ (by omega)
  have e1 : irm (pa_oldest pa + pa_count pa) 14 = J ((o + H.length) % 14) := by rw [o2, p2, J_add, irm_J (by omega)]
  have e2 : irm (pa_oldest pa + 1) 14 = J ((o + 1) % 14) := by rw [o2, show (1 : Int32) = J 1 from rfl, J_add, irm_J (by omega)]
  have hgd : ∀ (x : Option PAT), gd (J ((o + H.length) % 14)) 14 x = x := fun x => gd_J hm14 (by omega)
  have hWF : ∀ h ∈ psh H A, ∃ n, WF h n := fun h hh => (psh_mem hh).elim (fun z => p4 h z) (fun z => ⟨n, by rw [z]; exact hW⟩)
  rw [← psh_tl]
  unfold F_X3_remember
  rw [e1, e2, hgd, J_nat (by omega), v1]
  simp only [Option.bind_some]
  by_cases q : H.length = 14
  · rw [if_pos (show 14 ≤ pa_count pa by rw [p2]; exact (J_le (a := 14) (by omega) (by omega)).mpr (by omega))]
    refine ⟨_, rfl, ?_⟩
    have hl : (psh H A).length = 14 := by unfold psh; rw [if_pos q]; simp; omega
    have hat : ∀ i B, (psh H A)[i]? = some B → (i < 13 ∧ H[i + 1]? = some B) ∨ (i = 13 ∧ B = A) := by
      intro i B hB
      unfold psh at hB
      rw [if_pos q] at hB
      rcases snoc_at hB with ⟨z1, z2⟩ | ⟨z1, z2⟩
      · rw [List.getElem?_drop, Nat.add_comm] at z2
        rw [List.length_drop] at z1
        exact Or.inl ⟨by omega, z2⟩
      · rw [List.length_drop] at z1
        exact Or.inr ⟨by omega, z2⟩
    refine ⟨by omega, ?_, ⟨(o + 1) % 14, Nat.mod_lt _ (by omega), rfl, fun i B hB => ?_⟩, hWF⟩
    · show pa_count pa = _
      rw [p2, hl, q]
    · rcases hat i B hB with ⟨z1, z2⟩ | ⟨z1, z2⟩
      · obtain ⟨y1, y2⟩ := o3 (i + 1) B z2
        have ne : ¬ ((o + 1) % 14 + i) % 14 = (o + H.length) % 14 := by omega
        have eq : ((o + 1) % 14 + i) % 14 = (o + (i + 1)) % 14 := by omega
        refine ⟨?_, ?_⟩
        · show (if ((o + 1) % 14 + i) % 14 = (o + H.length) % 14 then true else pa_has pa (((o + 1) % 14 + i) % 14)) = true
          rw [if_neg ne, eq]; exact y1
        · show DR (if ((o + 1) % 14 + i) % 14 = (o + H.length) % 14 then v else pa_ds pa (((o + 1) % 14 + i) % 14)) B
          rw [if_neg ne, eq]; exact y2
      · have eq : ((o + 1) % 14 + i) % 14 = (o + H.length) % 14 := by omega
        subst z2
        refine ⟨?_, ?_⟩
        · show (if ((o + 1) % 14 + i) % 14 = (o + H.length) % 14 then true else pa_has pa (((o + 1) % 14 + i) % 14)) = true
          rw [if_pos eq]
        · show DR (if ((o + 1) % 14 + i) % 14 = (o + H.length) % 14 then v else pa_ds pa (((o + 1) % 14 + i) % 14)) B
          rw [if_pos eq]; exact v2
  · rw [if_neg (show ¬ 14 ≤ pa_count pa by rw [p2]; exact fun z => q (by have := (J_le (a := 14) (by omega) (by omega)).mp z; omega))]
    refine ⟨_, rfl, ?_⟩
    have hl : (psh H A).length = H.length + 1 := by unfold psh; rw [if_neg q]; simp
    have hat : ∀ i B, (psh H A)[i]? = some B → (i < H.length ∧ H[i]? = some B) ∨ (i = H.length ∧ B = A) := by
      intro i B hB
      unfold psh at hB
      rw [if_neg q] at hB
      exact snoc_at hB
    refine ⟨by omega, ?_, ⟨o, o1, o2, fun i B hB => ?_⟩, hWF⟩
    · show pa_count pa + 1 = _
      rw [p2, hl]
      exact J_add _ 1
    · rcases hat i B hB with ⟨z1, z2⟩ | ⟨z1, z2⟩
      · obtain ⟨y1, y2⟩ := o3 i B z2
        have ne : ¬ (o + i) % 14 = (o + H.length) % 14 := by omega
        refine ⟨?_, ?_⟩
        · show (if (o + i) % 14 = (o + H.length) % 14 then true else pa_has pa ((o + i) % 14)) = true
          rw [if_neg ne]; exact y1
        · show DR (if (o + i) % 14 = (o + H.length) % 14 then v else pa_ds pa ((o + i) % 14)) B
          rw [if_neg ne]; exact y2
      · subst z1 z2
        refine ⟨?_, ?_⟩
        · show (if (o + H.length) % 14 = (o + H.length) % 14 then true else pa_has pa ((o + H.length) % 14)) = true
          rw [if_pos rfl]
        · show DR (if (o + H.length) % 14 = (o + H.length) % 14 then v else pa_ds pa ((o + H.length) % 14)) B
          rw [if_pos rfl]; exact v2
theorem undo_V {pa : PAT} {H : List AT} {d : DKT} {B : AT} (hP : PC pa (H ++ [B])) : ∃ v d' pa', F_X8_undo d pa = some (0, v, d', pa') ∧ DR d' B ∧ PC pa' H := by
  obtain ⟨p1, p2, ⟨o, o1, o2, o3⟩, p4⟩ := hP
  have hl : (H ++ [B]).length = H.length + 1 := by simp
  have hB : (H ++ [B])[H.length]? = some B := by simp
  obtain ⟨y1, y2⟩ := o3 _ B hB
  obtain ⟨n, hWB⟩ := p4 B (List.mem_of_getElem? hB)
  obtain ⟨v, v1, v2⟩ := copy_D (d0 := d) y2 hWB
  rw [hl] at p1 p2
  have hne : ¬ J (H.length + 1) = 0 := fun z => by have := (J_eq (b := 0) (by omega) (by omega)).mp z; omega
  have hm1 : J (H.length + 1) - 1 = J H.length := J_pred _ 1
  have hmo : (o + H.length) % 14 < 14 := Nat.mod_lt _ (by omega)
  have e1 : irm (J o + J H.length) 14 = J ((o + H.length) % 14) := by rw [J_add, irm_J (by omega)]
  have hgd : ∀ (x : Option (PAT × DKT)), gd (J ((o + H.length) % 14)) 14 x = x := fun x => gd_J hmo (by omega)
  unfold F_X8_undo F_X3_takeBack
  rw [p2, o2, if_neg hne, if_neg hne, hm1, e1, hgd, J_nat (by omega), if_pos y1, v1]
  simp only [Option.bind_some]
  refine ⟨_, _, _, rfl, v2, by omega, rfl, ⟨o, o1, rfl, fun i C hC => ?_⟩, fun h hh => p4 h (List.mem_append_left _ hh)⟩
  refine o3 i C ?_
  rw [List.getElem?_append, if_pos (List.getElem?_eq_some_iff.mp hC).1]
  exact hC
theorem PC_0 : PC PA0 [] := ⟨by simp, rfl, ⟨0, by omega, rfl, fun i A h => by simp at h⟩, fun h hh => by simp at hh⟩
/-- slot 0 holds this -/
def SV0 (sv : SVT) (A : AT) : Prop := sv.1 0 = true ∧ DR (sv.2 0) A
theorem save_V {d : DKT} {A : AT} {n : Nat} (hd : DR d A) (hW : WF A n) (sv : SVT) : ∃ v sv', F_X8_save d sv 0 = some (0, v, sv') ∧ SV0 sv' A := by
  obtain ⟨v, v1, v2⟩ := copy_D (d0 := if sv.1 0 then sv.2 0 else DK0) hd hW
  refine ⟨J (sm (fun b => min 1 (a_bs A b).length) 8), sv_put sv 0 v, ?_, ?_, ?_⟩
  rotate_left
  · rfl
  · exact v2
  · unfold F_X8_save
    rw [if_neg (by decide), if_pos (by decide), show ∀ x : Option (Nat × Int32 × SVT), gd 0 2 x = x from fun x => gd_J (a := 0) (by omega) (by omega)]
    show ((F_X1_copyFrom (if sv.1 0 then sv.2 0 else DK0) d).bind _) = _
    rw [v1, Option.bind_some, backups_D hd.2.1 hW.2.1, Option.bind_some]
    rfl
theorem restore_V {d : DKT} {pa : PAT} {sv : SVT} {A : AT} {n : Nat} (hS : SV0 sv A) (hW : WF A n) : ∃ d' pa', F_X8_restore d pa sv 0 = some (0, J (sm (fun b => min 1 (a_bs A b).length) 8), d', pa') ∧ DR d' A := by
  obtain ⟨s1, s2⟩ := hS
  obtain ⟨v, v1, v2⟩ := copy_D (d0 := d) s2 hW
  refine ⟨v, (0, 0, pa.2.2), ?_, v2⟩
  unfold F_X8_restore F_X3_forget
  rw [if_neg (by decide), if_pos (by decide), show ∀ x : Option (Nat × Int32 × DKT × PAT), gd 0 2 x = x from fun x => gd_J (a := 0) (by omega) (by omega)]
  show (if sv.1 0 = true then ((F_X1_copyFrom d (sv.2 0)).bind _) else _) = _
  rw [if_pos s1, v1, Option.bind_some, Option.bind_some, backups_D v2.2.1 hW.2.1, Option.bind_some]
