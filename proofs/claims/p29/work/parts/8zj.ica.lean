/-! THE PURE SIDE: the calls carry, ifCarried -/
theorem i_carry {n : Nat} {st : STT} {q1 q2 q3 : Int32} (hN : n < 512) (h : Inv n st) : ∃ st', F_T_carry st q1 q2 q3 = some st' ∧ Inv (n + 1) st' := by
  obtain ⟨A, H, Sl, h1, h2, h3, h4, h5, h6, h7, h8⟩ := id h
  unfold F_T_carry F_X8_carry F_X9_carry
  have hp : MR (fil (md_aside (S_md st)) (md_s (S_md st)) 1270) A := MR_fil h4 h3
  obtain ⟨pa', sv', k', r1, r2, r3⟩ := remember_A h5 h6 h2 hp h4
  obtain ⟨c', d', x1, x2⟩ := carry_D (c := S_carrier st) h2 h4 (by omega)
  obtain ⟨s', th', y1, y2⟩ := carries_M (th := md_thinOnes (S_md st)) h3 h4 (by omega)
  rw [r1, putAside_M]
  simp only [Option.bind_some]
  rw [x1, y1, r2]
  simp only [Option.bind_some]
  rw [if_pos trivial]
  exact ⟨_, rfl, acar A, psh H A, Sl, h1, x2, y2, acar_WF h4 (by omega), r3, fun B hB => (psh_mem hB).elim (fun z => WF_mono (h6 B z) (by omega)) (fun z => by rw [z]; exact WF_mono h4 (by omega)), h7, fun i h hi hh => WF_mono (h8 i h hi hh) (by omega)⟩
/-- how often all backups load -/
def ald (A : AT) : Nat := sm (fun b => (ur (a_se A 4) (fun i => (rf (a_bs A b) i).1) (a_bs A b).length).2.2) 8
theorem ald_D {d : DKT} {A : AT} {N : Nat} (so : SOT) (hd : DR d A) (hW : WF A N) : ∃ so', F_X8_allLoads so d = some (J (ald A), so') := by
  obtain ⟨so', e⟩ := allLoads_D (s := so) hd.1 hd.2.1 (WF_Wn hW) hW.1 hW.2.1 hW.2.2.1
  refine ⟨so', ?_⟩
  rw [e]
  have : sm (fun b => (ur (a_se A 4) (fun i => pl (a_cs A) (rf (a_bs A b) i).1) (a_bs A b).length).2.2) 8 = ald A := sm_ext fun b hb => (ur_bk hW.1 hW.2.1 hb (a_se A 4)).1
  rw [this]
theorem ald_M {s : Nat → Int32} {A : AT} {N : Nat} (pa sto : Nat → Int32) (hm : MR s A) (hW : WF A N) : ∃ pa' sto', F_X9_allLoads s pa sto = some (J (ald A), pa', sto') :=
  allLoads_M (pa := pa) (sto := sto) hm.1 hm.2.1 hW.1 hW.2.1 hW.2.2.1
theorem i_ifCarried {n : Nat} {st : STT} {q1 q2 q3 : Int32} (hN : n < 512) (h : Inv n st) : ∃ st', F_T_ifCarried st q1 q2 q3 = some st' ∧ Inv (n + 1) st' := by
  obtain ⟨A, H, Sl, h1, h2, h3, h4, h5, h6, h7, h8⟩ := id h
  unfold F_T_ifCarried F_X9_thrown F_X8_ifCarried F_X9_ifCarried
  rcases J_cases q1 with c | ⟨i, hi31, rfl⟩
  · rw [if_pos c, in_neg c]
    simp only [Option.bind_some, F_X9_fails]
    rw [if_pos (by decide), if_pos (show J 0 = 0 from rfl)]
    simp only [Option.bind_some]
    rw [if_pos (by rfl), if_neg (by decide)]
    exact ⟨_, rfl, Inv_SE h ⟨rfl, rfl, rfl, rfl, fun _ _ => rfl, rfl, rfl, rfl, rfl, rfl, rfl⟩⟩
  have hin3 : F_X9_in (J i) 0 1 = some (J (if 0 ≤ i ∧ i ≤ 1 then 1 else 0)) := in_nn (a := 0) (b := 1) hi31 (by omega) (by omega)
  rw [if_neg (J_neg hi31), hin3]
  by_cases c : i ≤ 1
  rotate_left
  · rw [if_neg (show ¬ J i ≤ 1 from fun z => c ((J_le (b := 1) hi31 (by omega)).mp z)), if_neg (show ¬ (0 ≤ i ∧ i ≤ 1) by omega)]
    simp only [Option.bind_some, F_X9_fails]
    rw [if_pos (by decide), if_pos (show J 0 = 0 from rfl)]
    simp only [Option.bind_some]
    rw [if_pos (by rfl), if_neg (by decide)]
    exact ⟨_, rfl, Inv_SE h ⟨rfl, rfl, rfl, rfl, fun _ _ => rfl, rfl, rfl, rfl, rfl, rfl, rfl⟩⟩
  obtain ⟨v, v1, v2⟩ := copy_D (d0 := S_trial st) h2 h4
  obtain ⟨c', d', x1, x2⟩ := carry_D (c := S_carrier st) v2 h4 (by omega)
  obtain ⟨s', th', y1, y2⟩ := carries_M (th := md_thinOnes (S_md st)) h3 h4 (by omega)
  have hW2 := acar_WF h4 (by omega)
  have hl := WF_len h4
  have hl2 := WF_len hW2
  rw [if_pos (show J i ≤ 1 from (J_le (b := 1) hi31 (by omega)).mpr c), if_pos (show 0 ≤ i ∧ i ≤ 1 by omega), v1, putAside_M]
  simp only [Option.bind_some]
  rw [x1]
  simp only [Option.bind_some]
  rw [if_neg (show ¬ J 1 = 0 by decide)]
  by_cases z : i = 0
  · have z0 : J i = 0 := by rw [z]; rfl
    rw [if_pos z0, if_pos z0, entries_M h3.1 (by omega)]
    simp only [Option.bind_some]
    unfold J_X9_ifCarried_39
    rw [y1]
    simp only [Option.bind_some]
    rw [if_pos z0, entries_M y2.1 (by omega)]
    simp only [Option.bind_some]
    unfold J_X9_ifCarried_60
    rw [takeBack_M]
    simp only [Option.bind_some]
    rw [if_pos (by decide), if_pos (by rfl), if_pos (by rfl), h2.1.2.2.2.1, x2.1.2.2.2.1, if_pos (by rfl)]
    exact ⟨_, rfl, Inv_SE h ⟨rfl, rfl, rfl, rfl, fun k hk => fil_back hk, rfl, rfl, rfl, rfl, rfl, rfl⟩⟩
  · have z0 : ¬ J i = 0 := fun w => z ((J_eq (b := 0) hi31 (by omega)).mp w)
    obtain ⟨so1, l1⟩ := ald_D (S_store st) h2 h4
    obtain ⟨so2, l2⟩ := ald_D so1 x2 hW2
    obtain ⟨pa1, st1, l3⟩ := ald_M (md_path (S_md st)) (md_store (S_md st)) h3 h4
    obtain ⟨pa2, st2, l4⟩ := ald_M pa1 st1 y2 hW2
    rw [if_neg z0, if_neg z0, l1, l3]
    simp only [Option.bind_some]
    rw [l2]
    unfold J_X9_ifCarried_39
    rw [y1]
    simp only [Option.bind_some]
    rw [if_neg z0, l4]
    simp only [Option.bind_some]
    unfold J_X9_ifCarried_60
    rw [takeBack_M]
    simp only [Option.bind_some]
    rw [if_pos (by decide), if_pos (by rfl), if_pos (by rfl), if_pos (by rfl)]
    exact ⟨_, rfl, Inv_SE h ⟨rfl, rfl, rfl, rfl, fun k hk => fil_back hk, rfl, rfl, rfl, rfl, rfl, rfl⟩⟩
