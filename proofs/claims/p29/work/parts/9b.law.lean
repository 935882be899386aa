/-! P29, THE PURE SIDE: the law's turns -/
theorem lg_sm (x : Int64) : lg_cmp x x = 0 := by simp [lg_cmp]
abbrev S34 : Type := Int32 × Int32 × Int64 × Int64 × Int32 × TXT × DKT × DKT × PAT × SVT × SMT × PLT × SOT × CRT
/-- what was kept with the save slot -/
def KPT (sd : Int32) (kp kr : Int64) (sv : SVT) : Prop := ∃ (ts : Nat) (As : AT) (m : Nat), sd = J ts ∧ kp = dgv As ∧ kr = rfo As 8 ∧ SV0 sv As ∧ WF As m ∧ MSK ts As
def LIX (i : Nat) (th sd : Int32) (kp kr : Int64) (tn : Int32) (tx : TXT) (dk : DKT) (pa : PAT) (sv : SVT) : Prop := ∃ (t : Nat) (A : AT) (ws : List Nat) (H : List AT), th = J t ∧ tn = J i ∧ TW ws tx ∧ ws.length ≤ 30 ∧ DR dk A ∧ WF A i ∧ MSK t A ∧ PC pa H ∧ KPT sd kp kr sv
def OUT (i : Nat) (self : S34 → Option Int32) (o : Option Int32) : Prop := ∃ th sd kp kr tn tx dk tr pa sv sm pl so cr, LIX i th sd kp kr tn tx dk pa sv ∧ o = self (th, sd, kp, kr, tn, tx, dk, tr, pa, sv, sm, pl, so, cr)
theorem t323 {i t : Nat} {A : AT} {ws : List Nat} {H : List AT} {self : S34 → Option Int32} {v46 th sd : Int32} {kp kr : Int64} {tx0 : TXT} {dk0 tr0 : DKT} {pa0 : PAT} {sv : SVT} {sm0 : SMT} {pl0 : PLT} {so0 : SOT} {cr0 : CRT} {v82 : Int32 × TXT × DKT × SMT × PLT × CRT × PAT} {v160 : Int64 × SOT} {j155 : TXT × DKT × PAT × SMT × PLT × SOT × CRT} {v228 : Nat × Int32 × DKT × SMT × PLT × CRT} {d : DKT} {pa : PAT} (hd : DR d A) (hW : WF A (i + 1)) (hM : MSK t A) (hP : PC pa H) (ht : TW ws j155.1) (h30 : ws.length ≤ 30) (hK : KPT sd kp kr sv) (h82 : v82.1 = J t) (h160 : v160.1 = rfo A 8) (sm : SMT) (pl : PLT) (so : SOT) : OUT (i + 1) self (J_L_law_323 v46 (th, sd, kp, kr, J i, tx0, dk0, tr0, pa0, sv, sm0, pl0, so0, cr0) self v82 v160 j155 v228 (d, pa, sm, pl, so)) := by
  unfold J_L_law_323
  dsimp only
  rw [J_s]
  by_cases c : ((v46 >>> ((17 : Int32) &&& 31)) &&& 7) = 0
  · obtain ⟨u, sv', s1, s2⟩ := save_V hd hW sv
    rw [if_pos c, s1, Option.bind_some, z0_z, digest_V hd hW, Option.bind_some]
    exact ⟨_, _, _, _, _, _, _, _, _, _, _, _, _, _, ⟨t, A, ws, H, h82, rfl, ht, h30, hd, hW, hM, hP, t, A, i + 1, h82, rfl, h160, s2, hW, hM⟩, rfl⟩
  · rw [if_neg c]
    exact ⟨_, _, _, _, _, _, _, _, _, _, _, _, _, _, ⟨t, A, ws, H, h82, rfl, ht, h30, hd, hW, hM, hP, hK⟩, rfl⟩
theorem t253 {i t : Nat} {A : AT} {ws : List Nat} {H : List AT} {self : S34 → Option Int32} {v46 th sd : Int32} {kp kr : Int64} {tx0 : TXT} {dk0 tr0 : DKT} {pa0 : PAT} {sv : SVT} {sm0 : SMT} {pl0 : PLT} {so0 : SOT} {cr0 : CRT} {v82 : Int32 × TXT × DKT × SMT × PLT × CRT × PAT} {v88 : Int64} {v160 : Int64 × SOT} {j155 : TXT × DKT × PAT × SMT × PLT × SOT × CRT} {v210 : Nat × Int32 × DKT × SMT × PLT × SOT × CRT} {v228 : Nat × Int32 × DKT × SMT × PLT × CRT} (hi : i ≤ 500) (hd : DR j155.2.1 A) (hW : WF A (i + 1)) (hM : MSK t A) (hP : PC j155.2.2.1 H) (ht : TW ws j155.1) (h30 : ws.length ≤ 30) (hK : KPT sd kp kr sv) (h82 : v82.1 = J t) (h88 : v88 = dgv A) (h160 : v160.1 = rfo A 8) : OUT (i + 1) self (J_L_law_253 j155 v88 v210 v82 v160 v46 v228 (th, sd, kp, kr, J i, tx0, dk0, tr0, pa0, sv, sm0, pl0, so0, cr0) self 1) := by
  unfold J_L_law_253
  rw [if_neg (show ¬ (1 : Int32) = 0 by decide), digest_V hd hW, Option.bind_some, h88, if_pos (lg_sm _), h82, refs_V hd hW hM, Option.bind_some, h160]
  dsimp only
  rw [if_pos (lg_sm _)]
  by_cases c : ((v46 >>> ((14 : Int32) &&& 31)) &&& 7) = 0
  · obtain ⟨u, u1, u2⟩ := errpos_V ht h30
    rw [if_pos c, u1, Option.bind_some]
    by_cases c2 : u = -1
    · obtain ⟨d', so', p', st', pa', H', y1, y2, y3⟩ := isBest_V hd hW (by omega) ht (u2 c2) h30 hM hP v228.2.2.2.1 v228.2.2.2.2.1 v210.2.2.2.2.2.1
      rw [if_pos c2, y1, Option.bind_some, if_neg (show ¬ (1 : Int32) = 0 by decide)]
      dsimp only
      rw [refs_V y2 hW hM, Option.bind_some]
      dsimp only
      rw [if_pos (lg_sm _)]
      exact t323 y2 hW hM y3 ht h30 hK h82 h160 _ _ _
    · rw [if_neg c2]
      exact t323 hd hW hM hP ht h30 hK h82 h160 _ _ _
  · rw [if_neg c]
    exact t323 hd hW hM hP ht h30 hK h82 h160 _ _ _
theorem t155 {i t : Nat} {A : AT} {ws : List Nat} {H : List AT} {self : S34 → Option Int32} {v46 v58 th sd : Int32} {kp kr : Int64} {tx0 : TXT} {dk0 tr0 : DKT} {pa0 : PAT} {sv : SVT} {sm0 : SMT} {pl0 : PLT} {so0 : SOT} {cr0 : CRT} {v82 : Int32 × TXT × DKT × SMT × PLT × CRT × PAT} {v88 : Int64} {j155 : TXT × DKT × PAT × SMT × PLT × SOT × CRT} (hi : i ≤ 500) (hd : DR j155.2.1 A) (hW : WF A (i + 1)) (hM : MSK t A) (hP : PC j155.2.2.1 H) (ht : TW ws j155.1) (h30 : ws.length ≤ 30) (hK : KPT sd kp kr sv) (h82 : v82.1 = J t) (h88 : v88 = dgv A) : OUT (i + 1) self (J_L_law_155 v82 (th, sd, kp, kr, J i, tx0, dk0, tr0, pa0, sv, sm0, pl0, so0, cr0) v58 v46 v88 self j155) := by
  have h3 := lob3 (v46 >>> ((11 : Int32) &&& 31))
  have em : (1 : Int32) + ((v46 >>> ((11 : Int32) &&& 31)) &&& 7) = J (1 + lob (v46 >>> ((11 : Int32) &&& 31)) 3) := by rw [and7]; exact J_add 1 _
  obtain ⟨v, hv⟩ := sim_V (n := 1 + lob (v46 >>> ((11 : Int32) &&& 31)) 3) hW (by omega) (by omega) (by omega) ((19088743 * Int32.toInt64 v58) + Int32.toInt64 v46)
  have b30 := lwn_lt v58 (n := 30) (by omega)
  have hlow : F_L_low v58 30 = some (J (lwn v58 30)) := low_V v58 (n := 30) (by omega) (by omega)
  unfold J_L_law_155
  dsimp only
  rw [h82, refs_V hd hW hM, Option.bind_some, em]
  obtain ⟨d1, so1, p1, cr1, y1⟩ := hv j155.2.1 tr0 j155.2.2.2.1 j155.2.2.2.2.1 j155.2.2.2.2.2.2 hd
  rw [y1, Option.bind_some, z0_z, hlow, Option.bind_some]
  dsimp only
  obtain ⟨r, d2, so2, p2, st2, cr2, y2, hr⟩ := script_V hd hW (by omega) b30 j155.1 d1 so1 p1 j155.2.2.2.2.2.1 cr1
  rw [y2, Option.bind_some, z0_z]
  dsimp only
  obtain ⟨d3, so3, p3, cr3, y3⟩ := hv j155.2.1 d2 so2 p2 cr2 hd
  rw [y3, Option.bind_some, z0_z]
  dsimp only
  rw [if_pos rfl]
  unfold J_L_law_248
  rcases hr with hr | hr
  · rw [if_pos hr]
    exact t253 hi hd hW hM hP ht h30 hK h82 h88 rfl
  · by_cases c : r = -1
    · rw [if_pos c]
      exact t253 hi hd hW hM hP ht h30 hK h82 h88 rfl
    · rw [if_neg c, if_pos hr]
      exact t253 hi hd hW hM hP ht h30 hK h82 h88 rfl
theorem cell_V {L m : Nat} (xs : Nat → Int32) (hL : L ≤ 260) (hm : m < 2 ^ 31) : ∃ v, F_L_cell L xs (J m) = some v := by
  unfold F_L_cell
  by_cases c : Int32.ofNat L ≤ J m
  · rw [if_pos c]
    exact ⟨_, rfl⟩
  · rw [if_neg c, gd_J (by
      rcases Nat.lt_or_ge m L with z | z
      · exact z
      · exact absurd ((J_le (a := L) (by omega) hm).mpr z) c) hm]
    exact ⟨_, rfl⟩
theorem turn_V {L i : Nat} {xs : Nat → Int32} (hL : L ≤ 260) (hi : i < 12) {th sd : Int32} {kp kr : Int64} {tn : Int32} {tx : TXT} {dk : DKT} {pa : PAT} {sv : SVT} (h : LIX i th sd kp kr tn tx dk pa sv) (K : (Int32 × Int64 × Int64 × TXT × DKT × DKT × PAT × SVT × SMT × PLT × SOT × CRT) → Option Int32) (self : S34 → Option Int32) (tr : DKT) (sm : SMT) (pl : PLT) (so : SOT) (cr : CRT) : OUT (i + 1) self (B_L_law_34 L xs K self (th, sd, kp, kr, tn, tx, dk, tr, pa, sv, sm, pl, so, cr)) := by
  obtain ⟨t, A, ws, H, rfl, rfl, ht, h30, hd, hW, hM, hP, hK⟩ := h
  obtain ⟨v, e1⟩ := cell_V xs hL (show 2 * i < 2 ^ 31 by omega)
  obtain ⟨w, e2⟩ := cell_V xs hL (show 2 * i + 1 < 2 ^ 31 by omega)
  unfold B_L_law_34
  dsimp only
  rw [if_neg (show ¬ 12 ≤ J i from fun z => by have := (J_le (a := 12) (by omega) (by omega)).mp z; omega), show (2 : Int32) * J i = J (2 * i) from J_mul 2 i, J_s, e1, Option.bind_some, e2, Option.bind_some, digest_V hd hW, Option.bind_some, refs_V hd hW hM, Option.bind_some]
  obtain ⟨x1, d1, sm1, p1, c1, pa1, y1, y2, y3, y4, y5, y6, y7⟩ := act_V hd hW (by omega) ht h30 hM hP sm pl cr v w
  rw [y1, Option.bind_some]
  dsimp only
  rw [digest_V y2 y3, Option.bind_some]
  by_cases c : ((v >>> ((9 : Int32) &&& 31)) &&& 3) = 0
  · obtain ⟨u, d2, pa2, u1, u2, u3⟩ := undo_V (d := d1) y7
    rw [if_pos c, u1, Option.bind_some, z0_z]
    dsimp only
    rw [digest_V u2 hW, Option.bind_some, if_pos (lg_sm _), refs_V u2 hW hM, Option.bind_some]
    dsimp only
    rw [if_pos (lg_sm _)]
    obtain ⟨x3, d3, sm3, p3, c3, pa3, z1, z2, z3, z4, z5, z6, z7⟩ := act_V u2 hW (by omega) y5 y6 hM u3 sm1 p1 c1 v w
    obtain ⟨r1, r2⟩ := actR_ws A (actR A ws v w t).2.2 ws v w t
    rw [r1] at z1 z4
    rw [r2] at z2 z3 z4
    rw [z1, Option.bind_some]
    dsimp only
    rw [if_pos rfl, digest_V z2 z3, Option.bind_some, if_pos (lg_sm _)]
    exact t155 (by omega) z2 z3 z4 z7 z5 z6 hK rfl rfl
  · rw [if_neg c]
    exact t155 (by omega) y2 y3 y4 y7 y5 y6 hK rfl rfl
