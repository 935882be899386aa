section KXE
variable {p : Program} {l : Launch} {e : Env} {R : Room} {s : State} {m : MethodId} {args : Array Value} {below : List Frame} {meth : Method} {c : Code} {H H0 : Heap} {locs : List Loc} {cells slots : Nat} {Q : State → Prop}
  {D : va_G} {tys : List (ClassId × FieldType)} {A : Nat → Prop} {wW W0 : va_W} {pc : Nat} {ls : Array Slot} {st0 rest : List Value} {mc ms : Nat}
variable {y : MethodName} {bytes cc : ByteArray} {maxL nL n index : Nat} {ret : Option FieldType} {ws ws' : List Cond} {rm : Room} {Ts : List Cond} {own C : String} {b : Addr} {As : List Value} {Qx : (Nat → Prop) → Array Value → State → Outcome → State → Prop} {Xx : (Nat → Prop) → String → State → State → Prop} {S : Type} {wf : S → va_W}
theorem kEx {av : List Value} {sz : Nat} {lv0 : List (Nat × Value)} (own : String) (ho : y.cls = own) (hy : plainName y.cls = true) (hw : ws = Cond.code y cc maxL ret :: ws') (hav : (lg_sl av).length ≤ maxL) (hlv : lv_args 0 av = lv0)
    (body : ∀ (p : Program) (e : Env) (s : State) (m : MethodId) (args : Array Value) (below : List Frame) (meth : Method) (c : Code) (A : Nat → Prop) (ls : Array Slot), p.tables.exec = Jvm.exec → c.code = cc → c.maxLocals = maxL → meth.sig.returnType = ret → meth.locks = false → s.vm.findClass own = some m.cls → (∀ w ∈ ws, w.before args s = true) → (∀ q : Nat, s.heap.size ≤ q → A q) → kX A s s.heap →
      va_K D vwCl tys s → va_P D vwCl W0 s.heap → va_D A W0 → va_S A s.heap s.heap [] → lv_has ls maxL lv0 → W p l e rm s m args below meth c s.heap [] 0 0 (MQ below (Qx A) args s mc ms A) (F0 m 0 ls [])) :
    Met l y ws rm (kPx D tys W0 av sz) (Qx (va_A W0 sz)) mc ms (va_A W0 sz) := by
  refine Met.ofW (cc := cc) (maxL := maxL) (ret := ret) hy hw ?_
  intro p e s m args below meth c s₁ B hml hv
  obtain ⟨rfl, ⟨hsz, hP, hK, hD0⟩, hX⟩ := hv
  have hts := atoms_spec (ws := ws) B.pre
  have hown : s.vm.findClass own = some m.cls := by rw [← ho]; exact findClass_of_methodNamed B.named
  subst hsz
  have hD : va_D (va_A W0 s.heap.size) W0 := hD0.self (sz := s.heap.size)
  have hA : ∀ q : Nat, s.heap.size ≤ q → va_A W0 s.heap.size q := fun q h => Or.inr h
  have hl := lv_entry av (n := maxL) hav
  rw [lg_entry_eq]
  rw [hlv] at hl
  exact body p e s m _ below meth c _ _ B.exec B.bytes hml B.returns B.notSynchronized hown hts hA hX hK hP hD va_S.rf hl
theorem kes_i (u : S) {r v : Int32} (hx : p.tables.exec = Jvm.exec) (hb : c.code = cc) (hr : meth.sig.returnType = some .int) (hlocks : meth.locks = false) (hK : va_K D vwCl tys s) (hP : va_P D vwCl (wf u) H) (hD : va_D A (wf u)) (hS : va_S A s.heap H locs) (hv : v = r) (hc : cells ≤ mc) (hs : slots ≤ ms) (hdg : decode cc pc = .ok (.ireturn, 1)) :
    W p l e R s m args below meth c H locs cells slots (MQ below (kQiS D tys wf r A) args s mc ms A) (F0 m pc ls [.int v]) :=
  W.widen hc hs (W.iret (v := v) hx hb hr (fun t ht hW => ⟨⟨v, u, rfl, hv, by rw [ht]; exact hP, va_K.moved hW.alike hK, hD⟩, hS.F ht⟩) hS.2.2 hdg hlocks)
theorem kes_z (u : S) {r v : Int32} (hx : p.tables.exec = Jvm.exec) (hb : c.code = cc) (hr : meth.sig.returnType = some .boolean) (hlocks : meth.locks = false) (hnar : narrow .boolean (.int v) = .int v) (hK : va_K D vwCl tys s) (hP : va_P D vwCl (wf u) H) (hD : va_D A (wf u)) (hS : va_S A s.heap H locs) (hv : v = r) (hc : cells ≤ mc) (hs : slots ≤ ms) (hdg : decode cc pc = .ok (.ireturn, 1)) :
    W p l e R s m args below meth c H locs cells slots (MQ below (kQiS D tys wf r A) args s mc ms A) (F0 m pc ls [.int v]) :=
  W.widen hc hs (W.zret (v := v) hx hb hr hnar (fun t ht hW => ⟨⟨v, u, rfl, hv, by rw [ht]; exact hP, va_K.moved hW.alike hK, hD⟩, hS.F ht⟩) hS.2.2 hdg hlocks)
theorem kes_v (u : S) (hx : p.tables.exec = Jvm.exec) (hb : c.code = cc) (hr : meth.sig.returnType = none) (hlocks : meth.locks = false) (hK : va_K D vwCl tys s) (hP : va_P D vwCl (wf u) H) (hD : va_D A (wf u)) (hS : va_S A s.heap H locs) (hc : cells ≤ mc) (hs : slots ≤ ms) (hdg : decode cc pc = .ok (.return_, 1)) :
    W p l e R s m args below meth c H locs cells slots (MQ below (kQvS D tys wf A) args s mc ms A) (F0 m pc ls []) :=
  W.widen hc hs (W.vret hx hb hr (fun t ht hW => ⟨⟨u, rfl, trivial, by rw [ht]; exact hP, va_K.moved hW.alike hK, hD⟩, hS.F ht⟩) hS.2.2 hdg hlocks)
theorem kPkeep {H1 : Heap} (hP : va_P D vwCl wW H) (h : ∀ q : Nat, q < H.size → H1[q]? = H[q]?) : va_P D vwCl wW H1 := fun k q hk => (hP k q hk).kept (h q.1 (hP k q hk).lt)
end KXE
/-! WHAT THE LAW'S METHODS WANT BESIDE -/
def z0 {α : Type} (n : Nat) (x : Option α) : Option α := if n = 0 then x else none
theorem kz0 {α : Type} {n : Nat} {x : Option α} {r : α} (h : z0 n x = some r) : n = 0 ∧ x = some r := by
  unfold z0 at h
  split at h
  · next q => exact ⟨q, h⟩
  · cases h
/-- a loop of so many turns at most, which tell how many are left -/
theorem lp_indN {σ ρ : Type} {f : (σ → Option ρ) → σ → Option ρ} {r : ρ} {P : Nat → σ → Prop} (h : ∀ (n : Nat) (self : σ → Option ρ), (∀ s, self s = some r → P n s) → ∀ s, f self s = some r → P (n + 1) s) : ∀ (n : Nat) (s : σ), lp f n s = some r → P n s := by
  intro n
  induction n with
  | zero => intro s hs; cases hs
  | succ n ih => intro s hs; exact h n (lp f n) ih s hs
/-! what room is left -/
theorem kstp {c x m R' M : Nat} (h : c + (x + (m + R')) ≤ M) : c + m + (x + R') ≤ M := by omega
theorem kfi {c x m R' M : Nat} (h : c + (x + (m + R')) ≤ M) : c + m ≤ M := by omega
theorem kfr {c x M : Nat} (h : c + x ≤ M) : c ≤ M := by omega
theorem kjm {c x R R' M : Nat} (h : c + (x + R) ≤ M) (hr : R' ≤ R) : c + (x + R') ≤ M := by omega
theorem kjx {c x R R' M : Nat} (h : c + (x + R) ≤ M) (hr : R' ≤ R) : c + (0 + R') ≤ M := by omega
theorem kjl {c R r M : Nat} (h : c + (0 + R) ≤ M) (hr : r ≤ R) : c + r ≤ M := by omega
theorem kjs {c n P C R M : Nat} (h : c + ((n + 1) * P + C) ≤ M) (hr : R = P + C) : c + (n * P + R) ≤ M := by
  rw [Nat.succ_mul] at h
  omega
def kQlS {S : Type} (D : va_G) (tys : List (ClassId × FieldType)) (wf : S → va_W) (r : Int64) (A : Nat → Prop) : Array Value → State → Outcome → State → Prop := va_Ql (fun (r2 : Int64) (_ : S) => r2 = r) (fun u t => kB D tys A (wf u) t) A
/-- a start that knows the script -/
def kPs (b L : Nat) (xs : Nat → Int32) (av : List Value) (sz : Nat) : Array Value → State → Prop := va_Pc av (fun U => U.heap.size = sz ∧ va_X b L xs U U.heap ∧ b < U.heap.size)
theorem kPs_blind {b L : Nat} {xs : Nat → Int32} {av : List Value} {sz : Nat} : FrameBlind (kPs b L xs av sz) := fun a U g mk q => ⟨q.1, q.2.1, va_X.moved (u := U) (U := U.calling g mk a) (Vm.Alike.refl U.vm) q.2.2.1, q.2.2.2⟩
def F_L_cell (L : Nat) (xs : Nat → Int32) (k : Int32) : Option Int32 := if Int32.ofNat L ≤ k then some (7919 * (k + 3) * (k + 11)) else gd k L (some (xs (Int32.toNatClampNeg k)))
section KLL
variable {p : Program} {l : Launch} {e : Env} {R : Room} {s : State} {m : MethodId} {args : Array Value} {below : List Frame} {meth : Method} {c : Code} {H H0 : Heap} {locs : List Loc} {cells slots : Nat} {Q : State → Prop}
  {D : va_G} {tys : List (ClassId × FieldType)} {A : Nat → Prop} {L cs : List va_W} {pc : Nat} {ls : Array Slot} {st0 rest : List Value} {a : Array Value} {is : List Nat} {mc ms : Nat}
variable {cc : ByteArray} {nL index : Nat} {c0 : Cond} {own : String} {S : Type}
theorem kcL_lS {wf : S → List va_W} {r : Int64} (hP : va_P D vwCl (kflat L) H) (hD : va_D A (kflat L)) (hS : va_S A H0 H locs) (hA : ∀ q, H0.size ≤ q → A q) (hn : is.Nodup) (hC : is.map (fun i => L[i]?) = cs.map some) (hl : ∀ u, is.length = (wf u).length)
    (hr : va_Run p l e R s m args below meth c H locs cells slots mc ms (F0 m pc ls st0) rest (kQlS D tys (fun u => kflat (wf u)) r (va_A (kflat cs) H.size) a) (va_A (kflat cs) H.size))
    (kk : ∀ (u : S) (H1 : Heap) (locs1 : List Loc), va_P D vwCl (kflat (kputL L is (wf u))) H1 → va_D A (kflat (kputL L is (wf u))) → va_S A H0 H1 locs1 → W p l e R s m args below meth c H1 locs1 (cells + mc) (slots + ms) Q (F0 m (pc + 3) ls (.long r :: rest))) : W p l e R s m args below meth c H locs cells slots Q (F0 m pc ls st0) := by
  have hF := kpreF hD hS hA hn hC
  refine va_calll hr hS (fun q _ h => hF q h) hF (fun r2 u t H1 locs1 ht hvm hw hB hz hk hS1 => ?_)
  obtain ⟨hP1, -, hD1⟩ := hB
  rw [ht] at hP1
  obtain ⟨g1, g2⟩ := kjoinL hP hD hn hC (hl u) hk hF hP1 hD1
  have hw' : r2 = r := hw
  subst hw'
  exact kk u H1 locs1 g1 g2 hS1
theorem kes_l {wf : S → va_W} (u : S) {r v : Int64} (hx : p.tables.exec = Jvm.exec) (hb : c.code = cc) (hr : meth.sig.returnType = some .long) (hlocks : meth.locks = false) (hK : va_K D vwCl tys s) (hP : va_P D vwCl (wf u) H) (hD : va_D A (wf u)) (hS : va_S A s.heap H locs) (hv : v = r) (hc : cells ≤ mc) (hs : slots ≤ ms) (hdg : decode cc pc = .ok (.lreturn, 1)) :
    W p l e R s m args below meth c H locs cells slots (MQ below (kQlS D tys wf r A) args s mc ms A) (F0 m pc ls [.long v]) :=
  W.widen hc hs (W.lret (v := v) hx hb hr (fun t ht hW => ⟨⟨v, u, rfl, hv, by rw [ht]; exact hP, va_K.moved hW.alike hK, hD⟩, hS.F ht⟩) hS.2.2 hdg hlocks)
end KLL
set_option maxHeartbeats 1000000 in
theorem c_L_cell (l : Launch) (b L : Nat) (xs : Nat → Int32) (sz : Nat) (k r : Int32) (hF : F_L_cell L xs k = some r) : Met l yL_cell wL_cell ({ frames := 0, cells := 0, slots := 0, locals := 0 } : Room) (kPs b L xs [.ref b, .int k] sz) (va_Qi (fun (r2 : Int32) (_ : Unit) => r2 = r) (fun _ _ => True) (va_A [] sz)) 0 0 (va_A [] sz) := by
  refine Met.ofW (cc := cL_cell) (maxL := 2) (ret := some .int) (by decide) rfl ?_
  intro p e s m args below meth c s₁ B hml hv
  obtain ⟨rfl, hsz, hsx, hbl⟩ := hv
  subst hsz
  have hx := B.exec
  have hb := B.bytes
  have hr := B.returns
  have hlocks := B.notSynchronized
  have hbA : ¬ va_A [] s.heap.size b := fun h => by
    rcases h with ⟨k, e, h⟩ | h
    · simp at h
    · omega
  have hS : va_S (va_A [] s.heap.size) s.heap s.heap [] := va_S.rf
  have hl := lv_entry ([.ref b, .int k]) (n := 2) (Nat.le_of_ble_eq_true rfl)
  rw [lg_entry_eq]
  generalize (lg_sl ([.ref b, .int k]) ++ List.replicate (2 - (lg_sl ([.ref b, .int k])).length) Slot.unset).toArray = ls at hl ⊢
  have hl : lv_has ls 2 [(0, .ref b), (1, .int k)] := hl
  unfold F_L_cell at hF
  show W p l e ({ frames := 0, cells := 0, slots := 0, locals := 0 } : Room) s m #[.ref b, .int k] below meth c s.heap [] 0 0 (MQ below (va_Qi (fun (r2 : Int32) (_ : Unit) => r2 = r) (fun _ _ => True) (va_A [] s.heap.size)) #[.ref b, .int k] s 0 0 (va_A [] s.heap.size)) (F0 m 0 ls [])
  have fin : ∀ v : Int32, v = r → W p l e ({ frames := 0, cells := 0, slots := 0, locals := 0 } : Room) s m #[.ref b, .int k] below meth c s.heap [] 0 0 (MQ below (va_Qi (fun (r2 : Int32) (_ : Unit) => r2 = r) (fun _ _ => True) (va_A [] s.heap.size)) #[.ref b, .int k] s 0 0 (va_A [] s.heap.size)) (F0 m 24 ls [.int v]) := fun v hv =>
    W.iret (v := v) hx hb hr (fun t ht hW => ⟨⟨v, (), rfl, hv, trivial⟩, hS.F ht⟩) hS.2.2 (kd tdlL_cell_0 17 rfl) hlocks
  refine lv_iload_n hx hb (kd tdlL_cell_0 0 rfl) rfl (lv_at hl 1 rfl) ?_
  refine lv_aload_n hx hb (kd tdlL_cell_0 1 rfl) rfl (lv_at hl 0 rfl) ?_
  refine va_slen hx hb hsx hbl hbA hS (kd tdlL_cell_0 2 rfl) ?_
  refine lv_icmp_ge (tgt := 12) hx hb (kd tdlL_cell_0 3 rfl) (by decide) (fun hc => ?_) (fun hc => ?_)
  · have hF := kt hc hF
    refine lv_sipush (v := 7919) hx hb (kd tdlL_cell_0 8 rfl) (by decide) ?_
    refine lv_iload_n hx hb (kd tdlL_cell_0 9 rfl) rfl (lv_at hl 1 rfl) ?_
    refine lv_iconst (v := 3) hx hb (kd tdlL_cell_0 10 rfl) (by decide) ?_
    refine lv_iadd hx hb (kd tdlL_cell_0 11 rfl) ?_
    refine lv_imul hx hb (kd tdlL_cell_0 12 rfl) ?_
    refine lv_iload_n hx hb (kd tdlL_cell_0 13 rfl) rfl (lv_at hl 1 rfl) ?_
    refine lv_bipush (v := 11) hx hb (kd tdlL_cell_0 14 rfl) (by decide) ?_
    refine lv_iadd hx hb (kd tdlL_cell_0 15 rfl) ?_
    refine lv_imul hx hb (kd tdlL_cell_0 16 rfl) ?_
    exact fin _ (ko hF)
  · obtain ⟨hi, hF⟩ := kg (kf hc hF)
    refine lv_aload_n hx hb (kd tdlL_cell_0 4 rfl) rfl (lv_at hl 0 rfl) ?_
    refine lv_iload_n hx hb (kd tdlL_cell_0 5 rfl) rfl (lv_at hl 1 rfl) ?_
    refine va_sld hx hb hsx hbl hbA hS hi (kd tdlL_cell_0 6 rfl) ?_
    refine lv_goto (tgt := 24) hx hb (kd tdlL_cell_0 7 rfl) (by decide) ?_
    exact fin _ (ko hF)
theorem gcL_cell {c0 : Cond} {own : String} {idx : Nat} (h1 : Cond.methodLink own idx yL_cell ∈ BIG) : GoodIn (c0 :: BIG) (va_wsS own idx yL_cell wL_cell) := kgoodT h1 w_333 w_118 w_334
theorem hdL_cellS : yL_cell.cls ≠ "java/lang/invoke/MethodHandle" ∧ yL_cell.cls ≠ "java/lang/invoke/VarHandle" ∧ (parseMethodDescriptor yL_cell.desc).map (fun d => d.parameters.length) = some 2 := by decide +kernel
set_option maxHeartbeats 1000000 in
theorem kcell_i {p : Program} {l : Launch} {e : Env} {R : Room} {s : State} {m : MethodId} {args : Array Value} {below : List Frame} {meth : Method} {c : Code} {H : Heap} {locs : List Loc} {cells slots : Nat} {Q : State → Prop} {A : Nat → Prop} {pc index nL b L : Nat} {xs : Nat → Int32} {ls : Array Slot} {rest : List Value} {cc : ByteArray} {c0 : Cond} {k v : Int32}
    (hx : p.tables.exec = Jvm.exec) (hb : c.code = cc) (hml : c.maxLocals = nL) (hown : s.vm.findClass RL = some m.cls) (hts : ∀ w ∈ c0 :: BIG, w.before args s = true) (hsx : va_X b L xs s s.heap) (hbl : b < s.heap.size) (hbA : ¬ A b) (hS : va_S A s.heap H locs) (hA : ∀ q, s.heap.size ≤ q → A q) (hlink : Cond.methodLink RL index yL_cell ∈ BIG) (hF : F_L_cell L xs k = some v) (hsize : ls.size = nL) (hW : (rest.map fun v => v.category).sum ≤ 8) (hrm : 0 + 1 ≤ R.frames ∧ 8 + (2 + 11) + 0 ≤ R.locals) (hdg : decode cc pc = .ok (.invokestatic index, 3)) (hf : cells + 0 ≤ R.cells ∧ slots + 0 ≤ R.slots)
    (kk : ∀ (H1 : Heap) (locs1 : List Loc), va_S A s.heap H1 locs1 → (∀ q : Nat, q < H.size → H1[q]? = H[q]?) → W p l e R s m args below meth c H1 locs1 (cells + 0) (slots + 0) Q (F0 m (pc + 3) ls (.int v :: rest))) : W p l e R s m args below meth c H locs cells slots Q (F0 m pc ls (.int k :: .ref b :: rest)) := by
  have hlt : b < H.size := Nat.lt_of_lt_of_le hbl hS.1
  have hF0 : ∀ q, va_A [] H.size q → A q := fun q h => by
    rcases h with ⟨k, e, h⟩ | h
    · simp at h
    · exact hA q (Nat.le_trans hS.1 h)
  have hr := va_runS (rest := rest) (As := [.ref b, .int k]) (g := F0 m pc ls (.int k :: .ref b :: rest)) (e := e) (meth := meth) (cells := cells) (slots := slots) (H := H) (locs := locs) (below := below) (R := R) ⟨hx, hb, hml, hown, hts⟩ (c_L_cell l b L xs H.size k v hF) (va_cwS 2 hts (gcL_cell hlink) rfl rfl rfl hdL_cellS hrm) ⟨kPs_blind, fun U hU hW => ⟨rfl, by rw [hU], by rw [hU]; exact va_X.moved hW.alike (hsx.kept (hS.2.1 b hbl hbA)), by rw [hU]; exact hlt⟩⟩ rfl rfl hsize rfl (lv_room hW) hdg hf
  refine va_calli hr hS (fun q hq h => hF0 q h) hF0 (fun r2 u t H1 locs1 ht hvm hw hB hz hk hS1 => ?_)
  obtain rfl : r2 = v := hw
  exact kk H1 locs1 hS1 fun q hq => hk q hq fun h => by
    rcases h with ⟨k, e, h⟩ | h
    · simp at h
    · omega
