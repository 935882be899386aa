/-! PAST: the remembered states: oldest, count, which desks are there, what they hold; u: where the desks and their rows lie -/
abbrev PAT : Type := Int32 × Int32 × (Nat → Bool) × (Nat → DKT)
def pa_oldest (d : PAT) : Int32 := d.1
def pa_count (d : PAT) : Int32 := d.2.1
def pa_has (d : PAT) : Nat → Bool := d.2.2.1
def pa_ds (d : PAT) : Nat → DKT := d.2.2.2
abbrev UAT : Type := (Nat → Nat) × (Nat → Nat → Nat)
def wda (t : Nat → ClassId) (N : Nat) (u : UAT) (has : Nat → Bool) (ds : Nat → DKT) : va_W := (List.range N).flatMap (fun i => if has i then wdk t (u.1 i) (u.2 i) (ds i) else [])
def wpa (t : Nat → ClassId) (h : Nat) (a : Nat → Nat) (u : UAT) (d : PAT) : va_W := (h, .inr (2, [.ref (a 0), .int (pa_oldest d), .int (pa_count d)])) :: (a 0, .inl (t 3, 14, .inr (.inr (.inr (.inr (fun i => if pa_has d i then some (u.1 i) else none)))))) :: wda t 14 u (pa_has d) (pa_ds d)
/-- a new desk -/
def DK0 : DKT := (stF, fun _ => 0, fun _ => 0, fun _ => 0, 0, fun _ => 0, fun _ => 0, fun _ => 0, 0, fun _ => 0, fun _ => 0, 0, 0)
def irm (x y : Int32) : Int32 := x - x / y * y
def pa_put (d : PAT) (k : Nat) (v : DKT) : PAT := (pa_oldest d, pa_count d, (fun j => if j = k then true else pa_has d j), (fun j => if j = k then v else pa_ds d j))
def PA0 : PAT := (0, 0, fun _ => false, fun _ => DK0)
def F_X3_remember (d0 : PAT) (d1 : DKT) : Option PAT :=
  gd (irm (pa_oldest d0 + pa_count d0) 14) 14 ((F_X1_copyFrom (if pa_has d0 (irm (pa_oldest d0 + pa_count d0) 14).toNatClampNeg then pa_ds d0 (irm (pa_oldest d0 + pa_count d0) 14).toNatClampNeg else DK0) d1).bind fun v => (if 14 ≤ pa_count d0 then some (irm (pa_oldest d0 + 1) 14, pa_count d0, (pa_put d0 (irm (pa_oldest d0 + pa_count d0) 14).toNatClampNeg v).2.2) else some (pa_oldest d0, pa_count d0 + 1, (pa_put d0 (irm (pa_oldest d0 + pa_count d0) 14).toNatClampNeg v).2.2)))
def F_X3_takeBack (d0 : PAT) (d1 : DKT) : Option (PAT × DKT) :=
  if pa_count d0 = 0 then some (d0, d1) else gd (irm (pa_oldest d0 + (pa_count d0 - 1)) 14) 14 (if pa_has d0 (irm (pa_oldest d0 + (pa_count d0 - 1)) 14).toNatClampNeg then (F_X1_copyFrom d1 (pa_ds d0 (irm (pa_oldest d0 + (pa_count d0 - 1)) 14).toNatClampNeg)).bind fun v => some ((pa_oldest d0, pa_count d0 - 1, d0.2.2), v) else none)
def F_X3_forget (d0 : PAT) : Option PAT := some (0, 0, d0.2.2)
