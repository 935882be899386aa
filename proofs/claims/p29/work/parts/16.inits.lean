def CRI : CRT := (fun _ => 0, fun _ => 0, fun _ => 0, fun _ => 0, 0)
def DKI : DKT := DK0
def PLI : PLT := (fun _ => 0, fun _ => 0, 0, 0, 0, fun _ => 0, fun _ => 0, 0)
def SOI : SOT := (fun _ => 0, 0, 0, 0, 0, 0)
def SMI : SMT := (fun _ => 0, fun _ => 0, 0, 0)
def TXI : TXT := (fun _ => 0, 0)
def MDI : MDT := (0, (upd (upd (upd (upd (upd (fun _ => 0) (Int32.toNatClampNeg 0) 4) (Int32.toNatClampNeg 1) 4) (Int32.toNatClampNeg 2) 3) (Int32.toNatClampNeg 3) 50) (Int32.toNatClampNeg 4) 2), (fun _ => 0), (fun _ => 0), (fun _ => 0), 0, (fun _ => 0), (fun _ => 0), (fun _ => 0), 0, (fun _ => 0), (fun _ => 0), 0, (fun _ => 0), 0, (fun _ => 0), 0, (fun _ => 0), (fun _ => 0), (fun _ => 0), (fun _ => 0), 0, (fun _ => 0), (fun _ => 0), (fun _ => 0))
