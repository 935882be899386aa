def F_X2_with  (p0 : Int32) (p1 : Int32) : Option (Int32) :=
  some ((((p0 * 8) + p1) - 1))
def B_X2_count_4  (self4 : (Int32 × Int32) → Option (Int32)) (s4_ : Int32 × Int32) : Option (Int32) :=
  (if s4_.2 < 8 then some (s4_.1) else (if 6 ≤ s4_.1 then some (s4_.1) else self4 ((s4_.1 + 1), (s4_.2 >>> (3 &&& 31)))))
def F_X2_count  (p0 : Int32) : Option (Int32) :=
  lp (B_X2_count_4) FU (0, p0)
def F_X2_worth  (p0 : Int32) (p1 : Int32) : Option (Int32) :=
  (F_X2_count p0).bind fun v4 => some ((1 + ((p0 >>> ((3 * ((v4 - 1) - p1)) &&& 31)) &&& 7)))
def F_X2_sign  (p0 : Int32) (p1 : Int32) : Option (Int32) :=
  (F_X2_worth p0 p1).bind fun v4 => some (((97 + v4) - 1))
def B_X2_sum_10 (v1 : Int32) (p0 : Int32) (self10 : (Int32 × Int32) → Option (Int32)) (s10_ : Int32 × Int32) : Option (Int32) :=
  (if v1 ≤ s10_.2 then some (s10_.1) else (F_X2_worth p0 s10_.2).bind fun v21 => gz 997 (self10 ((((31 * s10_.1) + v21) - ((31 * s10_.1) + v21) / 997 * 997), (s10_.2 + 1))))
def F_X2_sum  (p0 : Int32) : Option (Int32) :=
  (F_X2_count p0).bind fun v1 => lp (B_X2_sum_10 v1 p0) FU (7, 0)
def F_X5_open (d0 : SOT) (p1 : Int32) : Option (SOT) :=
  some ((so_w_jumps (so_w_loads (so_w_before (so_w_held (so_w_room d0 (MMAX 1 (MMIN p1 4))) 0) (-1)) 0) 0))
def B_X5_find_2 (d0 : SOT) (p1 : Int32) (self2 : Int32 → Option (Int32)) (s2_ : Int32) : Option (Int32) :=
  (if (so_held d0) ≤ s2_ then some ((so_held d0)) else gd s2_ 4 ((if ((so_loaded d0) (Int32.toNatClampNeg s2_)) = p1 then some (s2_) else self2 ((s2_ + 1)))))
def F_X5_find (d0 : SOT) (p1 : Int32) : Option (Int32) :=
  lp (B_X5_find_2 d0 p1) FU (0)
def K_X5_use_108 (d0 : SOT) (p1 : Int32) (j82 : Int32 × Int32 × Int32) (j26 : Int32) (k108 : (Nat → Int32)) : Option (SOT) :=
  gd 0 4 (some ((so_w_jumps (so_w_loads (so_w_before (so_w_held (so_w_loaded d0 (upd k108 (Int32.toNatClampNeg 0) p1)) j82.2.1) p1) j82.2.2) j26)))
def B_X5_use_84  (K108 : ((Nat → Int32)) → Option (SOT)) (self84 : (Int32 × (Nat → Int32)) → Option (SOT)) (s84_ : Int32 × (Nat → Int32)) : Option (SOT) :=
  (if s84_.1 ≤ 0 then K108 (s84_.2) else gd (s84_.1 - 1) 4 (gd s84_.1 4 (self84 ((s84_.1 + (-1)), (upd s84_.2 (Int32.toNatClampNeg s84_.1) (s84_.2 (Int32.toNatClampNeg (s84_.1 - 1))))))))
def J_X5_use_82 (d0 : SOT) (p1 : Int32) (j26 : Int32) (j82 : Int32 × Int32 × Int32) : Option (SOT) :=
  lp (B_X5_use_84 (K_X5_use_108 d0 p1 j82 j26)) FU (j82.1, (so_loaded d0))
def J_X5_use_26 (d0 : SOT) (p1 : Int32) (j26 : Int32) : Option (SOT) :=
  (F_X5_find (so_w_jumps (so_w_before d0 p1) j26) p1).bind fun v33 => (if v33 = (so_held d0) then (if (so_room d0) ≤ (so_held d0) then J_X5_use_82 d0 p1 j26 ((v33 + (-1)), (so_held d0), ((so_loads d0) + 1)) else J_X5_use_82 d0 p1 j26 (v33, ((so_held d0) + 1), ((so_loads d0) + 1))) else J_X5_use_82 d0 p1 j26 (v33, (so_held d0), (so_loads d0)))
def F_X5_use (d0 : SOT) (p1 : Int32) : Option (SOT) :=
  (if (so_before d0) = (-1) then J_X5_use_26 d0 p1 ((so_jumps d0)) else (if (so_before d0) = p1 then J_X5_use_26 d0 p1 ((so_jumps d0)) else J_X5_use_26 d0 p1 (((so_jumps d0) + 1))))
def F_X6_begin (d0 : SMT)  : Option (SMT) :=
  some ((sm_w_chunks (sm_w_letters d0 0) 0))
def F_X6_take (d0 : SMT) (p1 : Int32) : Option (SMT) :=
  (if (sm_letters d0) < 30 then gd (sm_letters d0) 30 (some ((sm_w_letters (sm_w_worths d0 (upd (sm_worths d0) (Int32.toNatClampNeg (sm_letters d0)) p1)) ((sm_letters d0) + 1)))) else some (d0))
def F_X6_codeAt (d0 : SMT) (p1 : Int32) : Option (Int32) :=
  (if p1 < 0 then some (1) else (if (sm_chunks d0) ≤ p1 then some (1) else gd p1 15 (some (((sm_codes d0) (Int32.toNatClampNeg p1))))))
def F_X6_endsBehind (d0 : SMT) (p1 : Int32) (p2 : Int32) (p3 : Int32) : Option (Int32) :=
  (if p1 = ((sm_letters d0) - 1) then some (1) else (if p2 = 6 then some (1) else (if p1 < 1 then some (0) else (if p2 < 2 then some (0) else (if 1 ≤ p3 then gd (p1 - 1) 30 (gd p1 30 (gz p3 ((if ((((sm_worths d0) (Int32.toNatClampNeg (p1 - 1))) + ((sm_worths d0) (Int32.toNatClampNeg p1))) - (((sm_worths d0) (Int32.toNatClampNeg (p1 - 1))) + ((sm_worths d0) (Int32.toNatClampNeg p1))) / p3 * p3) = 0 then some (1) else some (0))))) else some (0))))))
def F_X6_close (d0 : SMT) (p1 : Int32) : Option (SMT) :=
  (if (sm_chunks d0) < 15 then gd (sm_chunks d0) 15 (some ((sm_w_chunks (sm_w_codes d0 (upd (sm_codes d0) (Int32.toNatClampNeg (sm_chunks d0)) p1)) ((sm_chunks d0) + 1)))) else some (d0))
def B_X6_cut_12 (p1 : Int32) (self12 : (Int32 × Int32 × Int32 × SMT) → Option (SMT)) (s12_ : Int32 × Int32 × Int32 × SMT) : Option (SMT) :=
  (if (sm_letters s12_.2.2.2) ≤ s12_.2.2.1 then some (s12_.2.2.2) else gd s12_.2.2.1 30 ((F_X2_with s12_.1 ((sm_worths s12_.2.2.2) (Int32.toNatClampNeg s12_.2.2.1))).bind fun v29 => (F_X6_endsBehind s12_.2.2.2 s12_.2.2.1 (s12_.2.1 + 1) p1).bind fun v41 => (if v41 = 0 then self12 (v29, (s12_.2.1 + 1), (s12_.2.2.1 + 1), s12_.2.2.2) else (F_X6_close s12_.2.2.2 v29).bind fun v49 => self12 (1, 0, (s12_.2.2.1 + 1), v49))))
def F_X6_cut (d0 : SMT) (p1 : Int32) : Option (SMT) :=
  lp (B_X6_cut_12 p1) FU (1, 0, 0, (sm_w_chunks d0 0))
def F_X7_isFull (d0 : TXT)  : Option (Int32) :=
  (if (tx_length d0) < 120 then some (0) else some (1))
def F_X7_add (d0 : TXT) (p1 : Int32) : Option (TXT) :=
  (F_X7_isFull d0).bind fun v1 => (if v1 = 0 then gd (tx_length d0) 120 (some ((tx_w_length (tx_w_signs d0 (upd (tx_signs d0) (Int32.toNatClampNeg (tx_length d0)) (vp_nar .char (UInt32.toInt32 (Int32.toUInt32 p1 % 65536))))) ((tx_length d0) + 1)))) else some (d0))
def F_X7_isLetter  (p0 : Int32) : Option (Int32) :=
  (if p0 < 97 then some (0) else (if 104 < p0 then some (0) else some (1)))
def K_X7_firstError_74 (d0 : TXT) (k74 : Int32) : Option (Int32) :=
  (if k74 ≤ 0 then some ((tx_length d0)) else some ((-1)))
def J_X7_firstError_38 (s6_ : Int32 × Int32 × Int32) (d0 : TXT) (self6 : (Int32 × Int32 × Int32) → Option (Int32)) (j38 : Unit) : Option (Int32) :=
  gd s6_.2.2 120 ((if ((tx_signs d0) (Int32.toNatClampNeg s6_.2.2)) = 44 then (if s6_.2.1 ≤ 0 then some (s6_.2.2) else (if 4 ≤ s6_.1 then some (s6_.2.2) else self6 ((s6_.1 + 1), 0, (s6_.2.2 + 1)))) else some (s6_.2.2)))
def B_X7_firstError_6 (d0 : TXT) (K74 : Int32 → Option (Int32)) (self6 : (Int32 × Int32 × Int32) → Option (Int32)) (s6_ : Int32 × Int32 × Int32) : Option (Int32) :=
  (if (tx_length d0) ≤ s6_.2.2 then K74 (s6_.2.1) else gd s6_.2.2 120 ((F_X7_isLetter ((tx_signs d0) (Int32.toNatClampNeg s6_.2.2))).bind fun v20 => (if v20 = 0 then J_X7_firstError_38 s6_ d0 self6 () else (if 30 ≤ s6_.2.1 then J_X7_firstError_38 s6_ d0 self6 () else self6 (s6_.1, (s6_.2.1 + 1), (s6_.2.2 + 1))))))
def F_X7_firstError (d0 : TXT)  : Option (Int32) :=
  lp (B_X7_firstError_6 d0 (K_X7_firstError_74 d0)) FU (1, 0, 0)
def J_X7_startOf_32 (p1 : Int32) (s10_ : Int32 × Int32) (self10 : (Int32 × Int32) → Option (Int32)) (j32 : Int32) : Option (Int32) :=
  (if j32 = p1 then some ((s10_.2 + 1)) else self10 (j32, (s10_.2 + 1)))
def B_X7_startOf_10 (d0 : TXT) (p1 : Int32) (self10 : (Int32 × Int32) → Option (Int32)) (s10_ : Int32 × Int32) : Option (Int32) :=
  (if (tx_length d0) ≤ s10_.2 then some ((-1)) else gd s10_.2 120 ((if ((tx_signs d0) (Int32.toNatClampNeg s10_.2)) = 44 then J_X7_startOf_32 p1 s10_ self10 ((s10_.1 + 1)) else J_X7_startOf_32 p1 s10_ self10 (s10_.1))))
def F_X7_startOf (d0 : TXT) (p1 : Int32) : Option (Int32) :=
  (if p1 = 0 then some (0) else lp (B_X7_startOf_10 d0 p1) FU (0, 0))
def B_X7_readStream_34 (d0 : TXT) (self34 : (Int32 × SMT) → Option (Int32 × SMT)) (s34_ : Int32 × SMT) : Option (Int32 × SMT) :=
  (if (tx_length d0) ≤ s34_.1 then some (1, s34_.2) else gd s34_.1 120 ((if ((tx_signs d0) (Int32.toNatClampNeg s34_.1)) = 44 then some (1, s34_.2) else gd s34_.1 120 ((F_X6_take s34_.2 ((((tx_signs d0) (Int32.toNatClampNeg s34_.1)) - 97) + 1)).bind fun v68 => self34 ((s34_.1 + 1), v68)))))
def F_X7_readStream (d0 : TXT) (d2 : SMT) (p1 : Int32) : Option (Int32 × SMT) :=
  (if p1 < 0 then some (0, d2) else (F_X7_firstError d0).bind fun v5 => (if v5 = (-1) then (F_X7_startOf d0 p1).bind fun v16 => (if v16 = (-1) then some (0, d2) else (F_X6_begin d2).bind fun v28 => lp (B_X7_readStream_34 d0) FU (v16, v28)) else some (0, d2)))
def F_X1_copyFrom (d0 : DKT) (d1 : DKT)  : Option (DKT) :=
  gc 0 0 5 5 5 (gc 0 0 (dk_containers d1) 121 121 (gc 0 0 (dk_containers d1) 121 121 (gc 0 0 (dk_containers d1) 121 121 (gc 0 0 (dk_entries d1) 192 192 (gc 0 0 (dk_entries d1) 192 192 (gc 0 0 (dk_entries d1) 192 192 (gc 0 0 120 120 120 (gc 0 0 8 8 8 (some ((dk_w_carried (dk_w_nextNumber (dk_w_lengths (dk_w_references (dk_w_entries (dk_w_uses (dk_w_places (dk_w_codes (dk_w_containers (dk_w_firsts (dk_w_capacities (dk_w_numbers (dk_w_settings d0 (va_cpy (dk_settings d1) (dk_settings d0) (Int32.toNatClampNeg 0) (Int32.toNatClampNeg 0) (Int32.toNatClampNeg 5))) (va_cpy (dk_numbers d1) (dk_numbers d0) (Int32.toNatClampNeg 0) (Int32.toNatClampNeg 0) (Int32.toNatClampNeg (dk_containers d1)))) (va_cpy (dk_capacities d1) (dk_capacities d0) (Int32.toNatClampNeg 0) (Int32.toNatClampNeg 0) (Int32.toNatClampNeg (dk_containers d1)))) (va_cpy (dk_firsts d1) (dk_firsts d0) (Int32.toNatClampNeg 0) (Int32.toNatClampNeg 0) (Int32.toNatClampNeg (dk_containers d1)))) (dk_containers d1)) (va_cpy (dk_codes d1) (dk_codes d0) (Int32.toNatClampNeg 0) (Int32.toNatClampNeg 0) (Int32.toNatClampNeg (dk_entries d1)))) (va_cpy (dk_places d1) (dk_places d0) (Int32.toNatClampNeg 0) (Int32.toNatClampNeg 0) (Int32.toNatClampNeg (dk_entries d1)))) (va_cpy (dk_uses d1) (dk_uses d0) (Int32.toNatClampNeg 0) (Int32.toNatClampNeg 0) (Int32.toNatClampNeg (dk_entries d1)))) (dk_entries d1)) (va_cpy (dk_references d1) (dk_references d0) (Int32.toNatClampNeg 0) (Int32.toNatClampNeg 0) (Int32.toNatClampNeg 120))) (va_cpy (dk_lengths d1) (dk_lengths d0) (Int32.toNatClampNeg 0) (Int32.toNatClampNeg 0) (Int32.toNatClampNeg 8))) (dk_nextNumber d1)) (dk_carried d1))))))))))))
def F_X1_settingAt (d0 : DKT) (p1 : Int32) : Option (Int32) :=
  (if p1 < 0 then some ((-1)) else (if 5 ≤ p1 then some ((-1)) else gd p1 5 (some (((dk_settings d0) (Int32.toNatClampNeg p1))))))
def F_X1_hasPlace (d0 : DKT) (p1 : Int32) : Option (Int32) :=
  (if p1 < 0 then some (0) else (if (dk_containers d0) ≤ p1 then some (0) else some (1)))
def F_X1_numberAt (d0 : DKT) (p1 : Int32) : Option (Int32) :=
  (F_X1_hasPlace d0 p1).bind fun v2 => (if v2 = 0 then some ((-1)) else gd p1 121 (some (((dk_numbers d0) (Int32.toNatClampNeg p1)))))
def F_X1_capacityAt (d0 : DKT) (p1 : Int32) : Option (Int32) :=
  (F_X1_hasPlace d0 p1).bind fun v2 => (if v2 = 0 then some (0) else gd p1 121 (some (((dk_capacities d0) (Int32.toNatClampNeg p1)))))
def F_X1_firstEntryAt (d0 : DKT) (p1 : Int32) : Option (Int32) :=
  (if p1 < 0 then some ((dk_entries d0)) else (if (dk_containers d0) ≤ p1 then some ((dk_entries d0)) else gd p1 121 (some (((dk_firsts d0) (Int32.toNatClampNeg p1))))))
def F_X1_sizeAt (d0 : DKT) (p1 : Int32) : Option (Int32) :=
  (F_X1_firstEntryAt d0 (p1 + 1)).bind fun v4 => (F_X1_firstEntryAt d0 p1).bind fun v9 => some ((v4 - v9))
def B_X1_placeOfNumber_2 (d0 : DKT) (p1 : Int32) (self2 : Int32 → Option (Int32)) (s2_ : Int32) : Option (Int32) :=
  (if (dk_containers d0) ≤ s2_ then some ((-1)) else gd s2_ 121 ((if ((dk_numbers d0) (Int32.toNatClampNeg s2_)) = p1 then some (s2_) else self2 ((s2_ + 1)))))
def F_X1_placeOfNumber (d0 : DKT) (p1 : Int32) : Option (Int32) :=
  lp (B_X1_placeOfNumber_2 d0 p1) FU (0)
def F_X1_hasEntry (d0 : DKT) (p1 : Int32) : Option (Int32) :=
  (if p1 < 0 then some (0) else (if (dk_entries d0) ≤ p1 then some (0) else some (1)))
def F_X1_usesOfEntry (d0 : DKT) (p1 : Int32) : Option (Int32) :=
  (F_X1_hasEntry d0 p1).bind fun v2 => (if v2 = 0 then some (0) else gd p1 192 (some (((dk_uses d0) (Int32.toNatClampNeg p1)))))
def B_X1_livingAt_17 (v4 : Int32) (d0 : DKT) (self17 : (Int32 × Int32) → Option (Int32)) (s17_ : Int32 × Int32) : Option (Int32) :=
  (if v4 ≤ s17_.2 then some (s17_.1) else (F_X1_usesOfEntry d0 s17_.2).bind fun v26 => (if v26 ≤ 0 then self17 (s17_.1, (s17_.2 + 1)) else self17 ((s17_.1 + 1), (s17_.2 + 1))))
def F_X1_livingAt (d0 : DKT) (p1 : Int32) : Option (Int32) :=
  (F_X1_firstEntryAt d0 (p1 + 1)).bind fun v4 => (F_X1_firstEntryAt d0 p1).bind fun v12 => lp (B_X1_livingAt_17 v4 d0) FU (0, v12)
def F_X1_isThin (d0 : DKT) (p1 : Int32) : Option (Int32) :=
  (if p1 < ((dk_containers d0) - 1) then (F_X1_livingAt d0 p1).bind fun v16 => gd 3 5 ((F_X1_sizeAt d0 p1).bind fun v28 => (if (((dk_settings d0) (Int32.toNatClampNeg 3)) * v28) ≤ (100 * v16) then some (0) else some (1))) else some (0))
def B_X1_thinContainers_4 (d0 : DKT) (self4 : (Int32 × Int32) → Option (Int32)) (s4_ : Int32 × Int32) : Option (Int32) :=
  (if (dk_containers d0) ≤ s4_.2 then some (s4_.1) else (F_X1_isThin d0 s4_.2).bind fun v14 => (if v14 = 0 then self4 (s4_.1, (s4_.2 + 1)) else self4 ((s4_.1 + 1), (s4_.2 + 1))))
def F_X1_thinContainers (d0 : DKT)  : Option (Int32) :=
  lp (B_X1_thinContainers_4 d0) FU (0, 0)
def F_X1_roomInLast (d0 : DKT)  : Option (Int32) :=
  (if ((dk_containers d0) - 1) < 0 then some (0) else gd ((dk_containers d0) - 1) 121 (gd ((dk_containers d0) - 1) 121 (some ((((dk_capacities d0) (Int32.toNatClampNeg ((dk_containers d0) - 1))) - ((dk_entries d0) - ((dk_firsts d0) (Int32.toNatClampNeg ((dk_containers d0) - 1)))))))))
def F_X1_openContainer (d0 : DKT)  : Option (DKT) :=
  (if (dk_containers d0) < 121 then gd (dk_containers d0) 121 (gd 1 5 (gd (dk_containers d0) 121 (gd (dk_containers d0) 121 (some ((dk_w_nextNumber (dk_w_containers (dk_w_firsts (dk_w_capacities (dk_w_numbers d0 (upd (dk_numbers d0) (Int32.toNatClampNeg (dk_containers d0)) (dk_nextNumber d0))) (upd (dk_capacities d0) (Int32.toNatClampNeg (dk_containers d0)) ((dk_settings d0) (Int32.toNatClampNeg 1)))) (upd (dk_firsts d0) (Int32.toNatClampNeg (dk_containers d0)) (dk_entries d0))) ((dk_containers d0) + 1)) ((dk_nextNumber d0) + 1))))))) else some (d0))
def J_X1_putAway_11 (p1 : Int32) (j11 : DKT) : Option (Int32 × DKT) :=
  (if (dk_entries j11) < 192 then gd (dk_entries j11) 192 (gd (dk_entries j11) 192 (gd (dk_entries j11) 192 (some ((((dk_entries j11) + 1) - 1), (dk_w_entries (dk_w_uses (dk_w_places (dk_w_codes j11 (upd (dk_codes j11) (Int32.toNatClampNeg (dk_entries j11)) p1)) (upd (dk_places j11) (Int32.toNatClampNeg (dk_entries j11)) ((dk_containers j11) - 1))) (upd (dk_uses j11) (Int32.toNatClampNeg (dk_entries j11)) 0)) ((dk_entries j11) + 1)))))) else some ((-1), j11))
def F_X1_putAway (d0 : DKT) (p1 : Int32) : Option (Int32 × DKT) :=
  (F_X1_roomInLast d0).bind fun v1 => (if 0 < v1 then J_X1_putAway_11 p1 (d0) else (F_X1_openContainer d0).bind fun v8 => J_X1_putAway_11 p1 (v8))
def F_X1_codeOfEntry (d0 : DKT) (p1 : Int32) : Option (Int32) :=
  (F_X1_hasEntry d0 p1).bind fun v2 => (if v2 = 0 then some (1) else gd p1 192 (some (((dk_codes d0) (Int32.toNatClampNeg p1)))))
def F_X1_placeOfEntry (d0 : DKT) (p1 : Int32) : Option (Int32) :=
  (F_X1_hasEntry d0 p1).bind fun v2 => (if v2 = 0 then some ((-1)) else gd p1 192 (some (((dk_places d0) (Int32.toNatClampNeg p1)))))
def B_X1_living_4 (d0 : DKT) (self4 : (Int32 × Int32) → Option (Int32)) (s4_ : Int32 × Int32) : Option (Int32) :=
  (if (dk_entries d0) ≤ s4_.2 then some (s4_.1) else gd s4_.2 192 ((if ((dk_uses d0) (Int32.toNatClampNeg s4_.2)) ≤ 0 then self4 (s4_.1, (s4_.2 + 1)) else self4 ((s4_.1 + 1), (s4_.2 + 1)))))
def F_X1_living (d0 : DKT)  : Option (Int32) :=
  lp (B_X1_living_4 d0) FU (0, 0)
def B_X1_entriesWith_4 (d0 : DKT) (p1 : Int32) (self4 : (Int32 × Int32) → Option (Int32)) (s4_ : Int32 × Int32) : Option (Int32) :=
  (if (dk_entries d0) ≤ s4_.2 then some (s4_.1) else gd s4_.2 192 ((if ((dk_codes d0) (Int32.toNatClampNeg s4_.2)) = p1 then self4 ((s4_.1 + 1), (s4_.2 + 1)) else self4 (s4_.1, (s4_.2 + 1)))))
def F_X1_entriesWith (d0 : DKT) (p1 : Int32) : Option (Int32) :=
  lp (B_X1_entriesWith_4 d0 p1) FU (0, 0)
def B_X1_firstFrom_6 (d0 : DKT) (p1 : Int32) (self6 : Int32 → Option (Int32)) (s6_ : Int32) : Option (Int32) :=
  (if (dk_entries d0) ≤ s6_ then some ((-1)) else gd s6_ 192 ((if ((dk_codes d0) (Int32.toNatClampNeg s6_)) = p1 then some (s6_) else self6 ((s6_ + 1)))))
def F_X1_firstFrom (d0 : DKT) (p1 : Int32) (p2 : Int32) : Option (Int32) :=
  lp (B_X1_firstFrom_6 d0 p1) FU ((MMAX 0 p2))
def B_X1_unlikeChunks_4 (d0 : DKT) (self4 : (Int32 × Int32) → Option (Int32)) (s4_ : Int32 × Int32) : Option (Int32) :=
  (if (dk_entries d0) ≤ s4_.2 then some (s4_.1) else gd s4_.2 192 ((F_X1_firstFrom d0 ((dk_codes d0) (Int32.toNatClampNeg s4_.2)) 0).bind fun v20 => (if v20 = s4_.2 then self4 ((s4_.1 + 1), (s4_.2 + 1)) else self4 (s4_.1, (s4_.2 + 1)))))
def F_X1_unlikeChunks (d0 : DKT)  : Option (Int32) :=
  lp (B_X1_unlikeChunks_4 d0) FU (0, 0)
def B_X1_allLetters_4 (d0 : DKT) (self4 : (Int32 × Int32) → Option (Int32)) (s4_ : Int32 × Int32) : Option (Int32) :=
  (if (dk_entries d0) ≤ s4_.2 then some (s4_.1) else gd s4_.2 192 ((F_X2_count ((dk_codes d0) (Int32.toNatClampNeg s4_.2))).bind fun v19 => self4 ((s4_.1 + v19), (s4_.2 + 1))))
def F_X1_allLetters (d0 : DKT)  : Option (Int32) :=
  lp (B_X1_allLetters_4 d0) FU (0, 0)
def B_X1_homeOf_7 (d0 : DKT) (p1 : Int32) (self7 : Int32 → Option (Int32)) (s7_ : Int32) : Option (Int32) :=
  (if s7_ < 0 then some ((-1)) else gd s7_ 192 ((if ((dk_codes d0) (Int32.toNatClampNeg s7_)) = p1 then gd s7_ 192 (some (((dk_places d0) (Int32.toNatClampNeg s7_)))) else self7 ((s7_ + (-1))))))
def F_X1_homeOf (d0 : DKT) (p1 : Int32) : Option (Int32) :=
  lp (B_X1_homeOf_7 d0 p1) FU (((dk_entries d0) - 1))
def F_X1_firstEntryWith (d0 : DKT) (p1 : Int32) (p2 : Int32) : Option (Int32) :=
  (F_X1_firstEntryAt d0 p2).bind fun v4 => (F_X1_firstFrom d0 p1 v4).bind fun v7 => some (v7)
def F_X1_hasBackup (d0 : DKT) (p1 : Int32) : Option (Int32) :=
  (if p1 < 0 then some (0) else (if 8 ≤ p1 then some (0) else gd p1 8 ((if ((dk_lengths d0) (Int32.toNatClampNeg p1)) ≤ 0 then some (0) else some (1)))))
def F_X1_chunksOf (d0 : DKT) (p1 : Int32) : Option (Int32) :=
  (F_X1_hasBackup d0 p1).bind fun v2 => (if v2 = 0 then some (0) else gd p1 8 (some (((dk_lengths d0) (Int32.toNatClampNeg p1)))))
def B_X1_backups_4 (d0 : DKT) (self4 : (Int32 × Int32) → Option (Int32)) (s4_ : Int32 × Int32) : Option (Int32) :=
  (if 8 ≤ s4_.2 then some (s4_.1) else gd s4_.2 8 ((if ((dk_lengths d0) (Int32.toNatClampNeg s4_.2)) ≤ 0 then self4 (s4_.1, (s4_.2 + 1)) else self4 ((s4_.1 + 1), (s4_.2 + 1)))))
def F_X1_backups (d0 : DKT)  : Option (Int32) :=
  lp (B_X1_backups_4 d0) FU (0, 0)
def B_X1_allReferences_4 (d0 : DKT) (self4 : (Int32 × Int32) → Option (Int32)) (s4_ : Int32 × Int32) : Option (Int32) :=
  (if 8 ≤ s4_.2 then some (s4_.1) else gd s4_.2 8 (self4 ((s4_.1 + ((dk_lengths d0) (Int32.toNatClampNeg s4_.2))), (s4_.2 + 1))))
def F_X1_allReferences (d0 : DKT)  : Option (Int32) :=
  lp (B_X1_allReferences_4 d0) FU (0, 0)
def F_X1_entryReferred (d0 : DKT) (p1 : Int32) (p2 : Int32) : Option (Int32) :=
  (if p2 < 0 then some ((-1)) else (F_X1_chunksOf d0 p1).bind fun v7 => (if p2 < v7 then gd ((p1 * 15) + p2) 120 (some (((dk_references d0) (Int32.toNatClampNeg ((p1 * 15) + p2))))) else some ((-1))))
def B_X1_lettersOf_4 (d0 : DKT) (p1 : Int32) (self4 : (Int32 × Int32) → Option (Int32)) (s4_ : Int32 × Int32) : Option (Int32) :=
  (F_X1_chunksOf d0 p1).bind fun v7 => (if v7 ≤ s4_.2 then some (s4_.1) else (F_X1_entryReferred d0 p1 s4_.2).bind fun v18 => (F_X1_codeOfEntry d0 v18).bind fun v21 => (F_X2_count v21).bind fun v24 => self4 ((s4_.1 + v24), (s4_.2 + 1)))
def F_X1_lettersOf (d0 : DKT) (p1 : Int32) : Option (Int32) :=
  lp (B_X1_lettersOf_4 d0 p1) FU (0, 0)
def K_X1_signOf_43 (p2 : Int32) (k43 : Int32 × Int32) : Option (Int32) :=
  (F_X2_sign k43.2 (p2 - k43.1)).bind fun v48 => some (v48)
def B_X1_signOf_5 (d0 : DKT) (p1 : Int32) (p2 : Int32) (K43 : (Int32 × Int32) → Option (Int32)) (self5 : (Int32 × Int32) → Option (Int32)) (s5_ : Int32 × Int32) : Option (Int32) :=
  (F_X1_chunksOf d0 p1).bind fun v9 => (if v9 ≤ s5_.2 then some ((-1)) else (F_X1_entryReferred d0 p1 s5_.2).bind fun v20 => (F_X1_codeOfEntry d0 v20).bind fun v23 => (F_X2_count v23).bind fun v30 => (if v30 ≤ (p2 - s5_.1) then self5 ((s5_.1 + v30), (s5_.2 + 1)) else K43 (s5_.1, v23)))
def F_X1_signOf (d0 : DKT) (p1 : Int32) (p2 : Int32) : Option (Int32) :=
  lp (B_X1_signOf_5 d0 p1 p2 (K_X1_signOf_43 p2)) FU (0, 0)
def B_X1_refersTo_2 (d0 : DKT) (p1 : Int32) (p2 : Int32) (self2 : Int32 → Option (Int32)) (s2_ : Int32) : Option (Int32) :=
  (F_X1_chunksOf d0 p1).bind fun v5 => (if v5 ≤ s2_ then some (0) else (F_X1_entryReferred d0 p1 s2_).bind fun v15 => (F_X1_placeOfEntry d0 v15).bind fun v18 => (if v18 = p2 then some (1) else self2 ((s2_ + 1))))
def F_X1_refersTo (d0 : DKT) (p1 : Int32) (p2 : Int32) : Option (Int32) :=
  lp (B_X1_refersTo_2 d0 p1 p2) FU (0)
def B_X1_containersOf_4 (d0 : DKT) (p1 : Int32) (self4 : (Int32 × Int32) → Option (Int32)) (s4_ : Int32 × Int32) : Option (Int32) :=
  (if (dk_containers d0) ≤ s4_.2 then some (s4_.1) else (F_X1_refersTo d0 p1 s4_.2).bind fun v15 => (if v15 = 0 then self4 (s4_.1, (s4_.2 + 1)) else self4 ((s4_.1 + 1), (s4_.2 + 1))))
def F_X1_containersOf (d0 : DKT) (p1 : Int32) : Option (Int32) :=
  lp (B_X1_containersOf_4 d0 p1) FU (0, 0)
def B_X1_backupsReferringTo_4 (d0 : DKT) (p1 : Int32) (self4 : (Int32 × Int32) → Option (Int32)) (s4_ : Int32 × Int32) : Option (Int32) :=
  (if 8 ≤ s4_.2 then some (s4_.1) else (F_X1_refersTo d0 s4_.2 p1).bind fun v13 => (if v13 = 0 then self4 (s4_.1, (s4_.2 + 1)) else self4 ((s4_.1 + 1), (s4_.2 + 1))))
def F_X1_backupsReferringTo (d0 : DKT) (p1 : Int32) : Option (Int32) :=
  lp (B_X1_backupsReferringTo_4 d0 p1) FU (0, 0)
def B_X1_passThrough_2 (d0 : DKT) (p1 : Int32) (self2 : (Int32 × SOT) → Option (SOT)) (s2_ : Int32 × SOT) : Option (SOT) :=
  (F_X1_chunksOf d0 p1).bind fun v5 => (if v5 ≤ s2_.1 then some (s2_.2) else (F_X1_entryReferred d0 p1 s2_.1).bind fun v16 => (F_X1_placeOfEntry d0 v16).bind fun v19 => (F_X5_use s2_.2 v19).bind fun v22 => self2 ((s2_.1 + 1), v22))
def F_X1_passThrough (d0 : DKT) (d2 : SOT) (p1 : Int32) : Option (SOT) :=
  lp (B_X1_passThrough_2 d0 p1) FU (0, d2)
def K_X1_isLastReferrer_54 (d0 : DKT) (v3 : Int32) (k54 : Int32) : Option (Int32) :=
  (F_X1_usesOfEntry d0 v3).bind fun v58 => (if k54 = v58 then some (1) else some (0))
def B_X1_isLastReferrer_13 (d0 : DKT) (p1 : Int32) (v3 : Int32) (p2 : Int32) (K54 : Int32 → Option (Int32)) (self13 : (Int32 × Int32) → Option (Int32)) (s13_ : Int32 × Int32) : Option (Int32) :=
  (F_X1_chunksOf d0 p1).bind fun v17 => (if v17 ≤ s13_.2 then K54 (s13_.1) else (F_X1_entryReferred d0 p1 s13_.2).bind fun v27 => (if v27 = v3 then (if s13_.2 ≤ p2 then self13 ((s13_.1 + 1), (s13_.2 + 1)) else some (0)) else self13 (s13_.1, (s13_.2 + 1))))
def F_X1_isLastReferrer (d0 : DKT) (p1 : Int32) (p2 : Int32) : Option (Int32) :=
  (F_X1_entryReferred d0 p1 p2).bind fun v3 => lp (B_X1_isLastReferrer_13 d0 p1 v3 p2 (K_X1_isLastReferrer_54 d0 v3)) FU (0, 0)
def B_X1_dyingWith_4 (d0 : DKT) (p1 : Int32) (self4 : (Int32 × Int32) → Option (Int32)) (s4_ : Int32 × Int32) : Option (Int32) :=
  (F_X1_chunksOf d0 p1).bind fun v7 => (if v7 ≤ s4_.2 then some (s4_.1) else (F_X1_isLastReferrer d0 p1 s4_.2).bind fun v16 => (if v16 = 0 then self4 (s4_.1, (s4_.2 + 1)) else self4 ((s4_.1 + 1), (s4_.2 + 1))))
def F_X1_dyingWith (d0 : DKT) (p1 : Int32) : Option (Int32) :=
  lp (B_X1_dyingWith_4 d0 p1) FU (0, 0)
def B_X1_freeBackup_2 (d0 : DKT) (self2 : Int32 → Option (Int32)) (s2_ : Int32) : Option (Int32) :=
  (if 8 ≤ s2_ then some ((-1)) else gd s2_ 8 ((if ((dk_lengths d0) (Int32.toNatClampNeg s2_)) = 0 then some (s2_) else self2 ((s2_ + 1)))))
def F_X1_freeBackup (d0 : DKT)  : Option (Int32) :=
  lp (B_X1_freeBackup_2 d0) FU (0)
def F_X1_allows (d0 : DKT) (d1 : PLT)  : Option (Int32) :=
  (F_X1_freeBackup d0).bind fun v1 => (if v1 = (-1) then some (0) else (if 24 < ((dk_containers d0) + (pl_newContainers d1)) then some (0) else some (1)))
def K_X1_addBackup_104 (v1 : Int32) (d1 : PLT) (k104 : DKT) : Option (Int32 × DKT) :=
  gd v1 8 (some (v1, (dk_w_lengths k104 (upd (dk_lengths k104) (Int32.toNatClampNeg v1) (pl_chunks d1)))))
def J_X1_addBackup_49 (s15_ : Int32 × DKT) (v1 : Int32) (d1 : PLT) (self15 : (Int32 × DKT) → Option (Int32 × DKT)) (j49 : DKT) : Option (Int32 × DKT) :=
  gd s15_.1 15 (gd ((v1 * 15) + s15_.1) 120 (gd s15_.1 15 ((F_X1_hasEntry (dk_w_references j49 (upd (dk_references j49) (Int32.toNatClampNeg ((v1 * 15) + s15_.1)) ((pl_entries d1) (Int32.toNatClampNeg s15_.1)))) ((pl_entries d1) (Int32.toNatClampNeg s15_.1))).bind fun v76 => (if v76 = 0 then self15 ((s15_.1 + 1), (dk_w_references j49 (upd (dk_references j49) (Int32.toNatClampNeg ((v1 * 15) + s15_.1)) ((pl_entries d1) (Int32.toNatClampNeg s15_.1))))) else gd s15_.1 15 (gd ((pl_entries d1) (Int32.toNatClampNeg s15_.1)) 192 (gd ((pl_entries d1) (Int32.toNatClampNeg s15_.1)) 192 (self15 ((s15_.1 + 1), (dk_w_references (dk_w_uses j49 (upd (dk_uses j49) (Int32.toNatClampNeg ((pl_entries d1) (Int32.toNatClampNeg s15_.1))) (((dk_uses j49) (Int32.toNatClampNeg ((pl_entries d1) (Int32.toNatClampNeg s15_.1)))) + 1))) (upd (dk_references j49) (Int32.toNatClampNeg ((v1 * 15) + s15_.1)) ((pl_entries d1) (Int32.toNatClampNeg s15_.1))))))))))))
def B_X1_addBackup_15 (d1 : PLT) (d2 : SMT) (v1 : Int32) (K104 : DKT → Option (Int32 × DKT)) (self15 : (Int32 × DKT) → Option (Int32 × DKT)) (s15_ : Int32 × DKT) : Option (Int32 × DKT) :=
  (if (pl_chunks d1) ≤ s15_.1 then K104 (s15_.2) else gd s15_.1 15 ((if ((pl_entries d1) (Int32.toNatClampNeg s15_.1)) = (dk_entries s15_.2) then (F_X6_codeAt d2 s15_.1).bind fun v42 => (F_X1_putAway s15_.2 v42).bind fun v45 => J_X1_addBackup_49 s15_ v1 d1 self15 (v45.2) else J_X1_addBackup_49 s15_ v1 d1 self15 (s15_.2))))
def F_X1_addBackup (d0 : DKT) (d1 : PLT) (d2 : SMT)  : Option (Int32 × DKT) :=
  (F_X1_freeBackup d0).bind fun v1 => (if v1 = (-1) then some ((-1), d0) else lp (B_X1_addBackup_15 d1 d2 v1 (K_X1_addBackup_104 v1 d1)) FU (0, d0))
def K_X1_removeBackup_63 (d0 : DKT) (p1 : Int32) (k63 : Int32 × (Nat → Int32)) : Option (Int32 × DKT) :=
  (F_X1_hasBackup (dk_w_uses d0 k63.2) p1).bind fun v65 => (if v65 = 0 then some (k63.1, (dk_w_uses d0 k63.2)) else gd p1 8 (some (k63.1, (dk_w_lengths (dk_w_uses d0 k63.2) (upd (dk_lengths d0) (Int32.toNatClampNeg p1) 0)))))
def B_X1_removeBackup_4 (d0 : DKT) (p1 : Int32) (K63 : (Int32 × (Nat → Int32)) → Option (Int32 × DKT)) (self4 : (Int32 × Int32 × (Nat → Int32)) → Option (Int32 × DKT)) (s4_ : Int32 × Int32 × (Nat → Int32)) : Option (Int32 × DKT) :=
  (F_X1_chunksOf (dk_w_uses d0 s4_.2.2) p1).bind fun v7 => (if v7 ≤ s4_.2.1 then K63 (s4_.1, s4_.2.2) else (F_X1_entryReferred (dk_w_uses d0 s4_.2.2) p1 s4_.2.1).bind fun v16 => (F_X1_hasEntry (dk_w_uses d0 s4_.2.2) v16).bind fun v24 => (if v24 = 0 then self4 (s4_.1, (s4_.2.1 + 1), s4_.2.2) else gd v16 192 (gd v16 192 (gd v16 192 ((if ((upd s4_.2.2 (Int32.toNatClampNeg v16) ((s4_.2.2 (Int32.toNatClampNeg v16)) - 1)) (Int32.toNatClampNeg v16)) = 0 then self4 ((s4_.1 + 1), (s4_.2.1 + 1), (upd s4_.2.2 (Int32.toNatClampNeg v16) ((s4_.2.2 (Int32.toNatClampNeg v16)) - 1))) else self4 (s4_.1, (s4_.2.1 + 1), (upd s4_.2.2 (Int32.toNatClampNeg v16) ((s4_.2.2 (Int32.toNatClampNeg v16)) - 1)))))))))
def F_X1_removeBackup (d0 : DKT) (p1 : Int32) : Option (Int32 × DKT) :=
  lp (B_X1_removeBackup_4 d0 p1 (K_X1_removeBackup_63 d0 p1)) FU (0, 0, (dk_uses d0))
def B_X1_redirect_33 (s25_ : Int32 × (Nat → Int32) × (Nat → Int32)) (d0 : DKT) (self25 : (Int32 × (Nat → Int32) × (Nat → Int32)) → Option (DKT)) (n1 : Nat) (d1 : Nat → Int32) (self33 : (Int32 × (Nat → Int32) × (Nat → Int32)) → Option (DKT)) (s33_ : Int32 × (Nat → Int32) × (Nat → Int32)) : Option (DKT) :=
  gd s25_.1 8 ((if ((dk_lengths d0) (Int32.toNatClampNeg s25_.1)) ≤ s33_.1 then self25 ((s25_.1 + 1), s33_.2.1, s33_.2.2) else gd ((s25_.1 * 15) + s33_.1) 120 ((if (s33_.2.2 (Int32.toNatClampNeg ((s25_.1 * 15) + s33_.1))) < 0 then self33 ((s33_.1 + 1), s33_.2.1, s33_.2.2) else (if (s33_.2.2 (Int32.toNatClampNeg ((s25_.1 * 15) + s33_.1))) < (Int32.ofNat n1) then gd (s33_.2.2 (Int32.toNatClampNeg ((s25_.1 * 15) + s33_.1))) n1 (gd ((s25_.1 * 15) + s33_.1) 120 ((F_X1_hasEntry (dk_w_references (dk_w_uses d0 s33_.2.1) (upd s33_.2.2 (Int32.toNatClampNeg ((s25_.1 * 15) + s33_.1)) (d1 (Int32.toNatClampNeg (s33_.2.2 (Int32.toNatClampNeg ((s25_.1 * 15) + s33_.1))))))) (d1 (Int32.toNatClampNeg (s33_.2.2 (Int32.toNatClampNeg ((s25_.1 * 15) + s33_.1)))))).bind fun v93 => (if v93 = 0 then self33 ((s33_.1 + 1), s33_.2.1, (upd s33_.2.2 (Int32.toNatClampNeg ((s25_.1 * 15) + s33_.1)) (d1 (Int32.toNatClampNeg (s33_.2.2 (Int32.toNatClampNeg ((s25_.1 * 15) + s33_.1))))))) else gd (d1 (Int32.toNatClampNeg (s33_.2.2 (Int32.toNatClampNeg ((s25_.1 * 15) + s33_.1))))) 192 (gd (d1 (Int32.toNatClampNeg (s33_.2.2 (Int32.toNatClampNeg ((s25_.1 * 15) + s33_.1))))) 192 (self33 ((s33_.1 + 1), (upd s33_.2.1 (Int32.toNatClampNeg (d1 (Int32.toNatClampNeg (s33_.2.2 (Int32.toNatClampNeg ((s25_.1 * 15) + s33_.1)))))) ((s33_.2.1 (Int32.toNatClampNeg (d1 (Int32.toNatClampNeg (s33_.2.2 (Int32.toNatClampNeg ((s25_.1 * 15) + s33_.1))))))) + 1)), (upd s33_.2.2 (Int32.toNatClampNeg ((s25_.1 * 15) + s33_.1)) (d1 (Int32.toNatClampNeg (s33_.2.2 (Int32.toNatClampNeg ((s25_.1 * 15) + s33_.1)))))))))))) else self33 ((s33_.1 + 1), s33_.2.1, s33_.2.2))))))
def B_X1_redirect_25 (d0 : DKT) (n1 : Nat) (d1 : Nat → Int32) (self25 : (Int32 × (Nat → Int32) × (Nat → Int32)) → Option (DKT)) (s25_ : Int32 × (Nat → Int32) × (Nat → Int32)) : Option (DKT) :=
  (if 8 ≤ s25_.1 then some ((dk_w_references (dk_w_uses d0 s25_.2.1) s25_.2.2)) else lp (B_X1_redirect_33 s25_ d0 self25 n1 d1) FU (0, s25_.2.1, s25_.2.2))
def K_X1_redirect_23 (d0 : DKT) (n1 : Nat) (d1 : Nat → Int32) (k23 : (Nat → Int32)) : Option (DKT) :=
  lp (B_X1_redirect_25 d0 n1 d1) FU (0, k23, (dk_references d0))
def B_X1_redirect_2 (d0 : DKT) (K23 : ((Nat → Int32)) → Option (DKT)) (self2 : (Int32 × (Nat → Int32)) → Option (DKT)) (s2_ : Int32 × (Nat → Int32)) : Option (DKT) :=
  (if (dk_entries d0) ≤ s2_.1 then K23 (s2_.2) else gd s2_.1 192 (self2 ((s2_.1 + 1), (upd s2_.2 (Int32.toNatClampNeg s2_.1) 0))))
def F_X1_redirect (d0 : DKT) (n1 : Nat) (d1 : Nat → Int32)  : Option (DKT) :=
  lp (B_X1_redirect_2 d0 (K_X1_redirect_23 d0 n1 d1)) FU (0, (dk_uses d0))
def B_X4_findHomes_2 (d0 : PLT) (d2 : SMT) (d1 : DKT) (self2 : (Int32 × (Nat → Int32)) → Option (PLT)) (s2_ : Int32 × (Nat → Int32)) : Option (PLT) :=
  (if (pl_chunks d0) ≤ s2_.1 then some ((pl_w_places d0 s2_.2)) else (F_X6_codeAt d2 s2_.1).bind fun v18 => (F_X1_homeOf d1 v18).bind fun v21 => gd s2_.1 15 (self2 ((s2_.1 + 1), (upd s2_.2 (Int32.toNatClampNeg s2_.1) v21))))
def F_X4_findHomes (d0 : PLT) (d1 : DKT) (d2 : SMT)  : Option (PLT) :=
  lp (B_X4_findHomes_2 d0 d2 d1) FU (0, (pl_places d0))
def B_X4_rivalAt_2 (d0 : PLT) (p1 : Int32) (self2 : Int32 → Option (Int32)) (s2_ : Int32) : Option (Int32) :=
  (if (pl_rivalCount d0) ≤ s2_ then some ((pl_rivalCount d0)) else gd s2_ 15 ((if ((pl_rivals d0) (Int32.toNatClampNeg s2_)) = p1 then some (s2_) else self2 ((s2_ + 1)))))
def F_X4_rivalAt (d0 : PLT) (p1 : Int32) : Option (Int32) :=
  lp (B_X4_rivalAt_2 d0 p1) FU (0)
def J_X4_countVotes_76 (v35 : Int32) (self7 : (Int32 × (Nat → Int32) × (Nat → Int32) × Int32) → Option (PLT)) (s7_ : Int32 × (Nat → Int32) × (Nat → Int32) × Int32) (j76 : (Nat → Int32) × (Nat → Int32) × Int32) : Option (PLT) :=
  gd v35 15 (gd v35 15 (self7 ((s7_.1 + 1), j76.1, (upd j76.2.1 (Int32.toNatClampNeg v35) ((j76.2.1 (Int32.toNatClampNeg v35)) + 1)), j76.2.2)))
def B_X4_countVotes_7 (d0 : PLT) (self7 : (Int32 × (Nat → Int32) × (Nat → Int32) × Int32) → Option (PLT)) (s7_ : Int32 × (Nat → Int32) × (Nat → Int32) × Int32) : Option (PLT) :=
  (if (pl_chunks d0) ≤ s7_.1 then some ((pl_w_rivalCount (pl_w_votes (pl_w_rivals d0 s7_.2.1) s7_.2.2.1) s7_.2.2.2)) else gd s7_.1 15 ((if ((pl_places d0) (Int32.toNatClampNeg s7_.1)) = (-1) then self7 ((s7_.1 + 1), s7_.2.1, s7_.2.2.1, s7_.2.2.2) else gd s7_.1 15 ((F_X4_rivalAt (pl_w_rivalCount (pl_w_votes (pl_w_rivals d0 s7_.2.1) s7_.2.2.1) s7_.2.2.2) ((pl_places d0) (Int32.toNatClampNeg s7_.1))).bind fun v35 => (if v35 = s7_.2.2.2 then gd s7_.1 15 (gd v35 15 (gd v35 15 (J_X4_countVotes_76 v35 self7 s7_ ((upd s7_.2.1 (Int32.toNatClampNeg v35) ((pl_places d0) (Int32.toNatClampNeg s7_.1))), (upd s7_.2.2.1 (Int32.toNatClampNeg v35) 0), (s7_.2.2.2 + 1))))) else J_X4_countVotes_76 v35 self7 s7_ (s7_.2.1, s7_.2.2.1, s7_.2.2.2))))))
def F_X4_countVotes (d0 : PLT)  : Option (PLT) :=
  lp (B_X4_countVotes_7 d0) FU (0, (pl_rivals d0), (pl_votes d0), 0)
def F_X4_isWeaker (d0 : PLT) (p1 : Int32) (p2 : Int32) : Option (Int32) :=
  gd p1 15 (gd p2 15 ((if ((pl_votes d0) (Int32.toNatClampNeg p1)) < ((pl_votes d0) (Int32.toNatClampNeg p2)) then some (1) else gd p1 15 (gd p2 15 ((if ((pl_votes d0) (Int32.toNatClampNeg p1)) = ((pl_votes d0) (Int32.toNatClampNeg p2)) then gd p1 15 (gd p2 15 ((if ((pl_rivals d0) (Int32.toNatClampNeg p2)) ≤ ((pl_rivals d0) (Int32.toNatClampNeg p1)) then some (0) else some (1)))) else some (0)))))))
def K_X4_dropWeakest_67 (d0 : PLT) (k29 : Int32) (k67 : (Nat → Int32)) : Option (PLT) :=
  gd ((pl_rivalCount d0) - 1) 15 (gd k29 15 (gd ((pl_rivalCount d0) - 1) 15 (gd k29 15 (some ((pl_w_rivalCount (pl_w_votes (pl_w_rivals (pl_w_places d0 k67) (upd (pl_rivals d0) (Int32.toNatClampNeg k29) ((pl_rivals d0) (Int32.toNatClampNeg ((pl_rivalCount d0) - 1))))) (upd (pl_votes d0) (Int32.toNatClampNeg k29) ((pl_votes d0) (Int32.toNatClampNeg ((pl_rivalCount d0) - 1))))) ((pl_rivalCount d0) - 1)))))))
def B_X4_dropWeakest_31 (d0 : PLT) (k29 : Int32) (K67 : ((Nat → Int32)) → Option (PLT)) (self31 : (Int32 × (Nat → Int32)) → Option (PLT)) (s31_ : Int32 × (Nat → Int32)) : Option (PLT) :=
  (if (pl_chunks d0) ≤ s31_.1 then K67 (s31_.2) else gd s31_.1 15 (gd k29 15 ((if (s31_.2 (Int32.toNatClampNeg s31_.1)) = ((pl_rivals d0) (Int32.toNatClampNeg k29)) then gd s31_.1 15 (self31 ((s31_.1 + 1), (upd s31_.2 (Int32.toNatClampNeg s31_.1) (-1)))) else self31 ((s31_.1 + 1), s31_.2)))))
def K_X4_dropWeakest_29 (d0 : PLT) (k29 : Int32) : Option (PLT) :=
  lp (B_X4_dropWeakest_31 d0 k29 (K_X4_dropWeakest_67 d0 k29)) FU (0, (pl_places d0))
def B_X4_dropWeakest_4 (d0 : PLT) (K29 : Int32 → Option (PLT)) (self4 : (Int32 × Int32) → Option (PLT)) (s4_ : Int32 × Int32) : Option (PLT) :=
  (if (pl_rivalCount d0) ≤ s4_.2 then K29 (s4_.1) else (F_X4_isWeaker d0 s4_.2 s4_.1).bind fun v15 => (if v15 = 0 then self4 (s4_.1, (s4_.2 + 1)) else self4 (s4_.2, (s4_.2 + 1))))
def F_X4_dropWeakest (d0 : PLT)  : Option (PLT) :=
  lp (B_X4_dropWeakest_4 d0 (K_X4_dropWeakest_29 d0)) FU (0, 1)
def K_X4_repeats_20 (p2 : Int32) (d0 : PLT) (k20 : Int32) : Option (Int32 × PLT) :=
  gd k20 15 (gd p2 15 (gd k20 15 (gd p2 15 (some (1, (pl_w_entries (pl_w_places d0 (upd (pl_places d0) (Int32.toNatClampNeg p2) ((pl_places d0) (Int32.toNatClampNeg k20)))) (upd (pl_entries d0) (Int32.toNatClampNeg p2) ((pl_entries d0) (Int32.toNatClampNeg k20)))))))))
def B_X4_repeats_2 (p2 : Int32) (d0 : PLT) (d1 : SMT) (K20 : Int32 → Option (Int32 × PLT)) (self2 : Int32 → Option (Int32 × PLT)) (s2_ : Int32) : Option (Int32 × PLT) :=
  (if p2 ≤ s2_ then some (0, d0) else (F_X6_codeAt d1 s2_).bind fun v9 => (F_X6_codeAt d1 p2).bind fun v14 => (if v9 = v14 then K20 (s2_) else self2 ((s2_ + 1))))
def F_X4_repeats (d0 : PLT) (d1 : SMT) (p2 : Int32) : Option (Int32 × PLT) :=
  lp (B_X4_repeats_2 p2 d0 d1 (K_X4_repeats_20 p2 d0)) FU (0)
def J_X4_layOut_142 (s59_ : Int32 × Int32 × PLT) (self59 : (Int32 × Int32 × PLT) → Option (PLT)) (v114 : Int32 × PLT) (d1 : DKT) (j142 : Int32 × Int32) : Option (PLT) :=
  gd s59_.2.1 15 (gd s59_.2.1 15 (self59 ((j142.1 + (-1)), (s59_.2.1 + 1), (pl_w_newContainers (pl_w_puts (pl_w_entries (pl_w_places v114.2 (upd (pl_places v114.2) (Int32.toNatClampNeg s59_.2.1) (((dk_containers d1) + j142.2) - 1))) (upd (pl_entries v114.2) (Int32.toNatClampNeg s59_.2.1) ((dk_entries d1) + (pl_puts v114.2)))) ((pl_puts v114.2) + 1)) j142.2))))
def B_X4_layOut_59 (d2 : SMT) (d1 : DKT) (self59 : (Int32 × Int32 × PLT) → Option (PLT)) (s59_ : Int32 × Int32 × PLT) : Option (PLT) :=
  (if (pl_chunks s59_.2.2) ≤ s59_.2.1 then some (s59_.2.2) else (F_X6_codeAt d2 s59_.2.1).bind fun v71 => gd s59_.2.1 15 ((if ((pl_places s59_.2.2) (Int32.toNatClampNeg s59_.2.1)) = (-1) then (F_X4_repeats s59_.2.2 d2 s59_.2.1).bind fun v114 => (if v114.1 = 0 then (if s59_.1 = 0 then (F_X1_settingAt d1 1).bind fun v137 => J_X4_layOut_142 s59_ self59 v114 d1 (v137, ((pl_newContainers v114.2) + 1)) else J_X4_layOut_142 s59_ self59 v114 d1 (s59_.1, (pl_newContainers v114.2))) else self59 (s59_.1, (s59_.2.1 + 1), v114.2)) else gd s59_.2.1 15 ((F_X1_firstEntryWith d1 v71 ((pl_places s59_.2.2) (Int32.toNatClampNeg s59_.2.1))).bind fun v103 => gd s59_.2.1 15 (self59 (s59_.1, (s59_.2.1 + 1), (pl_w_entries s59_.2.2 (upd (pl_entries s59_.2.2) (Int32.toNatClampNeg s59_.2.1) v103))))))))
def K_X4_layOut_40 (d1 : DKT) (d2 : SMT) (k40 : PLT) : Option (PLT) :=
  (F_X1_roomInLast d1).bind fun v51 => lp (B_X4_layOut_59 d2 d1) FU (v51, 0, (pl_w_newContainers (pl_w_puts k40 0) 0))
def B_X4_layOut_24 (p3 : Int32) (K40 : PLT → Option (PLT)) (self24 : (Int32 × PLT) → Option (PLT)) (s24_ : Int32 × PLT) : Option (PLT) :=
  (if s24_.1 ≤ p3 then K40 (s24_.2) else (F_X4_dropWeakest s24_.2).bind fun v31 => self24 ((s24_.1 + (-1)), v31))
def F_X4_layOut (d0 : PLT) (d1 : DKT) (d2 : SMT) (p3 : Int32) : Option (PLT) :=
  (F_X4_findHomes (pl_w_chunks d0 (sm_chunks d2)) d1 d2).bind fun v11 => (F_X4_countVotes v11).bind fun v15 => lp (B_X4_layOut_24 p3 (K_X4_layOut_40 d1 d2)) FU ((pl_rivalCount v15), v15)
def B_X4_passThrough_2 (d0 : PLT) (self2 : (Int32 × SOT) → Option (SOT)) (s2_ : Int32 × SOT) : Option (SOT) :=
  (if (pl_chunks d0) ≤ s2_.1 then some (s2_.2) else gd s2_.1 15 ((F_X5_use s2_.2 ((pl_places d0) (Int32.toNatClampNeg s2_.1))).bind fun v17 => self2 ((s2_.1 + 1), v17)))
def F_X4_passThrough (d0 : PLT) (d1 : SOT)  : Option (SOT) :=
  lp (B_X4_passThrough_2 d0) FU (0, d1)
def B_X0_collectLiving_3 (p3 : Int32) (d0 : CRT) (d1 : DKT) (self3 : (Int32 × (Nat → Int32) × (Nat → Int32) × Int32) → Option (CRT)) (s3_ : Int32 × (Nat → Int32) × (Nat → Int32) × Int32) : Option (CRT) :=
  (if p3 ≤ s3_.1 then some ((cr_w_waitingCount (cr_w_waitingCodes (cr_w_waiting d0 s3_.2.1) s3_.2.2.1) s3_.2.2.2)) else (F_X1_usesOfEntry d1 s3_.1).bind fun v12 => (if v12 = 0 then self3 ((s3_.1 + 1), s3_.2.1, s3_.2.2.1, s3_.2.2.2) else (if s3_.2.2.2 < 192 then gd s3_.2.2.2 192 ((F_X1_codeOfEntry d1 s3_.1).bind fun v55 => gd s3_.2.2.2 192 (self3 ((s3_.1 + 1), (upd s3_.2.1 (Int32.toNatClampNeg s3_.2.2.2) s3_.1), (upd s3_.2.2.1 (Int32.toNatClampNeg s3_.2.2.2) v55), (s3_.2.2.2 + 1)))) else self3 ((s3_.1 + 1), s3_.2.1, s3_.2.2.1, s3_.2.2.2))))
def F_X0_collectLiving (d0 : CRT) (d1 : DKT) (p2 : Int32) (p3 : Int32) : Option (CRT) :=
  lp (B_X0_collectLiving_3 p3 d0 d1) FU (p2, (cr_waiting d0), (cr_waitingCodes d0), (cr_waitingCount d0))
def B_X0_collectWaiting_7 (d1 : DKT) (self7 : (Int32 × CRT) → Option (CRT)) (s7_ : Int32 × CRT) : Option (CRT) :=
  (if (dk_containers d1) ≤ s7_.1 then some (s7_.2) else gd s7_.1 121 ((if ((cr_thin s7_.2) (Int32.toNatClampNeg s7_.1)) = 0 then self7 ((s7_.1 + 1), s7_.2) else (F_X1_firstEntryAt d1 s7_.1).bind fun v28 => (F_X1_firstEntryAt d1 (s7_.1 + 1)).bind fun v35 => (F_X0_collectLiving s7_.2 d1 v28 v35).bind fun v38 => self7 ((s7_.1 + 1), v38))))
def F_X0_collectWaiting (d0 : CRT) (d1 : DKT)  : Option (CRT) :=
  lp (B_X0_collectWaiting_7 d1) FU (0, (cr_w_waitingCount d0 0))
def B_X0_keepContainer_56 (p4 : Int32) (d0 : CRT) (d1 : DKT) (p2 : Int32) (self56 : (Int32 × (Nat → Int32) × (Nat → Int32) × (Nat → Int32) × Int32) → Option (CRT × DKT)) (s56_ : Int32 × (Nat → Int32) × (Nat → Int32) × (Nat → Int32) × Int32) : Option (CRT × DKT) :=
  (if p4 ≤ s56_.1 then some ((cr_w_goesTo d0 s56_.2.1), (dk_w_entries (dk_w_places (dk_w_codes (dk_w_containers (dk_w_firsts (dk_w_capacities (dk_w_numbers d1 (upd (dk_numbers d1) (Int32.toNatClampNeg (dk_containers d1)) ((dk_numbers d1) (Int32.toNatClampNeg p2)))) (upd (dk_capacities d1) (Int32.toNatClampNeg (dk_containers d1)) ((dk_capacities d1) (Int32.toNatClampNeg p2)))) (upd (dk_firsts d1) (Int32.toNatClampNeg (dk_containers d1)) (dk_entries d1))) ((dk_containers d1) + 1)) s56_.2.2.1) s56_.2.2.2.1) s56_.2.2.2.2)) else gd s56_.1 192 (gd s56_.2.2.2.2 192 (gd s56_.2.2.2.2 192 (gd s56_.1 192 (self56 ((s56_.1 + 1), (upd s56_.2.1 (Int32.toNatClampNeg s56_.1) s56_.2.2.2.2), (upd s56_.2.2.1 (Int32.toNatClampNeg s56_.2.2.2.2) (s56_.2.2.1 (Int32.toNatClampNeg s56_.1))), (upd s56_.2.2.2.1 (Int32.toNatClampNeg s56_.2.2.2.2) (dk_containers d1)), (s56_.2.2.2.2 + 1)))))))
def F_X0_keepContainer (d0 : CRT) (d1 : DKT) (p2 : Int32) (p3 : Int32) (p4 : Int32) : Option (CRT × DKT) :=
  gd p2 121 (gd (dk_containers d1) 121 (gd p2 121 (gd (dk_containers d1) 121 (gd (dk_containers d1) 121 (lp (B_X0_keepContainer_56 p4 d0 d1 p2) FU (p3, (cr_goesTo d0), (dk_codes d1), (dk_places d1), (dk_entries d1)))))))
def J_X0_takeOutThin_53 (s26_ : Int32 × Int32 × CRT × DKT) (d1 : DKT) (self26 : (Int32 × Int32 × CRT × DKT) → Option (CRT × DKT)) (j53 : Unit) : Option (CRT × DKT) :=
  gd s26_.2.1 121 ((if ((cr_thin s26_.2.2.1) (Int32.toNatClampNeg s26_.2.1)) = 0 then (F_X0_keepContainer s26_.2.2.1 s26_.2.2.2 s26_.2.1 s26_.1 (dk_containers d1)).bind fun v73 => self26 ((dk_containers d1), (s26_.2.1 + 1), v73.1, v73.2) else self26 ((dk_containers d1), (s26_.2.1 + 1), s26_.2.2.1, s26_.2.2.2)))
def B_X0_takeOutThin_26 (d1 : DKT) (self26 : (Int32 × Int32 × CRT × DKT) → Option (CRT × DKT)) (s26_ : Int32 × Int32 × CRT × DKT) : Option (CRT × DKT) :=
  (if (dk_containers d1) ≤ s26_.2.1 then some (s26_.2.2.1, s26_.2.2.2) else (if (dk_containers d1) ≤ (s26_.2.1 + 1) then J_X0_takeOutThin_53 s26_ d1 self26 () else gd (s26_.2.1 + 1) 121 (J_X0_takeOutThin_53 s26_ d1 self26 ())))
def F_X0_takeOutThin (d0 : CRT) (d1 : DKT)  : Option (CRT × DKT) :=
  lp (B_X0_takeOutThin_26 d1) FU (0, 0, d0, (dk_w_entries (dk_w_containers d1 0) 0))
def F_X0_leads (d0 : CRT) (p1 : Int32) (p2 : Int32) : Option (CRT) :=
  (if p1 < 0 then some (d0) else (if 192 ≤ p1 then some (d0) else gd p1 192 (some ((cr_w_goesTo d0 (upd (cr_goesTo d0) (Int32.toNatClampNeg p1) p2))))))
def K_X0_carryForward_73  (k73 : CRT × DKT) : Option (Int32 × CRT × DKT) :=
  (F_X1_redirect k73.2 192 (cr_goesTo k73.1)).bind fun v78 => some ((cr_waitingCount k73.1), k73.1, (dk_w_carried v78 ((dk_carried v78) + (cr_waitingCount k73.1))))
def B_X0_carryForward_39  (K73 : (CRT × DKT) → Option (Int32 × CRT × DKT)) (self39 : (Int32 × CRT × DKT) → Option (Int32 × CRT × DKT)) (s39_ : Int32 × CRT × DKT) : Option (Int32 × CRT × DKT) :=
  (if (cr_waitingCount s39_.2.1) ≤ s39_.1 then K73 (s39_.2.1, s39_.2.2) else gd s39_.1 192 (gd s39_.1 192 ((F_X1_putAway s39_.2.2 ((cr_waitingCodes s39_.2.1) (Int32.toNatClampNeg s39_.1))).bind fun v61 => (F_X0_leads s39_.2.1 ((cr_waiting s39_.2.1) (Int32.toNatClampNeg s39_.1)) v61.1).bind fun v64 => self39 ((s39_.1 + 1), v64, v61.2))))
def K_X0_carryForward_27 (d0 : CRT) (d1 : DKT) (k27 : (Nat → Int32)) : Option (Int32 × CRT × DKT) :=
  (F_X0_collectWaiting (cr_w_thin d0 k27) d1).bind fun v29 => (F_X0_takeOutThin v29 d1).bind fun v34 => lp (B_X0_carryForward_39 (K_X0_carryForward_73)) FU (0, v34.1, v34.2)
def B_X0_carryForward_2 (d1 : DKT) (K27 : ((Nat → Int32)) → Option (Int32 × CRT × DKT)) (self2 : (Int32 × (Nat → Int32)) → Option (Int32 × CRT × DKT)) (s2_ : Int32 × (Nat → Int32)) : Option (Int32 × CRT × DKT) :=
  (if (dk_containers d1) ≤ s2_.1 then K27 (s2_.2) else (F_X1_isThin d1 s2_.1).bind fun v17 => gd s2_.1 121 (self2 ((s2_.1 + 1), (upd s2_.2 (Int32.toNatClampNeg s2_.1) (vp_nar .boolean v17)))))
def F_X0_carryForward (d0 : CRT) (d1 : DKT)  : Option (Int32 × CRT × DKT) :=
  lp (B_X0_carryForward_2 d1 (K_X0_carryForward_27 d0 d1)) FU (0, (cr_thin d0))
def F_X9_thrown (x_thrown : Int32)  : Option (Int32) :=
  some (x_thrown)
def F_X9_in  (p0 : Int32) (p1 : Int32) (p2 : Int32) : Option (Int32) :=
  (if p0 < p1 then some (0) else (if p2 < p0 then some (0) else some (1)))
def F_X9_fails (x_thrown : Int32) (p1 : Int32) : Option (Int32 × Int32) :=
  some (0, p1)
def B_X9_putAside_2 (x_s : Nat → Int32) (self2 : (Int32 × (Nat → Int32)) → Option ((Nat → Int32))) (s2_ : Int32 × (Nat → Int32)) : Option ((Nat → Int32)) :=
  (if 1270 ≤ s2_.1 then some (s2_.2) else gd s2_.1 1270 (gd s2_.1 1270 (self2 ((s2_.1 + 1), (upd s2_.2 (Int32.toNatClampNeg s2_.1) (x_s (Int32.toNatClampNeg s2_.1)))))))
def F_X9_putAside (x_s : Nat → Int32) (x_aside : Nat → Int32)  : Option ((Nat → Int32)) :=
  lp (B_X9_putAside_2 x_s) FU (0, x_aside)
def B_X9_takeBack_2 (x_aside : Nat → Int32) (self2 : (Int32 × (Nat → Int32)) → Option ((Nat → Int32))) (s2_ : Int32 × (Nat → Int32)) : Option ((Nat → Int32)) :=
  (if 1270 ≤ s2_.1 then some (s2_.2) else gd s2_.1 1270 (gd s2_.1 1270 (self2 ((s2_.1 + 1), (upd s2_.2 (Int32.toNatClampNeg s2_.1) (x_aside (Int32.toNatClampNeg s2_.1)))))))
def F_X9_takeBack (x_s : Nat → Int32) (x_aside : Nat → Int32)  : Option ((Nat → Int32)) :=
  lp (B_X9_takeBack_2 x_aside) FU (0, x_s)
def B_X9_remember_52 (j50 : (Nat → Int32) × Int32) (x_aside : Nat → Int32) (self52 : (Int32 × (Nat → Int32)) → Option ((Nat → Int32) × Int32)) (s52_ : Int32 × (Nat → Int32)) : Option ((Nat → Int32) × Int32) :=
  (if 1270 ≤ s52_.1 then some (s52_.2, (j50.2 + 1)) else gd s52_.1 1270 (gd ((1270 * j50.2) + s52_.1) 17780 (self52 ((s52_.1 + 1), (upd s52_.2 (Int32.toNatClampNeg ((1270 * j50.2) + s52_.1)) (x_aside (Int32.toNatClampNeg s52_.1)))))))
def J_X9_remember_50 (x_aside : Nat → Int32) (j50 : (Nat → Int32) × Int32) : Option ((Nat → Int32) × Int32) :=
  lp (B_X9_remember_52 j50 x_aside) FU (0, j50.1)
def K_X9_remember_40 (x_aside : Nat → Int32) (x_savedMany : Int32) (k40 : (Nat → Int32)) : Option ((Nat → Int32) × Int32) :=
  J_X9_remember_50 x_aside (k40, (x_savedMany - 1))
def B_X9_remember_11  (K40 : ((Nat → Int32)) → Option ((Nat → Int32) × Int32)) (self11 : (Int32 × (Nat → Int32)) → Option ((Nat → Int32) × Int32)) (s11_ : Int32 × (Nat → Int32)) : Option ((Nat → Int32) × Int32) :=
  (if 16510 ≤ s11_.1 then K40 (s11_.2) else gd (s11_.1 + 1270) 17780 (gd s11_.1 17780 (self11 ((s11_.1 + 1), (upd s11_.2 (Int32.toNatClampNeg s11_.1) (s11_.2 (Int32.toNatClampNeg (s11_.1 + 1270))))))))
def F_X9_remember (x_aside : Nat → Int32) (x_saved : Nat → Int32) (x_savedMany : Int32)  : Option ((Nat → Int32) × Int32) :=
  (if x_savedMany = 14 then lp (B_X9_remember_11 (K_X9_remember_40 x_aside x_savedMany)) FU (0, x_saved) else J_X9_remember_50 x_aside (x_saved, x_savedMany))
def F_X9_append (x_thrown : Int32) (x_text : Nat → Int32) (x_length : Int32) (p1 : Int32) : Option (Int32 × Int32 × (Nat → Int32) × Int32) :=
  (F_X9_in p1 0 255).bind fun v10 => (if v10 = 0 then (F_X9_fails 0 1).bind fun v18 => some (v18.1, v18.2, x_text, x_length) else (if x_length = 120 then (F_X9_fails 0 2).bind fun v33 => some (v33.1, v33.2, x_text, x_length) else gd x_length 120 (some ((x_length + 1), 0, (upd x_text (Int32.toNatClampNeg x_length) p1), (x_length + 1)))))
def F_X9_clearText (x_thrown : Int32) (x_length : Int32)  : Option (Int32 × Int32 × Int32) :=
  some (x_length, 0, 0)
def K_X9_reads_116 (x_length : Int32) (k116 : Int32 × (Nat → Int32) × (Nat → Int32) × Int32) : Option (Int32 × (Nat → Int32) × (Nat → Int32) × Int32) :=
  (if k116.1 = 0 then some (x_length, k116.2.1, k116.2.2.1, k116.2.2.2) else some ((-1), k116.2.1, k116.2.2.1, k116.2.2.2))
def J_X9_reads_67 (self9 : (Int32 × Int32 × (Nat → Int32) × (Nat → Int32) × Int32) → Option (Int32 × (Nat → Int32) × (Nat → Int32) × Int32)) (s9_ : Int32 × Int32 × (Nat → Int32) × (Nat → Int32) × Int32) (j67 : (Nat → Int32) × Int32) : Option (Int32 × (Nat → Int32) × (Nat → Int32) × Int32) :=
  gd (j67.2 - 1) 4 (self9 ((s9_.1 + 1), (s9_.2.1 + 1), j67.1, (upd s9_.2.2.2.1 (Int32.toNatClampNeg (j67.2 - 1)) (s9_.1 + 1)), j67.2))
def B_X9_reads_9 (x_length : Int32) (x_text : Nat → Int32) (K116 : (Int32 × (Nat → Int32) × (Nat → Int32) × Int32) → Option (Int32 × (Nat → Int32) × (Nat → Int32) × Int32)) (self9 : (Int32 × Int32 × (Nat → Int32) × (Nat → Int32) × Int32) → Option (Int32 × (Nat → Int32) × (Nat → Int32) × Int32)) (s9_ : Int32 × Int32 × (Nat → Int32) × (Nat → Int32) × Int32) : Option (Int32 × (Nat → Int32) × (Nat → Int32) × Int32) :=
  (if x_length ≤ s9_.2.1 then K116 (s9_.1, s9_.2.2.1, s9_.2.2.2.1, s9_.2.2.2.2) else gd s9_.2.1 120 ((F_X9_in (x_text (Int32.toNatClampNeg s9_.2.1)) 97 104).bind fun v29 => (if v29 = 0 then (if (x_text (Int32.toNatClampNeg s9_.2.1)) = 44 then (if s9_.1 ≤ 0 then some (s9_.2.1, s9_.2.2.1, s9_.2.2.2.1, s9_.2.2.2.2) else (if 4 ≤ s9_.2.2.2.2 then some (s9_.2.1, s9_.2.2.1, s9_.2.2.2.1, s9_.2.2.2.2) else self9 (0, (s9_.2.1 + 1), s9_.2.2.1, s9_.2.2.2.1, s9_.2.2.2.2))) else some (s9_.2.1, s9_.2.2.1, s9_.2.2.2.1, s9_.2.2.2.2)) else (if s9_.1 = 30 then some (s9_.2.1, s9_.2.2.1, s9_.2.2.2.1, s9_.2.2.2.2) else (if s9_.1 = 0 then gd s9_.2.2.2.2 4 (J_X9_reads_67 self9 s9_ ((upd s9_.2.2.1 (Int32.toNatClampNeg s9_.2.2.2.2) s9_.2.1), (s9_.2.2.2.2 + 1))) else J_X9_reads_67 self9 s9_ (s9_.2.2.1, s9_.2.2.2.2))))))
def F_X9_reads (x_text : Nat → Int32) (x_length : Int32) (x_begins : Nat → Int32) (x_lengths : Nat → Int32) (x_streams : Int32)  : Option (Int32 × (Nat → Int32) × (Nat → Int32) × Int32) :=
  lp (B_X9_reads_9 x_length x_text (K_X9_reads_116 x_length)) FU (0, 0, x_begins, x_lengths, 0)
def F_X9_errorPosition (x_thrown : Int32) (x_text : Nat → Int32) (x_length : Int32) (x_begins : Nat → Int32) (x_lengths : Nat → Int32) (x_streams : Int32)  : Option (Int32 × Int32 × (Nat → Int32) × (Nat → Int32) × Int32) :=
  (F_X9_reads x_text x_length x_begins x_lengths x_streams).bind fun v6 => some (v6.1, 0, v6.2.1, v6.2.2.1, v6.2.2.2)
def F_X9_isStream (x_text : Nat → Int32) (x_length : Int32) (x_begins : Nat → Int32) (x_lengths : Nat → Int32) (x_streams : Int32) (p1 : Int32) : Option (Int32 × (Nat → Int32) × (Nat → Int32) × Int32) :=
  (F_X9_reads x_text x_length x_begins x_lengths x_streams).bind fun v1 => (if v1.1 = (-1) then (F_X9_in p1 0 (v1.2.2.2 - 1)).bind fun v16 => (if v16 = 0 then some (0, v1.2.1, v1.2.2.1, v1.2.2.2) else some (1, v1.2.1, v1.2.2.1, v1.2.2.2)) else some (0, v1.2.1, v1.2.2.1, v1.2.2.2))
def J_X9_cuts_92 (s11_ : Int32 × Int32 × Int32 × (Nat → Int32) × Int32) (self11 : (Int32 × Int32 × Int32 × (Nat → Int32) × Int32) → Option ((Nat → Int32) × Int32)) (x_letters : Nat → Int32) (j92 : Unit) : Option ((Nat → Int32) × Int32) :=
  gd s11_.2.2.2.2 16 (self11 (0, 0, (s11_.2.2.1 + 1), (upd s11_.2.2.2.1 (Int32.toNatClampNeg s11_.2.2.2.2) ((9 * s11_.1) + (x_letters (Int32.toNatClampNeg s11_.2.2.1)))), (s11_.2.2.2.2 + 1)))
def J_X9_cuts_69 (s11_ : Int32 × Int32 × Int32 × (Nat → Int32) × Int32) (self11 : (Int32 × Int32 × Int32 × (Nat → Int32) × Int32) → Option ((Nat → Int32) × Int32)) (x_letters : Nat → Int32) (x_letterMany : Int32) (j69 : Unit) : Option ((Nat → Int32) × Int32) :=
  (if 1 = 0 then (if (s11_.2.1 + 1) = 6 then J_X9_cuts_92 s11_ self11 x_letters () else (if s11_.2.2.1 = (x_letterMany - 1) then J_X9_cuts_92 s11_ self11 x_letters () else self11 (((9 * s11_.1) + (x_letters (Int32.toNatClampNeg s11_.2.2.1))), (s11_.2.1 + 1), (s11_.2.2.1 + 1), s11_.2.2.2.1, s11_.2.2.2.2))) else J_X9_cuts_92 s11_ self11 x_letters ())
def J_X9_cuts_68 (s11_ : Int32 × Int32 × Int32 × (Nat → Int32) × Int32) (self11 : (Int32 × Int32 × Int32 × (Nat → Int32) × Int32) → Option ((Nat → Int32) × Int32)) (x_letters : Nat → Int32) (x_letterMany : Int32) (j68 : Unit) : Option ((Nat → Int32) × Int32) :=
  J_X9_cuts_69 s11_ self11 x_letters x_letterMany ()
def B_X9_cuts_11 (x_letterMany : Int32) (x_letters : Nat → Int32) (x_s : Nat → Int32) (self11 : (Int32 × Int32 × Int32 × (Nat → Int32) × Int32) → Option ((Nat → Int32) × Int32)) (s11_ : Int32 × Int32 × Int32 × (Nat → Int32) × Int32) : Option ((Nat → Int32) × Int32) :=
  (if x_letterMany ≤ s11_.2.2.1 then some (s11_.2.2.2.1, s11_.2.2.2.2) else gd s11_.2.2.1 30 ((if (s11_.2.1 + 1) ≤ 1 then J_X9_cuts_68 s11_ self11 x_letters x_letterMany () else gd (s11_.2.2.1 - 1) 30 (gd s11_.2.2.1 30 (gd 0 1270 (gz (x_s (Int32.toNatClampNeg 0)) ((if (((x_letters (Int32.toNatClampNeg (s11_.2.2.1 - 1))) + (x_letters (Int32.toNatClampNeg s11_.2.2.1))) - ((x_letters (Int32.toNatClampNeg (s11_.2.2.1 - 1))) + (x_letters (Int32.toNatClampNeg s11_.2.2.1))) / (x_s (Int32.toNatClampNeg 0)) * (x_s (Int32.toNatClampNeg 0))) = 0 then J_X9_cuts_69 s11_ self11 x_letters x_letterMany () else J_X9_cuts_68 s11_ self11 x_letters x_letterMany ()))))))))
def F_X9_cuts (x_s : Nat → Int32) (x_letters : Nat → Int32) (x_letterMany : Int32) (x_chunks : Nat → Int32) (x_chunkMany : Int32)  : Option ((Nat → Int32) × Int32) :=
  lp (B_X9_cuts_11 x_letterMany x_letters x_s) FU (0, 0, 0, x_chunks, 0)
def K_X9_laysStream_50 (x_s : Nat → Int32) (x_lengths : Nat → Int32) (p1 : Int32) (x_chunks : Nat → Int32) (x_chunkMany : Int32) (k50 : (Nat → Int32)) : Option ((Nat → Int32) × Int32 × (Nat → Int32) × Int32) :=
  (F_X9_cuts x_s k50 (x_lengths (Int32.toNatClampNeg p1)) x_chunks x_chunkMany).bind fun v51 => some (k50, (x_lengths (Int32.toNatClampNeg p1)), v51.1, v51.2)
def B_X9_laysStream_12 (x_lengths : Nat → Int32) (p1 : Int32) (x_begins : Nat → Int32) (x_text : Nat → Int32) (K50 : ((Nat → Int32)) → Option ((Nat → Int32) × Int32 × (Nat → Int32) × Int32)) (self12 : (Int32 × (Nat → Int32)) → Option ((Nat → Int32) × Int32 × (Nat → Int32) × Int32)) (s12_ : Int32 × (Nat → Int32)) : Option ((Nat → Int32) × Int32 × (Nat → Int32) × Int32) :=
  (if (x_lengths (Int32.toNatClampNeg p1)) ≤ s12_.1 then K50 (s12_.2) else gd p1 4 (gd ((x_begins (Int32.toNatClampNeg p1)) + s12_.1) 120 (gd s12_.1 30 (self12 ((s12_.1 + 1), (upd s12_.2 (Int32.toNatClampNeg s12_.1) (((x_text (Int32.toNatClampNeg ((x_begins (Int32.toNatClampNeg p1)) + s12_.1))) - 97) + 1)))))))
def F_X9_laysStream (x_s : Nat → Int32) (x_text : Nat → Int32) (x_begins : Nat → Int32) (x_lengths : Nat → Int32) (x_letters : Nat → Int32) (x_letterMany : Int32) (x_chunks : Nat → Int32) (x_chunkMany : Int32) (p1 : Int32) : Option ((Nat → Int32) × Int32 × (Nat → Int32) × Int32) :=
  gd p1 4 (lp (B_X9_laysStream_12 x_lengths p1 x_begins x_text (K_X9_laysStream_50 x_s x_lengths p1 x_chunks x_chunkMany)) FU (0, x_letters))
def B_X9_lengthOf_4  (self4 : (Int32 × Int32) → Option (Int32)) (s4_ : Int32 × Int32) : Option (Int32) :=
  (if s4_.2 ≤ 0 then some (s4_.1) else gz 9 (self4 ((s4_.1 + 1), (s4_.2 / 9))))
def F_X9_lengthOf  (p0 : Int32) : Option (Int32) :=
  lp (B_X9_lengthOf_4) FU (0, p0)
def K_X9_worthAt_25  (k25 : Int32) : Option (Int32) :=
  gz 9 (some ((k25 - k25 / 9 * 9)))
def B_X9_worthAt_9 (p1 : Int32) (K25 : Int32 → Option (Int32)) (self9 : (Int32 × Int32) → Option (Int32)) (s9_ : Int32 × Int32) : Option (Int32) :=
  (if s9_.2 ≤ p1 then K25 (s9_.1) else gz 9 (self9 ((s9_.1 / 9), (s9_.2 + (-1)))))
def F_X9_worthAt  (p0 : Int32) (p1 : Int32) : Option (Int32) :=
  (F_X9_lengthOf p0).bind fun v3 => lp (B_X9_worthAt_9 p1 (K_X9_worthAt_25)) FU (p0, (v3 - 1))
def B_X9_sumOf_10 (v4 : Int32) (p0 : Int32) (self10 : (Int32 × Int32) → Option (Int32)) (s10_ : Int32 × Int32) : Option (Int32) :=
  (if v4 ≤ s10_.2 then some (s10_.1) else (F_X9_worthAt p0 s10_.2).bind fun v21 => gz 997 (self10 ((((31 * s10_.1) + v21) - ((31 * s10_.1) + v21) / 997 * 997), (s10_.2 + 1))))
def F_X9_sumOf  (p0 : Int32) : Option (Int32) :=
  (F_X9_lengthOf p0).bind fun v4 => lp (B_X9_sumOf_10 v4 p0) FU (7, 0)
def F_X9_at  (p1 : Int32) : Option (Int32) :=
  some ((8 + (11 * p1)))
def B_X9_slotOf_2 (x_s : Nat → Int32) (p1 : Int32) (self2 : Int32 → Option (Int32)) (s2_ : Int32) : Option (Int32) :=
  gd 7 1270 ((if (x_s (Int32.toNatClampNeg 7)) ≤ s2_ then some ((-1)) else (F_X9_at s2_).bind fun v19 => gd (v19 + 0) 1270 ((if (x_s (Int32.toNatClampNeg (v19 + 0))) = p1 then some (s2_) else self2 ((s2_ + 1))))))
def F_X9_slotOf (x_s : Nat → Int32) (p1 : Int32) : Option (Int32) :=
  lp (B_X9_slotOf_2 x_s p1) FU (0)
def F_X9_backupAt  (p1 : Int32) : Option (Int32) :=
  some ((998 + (34 * p1)))
def B_X9_referencesBut_24 (v16 : Int32) (x_s : Nat → Int32) (self6 : (Int32 × Int32) → Option (Int32)) (s6_ : Int32 × Int32) (p3 : Int32) (p1 : Int32) (p2 : Int32) (self24 : (Int32 × Int32) → Option (Int32)) (s24_ : Int32 × Int32) : Option (Int32) :=
  gd (v16 + 1) 1270 ((if (x_s (Int32.toNatClampNeg (v16 + 1))) ≤ s24_.2 then self6 (s24_.1, (s6_.2 + 1)) else gd (v16 + 0) 1270 ((if (x_s (Int32.toNatClampNeg (v16 + 0))) = 1 then (if s6_.2 = p3 then self6 (s24_.1, (s6_.2 + 1)) else gd ((v16 + 2) + (2 * s24_.2)) 1270 ((if (x_s (Int32.toNatClampNeg ((v16 + 2) + (2 * s24_.2)))) = p1 then gd (((v16 + 2) + (2 * s24_.2)) + 1) 1270 ((if (x_s (Int32.toNatClampNeg (((v16 + 2) + (2 * s24_.2)) + 1))) = p2 then self24 ((s24_.1 + 1), (s24_.2 + 1)) else self24 ((s24_.1 + 0), (s24_.2 + 1)))) else self24 ((s24_.1 + 0), (s24_.2 + 1))))) else self6 (s24_.1, (s6_.2 + 1))))))
def B_X9_referencesBut_6 (x_s : Nat → Int32) (p3 : Int32) (p1 : Int32) (p2 : Int32) (self6 : (Int32 × Int32) → Option (Int32)) (s6_ : Int32 × Int32) : Option (Int32) :=
  (if 8 ≤ s6_.2 then some (s6_.1) else (F_X9_backupAt s6_.2).bind fun v16 => lp (B_X9_referencesBut_24 v16 x_s self6 s6_ p3 p1 p2) FU (s6_.1, 0))
def F_X9_referencesBut (x_s : Nat → Int32) (p1 : Int32) (p2 : Int32) (p3 : Int32) : Option (Int32) :=
  lp (B_X9_referencesBut_6 x_s p3 p1 p2) FU (0, 0)
def B_X9_livingIn_5 (p1 : Int32) (x_s : Nat → Int32) (p2 : Int32) (self5 : (Int32 × Int32) → Option (Int32)) (s5_ : Int32 × Int32) : Option (Int32) :=
  (F_X9_at p1).bind fun v13 => gd (v13 + 2) 1270 ((if (x_s (Int32.toNatClampNeg (v13 + 2))) ≤ s5_.2 then some (s5_.1) else (F_X9_at p1).bind fun v30 => gd (v30 + 0) 1270 ((F_X9_referencesBut x_s (x_s (Int32.toNatClampNeg (v30 + 0))) s5_.2 p2).bind fun v39 => (if v39 ≤ 0 then self5 ((s5_.1 + 0), (s5_.2 + 1)) else self5 ((s5_.1 + 1), (s5_.2 + 1))))))
def F_X9_livingIn (x_s : Nat → Int32) (p1 : Int32) (p2 : Int32) : Option (Int32) :=
  lp (B_X9_livingIn_5 p1 x_s p2) FU (0, 0)
def B_X9_livingBut_4 (x_s : Nat → Int32) (p1 : Int32) (self4 : (Int32 × Int32) → Option (Int32)) (s4_ : Int32 × Int32) : Option (Int32) :=
  gd 7 1270 ((if (x_s (Int32.toNatClampNeg 7)) ≤ s4_.2 then some (s4_.1) else (F_X9_livingIn x_s s4_.2 p1).bind fun v19 => self4 ((s4_.1 + v19), (s4_.2 + 1))))
def F_X9_livingBut (x_s : Nat → Int32) (p1 : Int32) : Option (Int32) :=
  lp (B_X9_livingBut_4 x_s p1) FU (0, 0)
def B_X9_entries_4 (x_s : Nat → Int32) (self4 : (Int32 × Int32) → Option (Int32)) (s4_ : Int32 × Int32) : Option (Int32) :=
  gd 7 1270 ((if (x_s (Int32.toNatClampNeg 7)) ≤ s4_.2 then some (s4_.1) else (F_X9_at s4_.2).bind fun v22 => gd (v22 + 2) 1270 (self4 ((s4_.1 + (x_s (Int32.toNatClampNeg (v22 + 2)))), (s4_.2 + 1)))))
def F_X9_entries (x_s : Nat → Int32)  : Option (Int32) :=
  lp (B_X9_entries_4 x_s) FU (0, 0)
def F_X9_isThin (x_s : Nat → Int32) (p1 : Int32) : Option (Int32) :=
  gd 7 1270 ((if ((x_s (Int32.toNatClampNeg 7)) - 1) ≤ p1 then some (0) else (F_X9_livingIn x_s p1 (-1)).bind fun v18 => gd 3 1270 ((F_X9_at p1).bind fun v34 => gd (v34 + 2) 1270 ((if ((x_s (Int32.toNatClampNeg 3)) * (x_s (Int32.toNatClampNeg (v34 + 2)))) ≤ (100 * v18) then some (0) else some (1))))))
def B_X9_thin_4 (x_s : Nat → Int32) (self4 : (Int32 × Int32) → Option (Int32)) (s4_ : Int32 × Int32) : Option (Int32) :=
  gd 7 1270 ((if (x_s (Int32.toNatClampNeg 7)) ≤ s4_.2 then some (s4_.1) else (F_X9_isThin x_s s4_.2).bind fun v18 => (if v18 = 0 then self4 ((s4_.1 + 0), (s4_.2 + 1)) else self4 ((s4_.1 + 1), (s4_.2 + 1)))))
def F_X9_thin (x_s : Nat → Int32)  : Option (Int32) :=
  lp (B_X9_thin_4 x_s) FU (0, 0)
def J_X9_puts_119 (p1 : Int32) (j119 : Int32 × (Nat → Int32)) : Option ((Nat → Int32)) :=
  (F_X9_at j119.1).bind fun v125 => (F_X9_at j119.1).bind fun v136 => gd (v136 + 2) 1270 (gd ((v125 + 3) + (j119.2 (Int32.toNatClampNeg (v136 + 2)))) 1270 ((F_X9_at j119.1).bind fun v151 => gd (v151 + 2) 1270 (gd (v151 + 2) 1270 (some ((upd (upd j119.2 (Int32.toNatClampNeg ((v125 + 3) + (j119.2 (Int32.toNatClampNeg (v136 + 2))))) p1) (Int32.toNatClampNeg (v151 + 2)) (((upd j119.2 (Int32.toNatClampNeg ((v125 + 3) + (j119.2 (Int32.toNatClampNeg (v136 + 2))))) p1) (Int32.toNatClampNeg (v151 + 2))) + 1)))))))
def J_X9_puts_41 (x_s : Nat → Int32) (p1 : Int32) (j41 : Unit) : Option ((Nat → Int32)) :=
  gd 7 1270 (gd 7 1270 (gd 7 1270 ((F_X9_at (x_s (Int32.toNatClampNeg 7))).bind fun v66 => gd 5 1270 (gd (v66 + 0) 1270 ((F_X9_at (x_s (Int32.toNatClampNeg 7))).bind fun v84 => gd 1 1270 (gd (v84 + 1) 1270 ((F_X9_at (x_s (Int32.toNatClampNeg 7))).bind fun v102 => gd (v102 + 2) 1270 (gd 5 1270 (gd 5 1270 (J_X9_puts_119 p1 ((x_s (Int32.toNatClampNeg 7)), (upd (upd (upd (upd (upd x_s (Int32.toNatClampNeg 7) ((x_s (Int32.toNatClampNeg 7)) + 1)) (Int32.toNatClampNeg (v66 + 0)) ((upd x_s (Int32.toNatClampNeg 7) ((x_s (Int32.toNatClampNeg 7)) + 1)) (Int32.toNatClampNeg 5))) (Int32.toNatClampNeg (v84 + 1)) ((upd (upd x_s (Int32.toNatClampNeg 7) ((x_s (Int32.toNatClampNeg 7)) + 1)) (Int32.toNatClampNeg (v66 + 0)) ((upd x_s (Int32.toNatClampNeg 7) ((x_s (Int32.toNatClampNeg 7)) + 1)) (Int32.toNatClampNeg 5))) (Int32.toNatClampNeg 1))) (Int32.toNatClampNeg (v102 + 2)) 0) (Int32.toNatClampNeg 5) (((upd (upd (upd (upd x_s (Int32.toNatClampNeg 7) ((x_s (Int32.toNatClampNeg 7)) + 1)) (Int32.toNatClampNeg (v66 + 0)) ((upd x_s (Int32.toNatClampNeg 7) ((x_s (Int32.toNatClampNeg 7)) + 1)) (Int32.toNatClampNeg 5))) (Int32.toNatClampNeg (v84 + 1)) ((upd (upd x_s (Int32.toNatClampNeg 7) ((x_s (Int32.toNatClampNeg 7)) + 1)) (Int32.toNatClampNeg (v66 + 0)) ((upd x_s (Int32.toNatClampNeg 7) ((x_s (Int32.toNatClampNeg 7)) + 1)) (Int32.toNatClampNeg 5))) (Int32.toNatClampNeg 1))) (Int32.toNatClampNeg (v102 + 2)) 0) (Int32.toNatClampNeg 5)) + 1)))))))))))))
def F_X9_puts (x_s : Nat → Int32) (p1 : Int32) : Option ((Nat → Int32)) :=
  gd 7 1270 ((if ((x_s (Int32.toNatClampNeg 7)) - 1) < 0 then J_X9_puts_41 x_s p1 () else (F_X9_at ((x_s (Int32.toNatClampNeg 7)) - 1)).bind fun v20 => gd (v20 + 2) 1270 ((F_X9_at ((x_s (Int32.toNatClampNeg 7)) - 1)).bind fun v32 => gd (v32 + 1) 1270 ((if (x_s (Int32.toNatClampNeg (v20 + 2))) = (x_s (Int32.toNatClampNeg (v32 + 1))) then J_X9_puts_41 x_s p1 () else J_X9_puts_119 p1 (((x_s (Int32.toNatClampNeg 7)) - 1), x_s))))))
def B_X9_entryOf_2 (p1 : Int32) (x_s : Nat → Int32) (p2 : Int32) (self2 : Int32 → Option (Int32)) (s2_ : Int32) : Option (Int32) :=
  (F_X9_at p1).bind fun v9 => gd (v9 + 2) 1270 ((if (x_s (Int32.toNatClampNeg (v9 + 2))) ≤ s2_ then some ((-1)) else (F_X9_at p1).bind fun v24 => gd ((v24 + 3) + s2_) 1270 ((if (x_s (Int32.toNatClampNeg ((v24 + 3) + s2_))) = p2 then some (s2_) else self2 ((s2_ + 1))))))
def F_X9_entryOf (x_s : Nat → Int32) (p1 : Int32) (p2 : Int32) : Option (Int32) :=
  lp (B_X9_entryOf_2 p1 x_s p2) FU (0)
def K_X9_homeOf_24 (x_s : Nat → Int32) (k24 : Int32) : Option (Int32) :=
  (F_X9_at k24).bind fun v30 => gd (v30 + 0) 1270 (some ((x_s (Int32.toNatClampNeg (v30 + 0)))))
def B_X9_homeOf_10 (x_s : Nat → Int32) (p1 : Int32) (K24 : Int32 → Option (Int32)) (self10 : Int32 → Option (Int32)) (s10_ : Int32) : Option (Int32) :=
  (if s10_ < 0 then some ((-1)) else (F_X9_entryOf x_s s10_ p1).bind fun v17 => (if v17 = (-1) then self10 ((s10_ + (-1))) else K24 (s10_)))
def F_X9_homeOf (x_s : Nat → Int32) (p1 : Int32) : Option (Int32) :=
  gd 7 1270 (lp (B_X9_homeOf_10 x_s p1 (K_X9_homeOf_24 x_s)) FU (((x_s (Int32.toNatClampNeg 7)) - 1)))
def B_X9_livesAt_4 (x_chunkMany : Int32) (x_homes : Nat → Int32) (p1 : Int32) (self4 : (Int32 × Int32) → Option (Int32)) (s4_ : Int32 × Int32) : Option (Int32) :=
  (if x_chunkMany ≤ s4_.2 then some (s4_.1) else gd s4_.2 16 ((if (x_homes (Int32.toNatClampNeg s4_.2)) = p1 then self4 ((s4_.1 + 1), (s4_.2 + 1)) else self4 ((s4_.1 + 0), (s4_.2 + 1)))))
def F_X9_livesAt (x_chunkMany : Int32) (x_homes : Nat → Int32) (p1 : Int32) : Option (Int32) :=
  lp (B_X9_livesAt_4 x_chunkMany x_homes p1) FU (0, 0)
def J_X9_aheadOf_97 (k72 : Int32) (self4 : (Int32 × Int32) → Option (Int32)) (s4_ : Int32 × Int32) (x_homes : Nat → Int32) (p1 : Int32) (j97 : Unit) : Option (Int32) :=
  (if k72 = 0 then self4 ((s4_.1 + 0), (s4_.2 + 1)) else (if 0 < k72 then self4 ((s4_.1 + 1), (s4_.2 + 1)) else (if k72 = 0 then gd s4_.2 16 ((if (x_homes (Int32.toNatClampNeg s4_.2)) ≤ p1 then self4 ((s4_.1 + 0), (s4_.2 + 1)) else self4 ((s4_.1 + 1), (s4_.2 + 1)))) else self4 ((s4_.1 + 0), (s4_.2 + 1)))))
def K_X9_aheadOf_72 (self4 : (Int32 × Int32) → Option (Int32)) (s4_ : Int32 × Int32) (x_homes : Nat → Int32) (p1 : Int32) (x_chunkMany : Int32) (k72 : Int32) : Option (Int32) :=
  (if k72 = 0 then J_X9_aheadOf_97 k72 self4 s4_ x_homes p1 () else gd s4_.2 16 ((F_X9_livesAt x_chunkMany x_homes (x_homes (Int32.toNatClampNeg s4_.2))).bind fun v84 => (F_X9_livesAt x_chunkMany x_homes p1).bind fun v89 => J_X9_aheadOf_97 k72 self4 s4_ x_homes p1 ()))
def B_X9_aheadOf_32 (s4_ : Int32 × Int32) (x_homes : Nat → Int32) (K72 : Int32 → Option (Int32)) (self32 : (Int32 × Int32) → Option (Int32)) (s32_ : Int32 × Int32) : Option (Int32) :=
  (if s4_.2 ≤ s32_.2 then K72 (s32_.1) else (if s32_.1 = 0 then self32 (0, (s32_.2 + 1)) else gd s32_.2 16 (gd s4_.2 16 ((if (x_homes (Int32.toNatClampNeg s32_.2)) = (x_homes (Int32.toNatClampNeg s4_.2)) then self32 (0, (s32_.2 + 1)) else self32 (1, (s32_.2 + 1)))))))
def J_X9_aheadOf_27 (s4_ : Int32 × Int32) (x_homes : Nat → Int32) (self4 : (Int32 × Int32) → Option (Int32)) (p1 : Int32) (x_chunkMany : Int32) (j27 : Unit) : Option (Int32) :=
  lp (B_X9_aheadOf_32 s4_ x_homes (K_X9_aheadOf_72 self4 s4_ x_homes p1 x_chunkMany)) FU ((-1), 0)
def B_X9_aheadOf_4 (x_chunkMany : Int32) (x_homes : Nat → Int32) (p1 : Int32) (self4 : (Int32 × Int32) → Option (Int32)) (s4_ : Int32 × Int32) : Option (Int32) :=
  (if x_chunkMany ≤ s4_.2 then some (s4_.1) else gd s4_.2 16 ((if (x_homes (Int32.toNatClampNeg s4_.2)) = (-1) then J_X9_aheadOf_27 s4_ x_homes self4 p1 x_chunkMany () else J_X9_aheadOf_27 s4_ x_homes self4 p1 x_chunkMany ())))
def F_X9_aheadOf (x_chunkMany : Int32) (x_homes : Nat → Int32) (p1 : Int32) : Option (Int32) :=
  lp (B_X9_aheadOf_4 x_chunkMany x_homes p1) FU (0, 0)
def B_X9_findsHomes_85 (x_chunkMany : Int32) (k83 : (Nat → Int32)) (self85 : (Int32 × (Nat → Int32)) → Option ((Nat → Int32) × (Nat → Int32))) (s85_ : Int32 × (Nat → Int32)) : Option ((Nat → Int32) × (Nat → Int32)) :=
  (if x_chunkMany ≤ s85_.1 then some (s85_.2, k83) else gd s85_.1 16 ((if (k83 (Int32.toNatClampNeg s85_.1)) = 1 then gd s85_.1 16 (self85 ((s85_.1 + 1), (upd s85_.2 (Int32.toNatClampNeg s85_.1) (-1)))) else gd s85_.1 16 (gd s85_.1 16 (self85 ((s85_.1 + 1), (upd s85_.2 (Int32.toNatClampNeg s85_.1) (s85_.2 (Int32.toNatClampNeg s85_.1)))))))))
def K_X9_findsHomes_83 (x_chunkMany : Int32) (k32 : (Nat → Int32)) (k83 : (Nat → Int32)) : Option ((Nat → Int32) × (Nat → Int32)) :=
  lp (B_X9_findsHomes_85 x_chunkMany k83) FU (0, k32)
def B_X9_findsHomes_34 (x_chunkMany : Int32) (k32 : (Nat → Int32)) (p1 : Int32) (K83 : ((Nat → Int32)) → Option ((Nat → Int32) × (Nat → Int32))) (self34 : (Int32 × (Nat → Int32)) → Option ((Nat → Int32) × (Nat → Int32))) (s34_ : Int32 × (Nat → Int32)) : Option ((Nat → Int32) × (Nat → Int32)) :=
  (if x_chunkMany ≤ s34_.1 then K83 (s34_.2) else gd s34_.1 16 ((if (k32 (Int32.toNatClampNeg s34_.1)) = (-1) then gd s34_.1 16 (self34 ((s34_.1 + 1), (upd s34_.2 (Int32.toNatClampNeg s34_.1) 0))) else gd s34_.1 16 ((F_X9_aheadOf x_chunkMany k32 (k32 (Int32.toNatClampNeg s34_.1))).bind fun v64 => (if v64 < p1 then gd s34_.1 16 (self34 ((s34_.1 + 1), (upd s34_.2 (Int32.toNatClampNeg s34_.1) 0))) else gd s34_.1 16 (self34 ((s34_.1 + 1), (upd s34_.2 (Int32.toNatClampNeg s34_.1) 1))))))))
def K_X9_findsHomes_32 (x_chunkMany : Int32) (p1 : Int32) (x_dropped : Nat → Int32) (k32 : (Nat → Int32)) : Option ((Nat → Int32) × (Nat → Int32)) :=
  lp (B_X9_findsHomes_34 x_chunkMany k32 p1 (K_X9_findsHomes_83 x_chunkMany k32)) FU (0, x_dropped)
def B_X9_findsHomes_2 (x_chunkMany : Int32) (x_s : Nat → Int32) (x_chunks : Nat → Int32) (K32 : ((Nat → Int32)) → Option ((Nat → Int32) × (Nat → Int32))) (self2 : (Int32 × (Nat → Int32)) → Option ((Nat → Int32) × (Nat → Int32))) (s2_ : Int32 × (Nat → Int32)) : Option ((Nat → Int32) × (Nat → Int32)) :=
  (if x_chunkMany ≤ s2_.1 then K32 (s2_.2) else gd s2_.1 16 ((F_X9_homeOf x_s (x_chunks (Int32.toNatClampNeg s2_.1))).bind fun v22 => gd s2_.1 16 (self2 ((s2_.1 + 1), (upd s2_.2 (Int32.toNatClampNeg s2_.1) v22)))))
def F_X9_findsHomes (x_s : Nat → Int32) (x_chunks : Nat → Int32) (x_chunkMany : Int32) (x_homes : Nat → Int32) (x_dropped : Nat → Int32) (p1 : Int32) : Option ((Nat → Int32) × (Nat → Int32)) :=
  lp (B_X9_findsHomes_2 x_chunkMany x_s x_chunks (K_X9_findsHomes_32 x_chunkMany p1 x_dropped)) FU (0, x_homes)
def K_X9_makes_71 (s12_ : Int32 × (Nat → Int32) × (Nat → Int32) × (Nat → Int32) × Int32) (v2 : (Nat → Int32) × (Nat → Int32)) (x_chunks : Nat → Int32) (self12 : (Int32 × (Nat → Int32) × (Nat → Int32) × (Nat → Int32) × Int32) → Option ((Nat → Int32) × (Nat → Int32) × (Nat → Int32) × (Nat → Int32) × (Nat → Int32) × Int32)) (k71 : Int32) : Option ((Nat → Int32) × (Nat → Int32) × (Nat → Int32) × (Nat → Int32) × (Nat → Int32) × Int32) :=
  gd s12_.1 16 ((if (v2.1 (Int32.toNatClampNeg s12_.1)) = (-1) then (if k71 = (-1) then gd s12_.1 16 ((F_X9_puts s12_.2.1 (x_chunks (Int32.toNatClampNeg s12_.1))).bind fun v161 => gd 7 1270 ((F_X9_at ((v161 (Int32.toNatClampNeg 7)) - 1)).bind fun v174 => gd (v174 + 0) 1270 (gd s12_.1 16 (gd (v174 + 2) 1270 (gd s12_.1 16 (self12 ((s12_.1 + 1), v161, (upd s12_.2.2.1 (Int32.toNatClampNeg s12_.1) (v161 (Int32.toNatClampNeg (v174 + 0)))), (upd s12_.2.2.2.1 (Int32.toNatClampNeg s12_.1) ((v161 (Int32.toNatClampNeg (v174 + 2))) - 1)), (s12_.2.2.2.2 + 1)))))))) else gd k71 16 (gd s12_.1 16 (gd k71 16 (gd s12_.1 16 (self12 ((s12_.1 + 1), s12_.2.1, (upd s12_.2.2.1 (Int32.toNatClampNeg s12_.1) (s12_.2.2.1 (Int32.toNatClampNeg k71))), (upd s12_.2.2.2.1 (Int32.toNatClampNeg s12_.1) (s12_.2.2.2.1 (Int32.toNatClampNeg k71))), s12_.2.2.2.2)))))) else gd s12_.1 16 (gd s12_.1 16 (gd s12_.1 16 ((F_X9_slotOf s12_.2.1 (v2.1 (Int32.toNatClampNeg s12_.1))).bind fun v106 => gd s12_.1 16 ((F_X9_entryOf s12_.2.1 v106 (x_chunks (Int32.toNatClampNeg s12_.1))).bind fun v115 => gd s12_.1 16 (self12 ((s12_.1 + 1), s12_.2.1, (upd s12_.2.2.1 (Int32.toNatClampNeg s12_.1) (v2.1 (Int32.toNatClampNeg s12_.1))), (upd s12_.2.2.2.1 (Int32.toNatClampNeg s12_.1) v115), s12_.2.2.2.2))))))))
def B_X9_makes_27 (s12_ : Int32 × (Nat → Int32) × (Nat → Int32) × (Nat → Int32) × Int32) (v2 : (Nat → Int32) × (Nat → Int32)) (x_chunks : Nat → Int32) (K71 : Int32 → Option ((Nat → Int32) × (Nat → Int32) × (Nat → Int32) × (Nat → Int32) × (Nat → Int32) × Int32)) (self27 : (Int32 × Int32) → Option ((Nat → Int32) × (Nat → Int32) × (Nat → Int32) × (Nat → Int32) × (Nat → Int32) × Int32)) (s27_ : Int32 × Int32) : Option ((Nat → Int32) × (Nat → Int32) × (Nat → Int32) × (Nat → Int32) × (Nat → Int32) × Int32) :=
  (if s27_.2 < 0 then K71 (s27_.1) else gd s12_.1 16 ((if (v2.1 (Int32.toNatClampNeg s12_.1)) = (-1) then gd s27_.2 16 (gd s12_.1 16 ((if (x_chunks (Int32.toNatClampNeg s27_.2)) = (x_chunks (Int32.toNatClampNeg s12_.1)) then self27 (s27_.2, (s27_.2 + (-1))) else self27 (s27_.1, (s27_.2 + (-1)))))) else K71 (s27_.1))))
def B_X9_makes_12 (x_chunkMany : Int32) (v2 : (Nat → Int32) × (Nat → Int32)) (x_chunks : Nat → Int32) (self12 : (Int32 × (Nat → Int32) × (Nat → Int32) × (Nat → Int32) × Int32) → Option ((Nat → Int32) × (Nat → Int32) × (Nat → Int32) × (Nat → Int32) × (Nat → Int32) × Int32)) (s12_ : Int32 × (Nat → Int32) × (Nat → Int32) × (Nat → Int32) × Int32) : Option ((Nat → Int32) × (Nat → Int32) × (Nat → Int32) × (Nat → Int32) × (Nat → Int32) × Int32) :=
  (if x_chunkMany ≤ s12_.1 then some (s12_.2.1, v2.1, v2.2, s12_.2.2.1, s12_.2.2.2.1, s12_.2.2.2.2) else lp (B_X9_makes_27 s12_ v2 x_chunks (K_X9_makes_71 s12_ v2 x_chunks self12)) FU ((-1), (s12_.1 - 1)))
def F_X9_makes (x_s : Nat → Int32) (x_chunks : Nat → Int32) (x_chunkMany : Int32) (x_homes : Nat → Int32) (x_dropped : Nat → Int32) (x_madeIn : Nat → Int32) (x_madeAt : Nat → Int32) (x_putMany : Int32) (p1 : Int32) : Option ((Nat → Int32) × (Nat → Int32) × (Nat → Int32) × (Nat → Int32) × (Nat → Int32) × Int32) :=
  (F_X9_findsHomes x_s x_chunks x_chunkMany x_homes x_dropped p1).bind fun v2 => lp (B_X9_makes_12 x_chunkMany v2 x_chunks) FU (0, x_s, x_madeIn, x_madeAt, 0)
def B_X9_freeBackup_2 (x_s : Nat → Int32) (self2 : Int32 → Option (Int32)) (s2_ : Int32) : Option (Int32) :=
  (if 8 ≤ s2_ then some ((-1)) else (F_X9_backupAt s2_).bind fun v14 => gd (v14 + 0) 1270 ((if (x_s (Int32.toNatClampNeg (v14 + 0))) = 0 then some (s2_) else self2 ((s2_ + 1)))))
def F_X9_freeBackup (x_s : Nat → Int32)  : Option (Int32) :=
  lp (B_X9_freeBackup_2 x_s) FU (0)
def B_X9_backs_73 (d0 : MDT) (v1 : Int32) (v13 : (Nat → Int32)) (v23 : (Nat → Int32) × (Nat → Int32) × (Nat → Int32) × (Nat → Int32) × (Nat → Int32) × Int32) (v46 : Int32) (self73 : (Int32 × (Nat → Int32)) → Option (Int32 × MDT)) (s73_ : Int32 × (Nat → Int32)) : Option (Int32 × MDT) :=
  (if (md_chunkMany d0) ≤ s73_.1 then some (v1, (md_w_putMany (md_w_madeAt (md_w_madeIn (md_w_dropped (md_w_homes (md_w_aside (md_w_s d0 s73_.2) v13) v23.2.1) v23.2.2.1) v23.2.2.2.1) v23.2.2.2.2.1) v23.2.2.2.2.2)) else gd s73_.1 16 (gd ((v46 + 2) + (2 * s73_.1)) 1270 (gd s73_.1 16 (gd (((v46 + 2) + (2 * s73_.1)) + 1) 1270 (self73 ((s73_.1 + 1), (upd (upd s73_.2 (Int32.toNatClampNeg ((v46 + 2) + (2 * s73_.1))) (v23.2.2.2.1 (Int32.toNatClampNeg s73_.1))) (Int32.toNatClampNeg (((v46 + 2) + (2 * s73_.1)) + 1)) (v23.2.2.2.2.1 (Int32.toNatClampNeg s73_.1)))))))))
def F_X9_backs (d0 : MDT)  : Option (Int32 × MDT) :=
  (F_X9_freeBackup (md_s d0)).bind fun v1 => (if v1 = (-1) then some ((-1), d0) else (F_X9_putAside (md_s d0) (md_aside d0)).bind fun v13 => gd 2 1270 ((F_X9_makes (md_s d0) (md_chunks d0) (md_chunkMany d0) (md_homes d0) (md_dropped d0) (md_madeIn d0) (md_madeAt d0) (md_putMany d0) ((md_s d0) (Int32.toNatClampNeg 2))).bind fun v23 => gd 7 1270 ((if (v23.1 (Int32.toNatClampNeg 7)) ≤ 24 then (F_X9_backupAt v1).bind fun v46 => gd (v46 + 0) 1270 (gd (v46 + 1) 1270 (lp (B_X9_backs_73 d0 v1 v13 v23 v46) FU (0, (upd (upd v23.1 (Int32.toNatClampNeg (v46 + 0)) 1) (Int32.toNatClampNeg (v46 + 1)) (md_chunkMany d0))))) else (F_X9_takeBack v23.1 v13).bind fun v39 => some ((-1), (md_w_putMany (md_w_madeAt (md_w_madeIn (md_w_dropped (md_w_homes (md_w_aside (md_w_s d0 v39) v13) v23.2.1) v23.2.2.1) v23.2.2.2.1) v23.2.2.2.2.1) v23.2.2.2.2.2))))))
def B_X9_removes_28 (p1 : Int32) (self28 : (Int32 × (Nat → Int32)) → Option ((Nat → Int32))) (s28_ : Int32 × (Nat → Int32)) : Option ((Nat → Int32)) :=
  (if 32 ≤ s28_.1 then some (s28_.2) else (F_X9_backupAt p1).bind fun v40 => gd ((v40 + 2) + s28_.1) 1270 (self28 ((s28_.1 + 1), (upd s28_.2 (Int32.toNatClampNeg ((v40 + 2) + s28_.1)) 0))))
def F_X9_removes (x_s : Nat → Int32) (p1 : Int32) : Option ((Nat → Int32)) :=
  (F_X9_backupAt p1).bind fun v6 => gd (v6 + 0) 1270 ((F_X9_backupAt p1).bind fun v19 => gd (v19 + 1) 1270 (lp (B_X9_removes_28 p1) FU (0, (upd (upd x_s (Int32.toNatClampNeg (v6 + 0)) 0) (Int32.toNatClampNeg (v19 + 1)) 0))))
def B_X9_leads_21 (v13 : Int32) (self3 : (Int32 × (Nat → Int32)) → Option ((Nat → Int32))) (s3_ : Int32 × (Nat → Int32)) (p1 : Int32) (p2 : Int32) (p3 : Int32) (p4 : Int32) (self21 : (Int32 × (Nat → Int32)) → Option ((Nat → Int32))) (s21_ : Int32 × (Nat → Int32)) : Option ((Nat → Int32)) :=
  gd (v13 + 1) 1270 ((if (s21_.2 (Int32.toNatClampNeg (v13 + 1))) ≤ s21_.1 then self3 ((s3_.1 + 1), s21_.2) else gd ((v13 + 2) + (2 * s21_.1)) 1270 ((if (s21_.2 (Int32.toNatClampNeg ((v13 + 2) + (2 * s21_.1)))) = p1 then gd (((v13 + 2) + (2 * s21_.1)) + 1) 1270 ((if (s21_.2 (Int32.toNatClampNeg (((v13 + 2) + (2 * s21_.1)) + 1))) = p2 then gd ((v13 + 2) + (2 * s21_.1)) 1270 (gd (((v13 + 2) + (2 * s21_.1)) + 1) 1270 (self21 ((s21_.1 + 1), (upd (upd s21_.2 (Int32.toNatClampNeg ((v13 + 2) + (2 * s21_.1))) p3) (Int32.toNatClampNeg (((v13 + 2) + (2 * s21_.1)) + 1)) p4)))) else self21 ((s21_.1 + 1), s21_.2))) else self21 ((s21_.1 + 1), s21_.2)))))
def B_X9_leads_3 (p1 : Int32) (p2 : Int32) (p3 : Int32) (p4 : Int32) (self3 : (Int32 × (Nat → Int32)) → Option ((Nat → Int32))) (s3_ : Int32 × (Nat → Int32)) : Option ((Nat → Int32)) :=
  (if 8 ≤ s3_.1 then some (s3_.2) else (F_X9_backupAt s3_.1).bind fun v13 => lp (B_X9_leads_21 v13 self3 s3_ p1 p2 p3 p4) FU (0, s3_.2))
def F_X9_leads (x_s : Nat → Int32) (p1 : Int32) (p2 : Int32) (p3 : Int32) (p4 : Int32) : Option ((Nat → Int32)) :=
  lp (B_X9_leads_3 p1 p2 p3 p4) FU (0, x_s)
def B_X9_drops_57  (self57 : (Int32 × (Nat → Int32)) → Option ((Nat → Int32))) (s57_ : Int32 × (Nat → Int32)) : Option ((Nat → Int32)) :=
  (if 11 ≤ s57_.1 then some (s57_.2) else gd 7 1270 ((F_X9_at (s57_.2 (Int32.toNatClampNeg 7))).bind fun v75 => gd (v75 + s57_.1) 1270 (self57 ((s57_.1 + 1), (upd s57_.2 (Int32.toNatClampNeg (v75 + s57_.1)) 0)))))
def K_X9_drops_44  (k44 : (Nat → Int32)) : Option ((Nat → Int32)) :=
  gd 7 1270 (gd 7 1270 (lp (B_X9_drops_57) FU (0, (upd k44 (Int32.toNatClampNeg 7) ((k44 (Int32.toNatClampNeg 7)) - 1)))))
def B_X9_drops_6  (K44 : ((Nat → Int32)) → Option ((Nat → Int32))) (self6 : (Int32 × (Nat → Int32)) → Option ((Nat → Int32))) (s6_ : Int32 × (Nat → Int32)) : Option ((Nat → Int32)) :=
  gd 7 1270 ((F_X9_at ((s6_.2 (Int32.toNatClampNeg 7)) - 1)).bind fun v17 => (if v17 ≤ s6_.1 then K44 (s6_.2) else gd (s6_.1 + 11) 1270 (gd s6_.1 1270 (self6 ((s6_.1 + 1), (upd s6_.2 (Int32.toNatClampNeg s6_.1) (s6_.2 (Int32.toNatClampNeg (s6_.1 + 11)))))))))
def F_X9_drops (x_s : Nat → Int32) (p1 : Int32) : Option ((Nat → Int32)) :=
  (F_X9_at p1).bind fun v2 => lp (B_X9_drops_6 (K_X9_drops_44)) FU (v2, x_s)
def K_X9_carries_192 (k50 : Int32 × (Nat → Int32)) (k192 : Int32 × (Nat → Int32)) : Option (Int32 × (Nat → Int32) × (Nat → Int32)) :=
  gd 6 1270 (gd 6 1270 (some (k192.1, (upd k192.2 (Int32.toNatClampNeg 6) ((k192.2 (Int32.toNatClampNeg 6)) + k192.1)), k50.2)))
def K_X9_carries_180 (v70 : Int32) (self54 : (Int32 × Int32 × (Nat → Int32)) → Option (Int32 × (Nat → Int32) × (Nat → Int32))) (s54_ : Int32 × Int32 × (Nat → Int32)) (k180 : Int32 × (Nat → Int32)) : Option (Int32 × (Nat → Int32) × (Nat → Int32)) :=
  (F_X9_drops k180.2 v70).bind fun v183 => self54 (k180.1, (s54_.2.1 + 1), v183)
def B_X9_carries_78 (v70 : Int32) (k50 : Int32 × (Nat → Int32)) (s54_ : Int32 × Int32 × (Nat → Int32)) (K180 : (Int32 × (Nat → Int32)) → Option (Int32 × (Nat → Int32) × (Nat → Int32))) (self78 : (Int32 × Int32 × (Nat → Int32)) → Option (Int32 × (Nat → Int32) × (Nat → Int32))) (s78_ : Int32 × Int32 × (Nat → Int32)) : Option (Int32 × (Nat → Int32) × (Nat → Int32)) :=
  (F_X9_at v70).bind fun v87 => gd (v87 + 2) 1270 ((if (s78_.2.2 (Int32.toNatClampNeg (v87 + 2))) ≤ s78_.2.1 then K180 (s78_.1, s78_.2.2) else (F_X9_referencesBut s78_.2.2 (k50.2 (Int32.toNatClampNeg s54_.2.1)) s78_.2.1 (-1)).bind fun v102 => (if v102 ≤ 0 then self78 (s78_.1, (s78_.2.1 + 1), s78_.2.2) else (F_X9_at v70).bind fun v116 => gd ((v116 + 3) + s78_.2.1) 1270 ((F_X9_puts s78_.2.2 (s78_.2.2 (Int32.toNatClampNeg ((v116 + 3) + s78_.2.1)))).bind fun v125 => gd 7 1270 ((F_X9_at ((v125 (Int32.toNatClampNeg 7)) - 1)).bind fun v138 => gd (v138 + 0) 1270 (gd (v138 + 2) 1270 ((F_X9_leads v125 (k50.2 (Int32.toNatClampNeg s54_.2.1)) s78_.2.1 (v125 (Int32.toNatClampNeg (v138 + 0))) ((v125 (Int32.toNatClampNeg (v138 + 2))) - 1)).bind fun v168 => self78 ((s78_.1 + 1), (s78_.2.1 + 1), v168))))))))
def B_X9_carries_54 (k50 : Int32 × (Nat → Int32)) (K192 : (Int32 × (Nat → Int32)) → Option (Int32 × (Nat → Int32) × (Nat → Int32))) (self54 : (Int32 × Int32 × (Nat → Int32)) → Option (Int32 × (Nat → Int32) × (Nat → Int32))) (s54_ : Int32 × Int32 × (Nat → Int32)) : Option (Int32 × (Nat → Int32) × (Nat → Int32)) :=
  (if k50.1 ≤ s54_.2.1 then K192 (s54_.1, s54_.2.2) else gd s54_.2.1 90 ((F_X9_slotOf s54_.2.2 (k50.2 (Int32.toNatClampNeg s54_.2.1))).bind fun v70 => lp (B_X9_carries_78 v70 k50 s54_ (K_X9_carries_180 v70 self54 s54_)) FU (s54_.1, 0, s54_.2.2)))
def K_X9_carries_50 (x_s : Nat → Int32) (k50 : Int32 × (Nat → Int32)) : Option (Int32 × (Nat → Int32) × (Nat → Int32)) :=
  lp (B_X9_carries_54 k50 (K_X9_carries_192 k50)) FU (0, 0, x_s)
def B_X9_carries_4 (x_s : Nat → Int32) (K50 : (Int32 × (Nat → Int32)) → Option (Int32 × (Nat → Int32) × (Nat → Int32))) (self4 : (Int32 × Int32 × (Nat → Int32)) → Option (Int32 × (Nat → Int32) × (Nat → Int32))) (s4_ : Int32 × Int32 × (Nat → Int32)) : Option (Int32 × (Nat → Int32) × (Nat → Int32)) :=
  gd 7 1270 ((if (x_s (Int32.toNatClampNeg 7)) ≤ s4_.2.1 then K50 (s4_.1, s4_.2.2) else (F_X9_isThin x_s s4_.2.1).bind fun v17 => (if v17 = 0 then self4 (s4_.1, (s4_.2.1 + 1), s4_.2.2) else (F_X9_at s4_.2.1).bind fun v34 => gd (v34 + 0) 1270 (gd s4_.1 90 (self4 ((s4_.1 + 1), (s4_.2.1 + 1), (upd s4_.2.2 (Int32.toNatClampNeg s4_.1) (x_s (Int32.toNatClampNeg (v34 + 0))))))))))
def F_X9_carries (x_s : Nat → Int32) (x_thinOnes : Nat → Int32)  : Option (Int32 × (Nat → Int32) × (Nat → Int32)) :=
  lp (B_X9_carries_4 x_s (K_X9_carries_50 x_s)) FU (0, 0, x_thinOnes)
def K_X9_loadsBy_135 (s7_ : Int32 × Int32 × Int32 × (Nat → Int32)) (j101 : Int32 × Int32 × Int32) (self7 : (Int32 × Int32 × Int32 × (Nat → Int32)) → Option (Int32 × (Nat → Int32))) (x_path : Nat → Int32) (k135 : (Nat → Int32)) : Option (Int32 × (Nat → Int32)) :=
  gd s7_.2.2.1 16 (gd (j101.1 - 1) 6 (self7 (j101.1, j101.2.1, (s7_.2.2.1 + 1), (upd k135 (Int32.toNatClampNeg (j101.1 - 1)) (x_path (Int32.toNatClampNeg s7_.2.2.1))))))
def B_X9_loadsBy_105 (j101 : Int32 × Int32 × Int32) (K135 : ((Nat → Int32)) → Option (Int32 × (Nat → Int32))) (self105 : (Int32 × (Nat → Int32)) → Option (Int32 × (Nat → Int32))) (s105_ : Int32 × (Nat → Int32)) : Option (Int32 × (Nat → Int32)) :=
  (if (j101.1 - 1) ≤ s105_.1 then K135 (s105_.2) else gd (s105_.1 + 1) 6 (gd s105_.1 6 (self105 ((s105_.1 + 1), (upd s105_.2 (Int32.toNatClampNeg s105_.1) (s105_.2 (Int32.toNatClampNeg (s105_.1 + 1))))))))
def J_X9_loadsBy_101 (s7_ : Int32 × Int32 × Int32 × (Nat → Int32)) (self7 : (Int32 × Int32 × Int32 × (Nat → Int32)) → Option (Int32 × (Nat → Int32))) (x_path : Nat → Int32) (j101 : Int32 × Int32 × Int32) : Option (Int32 × (Nat → Int32)) :=
  lp (B_X9_loadsBy_105 j101 (K_X9_loadsBy_135 s7_ j101 self7 x_path)) FU (j101.2.2, s7_.2.2.2)
def J_X9_loadsBy_100 (s7_ : Int32 × Int32 × Int32 × (Nat → Int32)) (self7 : (Int32 × Int32 × Int32 × (Nat → Int32)) → Option (Int32 × (Nat → Int32))) (x_path : Nat → Int32) (x_s : Nat → Int32) (j100 : Unit) : Option (Int32 × (Nat → Int32)) :=
  J_X9_loadsBy_101 s7_ self7 x_path ((x_s (Int32.toNatClampNeg 4)), (s7_.2.1 + 1), (x_s (Int32.toNatClampNeg 4)))
def J_X9_loadsBy_81 (s7_ : Int32 × Int32 × Int32 × (Nat → Int32)) (x_s : Nat → Int32) (self7 : (Int32 × Int32 × Int32 × (Nat → Int32)) → Option (Int32 × (Nat → Int32))) (x_path : Nat → Int32) (j81 : Unit) : Option (Int32 × (Nat → Int32)) :=
  gd 4 1270 ((if s7_.1 = (x_s (Int32.toNatClampNeg 4)) then J_X9_loadsBy_100 s7_ self7 x_path x_s () else J_X9_loadsBy_100 s7_ self7 x_path x_s ()))
def K_X9_loadsBy_57 (s7_ : Int32 × Int32 × Int32 × (Nat → Int32)) (x_s : Nat → Int32) (self7 : (Int32 × Int32 × Int32 × (Nat → Int32)) → Option (Int32 × (Nat → Int32))) (x_path : Nat → Int32) (k57 : Int32) : Option (Int32 × (Nat → Int32)) :=
  (if k57 = (-1) then gd 4 1270 ((if s7_.1 = (x_s (Int32.toNatClampNeg 4)) then J_X9_loadsBy_81 s7_ x_s self7 x_path () else J_X9_loadsBy_81 s7_ x_s self7 x_path ())) else J_X9_loadsBy_101 s7_ self7 x_path (s7_.1, s7_.2.1, k57))
def B_X9_loadsBy_19 (s7_ : Int32 × Int32 × Int32 × (Nat → Int32)) (x_path : Nat → Int32) (K57 : Int32 → Option (Int32 × (Nat → Int32))) (self19 : (Int32 × Int32) → Option (Int32 × (Nat → Int32))) (s19_ : Int32 × Int32) : Option (Int32 × (Nat → Int32)) :=
  (if s7_.1 ≤ s19_.2 then K57 (s19_.1) else gd s19_.2 6 (gd s7_.2.2.1 16 ((if (s7_.2.2.2 (Int32.toNatClampNeg s19_.2)) = (x_path (Int32.toNatClampNeg s7_.2.2.1)) then self19 (s19_.2, (s19_.2 + 1)) else self19 (s19_.1, (s19_.2 + 1))))))
def B_X9_loadsBy_7 (p1 : Int32) (x_path : Nat → Int32) (x_s : Nat → Int32) (self7 : (Int32 × Int32 × Int32 × (Nat → Int32)) → Option (Int32 × (Nat → Int32))) (s7_ : Int32 × Int32 × Int32 × (Nat → Int32)) : Option (Int32 × (Nat → Int32)) :=
  (if p1 ≤ s7_.2.2.1 then some (s7_.2.1, s7_.2.2.2) else lp (B_X9_loadsBy_19 s7_ x_path (K_X9_loadsBy_57 s7_ x_s self7 x_path)) FU ((-1), 0))
def F_X9_loadsBy (x_s : Nat → Int32) (x_path : Nat → Int32) (x_store : Nat → Int32) (p1 : Int32) : Option (Int32 × (Nat → Int32)) :=
  lp (B_X9_loadsBy_7 p1 x_path x_s) FU (0, 0, 0, x_store)
def K_X9_loadsOf_44 (v2 : Int32) (x_s : Nat → Int32) (x_store : Nat → Int32) (k44 : (Nat → Int32)) : Option (Int32 × (Nat → Int32) × (Nat → Int32)) :=
  gd (v2 + 1) 1270 ((F_X9_loadsBy x_s k44 x_store (x_s (Int32.toNatClampNeg (v2 + 1)))).bind fun v53 => some (v53.1, k44, v53.2))
def B_X9_loadsOf_8 (v2 : Int32) (x_s : Nat → Int32) (K44 : ((Nat → Int32)) → Option (Int32 × (Nat → Int32) × (Nat → Int32))) (self8 : (Int32 × (Nat → Int32)) → Option (Int32 × (Nat → Int32) × (Nat → Int32))) (s8_ : Int32 × (Nat → Int32)) : Option (Int32 × (Nat → Int32) × (Nat → Int32)) :=
  gd (v2 + 1) 1270 ((if (x_s (Int32.toNatClampNeg (v2 + 1))) ≤ s8_.1 then K44 (s8_.2) else gd ((v2 + 2) + (2 * s8_.1)) 1270 (gd s8_.1 16 (self8 ((s8_.1 + 1), (upd s8_.2 (Int32.toNatClampNeg s8_.1) (x_s (Int32.toNatClampNeg ((v2 + 2) + (2 * s8_.1))))))))))
def F_X9_loadsOf (x_s : Nat → Int32) (x_path : Nat → Int32) (x_store : Nat → Int32) (p1 : Int32) : Option (Int32 × (Nat → Int32) × (Nat → Int32)) :=
  (F_X9_backupAt p1).bind fun v2 => lp (B_X9_loadsOf_8 v2 x_s (K_X9_loadsOf_44 v2 x_s x_store)) FU (0, x_path)
def B_X9_allLoads_4 (x_s : Nat → Int32) (self4 : (Int32 × Int32 × (Nat → Int32) × (Nat → Int32)) → Option (Int32 × (Nat → Int32) × (Nat → Int32))) (s4_ : Int32 × Int32 × (Nat → Int32) × (Nat → Int32)) : Option (Int32 × (Nat → Int32) × (Nat → Int32)) :=
  (if 8 ≤ s4_.2.1 then some (s4_.1, s4_.2.2.1, s4_.2.2.2) else (F_X9_backupAt s4_.2.1).bind fun v17 => gd (v17 + 0) 1270 ((if (x_s (Int32.toNatClampNeg (v17 + 0))) = 1 then (F_X9_loadsOf x_s s4_.2.2.1 s4_.2.2.2 s4_.2.1).bind fun v29 => self4 ((s4_.1 + v29.1), (s4_.2.1 + 1), v29.2.1, v29.2.2) else self4 ((s4_.1 + 0), (s4_.2.1 + 1), s4_.2.2.1, s4_.2.2.2))))
def F_X9_allLoads (x_s : Nat → Int32) (x_path : Nat → Int32) (x_store : Nat → Int32)  : Option (Int32 × (Nat → Int32) × (Nat → Int32)) :=
  lp (B_X9_allLoads_4 x_s) FU (0, 0, x_path, x_store)
def J_X9_chunk_32 (d0 : MDT) (v7 : Int32 × (Nat → Int32) × (Nat → Int32) × Int32) (j32 : Unit) : Option (Int32 × MDT) :=
  (F_X9_fails 0 2).bind fun v34 => some (v34.1, (md_w_streams (md_w_lengths (md_w_begins (md_w_thrown d0 v34.2) v7.2.1) v7.2.2.1) v7.2.2.2))
def B_X9_chunk_121 (s106_ : Int32 × Int32) (d0 : MDT) (self106 : (Int32 × Int32) → Option (Int32 × MDT)) (p2 : Int32) (v40 : (Nat → Int32) × Int32 × (Nat → Int32) × Int32) (self121 : (Int32 × Int32) → Option (Int32 × MDT)) (s121_ : Int32 × Int32) : Option (Int32 × MDT) :=
  (F_X9_at s106_.2).bind fun v130 => gd (v130 + 2) 1270 ((if ((md_s d0) (Int32.toNatClampNeg (v130 + 2))) ≤ s121_.2 then self106 (s121_.1, (s106_.2 + 1)) else (F_X9_at s106_.2).bind fun v148 => gd ((v148 + 3) + s121_.2) 1270 (gd p2 16 ((if ((md_s d0) (Int32.toNatClampNeg ((v148 + 3) + s121_.2))) = (v40.2.2.1 (Int32.toNatClampNeg p2)) then self121 ((s121_.1 + 1), (s121_.2 + 1)) else self121 ((s121_.1 + 0), (s121_.2 + 1)))))))
def B_X9_chunk_106 (d0 : MDT) (v7 : Int32 × (Nat → Int32) × (Nat → Int32) × Int32) (v40 : (Nat → Int32) × Int32 × (Nat → Int32) × Int32) (p2 : Int32) (self106 : (Int32 × Int32) → Option (Int32 × MDT)) (s106_ : Int32 × Int32) : Option (Int32 × MDT) :=
  gd 7 1270 ((if ((md_s d0) (Int32.toNatClampNeg 7)) ≤ s106_.2 then some (s106_.1, (md_w_chunkMany (md_w_chunks (md_w_letterMany (md_w_letters (md_w_streams (md_w_lengths (md_w_begins (md_w_thrown d0 0) v7.2.1) v7.2.2.1) v7.2.2.2) v40.1) v40.2.1) v40.2.2.1) v40.2.2.2)) else lp (B_X9_chunk_121 s106_ d0 self106 p2 v40) FU (s106_.1, 0)))
def F_X9_chunk (d0 : MDT) (p1 : Int32) (p2 : Int32) (p3 : Int32) : Option (Int32 × MDT) :=
  (F_X9_isStream (md_text d0) (md_length d0) (md_begins d0) (md_lengths d0) (md_streams d0) p1).bind fun v7 => (if v7.1 = 0 then (F_X9_fails 0 1).bind fun v15 => some (v15.1, (md_w_streams (md_w_lengths (md_w_begins (md_w_thrown d0 v15.2) v7.2.1) v7.2.2.1) v7.2.2.2)) else (if p2 < 0 then J_X9_chunk_32 d0 v7 () else (F_X9_in p3 0 3).bind fun v26 => (if v26 = 0 then J_X9_chunk_32 d0 v7 () else (F_X9_laysStream (md_s d0) (md_text d0) v7.2.1 v7.2.2.1 (md_letters d0) (md_letterMany d0) (md_chunks d0) (md_chunkMany d0) p1).bind fun v40 => (if p2 < v40.2.2.2 then (if 2 ≤ p3 then (if p3 = 3 then gd p2 16 ((F_X9_homeOf (md_s d0) (v40.2.2.1 (Int32.toNatClampNeg p2))).bind fun v96 => some (v96, (md_w_chunkMany (md_w_chunks (md_w_letterMany (md_w_letters (md_w_streams (md_w_lengths (md_w_begins (md_w_thrown d0 0) v7.2.1) v7.2.2.1) v7.2.2.2) v40.1) v40.2.1) v40.2.2.1) v40.2.2.2))) else lp (B_X9_chunk_106 d0 v7 v40 p2) FU (0, 0)) else (if p3 = 0 then gd p2 16 ((F_X9_lengthOf (v40.2.2.1 (Int32.toNatClampNeg p2))).bind fun v68 => some (v68, (md_w_chunkMany (md_w_chunks (md_w_letterMany (md_w_letters (md_w_streams (md_w_lengths (md_w_begins (md_w_thrown d0 0) v7.2.1) v7.2.2.1) v7.2.2.2) v40.1) v40.2.1) v40.2.2.1) v40.2.2.2))) else gd p2 16 ((F_X9_sumOf (v40.2.2.1 (Int32.toNatClampNeg p2))).bind fun v80 => some (v80, (md_w_chunkMany (md_w_chunks (md_w_letterMany (md_w_letters (md_w_streams (md_w_lengths (md_w_begins (md_w_thrown d0 0) v7.2.1) v7.2.2.1) v7.2.2.2) v40.1) v40.2.1) v40.2.2.1) v40.2.2.2))))) else some ((-1), (md_w_chunkMany (md_w_chunks (md_w_letterMany (md_w_letters (md_w_streams (md_w_lengths (md_w_begins (md_w_thrown d0 0) v7.2.1) v7.2.2.1) v7.2.2.2) v40.1) v40.2.1) v40.2.2.1) v40.2.2.2))))))
def K_X9_unlike_106 (self17 : (Int32 × Int32) → Option (Int32)) (s17_ : Int32 × Int32) (k106 : Int32) : Option (Int32) :=
  (if k106 = 0 then self17 ((s17_.1 + 0), (s17_.2 + 1)) else self17 ((s17_.1 + 1), (s17_.2 + 1)))
def B_X9_unlike_70 (s4_ : Int32 × Int32) (x_s : Nat → Int32) (v39 : Int32) (s17_ : Int32 × Int32) (K106 : Int32 → Option (Int32)) (self70 : (Int32 × Int32) → Option (Int32)) (s70_ : Int32 × Int32) : Option (Int32) :=
  (if s4_.2 ≤ s70_.2 then K106 (s70_.1) else (if s70_.1 = 0 then self70 (0, (s70_.2 + 1)) else (F_X9_entryOf x_s s70_.2 (x_s (Int32.toNatClampNeg ((v39 + 3) + s17_.2)))).bind fun v86 => (if v86 = (-1) then self70 (1, (s70_.2 + 1)) else self70 (0, (s70_.2 + 1)))))
def J_X9_unlike_65 (s4_ : Int32 × Int32) (x_s : Nat → Int32) (v39 : Int32) (s17_ : Int32 × Int32) (self17 : (Int32 × Int32) → Option (Int32)) (j65 : Unit) : Option (Int32) :=
  lp (B_X9_unlike_70 s4_ x_s v39 s17_ (K_X9_unlike_106 self17 s17_)) FU (s17_.2, 0)
def B_X9_unlike_17 (s4_ : Int32 × Int32) (x_s : Nat → Int32) (self4 : (Int32 × Int32) → Option (Int32)) (self17 : (Int32 × Int32) → Option (Int32)) (s17_ : Int32 × Int32) : Option (Int32) :=
  (F_X9_at s4_.2).bind fun v24 => gd (v24 + 2) 1270 ((if (x_s (Int32.toNatClampNeg (v24 + 2))) ≤ s17_.2 then self4 (s17_.1, (s4_.2 + 1)) else (F_X9_at s4_.2).bind fun v39 => gd ((v39 + 3) + s17_.2) 1270 ((F_X9_entryOf x_s s4_.2 (x_s (Int32.toNatClampNeg ((v39 + 3) + s17_.2)))).bind fun v53 => (if v53 = s17_.2 then J_X9_unlike_65 s4_ x_s v39 s17_ self17 () else J_X9_unlike_65 s4_ x_s v39 s17_ self17 ()))))
def B_X9_unlike_4 (x_s : Nat → Int32) (self4 : (Int32 × Int32) → Option (Int32)) (s4_ : Int32 × Int32) : Option (Int32) :=
  gd 7 1270 ((if (x_s (Int32.toNatClampNeg 7)) ≤ s4_.2 then some (s4_.1) else lp (B_X9_unlike_17 s4_ x_s self4) FU (s4_.1, 0)))
def F_X9_unlike (x_s : Nat → Int32)  : Option (Int32) :=
  lp (B_X9_unlike_4 x_s) FU (0, 0)
def B_X9_lettersOfEntries_17 (s4_ : Int32 × Int32) (x_s : Nat → Int32) (self4 : (Int32 × Int32) → Option (Int32)) (self17 : (Int32 × Int32) → Option (Int32)) (s17_ : Int32 × Int32) : Option (Int32) :=
  (F_X9_at s4_.2).bind fun v24 => gd (v24 + 2) 1270 ((if (x_s (Int32.toNatClampNeg (v24 + 2))) ≤ s17_.2 then self4 (s17_.1, (s4_.2 + 1)) else (F_X9_at s4_.2).bind fun v40 => gd ((v40 + 3) + s17_.2) 1270 ((F_X9_lengthOf (x_s (Int32.toNatClampNeg ((v40 + 3) + s17_.2)))).bind fun v48 => self17 ((s17_.1 + v48), (s17_.2 + 1)))))
def B_X9_lettersOfEntries_4 (x_s : Nat → Int32) (self4 : (Int32 × Int32) → Option (Int32)) (s4_ : Int32 × Int32) : Option (Int32) :=
  gd 7 1270 ((if (x_s (Int32.toNatClampNeg 7)) ≤ s4_.2 then some (s4_.1) else lp (B_X9_lettersOfEntries_17 s4_ x_s self4) FU (s4_.1, 0)))
def F_X9_lettersOfEntries (x_s : Nat → Int32)  : Option (Int32) :=
  lp (B_X9_lettersOfEntries_4 x_s) FU (0, 0)
def B_X9_backups_4 (x_s : Nat → Int32) (self4 : (Int32 × Int32) → Option (Int32)) (s4_ : Int32 × Int32) : Option (Int32) :=
  (if 8 ≤ s4_.2 then some (s4_.1) else (F_X9_backupAt s4_.2).bind fun v17 => gd (v17 + 0) 1270 (self4 ((s4_.1 + (x_s (Int32.toNatClampNeg (v17 + 0)))), (s4_.2 + 1))))
def F_X9_backups (x_s : Nat → Int32)  : Option (Int32) :=
  lp (B_X9_backups_4 x_s) FU (0, 0)
def K_X9_about_36 (p1 : Int32) (x_s : Nat → Int32) (k36 : Int32) : Option (Int32 × Int32) :=
  (if (Int32.toInt p1 < 0 ∨ 9 < Int32.toInt p1) then (F_X9_fails 0 1).bind fun v150 => some (v150.1, v150.2) else (if p1 = 0 then gd 7 1270 (some ((x_s (Int32.toNatClampNeg 7)), 0)) else (if p1 = 1 then (F_X9_backups x_s).bind fun v101 => some (v101, 0) else (if p1 = 2 then (F_X9_entries x_s).bind fun v106 => some (v106, 0) else (if p1 = 3 then (F_X9_livingBut x_s (-1)).bind fun v112 => some (v112, 0) else (if p1 = 4 then (F_X9_unlike x_s).bind fun v117 => some (v117, 0) else (if p1 = 5 then (F_X9_thin x_s).bind fun v122 => some (v122, 0) else (if p1 = 6 then some (k36, 0) else (if p1 = 7 then (F_X9_lettersOfEntries x_s).bind fun v129 => some (v129, 0) else (if p1 = 8 then gd 5 1270 (some ((x_s (Int32.toNatClampNeg 5)), 0)) else gd 6 1270 (some ((x_s (Int32.toNatClampNeg 6)), 0))))))))))))
def B_X9_about_9 (x_s : Nat → Int32) (K36 : Int32 → Option (Int32 × Int32)) (self9 : (Int32 × Int32) → Option (Int32 × Int32)) (s9_ : Int32 × Int32) : Option (Int32 × Int32) :=
  (if 8 ≤ s9_.2 then K36 (s9_.1) else (F_X9_backupAt s9_.2).bind fun v22 => gd (v22 + 1) 1270 (self9 ((s9_.1 + (x_s (Int32.toNatClampNeg (v22 + 1)))), (s9_.2 + 1))))
def F_X9_about (x_thrown : Int32) (x_s : Nat → Int32) (p1 : Int32) : Option (Int32 × Int32) :=
  lp (B_X9_about_9 x_s (K_X9_about_36 p1 x_s)) FU (0, 0)
def F_X9_container (x_thrown : Int32) (x_s : Nat → Int32) (p1 : Int32) : Option (Int32 × Int32) :=
  (if 0 ≤ p1 then gd 7 1270 ((if (x_s (Int32.toNatClampNeg 7)) ≤ p1 then some ((-1), 0) else (F_X9_at p1).bind fun v32 => gd (v32 + 0) 1270 (some ((x_s (Int32.toNatClampNeg (v32 + 0))), 0)))) else (F_X9_fails 0 1).bind fun v11 => some (v11.1, v11.2))
def B_X9_refersTo_5 (p1 : Int32) (x_s : Nat → Int32) (p2 : Int32) (self5 : (Int32 × Int32) → Option (Int32)) (s5_ : Int32 × Int32) : Option (Int32) :=
  (F_X9_backupAt p1).bind fun v13 => gd (v13 + 1) 1270 ((if (x_s (Int32.toNatClampNeg (v13 + 1))) ≤ s5_.2 then gb s5_.1 (some (s5_.1)) else (if s5_.1 = 0 then (F_X9_backupAt p1).bind fun v32 => gd ((v32 + 2) + (2 * s5_.2)) 1270 ((if (x_s (Int32.toNatClampNeg ((v32 + 2) + (2 * s5_.2)))) = p2 then self5 (1, (s5_.2 + 1)) else self5 (0, (s5_.2 + 1)))) else self5 (1, (s5_.2 + 1)))))
def F_X9_refersTo (x_s : Nat → Int32) (p1 : Int32) (p2 : Int32) : Option (Int32) :=
  lp (B_X9_refersTo_5 p1 x_s p2) FU (0, 0)
def K_X9_containerOf_76 (p2 : Int32) (v7 : Int32) (x_s : Nat → Int32) (k76 : Int32) : Option (Int32 × Int32) :=
  (if (Int32.toInt p2 < 0 ∨ 3 < Int32.toInt p2) then some (k76, 0) else (if p2 = 0 then (F_X9_at v7).bind fun v114 => gd (v114 + 1) 1270 (some ((x_s (Int32.toNatClampNeg (v114 + 1))), 0)) else (if p2 = 1 then (F_X9_at v7).bind fun v127 => gd (v127 + 2) 1270 (some ((x_s (Int32.toNatClampNeg (v127 + 2))), 0)) else (if p2 = 2 then (F_X9_livingIn x_s v7 (-1)).bind fun v137 => some (v137, 0) else (F_X9_isThin x_s v7).bind fun v143 => (if v143 = 0 then some (0, 0) else some (1, 0))))))
def B_X9_containerOf_43 (x_s : Nat → Int32) (p1 : Int32) (K76 : Int32 → Option (Int32 × Int32)) (self43 : (Int32 × Int32) → Option (Int32 × Int32)) (s43_ : Int32 × Int32) : Option (Int32 × Int32) :=
  (if 8 ≤ s43_.2 then K76 (s43_.1) else (F_X9_refersTo x_s s43_.2 p1).bind fun v56 => (if v56 = 0 then self43 ((s43_.1 + 0), (s43_.2 + 1)) else self43 ((s43_.1 + 1), (s43_.2 + 1))))
def F_X9_containerOf (x_thrown : Int32) (x_s : Nat → Int32) (p1 : Int32) (p2 : Int32) : Option (Int32 × Int32) :=
  (F_X9_slotOf x_s p1).bind fun v7 => (if v7 = (-1) then (F_X9_fails 0 1).bind fun v18 => some (v18.1, v18.2) else (F_X9_in p2 0 4).bind fun v25 => (if v25 = 0 then (F_X9_fails 0 2).bind fun v33 => some (v33.1, v33.2) else lp (B_X9_containerOf_43 x_s p1 (K_X9_containerOf_76 p2 v7 x_s)) FU (0, 0)))
def J_X9_entry_41  (j41 : Unit) : Option (Int32 × Int32) :=
  (F_X9_fails 0 1).bind fun v43 => some (v43.1, v43.2)
def F_X9_entry (x_thrown : Int32) (x_s : Nat → Int32) (p1 : Int32) (p2 : Int32) (p3 : Int32) : Option (Int32 × Int32) :=
  (F_X9_slotOf x_s p1).bind fun v7 => (if v7 = (-1) then J_X9_entry_41 () else (F_X9_at v7).bind fun v27 => gd (v27 + 2) 1270 ((F_X9_in p2 0 ((x_s (Int32.toNatClampNeg (v27 + 2))) - 1)).bind fun v35 => (if v35 = 0 then J_X9_entry_41 () else (F_X9_in p3 0 3).bind fun v50 => (if v50 = 0 then (F_X9_fails 0 2).bind fun v58 => some (v58.1, v58.2) else (F_X9_at v7).bind fun v69 => gd ((v69 + 3) + p2) 1270 ((if (Int32.toInt p3 < 0 ∨ 2 < Int32.toInt p3) then (F_X9_worthAt (x_s (Int32.toNatClampNeg ((v69 + 3) + p2))) 0).bind fun v133 => some ((96 + v133), 0) else (if p3 = 0 then (F_X9_lengthOf (x_s (Int32.toNatClampNeg ((v69 + 3) + p2)))).bind fun v110 => some (v110, 0) else (if p3 = 1 then (F_X9_sumOf (x_s (Int32.toNatClampNeg ((v69 + 3) + p2)))).bind fun v116 => some (v116, 0) else (F_X9_referencesBut x_s p1 p2 (-1)).bind fun v124 => some (v124, 0)))))))))
def F_X9_isBackup (x_s : Nat → Int32) (p1 : Int32) : Option (Int32) :=
  (F_X9_in p1 0 7).bind fun v4 => (if v4 = 0 then some (0) else (F_X9_backupAt p1).bind fun v16 => gd (v16 + 0) 1270 ((if (x_s (Int32.toNatClampNeg (v16 + 0))) = 1 then some (1) else some (0))))
def F_X9_referred (x_s : Nat → Int32) (p1 : Int32) (p2 : Int32) : Option (Int32) :=
  (F_X9_backupAt p1).bind fun v2 => gd ((v2 + 2) + (2 * p2)) 1270 ((F_X9_slotOf x_s (x_s (Int32.toNatClampNeg ((v2 + 2) + (2 * p2))))).bind fun v24 => (F_X9_at v24).bind fun v27 => gd (((v2 + 2) + (2 * p2)) + 1) 1270 (gd ((v27 + 3) + (x_s (Int32.toNatClampNeg (((v2 + 2) + (2 * p2)) + 1)))) 1270 (some ((x_s (Int32.toNatClampNeg ((v27 + 3) + (x_s (Int32.toNatClampNeg (((v2 + 2) + (2 * p2)) + 1))))))))))
def B_X9_containersOf_4 (x_s : Nat → Int32) (p1 : Int32) (self4 : (Int32 × Int32) → Option (Int32)) (s4_ : Int32 × Int32) : Option (Int32) :=
  gd 7 1270 ((if (x_s (Int32.toNatClampNeg 7)) ≤ s4_.2 then some (s4_.1) else (F_X9_at s4_.2).bind fun v24 => gd (v24 + 0) 1270 ((F_X9_refersTo x_s p1 (x_s (Int32.toNatClampNeg (v24 + 0)))).bind fun v30 => (if v30 = 0 then self4 ((s4_.1 + 0), (s4_.2 + 1)) else self4 ((s4_.1 + 1), (s4_.2 + 1))))))
def F_X9_containersOf (x_s : Nat → Int32) (p1 : Int32) : Option (Int32) :=
  lp (B_X9_containersOf_4 x_s p1) FU (0, 0)
def K_X9_backupOf_133 (p2 : Int32) (x_path : Nat → Int32) (x_store : Nat → Int32) (x_s : Nat → Int32) (v36 : Int32) (p1 : Int32) (k133 : Int32 × Int32) : Option (Int32 × Int32 × (Nat → Int32) × (Nat → Int32)) :=
  (if (Int32.toInt p2 < 0 ∨ 3 < Int32.toInt p2) then some (k133.2, 0, x_path, x_store) else (if p2 = 0 then some ((x_s (Int32.toNatClampNeg (v36 + 1))), 0, x_path, x_store) else (if p2 = 1 then some (k133.1, 0, x_path, x_store) else (if p2 = 2 then (F_X9_containersOf x_s p1).bind fun v172 => some (v172, 0, x_path, x_store) else (F_X9_loadsOf x_s x_path x_store p1).bind fun v178 => some (v178.1, 0, v178.2.1, v178.2.2)))))
def B_X9_backupOf_59 (x_s : Nat → Int32) (v36 : Int32) (p1 : Int32) (K133 : (Int32 × Int32) → Option (Int32 × Int32 × (Nat → Int32) × (Nat → Int32))) (self59 : (Int32 × Int32 × Int32) → Option (Int32 × Int32 × (Nat → Int32) × (Nat → Int32))) (s59_ : Int32 × Int32 × Int32) : Option (Int32 × Int32 × (Nat → Int32) × (Nat → Int32)) :=
  (if (x_s (Int32.toNatClampNeg (v36 + 1))) ≤ s59_.2.2 then K133 (s59_.1, s59_.2.1) else (F_X9_referred x_s p1 s59_.2.2).bind fun v72 => (F_X9_lengthOf v72).bind fun v75 => (if s59_.2.2 ≤ 0 then self59 ((s59_.1 + v75), (s59_.2.1 + 0), (s59_.2.2 + 1)) else gd ((v36 + 2) + (2 * s59_.2.2)) 1270 (gd (((v36 + 2) + (2 * s59_.2.2)) - 2) 1270 ((if (x_s (Int32.toNatClampNeg ((v36 + 2) + (2 * s59_.2.2)))) = (x_s (Int32.toNatClampNeg (((v36 + 2) + (2 * s59_.2.2)) - 2))) then self59 ((s59_.1 + v75), (s59_.2.1 + 0), (s59_.2.2 + 1)) else self59 ((s59_.1 + v75), (s59_.2.1 + 1), (s59_.2.2 + 1)))))))
def F_X9_backupOf (x_thrown : Int32) (x_s : Nat → Int32) (x_path : Nat → Int32) (x_store : Nat → Int32) (p1 : Int32) (p2 : Int32) : Option (Int32 × Int32 × (Nat → Int32) × (Nat → Int32)) :=
  (F_X9_isBackup x_s p1).bind fun v7 => (if v7 = 0 then (F_X9_fails 0 1).bind fun v15 => some (v15.1, v15.2, x_path, x_store) else (F_X9_in p2 0 4).bind fun v22 => (if v22 = 0 then (F_X9_fails 0 2).bind fun v30 => some (v30.1, v30.2, x_path, x_store) else (F_X9_backupAt p1).bind fun v36 => gd (v36 + 1) 1270 (lp (B_X9_backupOf_59 x_s v36 p1 (K_X9_backupOf_133 p2 x_path x_store x_s v36 p1)) FU (0, 0, 0))))
def J_X9_reference_32  (j32 : Unit) : Option (Int32 × Int32) :=
  (F_X9_fails 0 2).bind fun v34 => some (v34.1, v34.2)
def F_X9_reference (x_thrown : Int32) (x_s : Nat → Int32) (p1 : Int32) (p2 : Int32) (p3 : Int32) : Option (Int32 × Int32) :=
  (F_X9_isBackup x_s p1).bind fun v7 => (if v7 = 0 then (F_X9_fails 0 1).bind fun v15 => some (v15.1, v15.2) else (if p2 < 0 then J_X9_reference_32 () else (F_X9_in p3 0 1).bind fun v26 => (if v26 = 0 then J_X9_reference_32 () else (F_X9_backupAt p1).bind fun v45 => gd (v45 + 1) 1270 ((if (x_s (Int32.toNatClampNeg (v45 + 1))) ≤ p2 then some ((-1), 0) else (F_X9_backupAt p1).bind fun v60 => gd (((v60 + 2) + (2 * p2)) + p3) 1270 (some ((x_s (Int32.toNatClampNeg (((v60 + 2) + (2 * p2)) + p3))), 0)))))))
def K_X9_letter_69  (k69 : Int32 × Int32) : Option (Int32 × Int32) :=
  (F_X9_worthAt k69.2 k69.1).bind fun v74 => some ((96 + v74), 0)
def B_X9_letter_34 (p1 : Int32) (x_s : Nat → Int32) (K69 : (Int32 × Int32) → Option (Int32 × Int32)) (self34 : (Int32 × Int32) → Option (Int32 × Int32)) (s34_ : Int32 × Int32) : Option (Int32 × Int32) :=
  (F_X9_backupAt p1).bind fun v42 => gd (v42 + 1) 1270 ((if (x_s (Int32.toNatClampNeg (v42 + 1))) ≤ s34_.2 then some ((-1), 0) else (F_X9_referred x_s p1 s34_.2).bind fun v55 => (F_X9_lengthOf v55).bind fun v63 => (if v63 ≤ s34_.1 then (F_X9_lengthOf v55).bind fun v82 => self34 ((s34_.1 - v82), (s34_.2 + 1)) else K69 (s34_.1, v55))))
def F_X9_letter (x_thrown : Int32) (x_s : Nat → Int32) (p1 : Int32) (p2 : Int32) : Option (Int32 × Int32) :=
  (F_X9_isBackup x_s p1).bind fun v7 => (if v7 = 0 then (F_X9_fails 0 1).bind fun v15 => some (v15.1, v15.2) else (if 0 ≤ p2 then lp (B_X9_letter_34 p1 x_s (K_X9_letter_69)) FU (p2, 0) else (F_X9_fails 0 2).bind fun v25 => some (v25.1, v25.2)))
def F_X9_setting (x_thrown : Int32) (x_s : Nat → Int32) (p1 : Int32) : Option (Int32 × Int32) :=
  (F_X9_in p1 0 4).bind fun v8 => (if v8 = 0 then (F_X9_fails 0 1).bind fun v25 => some (v25.1, v25.2) else gd p1 1270 (some ((x_s (Int32.toNatClampNeg p1)), 0)))
def F_X9_backup (d0 : MDT) (p1 : Int32) : Option (Int32 × MDT) :=
  (F_X9_isStream (md_text d0) (md_length d0) (md_begins d0) (md_lengths d0) (md_streams d0) p1).bind fun v7 => (if v7.1 = 0 then (F_X9_fails 0 1).bind fun v15 => some (v15.1, (md_w_streams (md_w_lengths (md_w_begins (md_w_thrown d0 v15.2) v7.2.1) v7.2.2.1) v7.2.2.2)) else (F_X9_laysStream (md_s d0) (md_text d0) v7.2.1 v7.2.2.1 (md_letters d0) (md_letterMany d0) (md_chunks d0) (md_chunkMany d0) p1).bind fun v21 => (F_X9_backs (md_w_chunkMany (md_w_chunks (md_w_letterMany (md_w_letters (md_w_streams (md_w_lengths (md_w_begins (md_w_thrown d0 0) v7.2.1) v7.2.2.1) v7.2.2.2) v21.1) v21.2.1) v21.2.2.1) v21.2.2.2)).bind fun v25 => (if v25.1 = (-1) then (F_X9_fails (md_thrown v25.2) 2).bind fun v36 => some (v36.1, (md_w_thrown v25.2 v36.2)) else (F_X9_remember (md_aside v25.2) (md_saved v25.2) (md_savedMany v25.2)).bind fun v41 => some (v25.1, (md_w_savedMany (md_w_saved v25.2 v41.1) v41.2))))
def F_X9_delete (x_thrown : Int32) (x_s : Nat → Int32) (x_aside : Nat → Int32) (x_saved : Nat → Int32) (x_savedMany : Int32) (p1 : Int32) : Option (Int32 × Int32 × (Nat → Int32) × (Nat → Int32) × (Nat → Int32) × Int32) :=
  (F_X9_isBackup x_s p1).bind fun v7 => (if v7 = 0 then (F_X9_fails 0 1).bind fun v15 => some (v15.1, v15.2, x_s, x_aside, x_saved, x_savedMany) else (F_X9_putAside x_s x_aside).bind fun v20 => (F_X9_livingBut x_s (-1)).bind fun v25 => (F_X9_removes x_s p1).bind fun v31 => (F_X9_remember v20 x_saved x_savedMany).bind fun v35 => (F_X9_livingBut v31 (-1)).bind fun v41 => some ((v25 - v41), 0, v31, v20, v35.1, v35.2))
def F_X9_carry (x_thrown : Int32) (x_s : Nat → Int32) (x_aside : Nat → Int32) (x_saved : Nat → Int32) (x_savedMany : Int32) (x_thinOnes : Nat → Int32)  : Option (Int32 × Int32 × (Nat → Int32) × (Nat → Int32) × (Nat → Int32) × Int32 × (Nat → Int32)) :=
  (F_X9_putAside x_s x_aside).bind fun v6 => (F_X9_carries x_s x_thinOnes).bind fun v10 => (F_X9_remember v6 x_saved x_savedMany).bind fun v15 => some (v10.1, 0, v10.2.1, v6, v15.1, v15.2, v10.2.2)
def F_X9_isSetting  (p0 : Int32) (p1 : Int32) : Option (Int32) :=
  (if (Int32.toInt p0 < 0 ∨ 3 < Int32.toInt p0) then (if p0 = 4 then (F_X9_in p1 1 4).bind fun v72 => (if v72 = 0 then some (0) else some (1)) else some (0)) else (if p0 = 0 then (F_X9_in p1 2 9).bind fun v36 => gb v36 (some (v36)) else (if p0 = 1 then (F_X9_in p1 2 8).bind fun v44 => gb v44 (some (v44)) else (if p0 = 2 then (F_X9_in p1 1 9).bind fun v52 => gb v52 (some (v52)) else (F_X9_in p1 1 100).bind fun v60 => gb v60 (some (v60))))))
def F_X9_set (x_thrown : Int32) (x_s : Nat → Int32) (x_aside : Nat → Int32) (x_saved : Nat → Int32) (x_savedMany : Int32) (p1 : Int32) (p2 : Int32) : Option (Int32 × Int32 × (Nat → Int32) × (Nat → Int32) × (Nat → Int32) × Int32) :=
  (F_X9_isSetting p1 p2).bind fun v7 => (if v7 = 0 then (F_X9_fails 0 1).bind fun v15 => some (v15.1, v15.2, x_s, x_aside, x_saved, x_savedMany) else (F_X9_putAside x_s x_aside).bind fun v20 => gd p1 1270 (gd p1 1270 ((F_X9_remember v20 x_saved x_savedMany).bind fun v38 => some ((x_s (Int32.toNatClampNeg p1)), 0, (upd x_s (Int32.toNatClampNeg p1) p2), v20, v38.1, v38.2))))
def B_X9_undo_30 (x_savedMany : Int32) (x_saved : Nat → Int32) (self30 : (Int32 × (Nat → Int32)) → Option (Int32 × Int32 × (Nat → Int32) × Int32)) (s30_ : Int32 × (Nat → Int32)) : Option (Int32 × Int32 × (Nat → Int32) × Int32) :=
  (if 1270 ≤ s30_.1 then some ((x_savedMany - 1), 0, s30_.2, (x_savedMany - 1)) else gd ((1270 * (x_savedMany - 1)) + s30_.1) 17780 (gd s30_.1 1270 (self30 ((s30_.1 + 1), (upd s30_.2 (Int32.toNatClampNeg s30_.1) (x_saved (Int32.toNatClampNeg ((1270 * (x_savedMany - 1)) + s30_.1))))))))
def F_X9_undo (x_thrown : Int32) (x_s : Nat → Int32) (x_saved : Nat → Int32) (x_savedMany : Int32)  : Option (Int32 × Int32 × (Nat → Int32) × Int32) :=
  (if x_savedMany = 0 then (F_X9_fails 0 1).bind fun v14 => some (v14.1, v14.2, x_s, x_savedMany) else lp (B_X9_undo_30 x_savedMany x_saved) FU (0, x_s))
def F_X9_ifDeleted (x_thrown : Int32) (x_s : Nat → Int32) (p1 : Int32) : Option (Int32 × Int32) :=
  (F_X9_isBackup x_s p1).bind fun v7 => (if v7 = 0 then (F_X9_fails 0 1).bind fun v29 => some (v29.1, v29.2) else (F_X9_livingBut x_s (-1)).bind fun v15 => (F_X9_livingBut x_s p1).bind fun v20 => some ((v15 - v20), 0))
def J_X9_ifCarried_60 (v41 : Int32 × (Nat → Int32) × (Nat → Int32)) (v21 : (Nat → Int32)) (p1 : Int32) (j60 : (Nat → Int32) × (Nat → Int32)) : Option (Int32 × Int32 × (Nat → Int32) × (Nat → Int32) × (Nat → Int32) × (Nat → Int32) × (Nat → Int32)) :=
  (F_X9_takeBack v41.2.1 v21).bind fun v62 => some ((p1 - p1), 0, v62, v21, j60.1, j60.2, v41.2.2)
def J_X9_ifCarried_39 (x_s : Nat → Int32) (x_thinOnes : Nat → Int32) (p1 : Int32) (v21 : (Nat → Int32)) (j39 : (Nat → Int32) × (Nat → Int32)) : Option (Int32 × Int32 × (Nat → Int32) × (Nat → Int32) × (Nat → Int32) × (Nat → Int32) × (Nat → Int32)) :=
  (F_X9_carries x_s x_thinOnes).bind fun v41 => (if p1 = 0 then (F_X9_entries v41.2.1).bind fun v50 => J_X9_ifCarried_60 v41 v21 p1 (j39.1, j39.2) else (F_X9_allLoads v41.2.1 j39.1 j39.2).bind fun v57 => J_X9_ifCarried_60 v41 v21 p1 (v57.2.1, v57.2.2))
def F_X9_ifCarried (x_thrown : Int32) (x_s : Nat → Int32) (x_aside : Nat → Int32) (x_path : Nat → Int32) (x_store : Nat → Int32) (x_thinOnes : Nat → Int32) (p1 : Int32) : Option (Int32 × Int32 × (Nat → Int32) × (Nat → Int32) × (Nat → Int32) × (Nat → Int32) × (Nat → Int32)) :=
  (F_X9_in p1 0 1).bind fun v8 => (if v8 = 0 then (F_X9_fails 0 1).bind fun v16 => some (v16.1, v16.2, x_s, x_aside, x_path, x_store, x_thinOnes) else (F_X9_putAside x_s x_aside).bind fun v21 => (if p1 = 0 then (F_X9_entries x_s).bind fun v29 => J_X9_ifCarried_39 x_s x_thinOnes p1 v21 (x_path, x_store) else (F_X9_allLoads x_s x_path x_store).bind fun v36 => J_X9_ifCarried_39 x_s x_thinOnes p1 v21 (v36.2.1, v36.2.2)))
def F_X9_wouldPut (d0 : MDT) (p1 : Int32) : Option (Int32 × MDT) :=
  (F_X9_isStream (md_text d0) (md_length d0) (md_begins d0) (md_lengths d0) (md_streams d0) p1).bind fun v7 => (if v7.1 = 0 then (F_X9_fails 0 1).bind fun v15 => some (v15.1, (md_w_streams (md_w_lengths (md_w_begins (md_w_thrown d0 v15.2) v7.2.1) v7.2.2.1) v7.2.2.2)) else (F_X9_laysStream (md_s d0) (md_text d0) v7.2.1 v7.2.2.1 (md_letters d0) (md_letterMany d0) (md_chunks d0) (md_chunkMany d0) p1).bind fun v21 => (F_X9_putAside (md_s d0) (md_aside d0)).bind fun v25 => gd 2 1270 ((F_X9_makes (md_s d0) v21.2.2.1 v21.2.2.2 (md_homes d0) (md_dropped d0) (md_madeIn d0) (md_madeAt d0) (md_putMany d0) ((md_s d0) (Int32.toNatClampNeg 2))).bind fun v35 => (F_X9_takeBack v35.1 v25).bind fun v39 => some (v35.2.2.2.2.2, (md_w_putMany (md_w_madeAt (md_w_madeIn (md_w_dropped (md_w_homes (md_w_chunkMany (md_w_chunks (md_w_letterMany (md_w_letters (md_w_streams (md_w_lengths (md_w_begins (md_w_aside (md_w_s (md_w_thrown d0 0) v39) v25) v7.2.1) v7.2.2.1) v7.2.2.2) v21.1) v21.2.1) v21.2.2.1) v21.2.2.2) v35.2.1) v35.2.2.1) v35.2.2.2.1) v35.2.2.2.2.1) v35.2.2.2.2.2))))
def K_X9_bestLimit_80 (v45 : (Nat → Int32) × (Nat → Int32) × (Nat → Int32) × (Nat → Int32) × (Nat → Int32) × Int32) (s35_ : Int32 × Int32 × Int32 × (Nat → Int32) × (Nat → Int32) × (Nat → Int32) × (Nat → Int32) × (Nat → Int32) × Int32 × (Nat → Int32) × (Nat → Int32)) (v21 : (Nat → Int32) × Int32 × (Nat → Int32) × Int32) (v25 : (Nat → Int32)) (self35 : (Int32 × Int32 × Int32 × (Nat → Int32) × (Nat → Int32) × (Nat → Int32) × (Nat → Int32) × (Nat → Int32) × Int32 × (Nat → Int32) × (Nat → Int32)) → Option (Int32 × MDT)) (k80 : (Nat → Int32)) : Option (Int32 × MDT) :=
  (F_X9_loadsBy v45.1 k80 s35_.2.2.2.2.2.2.2.2.2.2 v21.2.2.2).bind fun v89 => (F_X9_takeBack v45.1 v25).bind fun v96 => (if s35_.1 = (-1) then self35 (s35_.2.2.1, (v45.2.2.2.2.2 + v89.1), (s35_.2.2.1 + 1), v96, v45.2.1, v45.2.2.1, v45.2.2.2.1, v45.2.2.2.2.1, v45.2.2.2.2.2, k80, v89.2) else (if s35_.2.1 ≤ (v45.2.2.2.2.2 + v89.1) then self35 (s35_.1, s35_.2.1, (s35_.2.2.1 + 1), v96, v45.2.1, v45.2.2.1, v45.2.2.2.1, v45.2.2.2.2.1, v45.2.2.2.2.2, k80, v89.2) else self35 (s35_.2.2.1, (v45.2.2.2.2.2 + v89.1), (s35_.2.2.1 + 1), v96, v45.2.1, v45.2.2.1, v45.2.2.2.1, v45.2.2.2.2.1, v45.2.2.2.2.2, k80, v89.2)))
def B_X9_bestLimit_51 (v21 : (Nat → Int32) × Int32 × (Nat → Int32) × Int32) (v45 : (Nat → Int32) × (Nat → Int32) × (Nat → Int32) × (Nat → Int32) × (Nat → Int32) × Int32) (K80 : ((Nat → Int32)) → Option (Int32 × MDT)) (self51 : (Int32 × (Nat → Int32)) → Option (Int32 × MDT)) (s51_ : Int32 × (Nat → Int32)) : Option (Int32 × MDT) :=
  (if v21.2.2.2 ≤ s51_.1 then K80 (s51_.2) else gd s51_.1 16 (gd s51_.1 16 (self51 ((s51_.1 + 1), (upd s51_.2 (Int32.toNatClampNeg s51_.1) (v45.2.2.2.1 (Int32.toNatClampNeg s51_.1)))))))
def B_X9_bestLimit_35 (d0 : MDT) (v25 : (Nat → Int32)) (v7 : Int32 × (Nat → Int32) × (Nat → Int32) × Int32) (v21 : (Nat → Int32) × Int32 × (Nat → Int32) × Int32) (self35 : (Int32 × Int32 × Int32 × (Nat → Int32) × (Nat → Int32) × (Nat → Int32) × (Nat → Int32) × (Nat → Int32) × Int32 × (Nat → Int32) × (Nat → Int32)) → Option (Int32 × MDT)) (s35_ : Int32 × Int32 × Int32 × (Nat → Int32) × (Nat → Int32) × (Nat → Int32) × (Nat → Int32) × (Nat → Int32) × Int32 × (Nat → Int32) × (Nat → Int32)) : Option (Int32 × MDT) :=
  (if 10 ≤ s35_.2.2.1 then some (s35_.1, (md_w_store (md_w_path (md_w_putMany (md_w_madeAt (md_w_madeIn (md_w_dropped (md_w_homes (md_w_chunkMany (md_w_chunks (md_w_letterMany (md_w_letters (md_w_streams (md_w_lengths (md_w_begins (md_w_aside (md_w_s (md_w_thrown d0 0) s35_.2.2.2.1) v25) v7.2.1) v7.2.2.1) v7.2.2.2) v21.1) v21.2.1) v21.2.2.1) v21.2.2.2) s35_.2.2.2.2.1) s35_.2.2.2.2.2.1) s35_.2.2.2.2.2.2.1) s35_.2.2.2.2.2.2.2.1) s35_.2.2.2.2.2.2.2.2.1) s35_.2.2.2.2.2.2.2.2.2.1) s35_.2.2.2.2.2.2.2.2.2.2)) else (F_X9_makes s35_.2.2.2.1 v21.2.2.1 v21.2.2.2 s35_.2.2.2.2.1 s35_.2.2.2.2.2.1 s35_.2.2.2.2.2.2.1 s35_.2.2.2.2.2.2.2.1 s35_.2.2.2.2.2.2.2.2.1 s35_.2.2.1).bind fun v45 => lp (B_X9_bestLimit_51 v21 v45 (K_X9_bestLimit_80 v45 s35_ v21 v25 self35)) FU (0, s35_.2.2.2.2.2.2.2.2.2.1))
def F_X9_bestLimit (d0 : MDT) (p1 : Int32) : Option (Int32 × MDT) :=
  (F_X9_isStream (md_text d0) (md_length d0) (md_begins d0) (md_lengths d0) (md_streams d0) p1).bind fun v7 => (if v7.1 = 0 then (F_X9_fails 0 1).bind fun v15 => some (v15.1, (md_w_streams (md_w_lengths (md_w_begins (md_w_thrown d0 v15.2) v7.2.1) v7.2.2.1) v7.2.2.2)) else (F_X9_laysStream (md_s d0) (md_text d0) v7.2.1 v7.2.2.1 (md_letters d0) (md_letterMany d0) (md_chunks d0) (md_chunkMany d0) p1).bind fun v21 => (F_X9_putAside (md_s d0) (md_aside d0)).bind fun v25 => lp (B_X9_bestLimit_35 d0 v25 v7 v21) FU ((-1), 0, 1, (md_s d0), (md_homes d0), (md_dropped d0), (md_madeIn d0), (md_madeAt d0), (md_putMany d0), (md_path d0), (md_store d0)))
def J_X9_worst_42 (s11_ : Int32 × Int32 × Int32 × (Nat → Int32) × (Nat → Int32)) (self11 : (Int32 × Int32 × Int32 × (Nat → Int32) × (Nat → Int32)) → Option (Int32 × Int32 × (Nat → Int32) × (Nat → Int32))) (j42 : (Nat → Int32) × (Nat → Int32)) : Option (Int32 × Int32 × (Nat → Int32) × (Nat → Int32)) :=
  (if 1 ≤ s11_.2.1 then self11 (s11_.1, s11_.2.1, (s11_.2.2.1 + 1), j42.1, j42.2) else self11 (s11_.2.2.1, 1, (s11_.2.2.1 + 1), j42.1, j42.2))
def B_X9_worst_11 (x_s : Nat → Int32) (self11 : (Int32 × Int32 × Int32 × (Nat → Int32) × (Nat → Int32)) → Option (Int32 × Int32 × (Nat → Int32) × (Nat → Int32))) (s11_ : Int32 × Int32 × Int32 × (Nat → Int32) × (Nat → Int32)) : Option (Int32 × Int32 × (Nat → Int32) × (Nat → Int32)) :=
  (if 8 ≤ s11_.2.2.1 then some (s11_.1, 0, s11_.2.2.2.1, s11_.2.2.2.2) else (F_X9_backupAt s11_.2.2.1).bind fun v23 => gd (v23 + 0) 1270 ((if (x_s (Int32.toNatClampNeg (v23 + 0))) = 1 then (F_X9_loadsOf x_s s11_.2.2.2.1 s11_.2.2.2.2 s11_.2.2.1).bind fun v35 => J_X9_worst_42 s11_ self11 (v35.2.1, v35.2.2) else J_X9_worst_42 s11_ self11 (s11_.2.2.2.1, s11_.2.2.2.2))))
def F_X9_worst (x_thrown : Int32) (x_s : Nat → Int32) (x_path : Nat → Int32) (x_store : Nat → Int32)  : Option (Int32 × Int32 × (Nat → Int32) × (Nat → Int32)) :=
  lp (B_X9_worst_11 x_s) FU ((-1), 0, 0, x_path, x_store)
def F_X9_does (d0 : MDT) (p1 : Int32) (p2 : Int32) (p3 : Int32) (p4 : Int32) : Option (Int32 × MDT) :=
  (if (Int32.toInt p1 < 1 ∨ 8 < Int32.toInt p1) then some (0, d0) else (if p1 = 1 then (if ((10 * p3) + p4) = 0 then (F_X9_isStream (md_text d0) (md_length d0) (md_begins d0) (md_lengths d0) (md_streams d0) p2).bind fun v63 => (if v63.1 = 0 then some (0, (md_w_streams (md_w_lengths (md_w_begins d0 v63.2.1) v63.2.2.1) v63.2.2.2)) else (F_X9_laysStream (md_s d0) (md_text d0) v63.2.1 v63.2.2.1 (md_letters d0) (md_letterMany d0) (md_chunks d0) (md_chunkMany d0) p2).bind fun v73 => (F_X9_backs (md_w_chunkMany (md_w_chunks (md_w_letterMany (md_w_letters (md_w_streams (md_w_lengths (md_w_begins d0 v63.2.1) v63.2.2.1) v63.2.2.2) v73.1) v73.2.1) v73.2.2.1) v73.2.2.2)).bind fun v77 => (if v77.1 = (-1) then some (0, v77.2) else some (1, v77.2))) else some (0, d0)) else (if p1 = 2 then (if ((10 * p3) + p4) = 0 then (F_X9_isBackup (md_s d0) p2).bind fun v97 => (if v97 = 0 then some (0, d0) else (F_X9_removes (md_s d0) p2).bind fun v107 => some (1, (md_w_s d0 v107))) else some (0, d0)) else (if p1 = 3 then (if ((10 * p3) + p4) = 0 then (if p2 = 0 then (F_X9_carries (md_s d0) (md_thinOnes d0)).bind fun v124 => some (1, (md_w_thinOnes (md_w_s d0 v124.2.1) v124.2.2)) else some (0, d0)) else some (0, d0)) else (if p1 = 4 then (F_X9_isSetting p2 ((10 * p3) + p4)).bind fun v133 => (if v133 = 0 then some (0, d0) else gd p2 1270 (some (1, (md_w_s d0 (upd (md_s d0) (Int32.toNatClampNeg p2) ((10 * p3) + p4)))))) else (if p1 = 5 then (if p2 = 0 then gd 7 1270 ((if ((10 * p3) + p4) < ((md_s d0) (Int32.toNatClampNeg 7)) then some (0, d0) else some (1, d0))) else some (0, d0)) else (if p1 = 6 then (F_X9_isBackup (md_s d0) p2).bind fun v175 => (if v175 = 0 then some (0, d0) else (F_X9_loadsOf (md_s d0) (md_path d0) (md_store d0) p2).bind fun v183 => (if ((10 * p3) + p4) < v183.1 then some (0, (md_w_store (md_w_path d0 v183.2.1) v183.2.2)) else some (1, (md_w_store (md_w_path d0 v183.2.1) v183.2.2)))) else (if p1 = 7 then (if p2 = 0 then (F_X9_livingBut (md_s d0) (-1)).bind fun v203 => (if v203 < ((10 * p3) + p4) then some (0, d0) else some (1, d0)) else some (0, d0)) else (if p2 = 0 then (F_X9_thin (md_s d0)).bind fun v222 => (if ((10 * p3) + p4) < v222 then some (0, d0) else some (1, d0)) else some (0, d0))))))))))
def B_X9_keepsBase_2 (x_s : Nat → Int32) (self2 : (Int32 × (Nat → Int32)) → Option ((Nat → Int32))) (s2_ : Int32 × (Nat → Int32)) : Option ((Nat → Int32)) :=
  (if 1270 ≤ s2_.1 then some (s2_.2) else gd s2_.1 1270 (gd s2_.1 1270 (self2 ((s2_.1 + 1), (upd s2_.2 (Int32.toNatClampNeg s2_.1) (x_s (Int32.toNatClampNeg s2_.1)))))))
def F_X9_keepsBase (x_s : Nat → Int32) (x_base : Nat → Int32)  : Option ((Nat → Int32)) :=
  lp (B_X9_keepsBase_2 x_s) FU (0, x_base)
def B_X9_backToBase_2 (x_base : Nat → Int32) (self2 : (Int32 × (Nat → Int32)) → Option ((Nat → Int32))) (s2_ : Int32 × (Nat → Int32)) : Option ((Nat → Int32)) :=
  (if 1270 ≤ s2_.1 then some (s2_.2) else gd s2_.1 1270 (gd s2_.1 1270 (self2 ((s2_.1 + 1), (upd s2_.2 (Int32.toNatClampNeg s2_.1) (x_base (Int32.toNatClampNeg s2_.1)))))))
def F_X9_backToBase (x_s : Nat → Int32) (x_base : Nat → Int32)  : Option ((Nat → Int32)) :=
  lp (B_X9_backToBase_2 x_base) FU (0, x_s)
def J_X9_runScript_63 (d0 : MDT) (j63 : Unit) : Option (Int32 × MDT) :=
  (F_X9_fails 0 1).bind fun v65 => some (v65.1, (md_w_thrown d0 v65.2))
def K_X9_runScript_158  (k158 : Int32 × MDT) : Option (Int32 × MDT) :=
  (F_X9_backToBase (md_s k158.2) (md_base k158.2)).bind fun v159 => some (k158.1, (md_w_s k158.2 v159))
def J_X9_runScript_142 (self79 : (Int64 × Int32 × Int32 × MDT) → Option (Int32 × MDT)) (s79_ : Int64 × Int32 × Int32 × MDT) (v130 : Int32 × MDT) (j142 : Unit) : Option (Int32 × MDT) :=
  gzl (10000) (self79 ((s79_.1 / (10000)), v130.1, (s79_.2.2.1 + 1), v130.2))
def B_X9_runScript_79 (p1 : Int32) (p2 : Int64) (K158 : (Int32 × MDT) → Option (Int32 × MDT)) (self79 : (Int64 × Int32 × Int32 × MDT) → Option (Int32 × MDT)) (s79_ : Int64 × Int32 × Int32 × MDT) : Option (Int32 × MDT) :=
  (if p1 ≤ s79_.2.2.1 then K158 (s79_.2.1, s79_.2.2.2) else (if s79_.2.1 = (-1) then gzl s79_.1 (gzl (10000) (gz 1000 (gz 100 (gz 10 (gz 10 (gz 10 (gz 10 ((F_X9_does s79_.2.2.2 ((Int64.toInt32 ((p2 / s79_.1) - (p2 / s79_.1) / (10000) * (10000))) / 1000) (((Int64.toInt32 ((p2 / s79_.1) - (p2 / s79_.1) / (10000) * (10000))) / 100) - ((Int64.toInt32 ((p2 / s79_.1) - (p2 / s79_.1) / (10000) * (10000))) / 100) / 10 * 10) (((Int64.toInt32 ((p2 / s79_.1) - (p2 / s79_.1) / (10000) * (10000))) / 10) - ((Int64.toInt32 ((p2 / s79_.1) - (p2 / s79_.1) / (10000) * (10000))) / 10) / 10 * 10) ((Int64.toInt32 ((p2 / s79_.1) - (p2 / s79_.1) / (10000) * (10000))) - (Int64.toInt32 ((p2 / s79_.1) - (p2 / s79_.1) / (10000) * (10000))) / 10 * 10)).bind fun v130 => (if v130.1 = 0 then J_X9_runScript_142 self79 s79_ v130 () else J_X9_runScript_142 self79 s79_ v130 ()))))))))) else K158 (s79_.2.1, s79_.2.2.2)))
def K_X9_runScript_46 (p2 : Int64) (d0 : MDT) (p1 : Int32) (k46 : Int64) : Option (Int32 × MDT) :=
  (if (lg_cmp p2 0) < 0 then J_X9_runScript_63 d0 () else gzl k46 ((if (lg_cmp (p2 / k46) (10000)) < 0 then (F_X9_keepsBase (md_s d0) (md_base d0)).bind fun v70 => lp (B_X9_runScript_79 p1 p2 (K_X9_runScript_158)) FU (k46, (-1), 0, (md_w_base (md_w_thrown d0 0) v70)) else J_X9_runScript_63 d0 ())))
def B_X9_runScript_26 (p1 : Int32) (K46 : Int64 → Option (Int32 × MDT)) (self26 : (Int64 × Int32) → Option (Int32 × MDT)) (s26_ : Int64 × Int32) : Option (Int32 × MDT) :=
  (if p1 ≤ s26_.2 then K46 (s26_.1) else self26 ((s26_.1 * (10000)), (s26_.2 + 1)))
def F_X9_runScript (d0 : MDT) (p1 : Int32) (p2 : Int64) : Option (Int32 × MDT) :=
  (F_X9_in p1 1 3).bind fun v8 => (if v8 = 0 then (F_X9_fails 0 1).bind fun v16 => some (v16.1, (md_w_thrown d0 v16.2)) else lp (B_X9_runScript_26 p1 (K_X9_runScript_46 p2 d0 p1)) FU (1, 1))
def K_X9_simulate_190  (k190 : MDT) : Option (Int32 × MDT) :=
  gd 7 1270 ((F_X9_livingBut (md_s k190) (-1)).bind fun v203 => (F_X9_backToBase (md_s k190) (md_base k190)).bind fun v210 => some (((1000 * ((md_s k190) (Int32.toNatClampNeg 7))) + v203), (md_w_s k190 v210)))
def K_X9_simulate_175 (s31_ : Int64 × Int32 × MDT) (self31 : (Int64 × Int32 × MDT) → Option (Int32 × MDT)) (k175 : (Nat → Int32)) : Option (Int32 × MDT) :=
  (F_X9_cuts (md_s s31_.2.2) k175 12 (md_chunks s31_.2.2) (md_chunkMany s31_.2.2)).bind fun v176 => (F_X9_backs (md_w_chunkMany (md_w_chunks (md_w_letterMany (md_w_letters s31_.2.2 k175) 12) v176.1) v176.2)).bind fun v180 => self31 (((s31_.1 * (6364136223846793005)) + (1442695040888963407)), (s31_.2.1 + 1), v180.2)
def B_X9_simulate_121 (s31_ : Int64 × Int32 × MDT) (K175 : ((Nat → Int32)) → Option (Int32 × MDT)) (self121 : (Int32 × (Nat → Int32)) → Option (Int32 × MDT)) (s121_ : Int32 × (Nat → Int32)) : Option (Int32 × MDT) :=
  (if 12 ≤ s121_.1 then K175 (s121_.2) else (if 6 ≤ s121_.1 then gz (32768) (gd s121_.1 30 (self121 ((s121_.1 + 1), (upd s121_.2 (Int32.toNatClampNeg s121_.1) (1 + ((((Int64.toInt32 (UInt64.toInt64 (Int64.toUInt64 ((s31_.1 * (6364136223846793005)) + (1442695040888963407)) >>> (Int64.toUInt64 (Int32.toInt64 33) &&& Int64.toUInt64 63)))) / (32768)) >>> (s121_.1 &&& 31)) &&& 3)))))) else gz 5 (gd s121_.1 30 (self121 ((s121_.1 + 1), (upd s121_.2 (Int32.toNatClampNeg s121_.1) (1 + (((Int64.toInt32 (UInt64.toInt64 (Int64.toUInt64 ((s31_.1 * (6364136223846793005)) + (1442695040888963407)) >>> (Int64.toUInt64 (Int32.toInt64 33) &&& Int64.toUInt64 63)))) >>> ((3 * (s121_.1 - s121_.1 / 5 * 5)) &&& 31)) &&& 7))))))))
def B_X9_simulate_31 (p3 : Int32) (K190 : MDT → Option (Int32 × MDT)) (self31 : (Int64 × Int32 × MDT) → Option (Int32 × MDT)) (s31_ : Int64 × Int32 × MDT) : Option (Int32 × MDT) :=
  (if p3 ≤ s31_.2.1 then K190 (s31_.2.2) else gz 8 ((if ((Int64.toInt32 (UInt64.toInt64 (Int64.toUInt64 ((s31_.1 * (6364136223846793005)) + (1442695040888963407)) >>> (Int64.toUInt64 (Int32.toInt64 33) &&& Int64.toUInt64 63)))) - (Int64.toInt32 (UInt64.toInt64 (Int64.toUInt64 ((s31_.1 * (6364136223846793005)) + (1442695040888963407)) >>> (Int64.toUInt64 (Int32.toInt64 33) &&& Int64.toUInt64 63)))) / 8 * 8) = 0 then (F_X9_carries (md_s s31_.2.2) (md_thinOnes s31_.2.2)).bind fun v66 => self31 (((s31_.1 * (6364136223846793005)) + (1442695040888963407)), (s31_.2.1 + 1), (md_w_thinOnes (md_w_s s31_.2.2 v66.2.1) v66.2.2)) else gz 8 ((if 3 ≤ ((Int64.toInt32 (UInt64.toInt64 (Int64.toUInt64 ((s31_.1 * (6364136223846793005)) + (1442695040888963407)) >>> (Int64.toUInt64 (Int32.toInt64 33) &&& Int64.toUInt64 63)))) - (Int64.toInt32 (UInt64.toInt64 (Int64.toUInt64 ((s31_.1 * (6364136223846793005)) + (1442695040888963407)) >>> (Int64.toUInt64 (Int32.toInt64 33) &&& Int64.toUInt64 63)))) / 8 * 8) then lp (B_X9_simulate_121 s31_ (K_X9_simulate_175 s31_ self31)) FU (0, (md_letters s31_.2.2)) else gz 8 (gz 8 ((F_X9_isBackup (md_s s31_.2.2) (((Int64.toInt32 (UInt64.toInt64 (Int64.toUInt64 ((s31_.1 * (6364136223846793005)) + (1442695040888963407)) >>> (Int64.toUInt64 (Int32.toInt64 33) &&& Int64.toUInt64 63)))) / 8) - ((Int64.toInt32 (UInt64.toInt64 (Int64.toUInt64 ((s31_.1 * (6364136223846793005)) + (1442695040888963407)) >>> (Int64.toUInt64 (Int32.toInt64 33) &&& Int64.toUInt64 63)))) / 8) / 8 * 8)).bind fun v91 => (if v91 = 0 then self31 (((s31_.1 * (6364136223846793005)) + (1442695040888963407)), (s31_.2.1 + 1), s31_.2.2) else gz 8 (gz 8 ((F_X9_removes (md_s s31_.2.2) (((Int64.toInt32 (UInt64.toInt64 (Int64.toUInt64 ((s31_.1 * (6364136223846793005)) + (1442695040888963407)) >>> (Int64.toUInt64 (Int32.toInt64 33) &&& Int64.toUInt64 63)))) / 8) - ((Int64.toInt32 (UInt64.toInt64 (Int64.toUInt64 ((s31_.1 * (6364136223846793005)) + (1442695040888963407)) >>> (Int64.toUInt64 (Int32.toInt64 33) &&& Int64.toUInt64 63)))) / 8) / 8 * 8)).bind fun v106 => self31 (((s31_.1 * (6364136223846793005)) + (1442695040888963407)), (s31_.2.1 + 1), (md_w_s s31_.2.2 v106))))))))))))
def F_X9_simulate (d0 : MDT) (p1 : Int64) (p3 : Int32) : Option (Int32 × MDT) :=
  (F_X9_in p3 1 40).bind fun v9 => (if v9 = 0 then (F_X9_fails 0 1).bind fun v17 => some (v17.1, (md_w_thrown d0 v17.2)) else (F_X9_keepsBase (md_s d0) (md_base d0)).bind fun v22 => lp (B_X9_simulate_31 p3 (K_X9_simulate_190)) FU (p1, 0, (md_w_base (md_w_thrown d0 0) v22)))
def K_X9_save_53 (p1 : Int32) (x_s : Nat → Int32) (x_hasSlot : Nat → Int32) (k53 : (Nat → Int32)) : Option (Int32 × Int32 × (Nat → Int32) × (Nat → Int32)) :=
  gd p1 2 ((F_X9_backups x_s).bind fun v61 => some (v61, 0, k53, (upd x_hasSlot (Int32.toNatClampNeg p1) (vp_nar .boolean 1))))
def B_X9_save_22 (p1 : Int32) (x_s : Nat → Int32) (K53 : ((Nat → Int32)) → Option (Int32 × Int32 × (Nat → Int32) × (Nat → Int32))) (self22 : (Int32 × (Nat → Int32)) → Option (Int32 × Int32 × (Nat → Int32) × (Nat → Int32))) (s22_ : Int32 × (Nat → Int32)) : Option (Int32 × Int32 × (Nat → Int32) × (Nat → Int32)) :=
  (if 1270 ≤ s22_.1 then K53 (s22_.2) else gd s22_.1 1270 (gd ((1270 * p1) + s22_.1) 2540 (self22 ((s22_.1 + 1), (upd s22_.2 (Int32.toNatClampNeg ((1270 * p1) + s22_.1)) (x_s (Int32.toNatClampNeg s22_.1)))))))
def F_X9_save (x_thrown : Int32) (x_s : Nat → Int32) (x_slots : Nat → Int32) (x_hasSlot : Nat → Int32) (p1 : Int32) : Option (Int32 × Int32 × (Nat → Int32) × (Nat → Int32)) :=
  (F_X9_in p1 0 1).bind fun v8 => (if v8 = 0 then (F_X9_fails 0 1).bind fun v16 => some (v16.1, v16.2, x_slots, x_hasSlot) else lp (B_X9_save_22 p1 x_s (K_X9_save_53 p1 x_s x_hasSlot)) FU (0, x_slots))
def K_X9_restore_68  (k68 : (Nat → Int32)) : Option (Int32 × Int32 × (Nat → Int32) × Int32) :=
  (F_X9_backups k68).bind fun v74 => some (v74, 0, k68, 0)
def B_X9_restore_37 (p1 : Int32) (x_slots : Nat → Int32) (K68 : ((Nat → Int32)) → Option (Int32 × Int32 × (Nat → Int32) × Int32)) (self37 : (Int32 × (Nat → Int32)) → Option (Int32 × Int32 × (Nat → Int32) × Int32)) (s37_ : Int32 × (Nat → Int32)) : Option (Int32 × Int32 × (Nat → Int32) × Int32) :=
  (if 1270 ≤ s37_.1 then K68 (s37_.2) else gd ((1270 * p1) + s37_.1) 2540 (gd s37_.1 1270 (self37 ((s37_.1 + 1), (upd s37_.2 (Int32.toNatClampNeg s37_.1) (x_slots (Int32.toNatClampNeg ((1270 * p1) + s37_.1))))))))
def F_X9_restore (x_thrown : Int32) (x_s : Nat → Int32) (x_savedMany : Int32) (x_slots : Nat → Int32) (x_hasSlot : Nat → Int32) (p1 : Int32) : Option (Int32 × Int32 × (Nat → Int32) × Int32) :=
  (F_X9_in p1 0 1).bind fun v8 => (if v8 = 0 then (F_X9_fails 0 1).bind fun v16 => some (v16.1, v16.2, x_s, x_savedMany) else gd p1 2 ((if (x_hasSlot (Int32.toNatClampNeg p1)) = 0 then (F_X9_fails 0 2).bind fun v31 => some (v31.1, v31.2, x_s, x_savedMany) else lp (B_X9_restore_37 p1 x_slots (K_X9_restore_68)) FU (0, x_s))))
