/-- java/lang/Math.min(II)I -/
def J_min (x0 : Int32) (x1 : Int32) : Int32 :=
  if x1 < x0 then (
    x1)
  else (
    x0)
/-- java/lang/Math.max(II)I -/
def J_max (x0 : Int32) (x1 : Int32) : Int32 :=
  if x0 < x1 then (
    x1)
  else (
    x0)
/-- java/lang/Math.floorMod(II)I -/
def J_floorMod (x0 : Int32) (x1 : Int32) : Option Int32 :=
  if x1 = 0 then none else (
  am_let (x0 % x1) (fun x2_2 =>
  if (x0 ^^^ x1) < 0 then (
    if x2_2 = 0 then (
      some x2_2)
    else (
      some (x2_2 + x1)))
  else (
    some x2_2)))
/-- SlipperTruce$Front.hasOfficer(I)Z -/
def C_Front_hasOfficer (a0 : Nat) (x1 : Int32) (σ : am_SS) : Bool :=
  if x1 < 0 then (
    false)
  else (
    if x1 < (σ a0 0) then (
      if x1 < 12 then (
        true)
      else (
        false))
    else (
      false))
/-- SlipperTruce$Front.hasBatman(I)Z -/
def C_Front_hasBatman (a0 : Nat) (x1 : Int32) (σ : am_SS) : Bool :=
  if x1 < 0 then (
    false)
  else (
    if x1 < (σ a0 8) then (
      if x1 < 12 then (
        true)
      else (
        false))
    else (
      false))
/-- SlipperTruce$Front.addOfficer(II)I -/
def C_Front_addOfficer (a0 : Nat) (x1 : Int32) (x2 : Int32) (σ : am_SS) : Option (Int32 × am_SS) :=
  am_let (σ a0 0) (fun x3_1 =>
  if x3_1 < 0 then (
    some ((-1), σ))
  else (
    if x3_1 < 12 then (
      (am_wr σ (a0 + 1) 12 x3_1 x1).bind (fun σ_4 =>
      (am_wr σ_4 (a0 + 2) 12 x3_1 x2).bind (fun σ_5 =>
      (am_wr σ_5 (a0 + 3) 12 x3_1 50).bind (fun σ_6 =>
      am_let (am_up σ_6 a0 0 (x3_1 + 1)) (fun σ_7 =>
      some (x3_1, σ_7))))))
    else (
      some ((-1), σ))))
/-- SlipperTruce$Front.addBatman(II)I -/
def C_Front_addBatman (a0 : Nat) (x1 : Int32) (x2 : Int32) (σ : am_SS) : Option (Int32 × am_SS) :=
  am_let (σ a0 8) (fun x3_1 =>
  if x3_1 < 0 then (
    some ((-1), σ))
  else (
    if x3_1 < 12 then (
      (am_wr σ (a0 + 8) 12 x3_1 x1).bind (fun σ_4 =>
      (am_wr σ_4 (a0 + 9) 12 x3_1 x2).bind (fun σ_5 =>
      am_let (am_up σ_5 a0 8 (x3_1 + 1)) (fun σ_6 =>
      some (x3_1, σ_6)))))
    else (
      some ((-1), σ))))
/-- SlipperTruce$Front.putOfficer(III)Z -/
def C_Front_putOfficer_p56 (x2 : Int32) (x3 : Int32) (t0 : Nat) (σ : am_SS) : Option (Bool × am_SS) :=
  (am_wr σ t0 (LC.2.1 t0) x2 x3).bind (fun σ_1 =>
  some (true, σ_1))
def C_Front_putOfficer_p24 (a0 : Nat) (x1 : Int32) (x2 : Int32) (x3 : Int32) (s0 : Int32) (s1 : Int32) (σ : am_SS) : Option (Bool × am_SS) :=
  if s1 < s0 then (
    some (false, σ))
  else (
    if x1 = 0 then (
      C_Front_putOfficer_p56 x2 x3 (a0 + 2) σ)
    else (
      if x1 = 1 then (
        C_Front_putOfficer_p56 x2 x3 (a0 + 3) σ)
      else (
        C_Front_putOfficer_p56 x2 x3 (a0 + 4) σ)))
def C_Front_putOfficer (a0 : Nat) (x1 : Int32) (x2 : Int32) (x3 : Int32) (σ : am_SS) : Option (Bool × am_SS) :=
  if (C_Front_hasOfficer a0 x2 σ) = true then (
    if x3 < 0 then (
      some (false, σ))
    else (
      if x1 = 0 then (
        C_Front_putOfficer_p24 a0 x1 x2 x3 x3 9 σ)
      else (
        C_Front_putOfficer_p24 a0 x1 x2 x3 x3 99 σ)))
  else (
    some (false, σ))
/-- SlipperTruce$Front.putBatman(III)Z -/
def C_Front_putBatman_p46 (x2 : Int32) (x3 : Int32) (t0 : Nat) (σ : am_SS) : Option (Bool × am_SS) :=
  (am_wr σ t0 (LC.2.1 t0) x2 x3).bind (fun σ_1 =>
  some (true, σ_1))
def C_Front_putBatman_p25 (a0 : Nat) (x1 : Int32) (x2 : Int32) (x3 : Int32) (s0 : Int32) (s1 : Int32) (σ : am_SS) : Option (Bool × am_SS) :=
  if s1 < s0 then (
    some (false, σ))
  else (
    if x1 = 3 then (
      C_Front_putBatman_p46 x2 x3 (a0 + 9) σ)
    else (
      C_Front_putBatman_p46 x2 x3 (a0 + 10) σ))
def C_Front_putBatman (a0 : Nat) (x1 : Int32) (x2 : Int32) (x3 : Int32) (σ : am_SS) : Option (Bool × am_SS) :=
  if (C_Front_hasBatman a0 x2 σ) = true then (
    if x3 < 0 then (
      some (false, σ))
    else (
      if x1 = 3 then (
        C_Front_putBatman_p25 a0 x1 x2 x3 x3 9 σ)
      else (
        C_Front_putBatman_p25 a0 x1 x2 x3 x3 99 σ)))
  else (
    some (false, σ))
/-- SlipperTruce$Front.putLine(I)Z -/
def C_Front_putLine (a0 : Nat) (x1 : Int32) (σ : am_SS) : (Bool × am_SS) :=
  if (σ a0 13) = (-1) then (
    if (-99) < x1 then (
      if x1 < 99 then (
        am_let (am_up σ a0 12 x1) (fun σ_4 =>
        (true, σ_4)))
      else (
        (false, σ)))
    else (
      (false, σ)))
  else (
    (false, σ))
/-- SlipperTruce$Front.mustGiveUp(I)Z -/
def C_Front_mustGiveUp_p28 (σ : am_SS) : Option Bool :=
  some true
def C_Front_mustGiveUp (a0 : Nat) (x1 : Int32) (σ : am_SS) : Option Bool :=
  if (C_Front_hasOfficer a0 x1 σ) = true then (
    (am_rd σ (a0 + 6) 12 x1).bind (fun t_3 =>
    if t_3 = 1 then (
      C_Front_mustGiveUp_p28  σ)
    else (
      (am_rd σ (a0 + 5) 12 x1).bind (fun t_5 =>
      if t_5 = 1 then (
        C_Front_mustGiveUp_p28  σ)
      else (
        some false)))))
  else (
    some false)
/-- SlipperTruce$Front.hasTen(I)Z -/
def C_Front_hasTen (a0 : Nat) (x1 : Int32) (σ : am_SS) : Option Bool :=
  if (C_Front_hasOfficer a0 x1 σ) = true then (
    (am_rd σ (a0 + 4) 12 x1).bind (fun t_3 =>
    if t_3 < 10 then (
      some false)
    else (
      some true)))
  else (
    some false)
/-- SlipperTruce$Front.draw(I)I -/
def C_Front_draw (a0 : Nat) (x1 : Int32) (σ : am_SS) : Option (Int32 × am_SS) :=
  am_let (am_up σ a0 15 (((σ a0 15) * 1664525) + 1013904223)) (fun σ_1 =>
  if x1 < 1 then (
    some (0, σ_1))
  else (
    if x1 = 0 then none else (
    some ((((((σ_1 a0 15)).toUInt32 >>> ((8 : Int32).toUInt32 &&& Int32.toUInt32 31)).toInt32) % x1), σ_1))))
/-- SlipperTruce$Front.value(III)I -/
def C_Front_value (a0 : Nat) (x1 : Int32) (x2 : Int32) (x3 : Int32) (σ : am_SS) : Option Int32 :=
  if (C_Front_hasOfficer a0 x2 σ) = true then (
    if x1 = 7 then (
      (am_rd σ (a0 + 2) 12 x2).bind (fun t_4 =>
      some t_4))
    else     if x1 = 8 then (
      (am_rd σ (a0 + 3) 12 x2).bind (fun t_6 =>
      some t_6))
    else     if x1 = 9 then (
      (am_rd σ (a0 + 4) 12 x2).bind (fun t_8 =>
      some t_8))
    else     if x1 = 10 then (
      (am_rd σ (a0 + 6) 12 x2).bind (fun t_10 =>
      some t_10))
    else     if x1 = 11 then (
      if (C_Front_hasBatman a0 x3 σ) = true then (
        (am_rd σ (a0 + 9) 12 x3).bind (fun t_14 =>
        some t_14))
      else (
        some 0))
    else     if x1 = 12 then (
      if (C_Front_hasBatman a0 x3 σ) = true then (
        (am_rd σ (a0 + 10) 12 x3).bind (fun t_18 =>
        some t_18))
      else (
        some 0))
    else     if x1 = 13 then (
      some (σ a0 12))
    else     if x1 = 14 then (
      (am_rd σ (a0 + 1) 12 x2).bind (fun t_21 =>
      some t_21))
    else     if x1 = 15 then (
      (am_rd σ (a0 + 7) 12 x2).bind (fun t_23 =>
      some t_23))
    else     if x1 = 16 then (
      some (σ a0 14))
    else (
    some 0))
  else (
    some 0)
/-- SlipperTruce$Front.total([I)I -/
def C_Front_total_l4 (F : Nat) : Nat → Nat → Nat → Int32 → Int32 → am_SS → Option Int32
  | 0, _, _, _, _, _ => none
  | n + 1, a0, a1, x2, x3, σ => (
  if x3 < (σ a0 0) then (
    if x3 < (Int32.ofNat (LC.2.1 a1)) then (
      (am_rd σ a1 (LC.2.1 a1) x3).bind (fun t_3 =>
      am_let (x2 + t_3) (fun x2_4 =>
      am_let (x3 + 1) (fun x3_5 =>
      (C_Front_total_l4 F n) a0 a1 x2_4 x3_5 σ))))
    else (
      some x2))
  else (
    some x2))
def C_Front_total (F : Nat) (a0 : Nat) (a1 : Nat) (σ : am_SS) : Option Int32 :=
  C_Front_total_l4 F F a0 a1 0 0 σ
/-- SlipperTruce$Front.whoIsRead()I -/
def C_Front_whoIsRead_l4 (F : Nat) : Nat → Nat → Int32 → Int32 → am_SS → Option Int32
  | 0, _, _, _, _ => none
  | n + 1, a0, x1, x2, σ => (
  if x2 < (σ a0 0) then (
    if x2 < 12 then (
      (am_rd σ (a0 + 5) 12 x2).bind (fun t_3 =>
      am_let (x1 ||| (t_3 <<< (x2 &&& 31))) (fun x1_4 =>
      am_let (x2 + 1) (fun x2_5 =>
      (C_Front_whoIsRead_l4 F n) a0 x1_4 x2_5 σ))))
    else (
      some x1))
  else (
    some x1))
def C_Front_whoIsRead (F : Nat) (a0 : Nat) (σ : am_SS) : Option Int32 :=
  C_Front_whoIsRead_l4 F F a0 0 0 σ
/-- SlipperTruce.copyRow([I[I)V -/
def C_copyRow_l2 (F : Nat) : Nat → Nat → Nat → Int32 → am_SS → Option am_SS
  | 0, _, _, _, _ => none
  | n + 1, a0, a1, x2, σ => (
  if x2 < (Int32.ofNat (LC.2.1 a0)) then (
    if x2 < (Int32.ofNat (LC.2.1 a1)) then (
      (am_rd σ a0 (LC.2.1 a0) x2).bind (fun t_3 =>
      (am_wr σ a1 (LC.2.1 a1) x2 t_3).bind (fun σ_4 =>
      am_let (x2 + 1) (fun x2_5 =>
      (C_copyRow_l2 F n) a0 a1 x2_5 σ_4))))
    else (
      some σ))
  else (
    some σ))
def C_copyRow (F : Nat) (a0 : Nat) (a1 : Nat) (σ : am_SS) : Option am_SS :=
  C_copyRow_l2 F F a0 a1 0 σ
/-- SlipperTruce$Front.copyFrom(LSlipperTruce$Front;)V -/
def C_Front_copyFrom (F : Nat) (a0 : Nat) (a1 : Nat) (σ : am_SS) : Option am_SS :=
  am_let (am_up σ a0 0 (σ a1 0)) (fun σ_1 =>
  (C_copyRow F (a1 + 1) (a0 + 1) σ_1).bind (fun q_2 =>
  (C_copyRow F (a1 + 2) (a0 + 2) q_2).bind (fun q_3 =>
  (C_copyRow F (a1 + 3) (a0 + 3) q_3).bind (fun q_4 =>
  (C_copyRow F (a1 + 4) (a0 + 4) q_4).bind (fun q_5 =>
  (C_copyRow F (a1 + 5) (a0 + 5) q_5).bind (fun q_6 =>
  (C_copyRow F (a1 + 6) (a0 + 6) q_6).bind (fun q_7 =>
  (C_copyRow F (a1 + 7) (a0 + 7) q_7).bind (fun q_8 =>
  am_let (am_up q_8 a0 8 (q_8 a1 8)) (fun σ_9 =>
  (C_copyRow F (a1 + 8) (a0 + 8) σ_9).bind (fun q_10 =>
  (C_copyRow F (a1 + 9) (a0 + 9) q_10).bind (fun q_11 =>
  (C_copyRow F (a1 + 10) (a0 + 10) q_11).bind (fun q_12 =>
  am_let (am_up q_12 a0 12 (q_12 a1 12)) (fun σ_13 =>
  am_let (am_up σ_13 a0 13 (σ_13 a1 13)) (fun σ_14 =>
  am_let (am_up σ_14 a0 14 (σ_14 a1 14)) (fun σ_15 =>
  am_let (am_up σ_15 a0 15 (σ_15 a1 15)) (fun σ_16 =>
  some σ_16))))))))))))))))
/-- SlipperTruce$Table.clear()I -/
def C_Table_clear (a0 : Nat) (σ : am_SS) : (Int32 × am_SS) :=
  am_let (am_up σ a0 2 0) (fun σ_1 =>
  (0, σ_1))
/-- SlipperTruce$Law.clear()V -/
def C_Law_clear (a0 : Nat) (σ : am_SS) : am_SS :=
  am_let (C_Table_clear (a0 + 1) σ) (fun q_1 =>
  am_let (C_Table_clear (a0 + 3) q_1.2) (fun q_2 =>
  q_2.2))
/-- SlipperTruce$Table.copyFrom(LSlipperTruce$Table;)V -/
def C_Table_copyFrom (F : Nat) (a0 : Nat) (a1 : Nat) (σ : am_SS) : Option am_SS :=
  am_let (am_up σ a0 2 (σ a1 2)) (fun σ_1 =>
  (C_copyRow F (a1 + 1) (a0 + 1) σ_1).bind (fun q_2 =>
  some q_2))
/-- SlipperTruce$Law.copyFrom(LSlipperTruce$Law;)V -/
def C_Law_copyFrom (F : Nat) (a0 : Nat) (a1 : Nat) (σ : am_SS) : Option am_SS :=
  (C_Table_copyFrom F (a0 + 1) (a1 + 1) σ).bind (fun q_1 =>
  (C_Table_copyFrom F (a0 + 3) (a1 + 3) q_1).bind (fun q_2 =>
  some q_2))
/-- SlipperTruce$Table.at(II)I -/
def C_Table_at (a0 : Nat) (x1 : Int32) (x2 : Int32) (σ : am_SS) : Option Int32 :=
  if x1 < 0 then (
    some (-1))
  else (
    if x1 < (σ a0 2) then (
      if x2 < 0 then (
        some (-1))
      else (
        if x2 < (σ a0 0) then (
          am_let ((x1 * (σ a0 0)) + x2) (fun x3_5 =>
          if x3_5 < (Int32.ofNat (LC.2.1 (a0 + 1))) then (
            (am_rd σ (a0 + 1) (LC.2.1 (a0 + 1)) x3_5).bind (fun t_7 =>
            some t_7))
          else (
            some (-1))))
        else (
          some (-1))))
    else (
      some (-1)))
/-- SlipperTruce$Law.joined(III)I -/
def C_Law_joined (x0 : Int32) (x1 : Int32) (x2 : Int32) : Int32 :=
  if x0 = 5 then (
    (x1 &&& x2))
  else   if x0 = 42 then (
    (x1 * x2))
  else   if x0 = 43 then (
    (x1 + x2))
  else   if x0 = 45 then (
    (x1 - x2))
  else   if x0 = 60 then (
    if x1 < x2 then (
      1)
    else (
      0))
  else   if x0 = 61 then (
    if x1 = x2 then (
      1)
    else (
      0))
  else   if x0 = 62 then (
    if x2 < x1 then (
      1)
    else (
      0))
  else (
  (x1 ||| x2))
/-- SlipperTruce$Law.quotient(II)I -/
def C_Law_quotient (x0 : Int32) (x1 : Int32) : Option Int32 :=
  if x1 = 0 then (
    some 0)
  else (
    if x1 = 0 then none else (
    some (x0 / x1)))
/-- SlipperTruce$Law.run(LSlipperTruce$Front;IIII)I -/
def C_Law_run_p220 (rec7 : Nat → Nat → Int32 → Int32 → Int32 → Int32 → Int32 → am_SS → Option (Int32 × am_SS)) (F : Nat) (a0 : Nat) (a1 : Nat) (x2 : Int32) (x3 : Int32) (x5 : Int32) (x6 : Int32) (x7 : Int32) (σ : am_SS) : Option (Int32 × am_SS) :=
  am_let (x7 + 1) (fun x7_1 =>
  rec7 a0 a1 x2 x3 x5 x6 x7_1 σ)
def C_Law_run_p94 (rec7 : Nat → Nat → Int32 → Int32 → Int32 → Int32 → Int32 → am_SS → Option (Int32 × am_SS)) (F : Nat) (a0 : Nat) (a1 : Nat) (x2 : Int32) (x3 : Int32) (x5 : Int32) (x6 : Int32) (x7 : Int32) (t0 : Nat) (s1 : Int32) (s2 : Int32) (σ : am_SS) : Option (Int32 × am_SS) :=
  (am_wr σ t0 (LC.2.1 t0) s1 s2).bind (fun σ_1 =>
  am_let (x6 + 1) (fun x6_2 =>
  C_Law_run_p220 rec7 F a0 a1 x2 x3 x5 x6_2 x7 σ_1))
def C_Law_run_p60 (rec7 : Nat → Nat → Int32 → Int32 → Int32 → Int32 → Int32 → am_SS → Option (Int32 × am_SS)) (F : Nat) (a0 : Nat) (a1 : Nat) (x2 : Int32) (x3 : Int32) (x5 : Int32) (x6 : Int32) (x7 : Int32) (x8 : Int32) (x9 : Int32) (σ : am_SS) : Option (Int32 × am_SS) :=
  if x6 < 64 then (
    if x8 = 1000 then (
      C_Law_run_p94 rec7 F a0 a1 x2 x3 x5 x6 x7 (a0 + 5) x6 x9 σ)
    else (
      (C_Front_value a1 x8 x2 x3 σ).bind (fun q_3 =>
      C_Law_run_p94 rec7 F a0 a1 x2 x3 x5 x6 x7 (a0 + 5) x6 q_3 σ)))
  else (
    C_Law_run_p220 rec7 F a0 a1 x2 x3 x5 x6 x7 σ)
def C_Law_run_p170 (rec7 : Nat → Nat → Int32 → Int32 → Int32 → Int32 → Int32 → am_SS → Option (Int32 × am_SS)) (F : Nat) (a0 : Nat) (a1 : Nat) (x2 : Int32) (x3 : Int32) (x5 : Int32) (x6 : Int32) (x7 : Int32) (t0 : Nat) (s1 : Int32) (s2 : Int32) (σ : am_SS) : Option (Int32 × am_SS) :=
  (am_wr σ t0 (LC.2.1 t0) s1 s2).bind (fun σ_1 =>
  C_Law_run_p220 rec7 F a0 a1 x2 x3 x5 x6 x7 σ_1)
def C_Law_run_p115 (rec7 : Nat → Nat → Int32 → Int32 → Int32 → Int32 → Int32 → am_SS → Option (Int32 × am_SS)) (F : Nat) (a0 : Nat) (a1 : Nat) (x2 : Int32) (x3 : Int32) (x5 : Int32) (x6 : Int32) (x7 : Int32) (x8 : Int32) (x9 : Int32) (σ : am_SS) : Option (Int32 × am_SS) :=
  if 0 < x6 then (
    if 64 < x6 then (
      C_Law_run_p220 rec7 F a0 a1 x2 x3 x5 x6 x7 σ)
    else (
      if x8 = 6 then (
        (am_rd σ (a0 + 5) 64 (x6 - 1)).bind (fun t_6 =>
        C_Law_run_p170 rec7 F a0 a1 x2 x3 x5 x6 x7 (a0 + 5) (x6 - 1) (1 - t_6) σ))
      else (
        (am_rd σ (a0 + 5) 64 (x6 - 1)).bind (fun t_4 =>
        (C_Law_quotient t_4 x9).bind (fun q_5 =>
        C_Law_run_p170 rec7 F a0 a1 x2 x3 x5 x6 x7 (a0 + 5) (x6 - 1) q_5 σ)))))
  else (
    C_Law_run_p220 rec7 F a0 a1 x2 x3 x5 x6 x7 σ)
def C_Law_run_p101 (rec7 : Nat → Nat → Int32 → Int32 → Int32 → Int32 → Int32 → am_SS → Option (Int32 × am_SS)) (F : Nat) (a0 : Nat) (a1 : Nat) (x2 : Int32) (x3 : Int32) (x5 : Int32) (x6 : Int32) (x7 : Int32) (x8 : Int32) (x9 : Int32) (σ : am_SS) : Option (Int32 × am_SS) :=
  if x8 = 6 then (
    C_Law_run_p115 rec7 F a0 a1 x2 x3 x5 x6 x7 x8 x9 σ)
  else (
    if x8 = 47 then (
      C_Law_run_p115 rec7 F a0 a1 x2 x3 x5 x6 x7 x8 x9 σ)
    else (
      if 1 < x6 then (
        if 64 < x6 then (
          C_Law_run_p220 rec7 F a0 a1 x2 x3 x5 x6 x7 σ)
        else (
          am_let (x6 + (-1)) (fun x6_5 =>
          (am_rd σ (a0 + 5) 64 (x6_5 - 1)).bind (fun t_6 =>
          (am_rd σ (a0 + 5) 64 x6_5).bind (fun t_7 =>
          (am_wr σ (a0 + 5) 64 (x6_5 - 1) (C_Law_joined x8 t_6 t_7)).bind (fun σ_9 =>
          C_Law_run_p220 rec7 F a0 a1 x2 x3 x5 x6_5 x7 σ_9))))))
      else (
        C_Law_run_p220 rec7 F a0 a1 x2 x3 x5 x6 x7 σ)))
def C_Law_run_l7 (F : Nat) : Nat → Nat → Nat → Int32 → Int32 → Int32 → Int32 → Int32 → am_SS → Option (Int32 × am_SS)
  | 0, _, _, _, _, _, _, _, _ => none
  | n + 1, a0, a1, x2, x3, x5, x6, x7, σ => (
  if x7 < x5 then (
    (C_Table_at (a0 + 3) x7 0 σ).bind (fun q_4 =>
    (C_Table_at (a0 + 3) x7 1 σ).bind (fun q_5 =>
    if q_4 = 1000 then (
      C_Law_run_p60 (C_Law_run_l7 F n) F a0 a1 x2 x3 x5 x6 x7 q_4 q_5 σ)
    else (
      if q_4 < 7 then (
        C_Law_run_p101 (C_Law_run_l7 F n) F a0 a1 x2 x3 x5 x6 x7 q_4 q_5 σ)
      else (
        if 16 < q_4 then (
          C_Law_run_p101 (C_Law_run_l7 F n) F a0 a1 x2 x3 x5 x6 x7 q_4 q_5 σ)
        else (
          C_Law_run_p60 (C_Law_run_l7 F n) F a0 a1 x2 x3 x5 x6 x7 q_4 q_5 σ))))))
  else (
    if 0 < x6 then (
      (am_rd σ (a0 + 5) 64 0).bind (fun t_3 =>
      some (t_3, σ)))
    else (
      some (0, σ))))
def C_Law_run (F : Nat) (a0 : Nat) (a1 : Nat) (x2 : Int32) (x3 : Int32) (x4 : Int32) (x5 : Int32) (σ : am_SS) : Option (Int32 × am_SS) :=
  C_Law_run_l7 F F a0 a1 x2 x3 x5 0 x4 σ
/-- SlipperTruce$Law.held(II)I -/
def C_Law_held_p22 (x1 : Int32) (s0 : Int32) : Int32 :=
  (J_max 0 (J_min s0 x1))
def C_Law_held (x0 : Int32) (x1 : Int32) : Int32 :=
  if x0 = 0 then (
    C_Law_held_p22 x1 20)
  else (
    if x0 = 1 then (
      C_Law_held_p22 x1 99)
    else (
      C_Law_held_p22 x1 1000))
/-- SlipperTruce$Law.untold(LSlipperTruce$Front;III)I -/
def C_Law_untold (a0 : Nat) (x1 : Int32) (x2 : Int32) (x3 : Int32) (σ : am_SS) : Option Int32 :=
  (C_Front_value a0 11 x1 x2 σ).bind (fun q_1 =>
  if x3 = 0 then (
    (C_Front_value a0 7 x1 x2 σ).bind (fun q_3 =>
    some q_3))
  else   if x3 = 1 then (
    some (10 + (5 * q_1)))
  else (
  (C_Front_value a0 12 x1 x2 σ).bind (fun q_5 =>
  some ((40 * q_1) + q_5))))
/-- SlipperTruce$Law.tells(LSlipperTruce$Front;III)I -/
def C_Law_tells_p104 (rec3 : Nat → Nat → Int32 → Int32 → Int32 → Int32 → am_SS → Option (Int32 × am_SS)) (F : Nat) (a0 : Nat) (a1 : Nat) (x2 : Int32) (x3 : Int32) (x4 : Int32) (x5 : Int32) (σ : am_SS) : Option (Int32 × am_SS) :=
  am_let (x5 + 1) (fun x5_1 =>
  rec3 a0 a1 x2 x3 x4 x5_1 σ)
def C_Law_tells_p87 (F : Nat) (a0 : Nat) (a1 : Nat) (x2 : Int32) (x3 : Int32) (x4 : Int32) (x6 : Int32) (x7 : Int32) (σ : am_SS) : Option (Int32 × am_SS) :=
  (C_Law_run F a0 a1 x2 x3 x6 x7 σ).bind (fun q_1 =>
  some ((C_Law_held x4 q_1.1), q_1.2))
def C_Law_tells_l3 (F : Nat) : Nat → Nat → Nat → Int32 → Int32 → Int32 → Int32 → am_SS → Option (Int32 × am_SS)
  | 0, _, _, _, _, _, _, _ => none
  | n + 1, a0, a1, x2, x3, x4, x5, σ => (
  if x5 < (σ (a0 + 1) 2) then (
    (C_Table_at (a0 + 1) x5 1 σ).bind (fun q_4 =>
    (C_Table_at (a0 + 1) x5 2 σ).bind (fun q_5 =>
    (C_Table_at (a0 + 1) x5 3 σ).bind (fun q_6 =>
    (C_Table_at (a0 + 1) x5 0 σ).bind (fun q_7 =>
    if q_7 = x4 then (
      if q_5 = q_6 then (
        C_Law_tells_p87 F a0 a1 x2 x3 x4 q_4 q_5 σ)
      else (
        (C_Law_run F a0 a1 x2 x3 q_5 q_6 σ).bind (fun q_10 =>
        if q_10.1 = 0 then (
          C_Law_tells_p104 (C_Law_tells_l3 F n) F a0 a1 x2 x3 x4 x5 q_10.2)
        else (
          C_Law_tells_p87 F a0 a1 x2 x3 x4 q_4 q_5 q_10.2))))
    else (
      C_Law_tells_p104 (C_Law_tells_l3 F n) F a0 a1 x2 x3 x4 x5 σ))))))
  else (
    (C_Law_untold a1 x2 x3 x4 σ).bind (fun q_2 =>
    some ((C_Law_held x4 q_2), σ))))
def C_Law_tells (F : Nat) (a0 : Nat) (a1 : Nat) (x2 : Int32) (x3 : Int32) (x4 : Int32) (σ : am_SS) : Option (Int32 × am_SS) :=
  C_Law_tells_l3 F F a0 a1 x2 x3 x4 0 σ
/-- SlipperTruce$Nights.word(I)I -/
def C_Nights_word (x0 : Int32) : Int32 :=
  ((((((x0 / 216) % 6) * 1000) + (((x0 / 36) % 6) * 100)) + (((x0 / 6) % 6) * 10)) + (x0 % 6))
/-- SlipperTruce$Nights.isWord(I)Z -/
def C_Nights_isWord (x0 : Int32) : Bool :=
  if x0 < 0 then (
    false)
  else (
    if 5555 < x0 then (
      false)
    else (
      if (x0 % 10) < 6 then (
        if ((x0 / 10) % 10) < 6 then (
          if ((x0 / 100) % 10) < 6 then (
            true)
          else (
            false))
        else (
          false))
      else (
        false)))
/-- SlipperTruce$Nights.right(II)I -/
def C_Nights_right_p32 (rec4 : Int32 → Int32 → Int32 → Int32 → Option Int32) (F : Nat) (x0 : Int32) (x1 : Int32) (x3 : Int32) (s0 : Int32) (s1 : Bool) : Option Int32 :=
  am_let (s0 + (am_bI s1)) (fun x2_1 =>
  am_let (x3 * 10) (fun x3_2 =>
  rec4 x0 x1 x2_1 x3_2))
def C_Nights_right_l4 (F : Nat) : Nat → Int32 → Int32 → Int32 → Int32 → Option Int32
  | 0, _, _, _, _ => none
  | n + 1, x0, x1, x2, x3 => (
  if 1000 < x3 then (
    some x2)
  else (
    if x3 = 0 then none else (
    if x3 = 0 then none else (
    if ((x0 / x3) % 10) = ((x1 / x3) % 10) then (
      C_Nights_right_p32 (C_Nights_right_l4 F n) F x0 x1 x3 x2 true)
    else (
      C_Nights_right_p32 (C_Nights_right_l4 F n) F x0 x1 x3 x2 false)))))
def C_Nights_right (F : Nat) (x0 : Int32) (x1 : Int32) : Option Int32 :=
  C_Nights_right_l4 F F x0 x1 0 1
/-- SlipperTruce$Nights.times(II)I -/
def C_Nights_times_p27 (rec4 : Int32 → Int32 → Int32 → Int32 → Option Int32) (F : Nat) (x0 : Int32) (x1 : Int32) (x3 : Int32) (s0 : Int32) (s1 : Bool) : Option Int32 :=
  am_let (s0 + (am_bI s1)) (fun x2_1 =>
  am_let (x3 * 10) (fun x3_2 =>
  rec4 x0 x1 x2_1 x3_2))
def C_Nights_times_l4 (F : Nat) : Nat → Int32 → Int32 → Int32 → Int32 → Option Int32
  | 0, _, _, _, _ => none
  | n + 1, x0, x1, x2, x3 => (
  if 1000 < x3 then (
    some x2)
  else (
    if x3 = 0 then none else (
    if ((x1 / x3) % 10) = x0 then (
      C_Nights_times_p27 (C_Nights_times_l4 F n) F x0 x1 x3 x2 true)
    else (
      C_Nights_times_p27 (C_Nights_times_l4 F n) F x0 x1 x3 x2 false))))
def C_Nights_times (F : Nat) (x0 : Int32) (x1 : Int32) : Option Int32 :=
  C_Nights_times_l4 F F x0 x1 0 1
/-- SlipperTruce$Nights.common(II)I -/
def C_Nights_common_l4 (F : Nat) : Nat → Int32 → Int32 → Int32 → Int32 → Option Int32
  | 0, _, _, _, _ => none
  | n + 1, x0, x1, x2, x3 => (
  if x3 < 6 then (
    (C_Nights_times F x3 x0).bind (fun q_2 =>
    (C_Nights_times F x3 x1).bind (fun q_3 =>
    am_let (x2 + (J_min q_2 q_3)) (fun x2_5 =>
    am_let (x3 + 1) (fun x3_6 =>
    (C_Nights_common_l4 F n) x0 x1 x2_5 x3_6)))))
  else (
    some x2))
def C_Nights_common (F : Nat) (x0 : Int32) (x1 : Int32) : Option Int32 :=
  C_Nights_common_l4 F F x0 x1 0 0
/-- SlipperTruce$Nights.fits(LSlipperTruce$Table;I)Z -/
def C_Nights_fits_l2 (F : Nat) : Nat → Nat → Int32 → Int32 → am_SS → Option Bool
  | 0, _, _, _, _ => none
  | n + 1, a0, x1, x2, σ => (
  if x2 < (σ a0 2) then (
    (C_Table_at a0 x2 0 σ).bind (fun q_2 =>
    (C_Nights_right F q_2 x1).bind (fun q_3 =>
    (C_Table_at a0 x2 1 σ).bind (fun q_4 =>
    if q_3 = q_4 then (
      (C_Nights_common F q_2 x1).bind (fun q_6 =>
      (C_Table_at a0 x2 2 σ).bind (fun q_7 =>
      if (q_6 - q_3) = q_7 then (
        am_let (x2 + 1) (fun x2_9 =>
        (C_Nights_fits_l2 F n) a0 x1 x2_9 σ))
      else (
        some false))))
    else (
      some false)))))
  else (
    some true))
def C_Nights_fits (F : Nat) (a0 : Nat) (x1 : Int32) (σ : am_SS) : Option Bool :=
  C_Nights_fits_l2 F F a0 x1 0 σ
/-- SlipperTruce$Nights.rail(II)I -/
def C_Nights_rail (x0 : Int32) (x1 : Int32) : Option Int32 :=
  am_let (2 * (x1 - 1)) (fun x2_1 =>
  if x2_1 < 1 then (
    some 0)
  else (
    if x2_1 = 0 then none else (
    am_let (x0 % x2_1) (fun x3_4 =>
    if x3_4 < x1 then (
      some x3_4)
    else (
      some (x2_1 - x3_4))))))
/-- SlipperTruce$Nights.byRails(III)I -/
def C_Nights_byRails_p42 (rec5 : Int32 → Int32 → Int32 → Int32 → Int32 → Option Int32) (rec14 : Int32 → Int32 → Int32 → Int32 → Int32 → Int32 → Option Int32) (F : Nat) (x0 : Int32) (x1 : Int32) (x2 : Int32) (x3 : Int32) (x4 : Int32) (x5 : Int32) : Option Int32 :=
  am_let (x5 + 1) (fun x5_1 =>
  rec14 x0 x1 x2 x3 x4 x5_1)
def C_Nights_byRails_l14 (rec5 : Int32 → Int32 → Int32 → Int32 → Int32 → Option Int32) (F : Nat) : Nat → Int32 → Int32 → Int32 → Int32 → Int32 → Int32 → Option Int32
  | 0, _, _, _, _, _, _ => none
  | n + 1, x0, x1, x2, x3, x4, x5 => (
  if x5 < x0 then (
    (C_Nights_rail x5 x1).bind (fun q_3 =>
    if q_3 = x4 then (
      if x3 = x2 then (
        some x5)
      else (
        am_let (x3 + 1) (fun x3_6 =>
        C_Nights_byRails_p42 rec5 (C_Nights_byRails_l14 rec5 F n) F x0 x1 x2 x3_6 x4 x5)))
    else (
      C_Nights_byRails_p42 rec5 (C_Nights_byRails_l14 rec5 F n) F x0 x1 x2 x3 x4 x5)))
  else (
    am_let (x4 + 1) (fun x4_2 =>
    rec5 x0 x1 x2 x3 x4_2)))
def C_Nights_byRails_l5 (F : Nat) : Nat → Int32 → Int32 → Int32 → Int32 → Int32 → Option Int32
  | 0, _, _, _, _, _ => none
  | n + 1, x0, x1, x2, x3, x4 => (
  if x4 < x1 then (
    C_Nights_byRails_l14 (C_Nights_byRails_l5 F n) F F x0 x1 x2 x3 x4 0)
  else (
    some (-1)))
def C_Nights_byRails (F : Nat) (x0 : Int32) (x1 : Int32) (x2 : Int32) : Option Int32 :=
  C_Nights_byRails_l5 F F x0 x1 x2 0 0
/-- SlipperTruce$Nights.readsAlike(LSlipperTruce$Table;II)Z -/
def C_Nights_readsAlike_l2 (F : Nat) : Nat → Nat → Int32 → Int32 → Int32 → am_SS → Option Bool
  | 0, _, _, _, _, _ => none
  | n + 1, a0, x1, x2, x3, σ => (
  if (x1 + x3) < (x2 - x3) then (
    (C_Table_at a0 (x1 + x3) 0 σ).bind (fun q_2 =>
    (C_Table_at a0 (x2 - x3) 0 σ).bind (fun q_3 =>
    if q_2 = q_3 then (
      am_let (x3 + 1) (fun x3_5 =>
      (C_Nights_readsAlike_l2 F n) a0 x1 x2 x3_5 σ))
    else (
      some false))))
  else (
    some true))
def C_Nights_readsAlike (F : Nat) (a0 : Nat) (x1 : Int32) (x2 : Int32) (σ : am_SS) : Option Bool :=
  C_Nights_readsAlike_l2 F F a0 x1 x2 0 σ
/-- SlipperTruce$Nights.firstAlike(LSlipperTruce$Table;I)I -/
def C_Nights_firstAlike_l2 (F : Nat) : Nat → Nat → Int32 → Int32 → am_SS → Option Int32
  | 0, _, _, _, _ => none
  | n + 1, a0, x1, x2, σ => (
  if 0 < x1 then (
    if (σ a0 2) < (x2 + x1) then (
      some (-1))
    else (
      (C_Nights_readsAlike F a0 x2 ((x2 + x1) - 1) σ).bind (fun q_3 =>
      if q_3 = true then (
        some x2)
      else (
        am_let (x2 + 1) (fun x2_5 =>
        (C_Nights_firstAlike_l2 F n) a0 x1 x2_5 σ)))))
  else (
    some (-1)))
def C_Nights_firstAlike (F : Nat) (a0 : Nat) (x1 : Int32) (σ : am_SS) : Option Int32 :=
  C_Nights_firstAlike_l2 F F a0 x1 0 σ
/-- SlipperTruce$Nights.longestAlike(LSlipperTruce$Table;)I -/
def C_Nights_longestAlike_l5 (F : Nat) : Nat → Nat → Int32 → am_SS → Option Int32
  | 0, _, _, _ => none
  | n + 1, a0, x1, σ => (
  if 0 < x1 then (
    (C_Nights_firstAlike F a0 x1 σ).bind (fun q_2 =>
    if q_2 = (-1) then (
      am_let (x1 + (-1)) (fun x1_4 =>
      (C_Nights_longestAlike_l5 F n) a0 x1_4 σ))
    else (
      some x1)))
  else (
    some 0))
def C_Nights_longestAlike (F : Nat) (a0 : Nat) (σ : am_SS) : Option Int32 :=
  am_let (σ a0 2) (fun x1_1 =>
  C_Nights_longestAlike_l5 F F a0 x1_1 σ)
/-- SlipperTruce$Table.has(II)Z -/
def C_Table_has_p32 (rec2 : Nat → Int32 → Int32 → Int32 → am_SS → Option Bool) (F : Nat) (a0 : Nat) (x1 : Int32) (x2 : Int32) (x3 : Int32) (σ : am_SS) : Option Bool :=
  am_let (x3 + 1) (fun x3_1 =>
  rec2 a0 x1 x2 x3_1 σ)
def C_Table_has_l2 (F : Nat) : Nat → Nat → Int32 → Int32 → Int32 → am_SS → Option Bool
  | 0, _, _, _, _, _ => none
  | n + 1, a0, x1, x2, x3, σ => (
  if x3 < (σ a0 2) then (
    (C_Table_at a0 x3 0 σ).bind (fun q_2 =>
    if q_2 = x1 then (
      (C_Table_at a0 x3 1 σ).bind (fun q_4 =>
      if q_4 = x2 then (
        some true)
      else (
        C_Table_has_p32 (C_Table_has_l2 F n) F a0 x1 x2 x3 σ)))
    else (
      C_Table_has_p32 (C_Table_has_l2 F n) F a0 x1 x2 x3 σ)))
  else (
    some false))
def C_Table_has (F : Nat) (a0 : Nat) (x1 : Int32) (x2 : Int32) (σ : am_SS) : Option Bool :=
  C_Table_has_l2 F F a0 x1 x2 0 σ
/-- SlipperTruce$Nights.toldOn(LSlipperTruce$Table;II)I -/
def C_Nights_toldOn_p28 (rec5 : Nat → Int32 → Int32 → Int32 → Int32 → am_SS → Option Int32) (F : Nat) (a0 : Nat) (x1 : Int32) (x2 : Int32) (x3 : Int32) (x4 : Int32) (σ : am_SS) : Option Int32 :=
  am_let (x4 + 1) (fun x4_1 =>
  rec5 a0 x1 x2 x3 x4_1 σ)
def C_Nights_toldOn_l5 (F : Nat) : Nat → Nat → Int32 → Int32 → Int32 → Int32 → am_SS → Option Int32
  | 0, _, _, _, _, _, _ => none
  | n + 1, a0, x1, x2, x3, x4, σ => (
  if x4 < x1 then (
    (C_Table_has F a0 x2 x4 σ).bind (fun q_2 =>
    if q_2 = true then (
      am_let (x3 ||| (1 <<< (x4 &&& 31))) (fun x3_4 =>
      C_Nights_toldOn_p28 (C_Nights_toldOn_l5 F n) F a0 x1 x2 x3_4 x4 σ))
    else (
      C_Nights_toldOn_p28 (C_Nights_toldOn_l5 F n) F a0 x1 x2 x3 x4 σ)))
  else (
    some x3))
def C_Nights_toldOn (F : Nat) (a0 : Nat) (x1 : Int32) (x2 : Int32) (σ : am_SS) : Option Int32 :=
  C_Nights_toldOn_l5 F F a0 x1 x2 0 0 σ
/-- SlipperTruce$Nights.stand(LSlipperTruce$Table;IIIII)I -/
def C_Nights_stand_o_p132 (R_stand : Nat → Int32 → Int32 → Int32 → Int32 → Int32 → am_SS → Option Int32) (rec27 : Nat → Int32 → Int32 → Int32 → Int32 → Int32 → Int32 → Int32 → Int32 → am_SS → Option Int32) (F : Nat) (a0 : Nat) (x1 : Int32) (x2 : Int32) (x3 : Int32) (x4 : Int32) (x5 : Int32) (x6 : Int32) (x7 : Int32) (x8 : Int32) (σ : am_SS) : Option Int32 :=
  am_let (x8 + 1) (fun x8_1 =>
  rec27 a0 x1 x2 x3 x4 x5 x6 x7 x8_1 σ)
def C_Nights_stand_o_p105 (R_stand : Nat → Int32 → Int32 → Int32 → Int32 → Int32 → am_SS → Option Int32) (rec27 : Nat → Int32 → Int32 → Int32 → Int32 → Int32 → Int32 → Int32 → Int32 → am_SS → Option Int32) (F : Nat) (a0 : Nat) (x1 : Int32) (x2 : Int32) (x3 : Int32) (x4 : Int32) (x5 : Int32) (x6 : Int32) (x7 : Int32) (x8 : Int32) (x9 : Int32) (x10 : Int32) (x11 : Int32) (σ : am_SS) : Option Int32 :=
  (R_stand a0 x1 (x2 + 1) (x3 ||| x9) (x4 ||| x10) (x5 ||| x11) σ).bind (fun q_1 =>
  am_let (x7 + q_1) (fun x7_2 =>
  C_Nights_stand_o_p132 R_stand rec27 F a0 x1 x2 x3 x4 x5 x6 x7_2 x8 σ))
def C_Nights_stand_o_p86 (R_stand : Nat → Int32 → Int32 → Int32 → Int32 → Int32 → am_SS → Option Int32) (rec27 : Nat → Int32 → Int32 → Int32 → Int32 → Int32 → Int32 → Int32 → Int32 → am_SS → Option Int32) (F : Nat) (a0 : Nat) (x1 : Int32) (x2 : Int32) (x3 : Int32) (x4 : Int32) (x5 : Int32) (x6 : Int32) (x7 : Int32) (x8 : Int32) (x9 : Int32) (x10 : Int32) (x11 : Int32) (s0 : Bool) (σ : am_SS) : Option Int32 :=
  if s0 = true then (
    if x6 = 0 then (
      C_Nights_stand_o_p105 R_stand rec27 F a0 x1 x2 x3 x4 x5 x6 x7 x8 x9 x10 x11 σ)
    else (
      if x6 = x9 then (
        C_Nights_stand_o_p105 R_stand rec27 F a0 x1 x2 x3 x4 x5 x6 x7 x8 x9 x10 x11 σ)
      else (
        C_Nights_stand_o_p132 R_stand rec27 F a0 x1 x2 x3 x4 x5 x6 x7 x8 σ)))
  else (
    C_Nights_stand_o_p132 R_stand rec27 F a0 x1 x2 x3 x4 x5 x6 x7 x8 σ)
def C_Nights_stand_o_p85 (R_stand : Nat → Int32 → Int32 → Int32 → Int32 → Int32 → am_SS → Option Int32) (rec27 : Nat → Int32 → Int32 → Int32 → Int32 → Int32 → Int32 → Int32 → Int32 → am_SS → Option Int32) (F : Nat) (a0 : Nat) (x1 : Int32) (x2 : Int32) (x3 : Int32) (x4 : Int32) (x5 : Int32) (x6 : Int32) (x7 : Int32) (x8 : Int32) (x9 : Int32) (x10 : Int32) (x11 : Int32) (σ : am_SS) : Option Int32 :=
  C_Nights_stand_o_p86 R_stand rec27 F a0 x1 x2 x3 x4 x5 x6 x7 x8 x9 x10 x11 false σ
def C_Nights_stand_o_l27 (R_stand : Nat → Int32 → Int32 → Int32 → Int32 → Int32 → am_SS → Option Int32) (F : Nat) : Nat → Nat → Int32 → Int32 → Int32 → Int32 → Int32 → Int32 → Int32 → Int32 → am_SS → Option Int32
  | 0, _, _, _, _, _, _, _, _, _, _ => none
  | n + 1, a0, x1, x2, x3, x4, x5, x6, x7, x8, σ => (
  if x8 < x1 then (
    am_let (1 <<< (x8 &&& 31)) (fun x9_2 =>
    am_let (1 <<< ((x2 + x8) &&& 31)) (fun x10_3 =>
    am_let (1 <<< (((x2 - x8) + 7) &&& 31)) (fun x11_4 =>
    if (x3 &&& x9_2) = 0 then (
      if (x4 &&& x10_3) = 0 then (
        if (x5 &&& x11_4) = 0 then (
          C_Nights_stand_o_p86 R_stand (C_Nights_stand_o_l27 R_stand F n) F a0 x1 x2 x3 x4 x5 x6 x7 x8 x9_2 x10_3 x11_4 true σ)
        else (
          C_Nights_stand_o_p85 R_stand (C_Nights_stand_o_l27 R_stand F n) F a0 x1 x2 x3 x4 x5 x6 x7 x8 x9_2 x10_3 x11_4 σ))
      else (
        C_Nights_stand_o_p85 R_stand (C_Nights_stand_o_l27 R_stand F n) F a0 x1 x2 x3 x4 x5 x6 x7 x8 x9_2 x10_3 x11_4 σ))
    else (
      C_Nights_stand_o_p85 R_stand (C_Nights_stand_o_l27 R_stand F n) F a0 x1 x2 x3 x4 x5 x6 x7 x8 x9_2 x10_3 x11_4 σ)))))
  else (
    some x7))
def C_Nights_stand_o (R_stand : Nat → Int32 → Int32 → Int32 → Int32 → Int32 → am_SS → Option Int32) (F : Nat) (a0 : Nat) (x1 : Int32) (x2 : Int32) (x3 : Int32) (x4 : Int32) (x5 : Int32) (σ : am_SS) : Option Int32 :=
  if x2 < x1 then (
    if 7 < x2 then (
      some 1)
    else (
      (C_Nights_toldOn F a0 x1 x2 σ).bind (fun q_3 =>
      C_Nights_stand_o_l27 R_stand F F a0 x1 x2 x3 x4 x5 q_3 0 0 σ)))
  else (
    some 1)
def C_Nights_stand_n (F : Nat) : Nat → Nat → Int32 → Int32 → Int32 → Int32 → Int32 → am_SS → Option Int32
  | 0, _, _, _, _, _, _, _ => none
  | n + 1, a0, x1, x2, x3, x4, x5, σ => C_Nights_stand_o (C_Nights_stand_n F n) F a0 x1 x2 x3 x4 x5 σ
def C_Nights_stand (F : Nat) (a0 : Nat) (x1 : Int32) (x2 : Int32) (x3 : Int32) (x4 : Int32) (x5 : Int32) (σ : am_SS) : Option Int32 := C_Nights_stand_n F 10 a0 x1 x2 x3 x4 x5 σ
/-- SlipperTruce$Past.keep(LSlipperTruce$Front;I)V -/
def C_Past_keep_p47 (F : Nat) (a0 : Nat) (x2 : Int32) (σ : am_SS) : Option am_SS :=
  (am_wr σ (a0 + 2) 6 (σ a0 2) x2).bind (fun σ_1 =>
  some σ_1)
def C_Past_keep (F : Nat) (a0 : Nat) (a1 : Nat) (x2 : Int32) (σ : am_SS) : Option am_SS :=
  am_let (am_up σ a0 2 (((σ a0 2) + 1) % 6)) (fun σ_1 =>
  am_let (am_up σ_1 a0 3 (J_min 6 ((σ_1 a0 3) + 1))) (fun σ_3 =>
  if (σ_3 a0 2) < 0 ∨ 6 ≤ (σ_3 a0 2).toNatClampNeg then none else (
  (C_Front_copyFrom F (a0 + 1 + 2 + 11 * (σ_3 a0 2).toNatClampNeg) a1 σ_3).bind (fun q_5 =>
  C_Past_keep_p47 F a0 x2 q_5))))
/-- SlipperTruce$Table.keepFirst(I)V -/
def C_Table_keepFirst (a0 : Nat) (x1 : Int32) (σ : am_SS) : am_SS :=
  am_let (am_up σ a0 2 (J_max 0 (J_min (σ a0 2) x1))) (fun σ_3 =>
  σ_3)
/-- SlipperTruce$Past.goBack(LSlipperTruce$War;)Z -/
def C_Past_goBack (F : Nat) (a0 : Nat) (a1 : Nat) (σ : am_SS) : Option (Bool × am_SS) :=
  if (σ a0 2) < 0 ∨ 6 ≤ (σ a0 2).toNatClampNeg then none else (
  if (σ a0 3) = 0 then (
    some (false, σ))
  else (
    (C_Front_copyFrom F (a1 + 1) (a0 + 1 + 2 + 11 * (σ a0 2).toNatClampNeg) σ).bind (fun q_3 =>
    (am_rd q_3 (a0 + 2) 6 (q_3 a0 2)).bind (fun t_4 =>
    am_let (C_Table_keepFirst (a1 + 12) t_4 q_3) (fun q_5 =>
    am_let (am_up q_5 a0 2 ((((q_5 a0 2) + 6) - 1) % 6)) (fun σ_6 =>
    am_let (am_up σ_6 a0 3 ((σ_6 a0 3) - 1)) (fun σ_7 =>
    some (true, σ_7))))))))
/-- SlipperTruce$Past.forget()V -/
def C_Past_forget (a0 : Nat) (σ : am_SS) : am_SS :=
  am_let (am_up σ a0 3 0) (fun σ_1 =>
  σ_1)
/-- SlipperTruce$Reader.put(I)V -/
def C_Reader_put_l3 (F : Nat) : Nat → Nat → Int32 → Int32 → am_SS → Option am_SS
  | 0, _, _, _, _ => none
  | n + 1, a0, x1, x2, σ => (
  if x2 < 0 then (
    some σ)
  else (
    if (σ a0 1) < 400 then (
      (am_wr σ (a0 + 1) 400 (σ a0 1) ((((x1).toUInt32 >>> ((x2 : Int32).toUInt32 &&& Int32.toUInt32 31)).toInt32) &&& 255)).bind (fun σ_3 =>
      am_let (am_up σ_3 a0 1 ((σ_3 a0 1) + 1)) (fun σ_4 =>
      am_let (x2 + (-8)) (fun x2_5 =>
      (C_Reader_put_l3 F n) a0 x1 x2_5 σ_4))))
    else (
      some σ)))
def C_Reader_put (F : Nat) (a0 : Nat) (x1 : Int32) (σ : am_SS) : Option am_SS :=
  C_Reader_put_l3 F F a0 x1 24 σ
/-- SlipperTruce$Reader.kindOf(I)I -/
def C_Reader_kindOf_p40 (x0 : Int32) : Int32 :=
  if x0 < 48 then (
    4)
  else (
    if 57 < x0 then (
      4)
    else (
      3))
def C_Reader_kindOf_p26 (x0 : Int32) : Int32 :=
  if x0 < 65 then (
    C_Reader_kindOf_p40 x0)
  else (
    if 90 < x0 then (
      C_Reader_kindOf_p40 x0)
    else (
      2))
def C_Reader_kindOf (x0 : Int32) : Int32 :=
  if x0 = 32 then (
    1)
  else (
    if x0 = 10 then (
      1)
    else (
      if x0 < 97 then (
        C_Reader_kindOf_p26 x0)
      else (
        if 122 < x0 then (
          C_Reader_kindOf_p26 x0)
        else (
          2))))
/-- SlipperTruce$Reader.behind(II)I -/
def C_Reader_behind_l2 (F : Nat) : Nat → Nat → Int32 → Int32 → am_SS → Option Int32
  | 0, _, _, _, _ => none
  | n + 1, a0, x2, x3, σ => (
  if x3 < (σ a0 1) then (
    if x3 < 400 then (
      (am_rd σ (a0 + 1) 400 x3).bind (fun t_3 =>
      if (C_Reader_kindOf t_3) = x2 then (
        am_let (x3 + 1) (fun x3_6 =>
        (C_Reader_behind_l2 F n) a0 x2 x3_6 σ))
      else (
        some x3)))
    else (
      some x3))
  else (
    some x3))
def C_Reader_behind (F : Nat) (a0 : Nat) (x1 : Int32) (x2 : Int32) (σ : am_SS) : Option Int32 :=
  C_Reader_behind_l2 F F a0 x2 x1 σ
/-- SlipperTruce$Reader.keyword(I)I -/
def C_Reader_keyword_p102 (rec18 : Nat → Int32 → Int32 → Int32 → Int32 → Bool → Int32 → am_SS → Option Int32) (F : Nat) (a0 : Nat) (x1 : Int32) (x2 : Int32) (x3 : Int32) (x4 : Int32) (x5 : Bool) (x6 : Int32) (σ : am_SS) : Option Int32 :=
  am_let (x6 + 1) (fun x6_1 =>
  rec18 a0 x1 x2 x3 x4 x5 x6_1 σ)
def C_Reader_keyword_p93 (rec18 : Nat → Int32 → Int32 → Int32 → Int32 → Bool → Int32 → am_SS → Option Int32) (F : Nat) (a0 : Nat) (x1 : Int32) (x2 : Int32) (x3 : Int32) (x6 : Int32) (σ : am_SS) : Option Int32 :=
  am_let (x3 + 1) (fun x3_1 =>
  C_Reader_keyword_p102 rec18 F a0 x1 x2 x3_1 x1 true x6 σ)
def C_Reader_keyword_p72 (rec18 : Nat → Int32 → Int32 → Int32 → Int32 → Bool → Int32 → am_SS → Option Int32) (F : Nat) (a0 : Nat) (x1 : Int32) (x2 : Int32) (x3 : Int32) (x4 : Int32) (x6 : Int32) (s0 : Bool) (σ : am_SS) : Option Int32 :=
  am_let (x4 + 1) (fun x4_1 =>
  C_Reader_keyword_p102 rec18 F a0 x1 x2 x3 x4_1 s0 x6 σ)
def C_Reader_keyword_p71 (rec18 : Nat → Int32 → Int32 → Int32 → Int32 → Bool → Int32 → am_SS → Option Int32) (F : Nat) (a0 : Nat) (x1 : Int32) (x2 : Int32) (x3 : Int32) (x4 : Int32) (x6 : Int32) (σ : am_SS) : Option Int32 :=
  C_Reader_keyword_p72 rec18 F a0 x1 x2 x3 x4 x6 false σ
def C_Reader_keyword_l18 (F : Nat) : Nat → Nat → Int32 → Int32 → Int32 → Int32 → Bool → Int32 → am_SS → Option Int32
  | 0, _, _, _, _, _, _, _, _ => none
  | n + 1, a0, x1, x2, x3, x4, x5, x6, σ => (
  if x6 < 132 then (
    (am_ch x6).bind (fun t_4 =>
    if t_4 = 32 then (
      if x5 = true then (
        if x4 = x2 then (
          some x3)
        else (
          C_Reader_keyword_p93 (C_Reader_keyword_l18 F n) F a0 x1 x2 x3 x6 σ))
      else (
        C_Reader_keyword_p93 (C_Reader_keyword_l18 F n) F a0 x1 x2 x3 x6 σ))
    else (
      if x5 = true then (
        if x4 < x2 then (
          (am_rd σ (a0 + 1) 400 x4).bind (fun t_10 =>
          if t_10 = t_4 then (
            C_Reader_keyword_p72 (C_Reader_keyword_l18 F n) F a0 x1 x2 x3 x4 x6 true σ)
          else (
            C_Reader_keyword_p71 (C_Reader_keyword_l18 F n) F a0 x1 x2 x3 x4 x6 σ)))
        else (
          C_Reader_keyword_p71 (C_Reader_keyword_l18 F n) F a0 x1 x2 x3 x4 x6 σ))
      else (
        C_Reader_keyword_p71 (C_Reader_keyword_l18 F n) F a0 x1 x2 x3 x4 x6 σ))))
  else (
    some (-1)))
def C_Reader_keyword (F : Nat) (a0 : Nat) (x1 : Int32) (σ : am_SS) : Option Int32 :=
  (C_Reader_behind F a0 x1 2 σ).bind (fun q_1 =>
  C_Reader_keyword_l18 F F a0 x1 q_1 0 x1 true 0 σ)
/-- SlipperTruce$Reader.number(I)I -/
def C_Reader_number_p48 (F : Nat) (x1 : Int32) (x2 : Int32) (x3 : Int32) (σ : am_SS) : Option Int32 :=
  if 4 < (x2 - x1) then (
    some (-1))
  else (
    some x3)
def C_Reader_number_l12 (F : Nat) : Nat → Nat → Int32 → Int32 → Int32 → Int32 → am_SS → Option Int32
  | 0, _, _, _, _, _, _ => none
  | n + 1, a0, x1, x2, x3, x4, σ => (
  if x4 < x2 then (
    if x4 < (x1 + 4) then (
      (am_rd σ (a0 + 1) 400 x4).bind (fun t_3 =>
      am_let (((x3 * 10) + t_3) - 48) (fun x3_4 =>
      am_let (x4 + 1) (fun x4_5 =>
      (C_Reader_number_l12 F n) a0 x1 x2 x3_4 x4_5 σ))))
    else (
      C_Reader_number_p48 F x1 x2 x3 σ))
  else (
    C_Reader_number_p48 F x1 x2 x3 σ))
def C_Reader_number (F : Nat) (a0 : Nat) (x1 : Int32) (σ : am_SS) : Option Int32 :=
  (C_Reader_behind F a0 x1 3 σ).bind (fun q_1 =>
  C_Reader_number_l12 F F a0 x1 q_1 0 x1 σ)
/-- SlipperTruce$Reader.cut()V -/
def C_Reader_cut_p157 (F : Nat) (a0 : Nat) (x1 : Int32) (σ : am_SS) : Option am_SS :=
  (am_wr σ (a0 + 2) 401 x1 (σ a0 1)).bind (fun σ_1 =>
  (am_wr σ_1 (a0 + 3) 401 x1 0).bind (fun σ_2 =>
  (am_wr σ_2 (a0 + 4) 401 x1 (-1)).bind (fun σ_3 =>
  some σ_3)))
def C_Reader_cut_p148 (rec21 : Nat → Int32 → Int32 → Int32 → am_SS → Option am_SS) (F : Nat) (a0 : Nat) (x1 : Int32) (x3 : Int32) (x4 : Int32) (σ : am_SS) : Option am_SS :=
  am_let (x3 + 1) (fun x3_1 =>
  rec21 a0 x1 x4 x3_1 σ)
def C_Reader_cut_p144 (rec21 : Nat → Int32 → Int32 → Int32 → am_SS → Option am_SS) (F : Nat) (a0 : Nat) (x1 : Int32) (x3 : Int32) (x4 : Int32) (t0 : Nat) (s1 : Int32) (s2 : Int32) (σ : am_SS) : Option am_SS :=
  (am_wr σ t0 (LC.2.1 t0) s1 s2).bind (fun σ_1 =>
  am_let (x1 + 1) (fun x1_2 =>
  C_Reader_cut_p148 rec21 F a0 x1_2 x3 x4 σ_1))
def C_Reader_cut_p70 (rec21 : Nat → Int32 → Int32 → Int32 → am_SS → Option am_SS) (F : Nat) (a0 : Nat) (x1 : Int32) (x3 : Int32) (x4 : Int32) (s0 : Bool) (σ : am_SS) : Option am_SS :=
  if x4 = 1 then (
    C_Reader_cut_p148 rec21 F a0 x1 x3 x4 σ)
  else (
    if s0 = true then (
      C_Reader_cut_p148 rec21 F a0 x1 x3 x4 σ)
    else (
      if x1 < 400 then (
        (am_wr σ (a0 + 2) 401 x1 x3).bind (fun σ_4 =>
        (am_wr σ_4 (a0 + 3) 401 x1 x4).bind (fun σ_5 =>
        if x4 = 2 then (
          (C_Reader_keyword F a0 x3 σ_5).bind (fun q_10 =>
          C_Reader_cut_p144 rec21 F a0 x1 x3 x4 (a0 + 4) x1 q_10 σ_5))
        else (
          if x4 = 3 then (
            (C_Reader_number F a0 x3 σ_5).bind (fun q_9 =>
            C_Reader_cut_p144 rec21 F a0 x1 x3 x4 (a0 + 4) x1 q_9 σ_5))
          else (
            (am_rd σ_5 (a0 + 1) 400 x3).bind (fun t_8 =>
            C_Reader_cut_p144 rec21 F a0 x1 x3 x4 (a0 + 4) x1 t_8 σ_5))))))
      else (
        C_Reader_cut_p148 rec21 F a0 x1 x3 x4 σ)))
def C_Reader_cut_p69 (rec21 : Nat → Int32 → Int32 → Int32 → am_SS → Option am_SS) (F : Nat) (a0 : Nat) (x1 : Int32) (x3 : Int32) (x4 : Int32) (σ : am_SS) : Option am_SS :=
  C_Reader_cut_p70 rec21 F a0 x1 x3 x4 false σ
def C_Reader_cut_p65 (rec21 : Nat → Int32 → Int32 → Int32 → am_SS → Option am_SS) (F : Nat) (a0 : Nat) (x1 : Int32) (x3 : Int32) (x4 : Int32) (σ : am_SS) : Option am_SS :=
  C_Reader_cut_p70 rec21 F a0 x1 x3 x4 true σ
def C_Reader_cut_l21 (F : Nat) : Nat → Nat → Int32 → Int32 → Int32 → am_SS → Option am_SS
  | 0, _, _, _, _, _ => none
  | n + 1, a0, x1, x2, x3, σ => (
  if x3 < (σ a0 1) then (
    if x3 < 400 then (
      (am_rd σ (a0 + 1) 400 x3).bind (fun t_3 =>
      am_let ((C_Reader_kindOf t_3)) (fun x4_5 =>
      if x4_5 = x2 then (
        if x4_5 = 2 then (
          C_Reader_cut_p65 (C_Reader_cut_l21 F n) F a0 x1 x3 x4_5 σ)
        else (
          if x4_5 = 3 then (
            C_Reader_cut_p65 (C_Reader_cut_l21 F n) F a0 x1 x3 x4_5 σ)
          else (
            C_Reader_cut_p69 (C_Reader_cut_l21 F n) F a0 x1 x3 x4_5 σ)))
      else (
        C_Reader_cut_p69 (C_Reader_cut_l21 F n) F a0 x1 x3 x4_5 σ))))
    else (
      C_Reader_cut_p157 F a0 x1 σ))
  else (
    C_Reader_cut_p157 F a0 x1 σ))
def C_Reader_cut (F : Nat) (a0 : Nat) (σ : am_SS) : Option am_SS :=
  am_let (am_up σ a0 5 0) (fun σ_1 =>
  am_let (am_up σ_1 a0 7 0) (fun σ_2 =>
  am_let (am_up σ_2 a0 8 (-1)) (fun σ_3 =>
  C_Reader_cut_l21 F F a0 0 1 0 σ_3)))
/-- SlipperTruce$Reader.kind()I -/
def C_Reader_kind (a0 : Nat) (σ : am_SS) : Option Int32 :=
  if (σ a0 5) < 0 then (
    some 0)
  else (
    if (σ a0 5) < 401 then (
      (am_rd σ (a0 + 3) 401 (σ a0 5)).bind (fun t_3 =>
      some t_3))
    else (
      some 0))
/-- SlipperTruce$Reader.value()I -/
def C_Reader_value (a0 : Nat) (σ : am_SS) : Option Int32 :=
  if (σ a0 5) < 0 then (
    some (-1))
  else (
    if (σ a0 5) < 401 then (
      (am_rd σ (a0 + 4) 401 (σ a0 5)).bind (fun t_3 =>
      some t_3))
    else (
      some (-1)))
/-- SlipperTruce$Reader.isSign(I)Z -/
def C_Reader_isSign (a0 : Nat) (x1 : Int32) (σ : am_SS) : Option Bool :=
  (C_Reader_kind a0 σ).bind (fun q_1 =>
  if q_1 = 4 then (
    (C_Reader_value a0 σ).bind (fun q_3 =>
    if q_3 = x1 then (
      some true)
    else (
      some false)))
  else (
    some false))
/-- SlipperTruce$Reader.isWord(I)Z -/
def C_Reader_isWord (a0 : Nat) (x1 : Int32) (σ : am_SS) : Option Bool :=
  (C_Reader_kind a0 σ).bind (fun q_1 =>
  if q_1 = 2 then (
    (C_Reader_value a0 σ).bind (fun q_3 =>
    if q_3 = x1 then (
      some true)
    else (
      some false)))
  else (
    some false))
/-- SlipperTruce$Reader.fail(II)Z -/
def C_Reader_fail_p32 (t0 : Nat) (s1 : Int32) (σ : am_SS) : Option (Bool × am_SS) :=
  am_let (am_up σ t0 8 s1) (fun σ_1 =>
  some (false, σ_1))
def C_Reader_fail_p28 (a0 : Nat) (t0 : Nat) (σ : am_SS) : Option (Bool × am_SS) :=
  C_Reader_fail_p32 t0 (σ a0 1) σ
def C_Reader_fail (a0 : Nat) (x1 : Int32) (x2 : Int32) (σ : am_SS) : Option (Bool × am_SS) :=
  am_let (am_up σ a0 7 x1) (fun σ_1 =>
  if x2 < 0 then (
    C_Reader_fail_p28 a0 a0 σ_1)
  else (
    if x2 < 401 then (
      (am_rd σ_1 (a0 + 2) 401 x2).bind (fun t_4 =>
      C_Reader_fail_p32 a0 t_4 σ_1))
    else (
      C_Reader_fail_p28 a0 a0 σ_1)))
/-- SlipperTruce$Reader.sign(I)Z -/
def C_Reader_sign (a0 : Nat) (x1 : Int32) (σ : am_SS) : Option (Bool × am_SS) :=
  (C_Reader_isSign a0 x1 σ).bind (fun q_1 =>
  if q_1 = true then (
    am_let (am_up σ a0 5 ((σ a0 5) + 1)) (fun σ_3 =>
    some (true, σ_3)))
  else (
    (C_Reader_fail a0 1 (σ a0 5) σ).bind (fun q_4 =>
    some (q_4.1, q_4.2))))
/-- SlipperTruce$Reader.word(I)Z -/
def C_Reader_word (a0 : Nat) (x1 : Int32) (σ : am_SS) : Option (Bool × am_SS) :=
  (C_Reader_isWord a0 x1 σ).bind (fun q_1 =>
  if q_1 = true then (
    am_let (am_up σ a0 5 ((σ a0 5) + 1)) (fun σ_3 =>
    some (true, σ_3)))
  else (
    (C_Reader_fail a0 1 (σ a0 5) σ).bind (fun q_4 =>
    some (q_4.1, q_4.2))))
/-- SlipperTruce$Reader.takes(II)Z -/
def C_Reader_takes_p16 (a0 : Nat) (σ : am_SS) : Option (Bool × am_SS) :=
  (C_Reader_fail a0 1 (σ a0 5) σ).bind (fun q_1 =>
  some (q_1.1, q_1.2))
def C_Reader_takes_p42 (a0 : Nat) (σ : am_SS) : Option (Bool × am_SS) :=
  (C_Reader_fail a0 2 (σ a0 5) σ).bind (fun q_1 =>
  some (q_1.1, q_1.2))
def C_Reader_takes (a0 : Nat) (x1 : Int32) (x2 : Int32) (σ : am_SS) : Option (Bool × am_SS) :=
  (C_Reader_kind a0 σ).bind (fun q_1 =>
  if q_1 = 3 then (
    (C_Reader_value a0 σ).bind (fun q_3 =>
    if q_3 = (-1) then (
      C_Reader_takes_p16 a0 σ)
    else (
      (C_Reader_value a0 σ).bind (fun q_5 =>
      if q_5 < x1 then (
        C_Reader_takes_p42 a0 σ)
      else (
        (C_Reader_value a0 σ).bind (fun q_7 =>
        if x2 < q_7 then (
          C_Reader_takes_p42 a0 σ)
        else (
          (C_Reader_value a0 σ).bind (fun q_9 =>
          am_let (am_up σ a0 6 q_9) (fun σ_10 =>
          am_let (am_up σ_10 a0 5 ((σ_10 a0 5) + 1)) (fun σ_11 =>
          some (true, σ_11)))))))))))
  else (
    C_Reader_takes_p16 a0 σ))
/-- SlipperTruce$Reader.opens(III)Z -/
def C_Reader_opens_p24 (a0 : Nat) (σ : am_SS) : Option (Bool × am_SS) :=
  (C_Reader_fail a0 1 (σ a0 5) σ).bind (fun q_1 =>
  some (q_1.1, q_1.2))
def C_Reader_opens (a0 : Nat) (x1 : Int32) (x2 : Int32) (x3 : Int32) (σ : am_SS) : Option (Bool × am_SS) :=
  (C_Reader_kind a0 σ).bind (fun q_1 =>
  if q_1 = 2 then (
    (C_Reader_value a0 σ).bind (fun q_3 =>
    if q_3 < x2 then (
      C_Reader_opens_p24 a0 σ)
    else (
      (C_Reader_value a0 σ).bind (fun q_5 =>
      if x3 < q_5 then (
        C_Reader_opens_p24 a0 σ)
      else (
        if x1 < 16 then (
          (C_Reader_value a0 σ).bind (fun q_8 =>
          am_let (am_up σ a0 6 q_8) (fun σ_9 =>
          am_let (am_up σ_9 a0 5 ((σ_9 a0 5) + 1)) (fun σ_10 =>
          some (true, σ_10)))))
        else (
          (C_Reader_fail a0 3 (σ a0 5) σ).bind (fun q_11 =>
          some (q_11.1, q_11.2))))))))
  else (
    C_Reader_opens_p24 a0 σ))
/-- SlipperTruce$Table.add(IIII)I -/
def C_Table_add_p100 (F : Nat) (a0 : Nat) (σ : am_SS) : Option (Int32 × am_SS) :=
  am_let (am_up σ a0 2 ((σ a0 2) + 1)) (fun σ_1 =>
  some ((σ_1 a0 2), σ_1))
def C_Table_add_p93 (rec31 : Nat → Int32 → Int32 → Int32 → Int32 → Int32 → Int32 → am_SS → Option (Int32 × am_SS)) (F : Nat) (a0 : Nat) (x1 : Int32) (x2 : Int32) (x3 : Int32) (x4 : Int32) (x5 : Int32) (x6 : Int32) (t0 : Nat) (s1 : Int32) (s2 : Int32) (σ : am_SS) : Option (Int32 × am_SS) :=
  (am_wr σ t0 (LC.2.1 t0) s1 s2).bind (fun σ_1 =>
  am_let (x6 + 1) (fun x6_2 =>
  rec31 a0 x1 x2 x3 x4 x5 x6_2 σ_1))
def C_Table_add_l31 (F : Nat) : Nat → Nat → Int32 → Int32 → Int32 → Int32 → Int32 → Int32 → am_SS → Option (Int32 × am_SS)
  | 0, _, _, _, _, _, _, _, _ => none
  | n + 1, a0, x1, x2, x3, x4, x5, x6, σ => (
  if x6 < (σ a0 0) then (
    if (x5 + x6) < (Int32.ofNat (LC.2.1 (a0 + 1))) then (
      if x6 = 0 then (
        C_Table_add_p93 (C_Table_add_l31 F n) F a0 x1 x2 x3 x4 x5 x6 (a0 + 1) (x5 + x6) x1 σ)
      else (
        if x6 = 1 then (
          C_Table_add_p93 (C_Table_add_l31 F n) F a0 x1 x2 x3 x4 x5 x6 (a0 + 1) (x5 + x6) x2 σ)
        else (
          if x6 = 2 then (
            C_Table_add_p93 (C_Table_add_l31 F n) F a0 x1 x2 x3 x4 x5 x6 (a0 + 1) (x5 + x6) x3 σ)
          else (
            C_Table_add_p93 (C_Table_add_l31 F n) F a0 x1 x2 x3 x4 x5 x6 (a0 + 1) (x5 + x6) x4 σ))))
    else (
      C_Table_add_p100 F a0 σ))
  else (
    C_Table_add_p100 F a0 σ))
def C_Table_add (F : Nat) (a0 : Nat) (x1 : Int32) (x2 : Int32) (x3 : Int32) (x4 : Int32) (σ : am_SS) : Option (Int32 × am_SS) :=
  am_let ((σ a0 2) * (σ a0 0)) (fun x5_1 =>
  if (Int32.ofNat (LC.2.1 (a0 + 1))) < (x5_1 + (σ a0 0)) then (
    some ((-1), σ))
  else (
    C_Table_add_l31 F F a0 x1 x2 x3 x4 x5_1 0 σ))
/-- SlipperTruce$Reader.unit()Z -/
def C_Reader_unit_p93 (F : Nat) (a0 : Nat) (t0 : Nat) (s1 : Int32) (σ : am_SS) : Option (Bool × am_SS) :=
  (C_Reader_value a0 σ).bind (fun q_1 =>
  (C_Table_add F t0 s1 q_1 0 0 σ).bind (fun q_2 =>
  am_let (am_up q_2.2 a0 5 ((q_2.2 a0 5) + 1)) (fun σ_3 =>
  some (true, σ_3))))
def C_Reader_unit_p72 (F : Nat) (a0 : Nat) (x1 : Bool) (σ : am_SS) : Option (Bool × am_SS) :=
  if x1 = true then (
    C_Reader_unit_p93 F a0 (a0 + 5 + 3) 1000 σ)
  else (
    (C_Reader_value a0 σ).bind (fun q_2 =>
    C_Reader_unit_p93 F a0 (a0 + 5 + 3) q_2 σ))
def C_Reader_unit_p53 (F : Nat) (a0 : Nat) (x1 : Bool) (s0 : Bool) (σ : am_SS) : Option (Bool × am_SS) :=
  if x1 = true then (
    C_Reader_unit_p72 F a0 x1 σ)
  else (
    if s0 = true then (
      C_Reader_unit_p72 F a0 x1 σ)
    else (
      (C_Reader_fail a0 1 (σ a0 5) σ).bind (fun q_3 =>
      some (q_3.1, q_3.2))))
def C_Reader_unit_p52 (F : Nat) (a0 : Nat) (x1 : Bool) (σ : am_SS) : Option (Bool × am_SS) :=
  C_Reader_unit_p53 F a0 x1 false σ
def C_Reader_unit_p21 (F : Nat) (a0 : Nat) (s0 : Bool) (σ : am_SS) : Option (Bool × am_SS) :=
  (C_Reader_kind a0 σ).bind (fun q_1 =>
  if q_1 = 2 then (
    (C_Reader_value a0 σ).bind (fun q_3 =>
    if q_3 < 7 then (
      C_Reader_unit_p52 F a0 s0 σ)
    else (
      (C_Reader_value a0 σ).bind (fun q_5 =>
      if 16 < q_5 then (
        C_Reader_unit_p52 F a0 s0 σ)
      else (
        C_Reader_unit_p53 F a0 s0 true σ)))))
  else (
    C_Reader_unit_p52 F a0 s0 σ))
def C_Reader_unit_p20 (F : Nat) (a0 : Nat) (σ : am_SS) : Option (Bool × am_SS) :=
  C_Reader_unit_p21 F a0 false σ
def C_Reader_unit (F : Nat) (a0 : Nat) (σ : am_SS) : Option (Bool × am_SS) :=
  (C_Reader_kind a0 σ).bind (fun q_1 =>
  if q_1 = 3 then (
    (C_Reader_value a0 σ).bind (fun q_3 =>
    if q_3 = (-1) then (
      C_Reader_unit_p20 F a0 σ)
    else (
      C_Reader_unit_p21 F a0 true σ)))
  else (
    C_Reader_unit_p20 F a0 σ))
/-- SlipperTruce$Reader.product()Z -/
def C_Reader_product_p121 (rec11 : Nat → Int32 → am_SS → Option (Bool × am_SS)) (F : Nat) (a0 : Nat) (x1 : Int32) (σ : am_SS) : Option (Bool × am_SS) :=
  am_let (x1 + 1) (fun x1_1 =>
  rec11 a0 x1_1 σ)
def C_Reader_product_l11 (F : Nat) : Nat → Nat → Int32 → am_SS → Option (Bool × am_SS)
  | 0, _, _, _ => none
  | n + 1, a0, x1, σ => (
  if 400 < x1 then (
    some (false, σ))
  else (
    (C_Reader_isSign a0 42 σ).bind (fun q_2 =>
    if q_2 = true then (
      am_let (am_up σ a0 5 ((σ a0 5) + 1)) (fun σ_10 =>
      (C_Reader_unit F a0 σ_10).bind (fun q_11 =>
      if q_11.1 = true then (
        (C_Table_add F (a0 + 5 + 3) 42 0 0 0 q_11.2).bind (fun q_13 =>
        C_Reader_product_p121 (C_Reader_product_l11 F n) F a0 x1 q_13.2))
      else (
        some (false, q_11.2)))))
    else (
      (C_Reader_isSign a0 47 σ).bind (fun q_4 =>
      if q_4 = true then (
        am_let (am_up σ a0 5 ((σ a0 5) + 1)) (fun σ_6 =>
        (C_Reader_takes a0 1 9999 σ_6).bind (fun q_7 =>
        if q_7.1 = true then (
          (C_Table_add F (a0 + 5 + 3) 47 (q_7.2 a0 6) 0 0 q_7.2).bind (fun q_9 =>
          C_Reader_product_p121 (C_Reader_product_l11 F n) F a0 x1 q_9.2))
        else (
          some (false, q_7.2)))))
      else (
        some (true, σ)))))))
def C_Reader_product (F : Nat) (a0 : Nat) (σ : am_SS) : Option (Bool × am_SS) :=
  (C_Reader_unit F a0 σ).bind (fun q_1 =>
  if q_1.1 = true then (
    C_Reader_product_l11 F F a0 0 q_1.2)
  else (
    some (false, q_1.2)))
/-- SlipperTruce$Reader.sum()Z -/
def C_Reader_sum_p60 (rec4 : Nat → Int32 → Int32 → am_SS → Option (Bool × am_SS)) (F : Nat) (a0 : Nat) (x2 : Int32) (σ : am_SS) : Option (Bool × am_SS) :=
  (C_Reader_value a0 σ).bind (fun q_1 =>
  am_let (am_up σ a0 5 ((σ a0 5) + 1)) (fun σ_2 =>
  am_let (x2 + 1) (fun x2_3 =>
  rec4 a0 q_1 x2_3 σ_2)))
def C_Reader_sum_p40 (rec4 : Nat → Int32 → Int32 → am_SS → Option (Bool × am_SS)) (F : Nat) (a0 : Nat) (x2 : Int32) (σ : am_SS) : Option (Bool × am_SS) :=
  (C_Reader_isSign a0 43 σ).bind (fun q_1 =>
  if q_1 = true then (
    C_Reader_sum_p60 rec4 F a0 x2 σ)
  else (
    (C_Reader_isSign a0 45 σ).bind (fun q_3 =>
    if q_3 = true then (
      C_Reader_sum_p60 rec4 F a0 x2 σ)
    else (
      some (true, σ)))))
def C_Reader_sum_l4 (F : Nat) : Nat → Nat → Int32 → Int32 → am_SS → Option (Bool × am_SS)
  | 0, _, _, _, _ => none
  | n + 1, a0, x1, x2, σ => (
  if 400 < x2 then (
    some (false, σ))
  else (
    (C_Reader_product F a0 σ).bind (fun q_2 =>
    if q_2.1 = true then (
      if x1 = (-1) then (
        C_Reader_sum_p40 (C_Reader_sum_l4 F n) F a0 x2 q_2.2)
      else (
        (C_Table_add F (a0 + 5 + 3) x1 0 0 0 q_2.2).bind (fun q_5 =>
        C_Reader_sum_p40 (C_Reader_sum_l4 F n) F a0 x2 q_5.2)))
    else (
      some (false, q_2.2)))))
def C_Reader_sum (F : Nat) (a0 : Nat) (σ : am_SS) : Option (Bool × am_SS) :=
  C_Reader_sum_l4 F F a0 (-1) 0 σ
/-- SlipperTruce$Reader.comparison(I)Z -/
def C_Reader_comparison_o_p20 (R_comparison : Nat → Int32 → am_SS → Option (Bool × am_SS)) (R_condition : Nat → Int32 → am_SS → Option (Bool × am_SS)) (F : Nat) (a0 : Nat) (x1 : Int32) (x2 : Bool) (σ : am_SS) : Option (Bool × am_SS) :=
  if x1 < 8 then (
    am_let (am_up σ a0 5 ((σ a0 5) + 1)) (fun σ_2 =>
    if x2 = true then (
      (R_comparison a0 (x1 + 1) σ_2).bind (fun q_4 =>
      (C_Table_add F (a0 + 5 + 3) 6 0 0 0 q_4.2).bind (fun q_5 =>
      some (q_4.1, q_5.2))))
    else (
      (R_condition a0 (x1 + 1) σ_2).bind (fun q_6 =>
      if q_6.1 = true then (
        (C_Reader_sign a0 41 q_6.2).bind (fun q_8 =>
        if q_8.1 = true then (
          some (true, q_8.2))
        else (
          some (false, q_8.2))))
      else (
        some (false, q_6.2))))))
  else (
    (C_Reader_fail a0 3 (σ a0 5) σ).bind (fun q_10 =>
    some (q_10.1, q_10.2)))
def C_Reader_comparison_o_p147 (R_comparison : Nat → Int32 → am_SS → Option (Bool × am_SS)) (R_condition : Nat → Int32 → am_SS → Option (Bool × am_SS)) (F : Nat) (a0 : Nat) (σ : am_SS) : Option (Bool × am_SS) :=
  (C_Reader_value a0 σ).bind (fun q_1 =>
  am_let (am_up σ a0 5 ((σ a0 5) + 1)) (fun σ_2 =>
  (C_Reader_sum F a0 σ_2).bind (fun q_3 =>
  (C_Table_add F (a0 + 5 + 3) q_1 0 0 0 q_3.2).bind (fun q_4 =>
  some (q_3.1, q_4.2)))))
def C_Reader_comparison_o (R_comparison : Nat → Int32 → am_SS → Option (Bool × am_SS)) (R_condition : Nat → Int32 → am_SS → Option (Bool × am_SS)) (F : Nat) (a0 : Nat) (x1 : Int32) (σ : am_SS) : Option (Bool × am_SS) :=
  (C_Reader_isWord a0 6 σ).bind (fun q_1 =>
  if q_1 = true then (
    C_Reader_comparison_o_p20 R_comparison R_condition F a0 x1 q_1 σ)
  else (
    (C_Reader_isSign a0 40 σ).bind (fun q_3 =>
    if q_3 = true then (
      C_Reader_comparison_o_p20 R_comparison R_condition F a0 x1 q_1 σ)
    else (
      (C_Reader_sum F a0 σ).bind (fun q_5 =>
      if q_5.1 = true then (
        (C_Reader_isSign a0 60 q_5.2).bind (fun q_7 =>
        if q_7 = true then (
          C_Reader_comparison_o_p147 R_comparison R_condition F a0 q_5.2)
        else (
          (C_Reader_isSign a0 61 q_5.2).bind (fun q_9 =>
          if q_9 = true then (
            C_Reader_comparison_o_p147 R_comparison R_condition F a0 q_5.2)
          else (
            (C_Reader_isSign a0 62 q_5.2).bind (fun q_11 =>
            if q_11 = true then (
              C_Reader_comparison_o_p147 R_comparison R_condition F a0 q_5.2)
            else (
              (C_Reader_fail a0 1 (q_5.2 a0 5) q_5.2).bind (fun q_13 =>
              some (q_13.1, q_13.2)))))))))
      else (
        some (false, q_5.2)))))))
/-- SlipperTruce$Reader.condition(I)Z -/
def C_Reader_condition_o_p85 (R_comparison : Nat → Int32 → am_SS → Option (Bool × am_SS)) (R_condition : Nat → Int32 → am_SS → Option (Bool × am_SS)) (rec7 : Nat → Int32 → Bool → Bool → Int32 → am_SS → Option (Bool × am_SS)) (F : Nat) (a0 : Nat) (x1 : Int32) (x2 : Bool) (x3 : Bool) (x4 : Int32) (σ : am_SS) : Option (Bool × am_SS) :=
  am_let (am_up σ a0 5 ((σ a0 5) + 1)) (fun σ_1 =>
  am_let (x4 + 1) (fun x4_2 =>
  rec7 a0 x1 x2 x3 x4_2 σ_1))
def C_Reader_condition_o_p73 (R_comparison : Nat → Int32 → am_SS → Option (Bool × am_SS)) (R_condition : Nat → Int32 → am_SS → Option (Bool × am_SS)) (rec7 : Nat → Int32 → Bool → Bool → Int32 → am_SS → Option (Bool × am_SS)) (F : Nat) (a0 : Nat) (x1 : Int32) (x2 : Bool) (x4 : Int32) (σ : am_SS) : Option (Bool × am_SS) :=
  (C_Reader_isWord a0 4 σ).bind (fun q_1 =>
  if q_1 = true then (
    C_Reader_condition_o_p85 R_comparison R_condition rec7 F a0 x1 x2 q_1 x4 σ)
  else (
    some (true, σ)))
def C_Reader_condition_o_p44 (R_comparison : Nat → Int32 → am_SS → Option (Bool × am_SS)) (R_condition : Nat → Int32 → am_SS → Option (Bool × am_SS)) (rec7 : Nat → Int32 → Bool → Bool → Int32 → am_SS → Option (Bool × am_SS)) (F : Nat) (a0 : Nat) (x1 : Int32) (x3 : Bool) (x4 : Int32) (σ : am_SS) : Option (Bool × am_SS) :=
  (C_Reader_isWord a0 5 σ).bind (fun q_1 =>
  if q_1 = true then (
    C_Reader_condition_o_p85 R_comparison R_condition rec7 F a0 x1 q_1 x3 x4 σ)
  else (
    if x3 = true then (
      (C_Table_add F (a0 + 5 + 3) 4 0 0 0 σ).bind (fun q_4 =>
      C_Reader_condition_o_p73 R_comparison R_condition rec7 F a0 x1 q_1 x4 q_4.2))
    else (
      C_Reader_condition_o_p73 R_comparison R_condition rec7 F a0 x1 q_1 x4 σ)))
def C_Reader_condition_o_l7 (R_comparison : Nat → Int32 → am_SS → Option (Bool × am_SS)) (R_condition : Nat → Int32 → am_SS → Option (Bool × am_SS)) (F : Nat) : Nat → Nat → Int32 → Bool → Bool → Int32 → am_SS → Option (Bool × am_SS)
  | 0, _, _, _, _, _, _ => none
  | n + 1, a0, x1, x2, x3, x4, σ => (
  if 400 < x4 then (
    some (false, σ))
  else (
    (R_comparison a0 x1 σ).bind (fun q_2 =>
    if q_2.1 = true then (
      if x2 = true then (
        (C_Table_add F (a0 + 5 + 3) 5 0 0 0 q_2.2).bind (fun q_5 =>
        C_Reader_condition_o_p44 R_comparison R_condition (C_Reader_condition_o_l7 R_comparison R_condition F n) F a0 x1 x3 x4 q_5.2))
      else (
        C_Reader_condition_o_p44 R_comparison R_condition (C_Reader_condition_o_l7 R_comparison R_condition F n) F a0 x1 x3 x4 q_2.2))
    else (
      some (false, q_2.2)))))
def C_Reader_condition_o (R_comparison : Nat → Int32 → am_SS → Option (Bool × am_SS)) (R_condition : Nat → Int32 → am_SS → Option (Bool × am_SS)) (F : Nat) (a0 : Nat) (x1 : Int32) (σ : am_SS) : Option (Bool × am_SS) :=
  C_Reader_condition_o_l7 R_comparison R_condition F F a0 x1 false false 0 σ
def C_Reader_cc (F : Nat) : Nat → (Nat → Int32 → am_SS → Option (Bool × am_SS)) × (Nat → Int32 → am_SS → Option (Bool × am_SS))
  | 0 => (fun _ _ _ => none, fun _ _ _ => none)
  | n + 1 => (fun a x σ => C_Reader_comparison_o (C_Reader_cc F n).1 (C_Reader_cc F n).2 F a x σ, fun a x σ => C_Reader_condition_o (C_Reader_cc F n).1 (C_Reader_cc F n).2 F a x σ)
def C_Reader_comparison (F : Nat) (a0 : Nat) (x1 : Int32) (σ : am_SS) : Option (Bool × am_SS) := (C_Reader_cc F 20).1 a0 x1 σ
def C_Reader_condition (F : Nat) (a0 : Nat) (x1 : Int32) (σ : am_SS) : Option (Bool × am_SS) := (C_Reader_cc F 20).2 a0 x1 σ
/-- SlipperTruce$Reader.readLaw()Z -/
def C_Reader_readLaw_p101 (rec9 : Nat → Int32 → am_SS → Option (Bool × am_SS)) (F : Nat) (a0 : Nat) (x1 : Int32) (x2 : Int32) (x3 : Int32) (x4 : Int32) (σ : am_SS) : Option (Bool × am_SS) :=
  (C_Reader_sign a0 59 σ).bind (fun q_1 =>
  if q_1.1 = true then (
    (C_Table_add F (a0 + 5 + 1) x2 x3 x4 (q_1.2 (a0 + 5 + 3) 2) q_1.2).bind (fun q_3 =>
    am_let (x1 + 1) (fun x1_4 =>
    rec9 a0 x1_4 q_3.2)))
  else (
    some (false, q_1.2)))
def C_Reader_readLaw_l9 (F : Nat) : Nat → Nat → Int32 → am_SS → Option (Bool × am_SS)
  | 0, _, _, _ => none
  | n + 1, a0, x1, σ => (
  if 16 < x1 then (
    some (false, σ))
  else (
    (C_Reader_kind a0 σ).bind (fun q_2 =>
    if q_2 = 0 then (
      some (true, σ))
    else (
      (C_Reader_opens a0 x1 0 2 σ).bind (fun q_4 =>
      if q_4.1 = true then (
        am_let (q_4.2 a0 6) (fun x2_6 =>
        am_let (q_4.2 (a0 + 5 + 3) 2) (fun x3_7 =>
        (C_Reader_sum F a0 q_4.2).bind (fun q_8 =>
        if q_8.1 = true then (
          am_let (q_8.2 (a0 + 5 + 3) 2) (fun x4_10 =>
          (C_Reader_isWord a0 3 q_8.2).bind (fun q_11 =>
          if q_11 = true then (
            am_let (am_up q_8.2 a0 5 ((q_8.2 a0 5) + 1)) (fun σ_13 =>
            (C_Reader_condition F a0 0 σ_13).bind (fun q_14 =>
            if q_14.1 = true then (
              C_Reader_readLaw_p101 (C_Reader_readLaw_l9 F n) F a0 x1 x2_6 x3_7 x4_10 q_14.2)
            else (
              some (false, q_14.2)))))
          else (
            C_Reader_readLaw_p101 (C_Reader_readLaw_l9 F n) F a0 x1 x2_6 x3_7 x4_10 q_8.2))))
        else (
          some (false, q_8.2))))))
      else (
        some (false, q_4.2)))))))
def C_Reader_readLaw (F : Nat) (a0 : Nat) (σ : am_SS) : Option (Bool × am_SS) :=
  am_let (C_Law_clear (a0 + 5) σ) (fun q_1 =>
  C_Reader_readLaw_l9 F F a0 0 q_1)
/-- SlipperTruce$Reader.readOrders(LSlipperTruce$Front;)Z -/
def C_Reader_readOrders_p188 (rec10 : Nat → Nat → Int32 → am_SS → Option (Bool × am_SS)) (F : Nat) (a0 : Nat) (a1 : Nat) (x2 : Int32) (x3 : Int32) (x4 : Int32) (x5 : Int32) (x6 : Int32) (σ : am_SS) : Option (Bool × am_SS) :=
  (C_Reader_sign a0 59 σ).bind (fun q_1 =>
  if q_1.1 = true then (
    (C_Table_add F (a0 + 11) x3 x4 x5 x6 q_1.2).bind (fun q_3 =>
    am_let (x2 + 1) (fun x2_4 =>
    rec10 a0 a1 x2_4 q_3.2)))
  else (
    some (false, q_1.2)))
def C_Reader_readOrders_p163 (rec10 : Nat → Nat → Int32 → am_SS → Option (Bool × am_SS)) (F : Nat) (a0 : Nat) (a1 : Nat) (x2 : Int32) (x3 : Int32) (x4 : Int32) (x5 : Int32) (x6 : Bool) (σ : am_SS) : Option (Bool × am_SS) :=
  if x4 = 18 then (
    (C_Reader_takes a0 1 99 σ).bind (fun q_2 =>
    if q_2.1 = true then (
      am_let (q_2.2 a0 6) (fun x6_4 =>
      C_Reader_readOrders_p188 rec10 F a0 a1 x2 x3 x4 x5 x6_4 q_2.2))
    else (
      some (false, q_2.2))))
  else (
    C_Reader_readOrders_p188 rec10 F a0 a1 x2 x3 x4 x5 (am_bI x6) σ)
def C_Reader_readOrders_p147 (rec10 : Nat → Nat → Int32 → am_SS → Option (Bool × am_SS)) (F : Nat) (a0 : Nat) (a1 : Nat) (x2 : Int32) (x3 : Int32) (x4 : Int32) (x6 : Bool) (t0 : Nat) (s1 : Bool) (s2 : Int32) (σ : am_SS) : Option (Bool × am_SS) :=
  (C_Reader_takes t0 (am_bI s1) (s2 - 1) σ).bind (fun q_1 =>
  if q_1.1 = true then (
    am_let (q_1.2 a0 6) (fun x5_3 =>
    C_Reader_readOrders_p163 rec10 F a0 a1 x2 x3 x4 x5_3 x6 q_1.2))
  else (
    some (false, q_1.2)))
def C_Reader_readOrders_p104 (rec10 : Nat → Nat → Int32 → am_SS → Option (Bool × am_SS)) (F : Nat) (a0 : Nat) (a1 : Nat) (x2 : Int32) (x3 : Int32) (x4 : Int32) (σ : am_SS) : Option (Bool × am_SS) :=
  am_let (am_up σ a0 5 ((σ a0 5) + 1)) (fun σ_1 =>
  if x4 = 21 then (
    C_Reader_readOrders_p163 rec10 F a0 a1 x2 x3 x4 (-1) false σ_1)
  else (
    if x4 = 20 then (
      C_Reader_readOrders_p147 rec10 F a0 a1 x2 x3 x4 false a0 false (σ_1 a1 8) σ_1)
    else (
      C_Reader_readOrders_p147 rec10 F a0 a1 x2 x3 x4 false a0 false (σ_1 a1 0) σ_1)))
def C_Reader_readOrders_p94 (F : Nat) (a0 : Nat) (σ : am_SS) : Option (Bool × am_SS) :=
  (C_Reader_fail a0 1 (σ a0 5) σ).bind (fun q_1 =>
  some (q_1.1, q_1.2))
def C_Reader_readOrders_p71 (rec10 : Nat → Nat → Int32 → am_SS → Option (Bool × am_SS)) (F : Nat) (a0 : Nat) (a1 : Nat) (x2 : Int32) (x3 : Int32) (s0 : Int32) (σ : am_SS) : Option (Bool × am_SS) :=
  if s0 = 10 then (
    C_Reader_readOrders_p104 rec10 F a0 a1 x2 x3 s0 σ)
  else (
    if s0 < 18 then (
      C_Reader_readOrders_p94 F a0 σ)
    else (
      if 21 < s0 then (
        C_Reader_readOrders_p94 F a0 σ)
      else (
        C_Reader_readOrders_p104 rec10 F a0 a1 x2 x3 s0 σ)))
def C_Reader_readOrders_l10 (F : Nat) : Nat → Nat → Nat → Int32 → am_SS → Option (Bool × am_SS)
  | 0, _, _, _, _ => none
  | n + 1, a0, a1, x2, σ => (
  if 16 < x2 then (
    some (false, σ))
  else (
    (C_Reader_kind a0 σ).bind (fun q_2 =>
    if q_2 = 0 then (
      some (true, σ))
    else (
      (C_Reader_opens a0 x2 17 17 σ).bind (fun q_4 =>
      if q_4.1 = true then (
        (C_Reader_takes a0 0 999 q_4.2).bind (fun q_6 =>
        if q_6.1 = true then (
          am_let (q_6.2 a0 6) (fun x3_8 =>
          (C_Reader_kind a0 q_6.2).bind (fun q_9 =>
          if q_9 = 2 then (
            (C_Reader_value a0 q_6.2).bind (fun q_11 =>
            C_Reader_readOrders_p71 (C_Reader_readOrders_l10 F n) F a0 a1 x2 x3_8 q_11 q_6.2))
          else (
            C_Reader_readOrders_p71 (C_Reader_readOrders_l10 F n) F a0 a1 x2 x3_8 (-1) q_6.2))))
        else (
          some (false, q_6.2))))
      else (
        some (false, q_4.2)))))))
def C_Reader_readOrders (F : Nat) (a0 : Nat) (a1 : Nat) (σ : am_SS) : Option (Bool × am_SS) :=
  am_let (C_Table_clear (a0 + 11) σ) (fun q_1 =>
  C_Reader_readOrders_l10 F F a0 a1 0 q_1.2)
/-- SlipperTruce$Reader.canServe(LSlipperTruce$Front;II)Z -/
def C_Reader_canServe (a0 : Nat) (x1 : Int32) (x2 : Int32) (σ : am_SS) : Option Bool :=
  if (C_Front_hasOfficer a0 x1 σ) = true then (
    if (C_Front_hasBatman a0 x2 σ) = true then (
      (am_rd σ (a0 + 1) 12 x1).bind (fun t_5 =>
      (am_rd σ (a0 + 8) 12 x2).bind (fun t_6 =>
      if t_5 = t_6 then (
        some false)
      else (
        some true))))
    else (
      some false))
  else (
    some false)
/-- SlipperTruce$Reader.canNeed(LSlipperTruce$Front;II)Z -/
def C_Reader_canNeed (a0 : Nat) (x1 : Int32) (x2 : Int32) (σ : am_SS) : Option Bool :=
  if (C_Front_hasOfficer a0 x1 σ) = true then (
    if (C_Front_hasOfficer a0 x2 σ) = true then (
      if x1 = x2 then (
        some false)
      else (
        (am_rd σ (a0 + 1) 12 x1).bind (fun t_6 =>
        (am_rd σ (a0 + 1) 12 x2).bind (fun t_7 =>
        if t_6 = t_7 then (
          some true)
        else (
          some false)))))
    else (
      some false))
  else (
    some false)
/-- SlipperTruce$Reader.readCouples(LSlipperTruce$Front;Z)Z -/
def C_Reader_readCouples_p151 (rec10 : Nat → Nat → Bool → Int32 → am_SS → Option (Bool × am_SS)) (F : Nat) (a0 : Nat) (a1 : Nat) (x2 : Bool) (x3 : Int32) (x4 : Int32) (σ : am_SS) : Option (Bool × am_SS) :=
  (C_Reader_sign a0 59 σ).bind (fun q_1 =>
  if q_1.1 = true then (
    (C_Table_add F (a0 + 11) x4 (q_1.2 a0 6) 0 0 q_1.2).bind (fun q_3 =>
    am_let (x3 + 1) (fun x3_4 =>
    rec10 a0 a1 x2 x3_4 q_3.2)))
  else (
    some (false, q_1.2)))
def C_Reader_readCouples_p139 (F : Nat) (a0 : Nat) (σ : am_SS) : Option (Bool × am_SS) :=
  (C_Reader_fail a0 2 ((σ a0 5) - 1) σ).bind (fun q_1 =>
  some (q_1.1, q_1.2))
def C_Reader_readCouples_p96 (rec10 : Nat → Nat → Bool → Int32 → am_SS → Option (Bool × am_SS)) (F : Nat) (a0 : Nat) (a1 : Nat) (x2 : Bool) (x3 : Int32) (x4 : Int32) (t0 : Nat) (s1 : Bool) (s2 : Int32) (σ : am_SS) : Option (Bool × am_SS) :=
  (C_Reader_takes t0 (am_bI s1) (s2 - 1) σ).bind (fun q_1 =>
  if q_1.1 = true then (
    if x2 = true then (
      (C_Reader_canServe a1 x4 (q_1.2 a0 6) q_1.2).bind (fun q_6 =>
      if q_6 = true then (
        C_Reader_readCouples_p151 rec10 F a0 a1 x2 x3 x4 q_1.2)
      else (
        C_Reader_readCouples_p139 F a0 q_1.2)))
    else (
      (C_Reader_canNeed a1 x4 (q_1.2 a0 6) q_1.2).bind (fun q_4 =>
      if q_4 = true then (
        C_Reader_readCouples_p151 rec10 F a0 a1 x2 x3 x4 q_1.2)
      else (
        C_Reader_readCouples_p139 F a0 q_1.2))))
  else (
    some (false, q_1.2)))
def C_Reader_readCouples_p71 (rec10 : Nat → Nat → Bool → Int32 → am_SS → Option (Bool × am_SS)) (F : Nat) (a0 : Nat) (a1 : Nat) (x2 : Bool) (x3 : Int32) (x4 : Int32) (t0 : Nat) (s1 : Int32) (σ : am_SS) : Option (Bool × am_SS) :=
  (C_Reader_word t0 s1 σ).bind (fun q_1 =>
  if q_1.1 = true then (
    if x2 = true then (
      C_Reader_readCouples_p96 rec10 F a0 a1 x2 x3 x4 a0 false (q_1.2 a1 8) q_1.2)
    else (
      C_Reader_readCouples_p96 rec10 F a0 a1 x2 x3 x4 a0 false (q_1.2 a1 0) q_1.2))
  else (
    some (false, q_1.2)))
def C_Reader_readCouples_l10 (F : Nat) : Nat → Nat → Nat → Bool → Int32 → am_SS → Option (Bool × am_SS)
  | 0, _, _, _, _, _ => none
  | n + 1, a0, a1, x2, x3, σ => (
  if 16 < x3 then (
    some (false, σ))
  else (
    (C_Reader_kind a0 σ).bind (fun q_2 =>
    if q_2 = 0 then (
      some (true, σ))
    else (
      (C_Reader_opens a0 x3 22 22 σ).bind (fun q_4 =>
      if q_4.1 = true then (
        (C_Reader_takes a0 0 ((q_4.2 a1 0) - 1) q_4.2).bind (fun q_6 =>
        if q_6.1 = true then (
          am_let (q_6.2 a0 6) (fun x4_8 =>
          if x2 = true then (
            C_Reader_readCouples_p71 (C_Reader_readCouples_l10 F n) F a0 a1 x2 x3 x4_8 a0 23 q_6.2)
          else (
            C_Reader_readCouples_p71 (C_Reader_readCouples_l10 F n) F a0 a1 x2 x3 x4_8 a0 24 q_6.2)))
        else (
          some (false, q_6.2))))
      else (
        some (false, q_4.2)))))))
def C_Reader_readCouples (F : Nat) (a0 : Nat) (a1 : Nat) (x2 : Bool) (σ : am_SS) : Option (Bool × am_SS) :=
  am_let (C_Table_clear (a0 + 11) σ) (fun q_1 =>
  C_Reader_readCouples_l10 F F a0 a1 x2 0 q_1.2)
/-- SlipperTruce$Sums.peg(III)I -/
def C_Sums_peg_p43 (rec10 : Int32 → Int32 → Int32 → Int32 → Int32 → Option Int32) (F : Nat) (x1 : Int32) (x2 : Int32) (x3 : Int32) (x4 : Int32) (x5 : Int32) : Option Int32 :=
  am_let (x5 + (-1)) (fun x5_1 =>
  rec10 x1 x2 x3 x4 x5_1)
def C_Sums_peg_l10 (F : Nat) : Nat → Int32 → Int32 → Int32 → Int32 → Int32 → Option Int32
  | 0, _, _, _, _, _ => none
  | n + 1, x1, x2, x3, x4, x5 => (
  if x1 < x5 then (
    am_let ((3 - x3) - x4) (fun x6_3 =>
    if ((x2 >>> (x5 &&& 31)) &&& 1) = 0 then (
      C_Sums_peg_p43 (C_Sums_peg_l10 F n) F x1 x2 x3 x6_3 x5)
    else (
      C_Sums_peg_p43 (C_Sums_peg_l10 F n) F x1 x2 x6_3 x4 x5)))
  else (
    if ((x2 >>> (x1 &&& 31)) &&& 1) = 0 then (
      some x3)
    else (
      some x4)))
def C_Sums_peg (F : Nat) (x0 : Int32) (x1 : Int32) (x2 : Int32) : Option Int32 :=
  am_let (x0 - 1) (fun x5_1 =>
  C_Sums_peg_l10 F F x1 x2 0 2 x5_1)
/-- SlipperTruce$Sums.movesFrom(II)I -/
def C_Sums_movesFrom_p59 (rec12 : Int32 → Int32 → Int32 → Int32 → Option Int32) (F : Nat) (x2 : Int32) (x3 : Int32) (x4 : Int32) (x5 : Int32) : Option Int32 :=
  am_let (x5 + (-1)) (fun x5_1 =>
  rec12 x2 x3 x4 x5_1)
def C_Sums_movesFrom_l12 (F : Nat) : Nat → Int32 → Int32 → Int32 → Int32 → Option Int32
  | 0, _, _, _, _ => none
  | n + 1, x2, x3, x4, x5 => (
  if x5 < 0 then (
    some x2)
  else (
    am_let (x4 % 10) (fun x6_2 =>
    am_let (x4 / 10) (fun x4_3 =>
    if 2 < x6_2 then (
      some (-1))
    else (
      if x6_2 = x3 then (
        C_Sums_movesFrom_p59 (C_Sums_movesFrom_l12 F n) F x2 x3 x4_3 x5)
      else (
        am_let (x2 + (1 <<< (x5 &&& 31))) (fun x2_6 =>
        am_let ((3 - x3) - x6_2) (fun x3_7 =>
        C_Sums_movesFrom_p59 (C_Sums_movesFrom_l12 F n) F x2_6 x3_7 x4_3 x5))))))))
def C_Sums_movesFrom (F : Nat) (x0 : Int32) (x1 : Int32) : Option Int32 :=
  am_let (x1 - 1) (fun x5_1 =>
  C_Sums_movesFrom_l12 F F 0 2 x0 x5_1)
/-- SlipperTruce$Sums.movesLeft(I)I -/
def C_Sums_movesLeft_p40 (rec6 : Int32 → Int64 → Int32 → Option Int32) (F : Nat) (x0 : Int32) (x1 : Int64) (x3 : Int32) : Option Int32 :=
  am_let (x1 * 10) (fun x1_1 =>
  am_let (x3 + 1) (fun x3_2 =>
  rec6 x0 x1_1 x3_2))
def C_Sums_movesLeft_l6 (F : Nat) : Nat → Int32 → Int64 → Int32 → Option Int32
  | 0, _, _, _ => none
  | n + 1, x0, x1, x3 => (
  if 10 < x3 then (
    some (-1))
  else (
    if (lg_cmp x0.toInt64 x1) < 0 then (
      C_Sums_movesLeft_p40 (C_Sums_movesLeft_l6 F n) F x0 x1 x3)
    else (
      if (lg_cmp x0.toInt64 (2 * x1)) < 0 then (
        (C_Sums_movesFrom F ((x0.toInt64 - x1).toInt32) x3).bind (fun q_4 =>
        some q_4))
      else (
        C_Sums_movesLeft_p40 (C_Sums_movesLeft_l6 F n) F x0 x1 x3))))
def C_Sums_movesLeft (F : Nat) (x0 : Int32) : Option Int32 :=
  C_Sums_movesLeft_l6 F F x0 10 1
/-- SlipperTruce$Sums.housed(II)I -/
def C_Sums_housed_o_p19 (R_housed : Int32 → Int32 → Option Int32) (F : Nat) (x0 : Int32) (x1 : Int32) : Option Int32 :=
  if x0 = 0 then (
    if x1 = 0 then (
      some 1)
    else (
      some 0))
  else (
    some 0)
def C_Sums_housed_o (R_housed : Int32 → Int32 → Option Int32) (F : Nat) (x0 : Int32) (x1 : Int32) : Option Int32 :=
  if 0 < x0 then (
    if 10 < x0 then (
      C_Sums_housed_o_p19 R_housed F x0 x1)
    else (
      if 0 < x1 then (
        if x0 < x1 then (
          C_Sums_housed_o_p19 R_housed F x0 x1)
        else (
          (R_housed (x0 - 1) x1).bind (fun q_5 =>
          (R_housed (x0 - 1) (x1 - 1)).bind (fun q_6 =>
          some ((x1 * q_5) + q_6)))))
      else (
        C_Sums_housed_o_p19 R_housed F x0 x1)))
  else (
    C_Sums_housed_o_p19 R_housed F x0 x1)
def C_Sums_housed_n (F : Nat) : Nat → Int32 → Int32 → Option Int32
  | 0, _, _ => none
  | n + 1, x0, x1 => C_Sums_housed_o (C_Sums_housed_n F n) F x0 x1
def C_Sums_housed (F : Nat) (x0 : Int32) (x1 : Int32) : Option Int32 := C_Sums_housed_n F 12 x0 x1
/-- SlipperTruce$Sums.choose(II)I -/
def C_Sums_choose_l16 (F : Nat) : Nat → Int32 → Int32 → Int64 → Int32 → Option Int32
  | 0, _, _, _, _ => none
  | n + 1, x0, x1, x2, x4 => (
  if x1 < x4 then (
    some x2.toInt32)
  else (
    if x4.toInt64 = 0 then none else (
    am_let ((x2 * (((x0 - x1) + x4).toInt64)) / x4.toInt64) (fun x2_3 =>
    am_let (x4 + 1) (fun x4_4 =>
    (C_Sums_choose_l16 F n) x0 x1 x2_3 x4_4)))))
def C_Sums_choose (F : Nat) (x0 : Int32) (x1 : Int32) : Option Int32 :=
  if x1 < 0 then (
    some 0)
  else (
    if x0 < x1 then (
      some 0)
    else (
      C_Sums_choose_l16 F F x0 x1 1 1))
/-- SlipperTruce$Sums.noneHisOwn(I)I -/
def C_Sums_noneHisOwn_p23 (rec4 : Int32 → Int32 → Int32 → Option Int32) (F : Nat) (x0 : Int32) (x2 : Int32) (s0 : Int32) (s1 : Int32) : Option Int32 :=
  am_let (s0 + s1) (fun x1_1 =>
  am_let (x2 + 1) (fun x2_2 =>
  rec4 x0 x1_1 x2_2))
def C_Sums_noneHisOwn_l4 (F : Nat) : Nat → Int32 → Int32 → Int32 → Option Int32
  | 0, _, _, _ => none
  | n + 1, x0, x1, x2 => (
  if x0 < x2 then (
    some x1)
  else (
    if (x2 % 2) = 0 then (
      C_Sums_noneHisOwn_p23 (C_Sums_noneHisOwn_l4 F n) F x0 x2 (x1 * x2) 1)
    else (
      C_Sums_noneHisOwn_p23 (C_Sums_noneHisOwn_l4 F n) F x0 x2 (x1 * x2) (-1))))
def C_Sums_noneHisOwn (F : Nat) (x0 : Int32) : Option Int32 :=
  C_Sums_noneHisOwn_l4 F F x0 1 1
/-- SlipperTruce$Sums.commonPart(II)I -/
def C_Sums_commonPart_p25 (rec6 : Int32 → Int32 → Int32 → Option Int32) (F : Nat) (x0 : Int32) (x1 : Int32) (x2 : Int32) : Option Int32 :=
  am_let (x2 + (-1)) (fun x2_1 =>
  rec6 x0 x1 x2_1)
def C_Sums_commonPart_l6 (F : Nat) : Nat → Int32 → Int32 → Int32 → Option Int32
  | 0, _, _, _ => none
  | n + 1, x0, x1, x2 => (
  if 1 < x2 then (
    if x2 = 0 then none else (
    if (x0 % x2) = 0 then (
      if x2 = 0 then none else (
      if (x1 % x2) = 0 then (
        some x2)
      else (
        C_Sums_commonPart_p25 (C_Sums_commonPart_l6 F n) F x0 x1 x2)))
    else (
      C_Sums_commonPart_p25 (C_Sums_commonPart_l6 F n) F x0 x1 x2)))
  else (
    some 1))
def C_Sums_commonPart (F : Nat) (x0 : Int32) (x1 : Int32) : Option Int32 :=
  am_let ((J_min x0 x1)) (fun x2_2 =>
  C_Sums_commonPart_l6 F F x0 x1 x2_2)
/-- SlipperTruce$Sums.feastDay(I)I -/
def C_Sums_feastDay (x0 : Int32) : Int32 :=
  am_let (x0 % 19) (fun x1_1 =>
  am_let (x0 / 100) (fun x2_2 =>
  am_let (x0 % 100) (fun x3_3 =>
  am_let (x2_2 / 4) (fun x4_4 =>
  am_let (x2_2 % 4) (fun x5_5 =>
  am_let ((x2_2 + 8) / 25) (fun x6_6 =>
  am_let (((x2_2 - x6_6) + 1) / 3) (fun x7_7 =>
  am_let ((((((19 * x1_1) + x2_2) - x4_4) - x7_7) + 15) % 30) (fun x8_8 =>
  am_let (x3_3 / 4) (fun x9_9 =>
  am_let (x3_3 % 4) (fun x10_10 =>
  am_let (((((32 + (2 * x5_5)) + (2 * x9_9)) - x8_8) - x10_10) % 7) (fun x11_11 =>
  am_let (((x1_1 + (11 * x8_8)) + (22 * x11_11)) / 451) (fun x12_12 =>
  (((x8_8 + x11_11) - (7 * x12_12)) + 114)))))))))))))
/-- SlipperTruce$Sums.digitSquares(I)I -/
def C_Sums_digitSquares_l4 (F : Nat) : Nat → Int32 → Int32 → Option Int32
  | 0, _, _ => none
  | n + 1, x1, x2 => (
  if 0 < x2 then (
    am_let (x1 + ((x2 % 10) * (x2 % 10))) (fun x1_2 =>
    am_let (x2 / 10) (fun x2_3 =>
    (C_Sums_digitSquares_l4 F n) x1_2 x2_3)))
  else (
    some x1))
def C_Sums_digitSquares (F : Nat) (x0 : Int32) : Option Int32 :=
  C_Sums_digitSquares_l4 F F 0 x0
/-- SlipperTruce$Sums.happySteps(I)I -/
def C_Sums_happySteps_l4 (F : Nat) : Nat → Int32 → Int32 → Option Int32
  | 0, _, _ => none
  | n + 1, x1, x2 => (
  if x2 < 1000 then (
    if x1 = 1 then (
      some x2)
    else (
      if x1 = 4 then (
        some x2)
      else (
        (C_Sums_digitSquares F x1).bind (fun q_4 =>
        am_let (x2 + 1) (fun x2_5 =>
        (C_Sums_happySteps_l4 F n) q_4 x2_5)))))
  else (
    some (-1)))
def C_Sums_happySteps (F : Nat) (x0 : Int32) : Option Int32 :=
  C_Sums_happySteps_l4 F F x0 0
/-- SlipperTruce$Sums.happyEnd(I)I -/
def C_Sums_happyEnd_l4 (F : Nat) : Nat → Int32 → Int32 → Option Int32
  | 0, _, _ => none
  | n + 1, x1, x2 => (
  if x2 < 1000 then (
    if x1 = 1 then (
      some x1)
    else (
      if x1 = 4 then (
        some x1)
      else (
        (C_Sums_digitSquares F x1).bind (fun q_4 =>
        am_let (x2 + 1) (fun x2_5 =>
        (C_Sums_happyEnd_l4 F n) q_4 x2_5)))))
  else (
    some x1))
def C_Sums_happyEnd (F : Nat) (x0 : Int32) : Option Int32 :=
  C_Sums_happyEnd_l4 F F x0 0
/-- SlipperTruce$Sums.happyUpTo(I)I -/
def C_Sums_happyUpTo_p23 (rec4 : Int32 → Int32 → Int32 → Option Int32) (F : Nat) (x0 : Int32) (x2 : Int32) (s0 : Int32) (s1 : Bool) : Option Int32 :=
  am_let (s0 + (am_bI s1)) (fun x1_1 =>
  am_let (x2 + 1) (fun x2_2 =>
  rec4 x0 x1_1 x2_2))
def C_Sums_happyUpTo_l4 (F : Nat) : Nat → Int32 → Int32 → Int32 → Option Int32
  | 0, _, _, _ => none
  | n + 1, x0, x1, x2 => (
  if x0 < x2 then (
    some x1)
  else (
    (C_Sums_happyEnd F x2).bind (fun q_2 =>
    if q_2 = 1 then (
      C_Sums_happyUpTo_p23 (C_Sums_happyUpTo_l4 F n) F x0 x2 x1 true)
    else (
      C_Sums_happyUpTo_p23 (C_Sums_happyUpTo_l4 F n) F x0 x2 x1 false))))
def C_Sums_happyUpTo (F : Nat) (x0 : Int32) : Option Int32 :=
  C_Sums_happyUpTo_l4 F F x0 0 1
/-- SlipperTruce$Sums.ofPrimes(II)I -/
def C_Sums_ofPrimes_p118 (F : Nat) (x1 : Int32) (x3 : Int32) (x4 : Int32) (x5 : Int32) (x6 : Int32) : Option Int32 :=
  if x1 = 0 then (
    some x3)
  else (
    if x1 = 1 then (
      some x4)
    else (
      if x1 = 2 then (
        some x5)
      else (
        some x6)))
def C_Sums_ofPrimes_p94 (rec16 : Int32 → Int32 → Int32 → Int32 → Int32 → Int32 → Int32 → Int32 → Option Int32) (F : Nat) (x0 : Int32) (x1 : Int32) (x2 : Int32) (x3 : Int32) (x5 : Int32) (x6 : Int32) (x7 : Int32) (x8 : Int32) (x9 : Int32) (s0 : Int32) : Option Int32 :=
  am_let (x5 * (x8 + 1)) (fun x5_1 =>
  am_let (x6 * x9) (fun x6_2 =>
  am_let (x7 + 1) (fun x7_3 =>
  rec16 x0 x1 x2 x3 s0 x5_1 x6_2 x7_3)))
def C_Sums_ofPrimes_p77 (rec16 : Int32 → Int32 → Int32 → Int32 → Int32 → Int32 → Int32 → Int32 → Option Int32) (F : Nat) (x0 : Int32) (x1 : Int32) (x2 : Int32) (x3 : Int32) (x4 : Int32) (x5 : Int32) (x6 : Int32) (x7 : Int32) (x8 : Int32) (x9 : Int32) : Option Int32 :=
  am_let (x3 + x8) (fun x3_1 =>
  if 0 < x8 then (
    C_Sums_ofPrimes_p94 rec16 F x0 x1 x2 x3_1 x5 x6 x7 x8 x9 x7)
  else (
    C_Sums_ofPrimes_p94 rec16 F x0 x1 x2 x3_1 x5 x6 x7 x8 x9 x4))
def C_Sums_ofPrimes_l45 (rec16 : Int32 → Int32 → Int32 → Int32 → Int32 → Int32 → Int32 → Int32 → Option Int32) (F : Nat) : Nat → Int32 → Int32 → Int32 → Int32 → Int32 → Int32 → Int32 → Int32 → Int32 → Int32 → Option Int32
  | 0, _, _, _, _, _, _, _, _, _, _ => none
  | n + 1, x0, x1, x2, x3, x4, x5, x6, x7, x8, x9 => (
  if 1 < x2 then (
    if x7 = 0 then none else (
    if (x2 % x7) = 0 then (
      am_let (x8 + 1) (fun x8_4 =>
      am_let ((x9 * x7) + 1) (fun x9_5 =>
      if x7 = 0 then none else (
      am_let (x2 / x7) (fun x2_7 =>
      (C_Sums_ofPrimes_l45 rec16 F n) x0 x1 x2_7 x3 x4 x5 x6 x7 x8_4 x9_5)))))
    else (
      C_Sums_ofPrimes_p77 rec16 F x0 x1 x2 x3 x4 x5 x6 x7 x8 x9)))
  else (
    C_Sums_ofPrimes_p77 rec16 F x0 x1 x2 x3 x4 x5 x6 x7 x8 x9))
def C_Sums_ofPrimes_p39 (rec16 : Int32 → Int32 → Int32 → Int32 → Int32 → Int32 → Int32 → Int32 → Option Int32) (F : Nat) (x0 : Int32) (x1 : Int32) (x2 : Int32) (x3 : Int32) (x4 : Int32) (x5 : Int32) (x6 : Int32) (x7 : Int32) : Option Int32 :=
  C_Sums_ofPrimes_l45 rec16 F F x0 x1 x2 x3 x4 x5 x6 x7 0 1
def C_Sums_ofPrimes_l16 (F : Nat) : Nat → Int32 → Int32 → Int32 → Int32 → Int32 → Int32 → Int32 → Int32 → Option Int32
  | 0, _, _, _, _, _, _, _, _ => none
  | n + 1, x0, x1, x2, x3, x4, x5, x6, x7 => (
  if 1 < x2 then (
    if x0 < x7 then (
      C_Sums_ofPrimes_p118 F x1 x3 x4 x5 x6)
    else (
      if x2 < (x7 * x7) then (
        C_Sums_ofPrimes_p39 (C_Sums_ofPrimes_l16 F n) F x0 x1 x2 x3 x4 x5 x6 x2)
      else (
        C_Sums_ofPrimes_p39 (C_Sums_ofPrimes_l16 F n) F x0 x1 x2 x3 x4 x5 x6 x7)))
  else (
    C_Sums_ofPrimes_p118 F x1 x3 x4 x5 x6))
def C_Sums_ofPrimes (F : Nat) (x0 : Int32) (x1 : Int32) : Option Int32 :=
  C_Sums_ofPrimes_l16 F F x0 x1 x0 0 1 1 1 2
/-- SlipperTruce$Sums.closings(II)I -/
def C_Sums_closings (F : Nat) (x0 : Int32) (x1 : Int32) : Option Int32 :=
  if x1 < 0 then (
    some 0)
  else (
    if x0 < x1 then (
      some 0)
    else (
      if ((x0 - x1) % 2) = 0 then (
        am_let ((x0 - x1) / 2) (fun x2_4 =>
        (C_Sums_choose F x0 x2_4).bind (fun q_5 =>
        (C_Sums_choose F x0 (x2_4 - 1)).bind (fun q_6 =>
        some (q_5 - q_6)))))
      else (
        some 0)))
/-- SlipperTruce$Sums.bracketRow(II)I -/
def C_Sums_bracketRow_p84 (rec14 : Int32 → Int32 → Int32 → Int32 → Option Int32) (F : Nat) (x2 : Int32) (x3 : Int32) (x5 : Int32) (s0 : Int32) (s1 : Int32) : Option Int32 :=
  am_let (s0 - s1) (fun x4_1 =>
  am_let (x5 + (-1)) (fun x5_2 =>
  rec14 x2 x3 x4_1 x5_2))
def C_Sums_bracketRow_p69 (rec14 : Int32 → Int32 → Int32 → Int32 → Option Int32) (F : Nat) (x2 : Int32) (x4 : Int32) (x5 : Int32) (x6 : Int32) (x7 : Bool) (s0 : Int32) (s1 : Int32) : Option Int32 :=
  am_let (s0 + s1) (fun x3_1 =>
  if x7 = true then (
    C_Sums_bracketRow_p84 rec14 F x2 x3_1 x5 x4 0)
  else (
    C_Sums_bracketRow_p84 rec14 F x2 x3_1 x5 x4 x6))
def C_Sums_bracketRow_p56 (rec14 : Int32 → Int32 → Int32 → Int32 → Option Int32) (F : Nat) (x3 : Int32) (x4 : Int32) (x5 : Int32) (x6 : Int32) (x7 : Bool) (s0 : Int32) (s1 : Bool) : Option Int32 :=
  am_let (s0 + (am_bI s1)) (fun x2_1 =>
  if x7 = true then (
    C_Sums_bracketRow_p69 rec14 F x2_1 x4 x5 x6 x7 x3 1)
  else (
    C_Sums_bracketRow_p69 rec14 F x2_1 x4 x5 x6 x7 x3 (-1)))
def C_Sums_bracketRow_p41 (rec14 : Int32 → Int32 → Int32 → Int32 → Option Int32) (F : Nat) (x2 : Int32) (x3 : Int32) (x4 : Int32) (x5 : Int32) (x6 : Int32) (s0 : Bool) : Option Int32 :=
  if s0 = true then (
    C_Sums_bracketRow_p56 rec14 F x3 x4 x5 x6 s0 (x2 * 2) true)
  else (
    C_Sums_bracketRow_p56 rec14 F x3 x4 x5 x6 s0 (x2 * 2) false)
def C_Sums_bracketRow_l14 (F : Nat) : Nat → Int32 → Int32 → Int32 → Int32 → Option Int32
  | 0, _, _, _, _ => none
  | n + 1, x2, x3, x4, x5 => (
  if x5 < 0 then (
    some x2)
  else (
    (C_Sums_closings F x5 (x3 + 1)).bind (fun q_2 =>
    if x4 < q_2 then (
      C_Sums_bracketRow_p41 (C_Sums_bracketRow_l14 F n) F x2 x3 x4 x5 q_2 true)
    else (
      C_Sums_bracketRow_p41 (C_Sums_bracketRow_l14 F n) F x2 x3 x4 x5 q_2 false))))
def C_Sums_bracketRow (F : Nat) (x0 : Int32) (x1 : Int32) : Option Int32 :=
  am_let ((2 * x0) - 1) (fun x5_1 =>
  C_Sums_bracketRow_l14 F F 0 0 x1 x5_1)
/-- SlipperTruce$Sums.bracketPlace(II)I -/
def C_Sums_bracketPlace_p64 (rec11 : Int32 → Int32 → Int32 → Int32 → Option Int32) (F : Nat) (x1 : Int32) (x2 : Int32) (x4 : Int32) (s0 : Int32) (s1 : Int32) : Option Int32 :=
  am_let (s0 + s1) (fun x3_1 =>
  if x3_1 < 0 then (
    some (-1))
  else (
    am_let (x4 + (-1)) (fun x4_3 =>
    rec11 x1 x2 x3_1 x4_3)))
def C_Sums_bracketPlace_p51 (rec11 : Int32 → Int32 → Int32 → Int32 → Option Int32) (F : Nat) (x1 : Int32) (x3 : Int32) (x4 : Int32) (x5 : Bool) (s0 : Int32) (s1 : Int32) : Option Int32 :=
  am_let (s0 + s1) (fun x2_1 =>
  if x5 = true then (
    C_Sums_bracketPlace_p64 rec11 F x1 x2_1 x4 x3 1)
  else (
    C_Sums_bracketPlace_p64 rec11 F x1 x2_1 x4 x3 (-1)))
def C_Sums_bracketPlace_p31 (rec11 : Int32 → Int32 → Int32 → Int32 → Option Int32) (F : Nat) (x1 : Int32) (x2 : Int32) (x3 : Int32) (x4 : Int32) (s0 : Bool) : Option Int32 :=
  if s0 = true then (
    C_Sums_bracketPlace_p51 rec11 F x1 x3 x4 s0 x2 0)
  else (
    (C_Sums_closings F x4 (x3 + 1)).bind (fun q_2 =>
    C_Sums_bracketPlace_p51 rec11 F x1 x3 x4 s0 x2 q_2))
def C_Sums_bracketPlace_l11 (F : Nat) : Nat → Int32 → Int32 → Int32 → Int32 → Option Int32
  | 0, _, _, _, _ => none
  | n + 1, x1, x2, x3, x4 => (
  if x4 < 0 then (
    if x3 = 0 then (
      some x2)
    else (
      some (-1)))
  else (
    if ((x1 >>> (x4 &&& 31)) &&& 1) = 1 then (
      C_Sums_bracketPlace_p31 (C_Sums_bracketPlace_l11 F n) F x1 x2 x3 x4 true)
    else (
      C_Sums_bracketPlace_p31 (C_Sums_bracketPlace_l11 F n) F x1 x2 x3 x4 false)))
def C_Sums_bracketPlace (F : Nat) (x0 : Int32) (x1 : Int32) : Option Int32 :=
  am_let ((2 * x0) - 1) (fun x4_1 =>
  C_Sums_bracketPlace_l11 F F x1 0 0 x4_1)
/-- SlipperTruce$Sums.greatestWithin(I)I -/
def C_Sums_greatestWithin_l6 (F : Nat) : Nat → Int32 → Int32 → Int32 → Int32 → Option Int32
  | 0, _, _, _, _ => none
  | n + 1, x0, x1, x2, x3 => (
  if x3 < x0 then (
    if x0 < x2 then (
      some x1)
    else (
      am_let (x1 + x2) (fun x4_3 =>
      am_let (x3 + 1) (fun x3_4 =>
      (C_Sums_greatestWithin_l6 F n) x0 x2 x4_3 x3_4))))
  else (
    some x1))
def C_Sums_greatestWithin (F : Nat) (x0 : Int32) : Option Int32 :=
  C_Sums_greatestWithin_l6 F F x0 1 2 0
/-- SlipperTruce$Sums.leastPart(I)I -/
def C_Sums_leastPart_l6 (F : Nat) : Nat → Int32 → Int32 → Int32 → Int32 → Option Int32
  | 0, _, _, _, _ => none
  | n + 1, x0, x1, x2, x3 => (
  if x3 < x0 then (
    if 0 < x2 then (
      (C_Sums_greatestWithin F x2).bind (fun q_3 =>
      am_let (x2 - q_3) (fun x2_4 =>
      am_let (x3 + 1) (fun x3_5 =>
      (C_Sums_leastPart_l6 F n) x0 q_3 x2_4 x3_5))))
    else (
      some x1))
  else (
    some x1))
def C_Sums_leastPart (F : Nat) (x0 : Int32) : Option Int32 :=
  C_Sums_leastPart_l6 F F x0 x0 x0 0
/-- SlipperTruce$War.copyFrom(LSlipperTruce$War;)V -/
def C_War_copyFrom (F : Nat) (a0 : Nat) (a1 : Nat) (σ : am_SS) : Option am_SS :=
  (C_Front_copyFrom F (a0 + 1) (a1 + 1) σ).bind (fun q_1 =>
  (C_Table_copyFrom F (a0 + 12) (a1 + 12) q_1).bind (fun q_2 =>
  (C_Law_copyFrom F (a0 + 14) (a1 + 14) q_2).bind (fun q_3 =>
  (C_Table_copyFrom F (a0 + 20) (a1 + 20) q_3).bind (fun q_4 =>
  (C_Table_copyFrom F (a0 + 22) (a1 + 22) q_4).bind (fun q_5 =>
  (C_Table_copyFrom F (a0 + 24) (a1 + 24) q_5).bind (fun q_6 =>
  (C_Table_copyFrom F (a0 + 26) (a1 + 26) q_6).bind (fun q_7 =>
  (C_Table_copyFrom F (a0 + 28) (a1 + 28) q_7).bind (fun q_8 =>
  (C_Table_copyFrom F (a0 + 30) (a1 + 30) q_8).bind (fun q_9 =>
  (C_Table_copyFrom F (a0 + 32) (a1 + 32) q_9).bind (fun q_10 =>
  (C_Table_copyFrom F (a0 + 34) (a1 + 34) q_10).bind (fun q_11 =>
  (C_Table_copyFrom F (a0 + 36) (a1 + 36) q_11).bind (fun q_12 =>
  some q_12))))))))))))
/-- SlipperTruce$War.batmanOf(I)I -/
def C_War_batmanOf_l10 (F : Nat) : Nat → Nat → Int32 → Int32 → am_SS → Option Int32
  | 0, _, _, _, _ => none
  | n + 1, a0, x1, x2, σ => (
  if x2 < 0 then (
    some (-1))
  else (
    (C_Table_at (a0 + 22) x2 0 σ).bind (fun q_2 =>
    if q_2 = x1 then (
      (C_Table_at (a0 + 22) x2 1 σ).bind (fun q_5 =>
      some q_5))
    else (
      am_let (x2 + (-1)) (fun x2_4 =>
      (C_War_batmanOf_l10 F n) a0 x1 x2_4 σ)))))
def C_War_batmanOf (F : Nat) (a0 : Nat) (x1 : Int32) (σ : am_SS) : Option Int32 :=
  am_let ((σ (a0 + 22) 2) - 1) (fun x2_1 =>
  C_War_batmanOf_l10 F F a0 x1 x2_1 σ)
/-- SlipperTruce$War.servedBy(I)I -/
def C_War_servedBy_p30 (rec4 : Nat → Int32 → Int32 → Int32 → am_SS → Option Int32) (F : Nat) (a0 : Nat) (x1 : Int32) (x2 : Int32) (x3 : Int32) (σ : am_SS) : Option Int32 :=
  am_let (x3 + 1) (fun x3_1 =>
  rec4 a0 x1 x2 x3_1 σ)
def C_War_servedBy_l4 (F : Nat) : Nat → Nat → Int32 → Int32 → Int32 → am_SS → Option Int32
  | 0, _, _, _, _, _ => none
  | n + 1, a0, x1, x2, x3, σ => (
  if x3 < (σ (a0 + 1) 0) then (
    (C_War_batmanOf F a0 x3 σ).bind (fun q_2 =>
    if q_2 = x1 then (
      am_let (x2 ||| (1 <<< (x3 &&& 31))) (fun x2_4 =>
      C_War_servedBy_p30 (C_War_servedBy_l4 F n) F a0 x1 x2_4 x3 σ))
    else (
      C_War_servedBy_p30 (C_War_servedBy_l4 F n) F a0 x1 x2 x3 σ)))
  else (
    some x2))
def C_War_servedBy (F : Nat) (a0 : Nat) (x1 : Int32) (σ : am_SS) : Option Int32 :=
  C_War_servedBy_l4 F F a0 x1 0 0 σ
/-- SlipperTruce$War.needed(I)I -/
def C_War_needed_p42 (rec4 : Nat → Int32 → Int32 → Int32 → am_SS → Option Int32) (F : Nat) (a0 : Nat) (x1 : Int32) (x2 : Int32) (x3 : Int32) (σ : am_SS) : Option Int32 :=
  am_let (x3 + 1) (fun x3_1 =>
  rec4 a0 x1 x2 x3_1 σ)
def C_War_needed_l4 (F : Nat) : Nat → Nat → Int32 → Int32 → Int32 → am_SS → Option Int32
  | 0, _, _, _, _, _ => none
  | n + 1, a0, x1, x2, x3, σ => (
  if x3 < (σ (a0 + 24) 2) then (
    (C_Table_at (a0 + 24) x3 0 σ).bind (fun q_2 =>
    if q_2 = x1 then (
      (C_Table_at (a0 + 24) x3 1 σ).bind (fun q_4 =>
      am_let (x2 ||| (1 <<< (q_4 &&& 31))) (fun x2_5 =>
      C_War_needed_p42 (C_War_needed_l4 F n) F a0 x1 x2_5 x3 σ)))
    else (
      C_War_needed_p42 (C_War_needed_l4 F n) F a0 x1 x2 x3 σ)))
  else (
    some x2))
def C_War_needed (F : Nat) (a0 : Nat) (x1 : Int32) (σ : am_SS) : Option Int32 :=
  C_War_needed_l4 F F a0 x1 0 0 σ
/-- SlipperTruce$War.hasHisNeeds(LSlipperTruce$Front;I)Z -/
def C_War_hasHisNeeds_p44 (rec2 : Nat → Nat → Int32 → Int32 → am_SS → Option Bool) (F : Nat) (a0 : Nat) (a1 : Nat) (x2 : Int32) (x3 : Int32) (σ : am_SS) : Option Bool :=
  am_let (x3 + 1) (fun x3_1 =>
  rec2 a0 a1 x2 x3_1 σ)
def C_War_hasHisNeeds_l2 (F : Nat) : Nat → Nat → Nat → Int32 → Int32 → am_SS → Option Bool
  | 0, _, _, _, _, _ => none
  | n + 1, a0, a1, x2, x3, σ => (
  if x3 < (σ (a0 + 24) 2) then (
    (C_Table_at (a0 + 24) x3 0 σ).bind (fun q_2 =>
    if q_2 = x2 then (
      (C_Table_at (a0 + 24) x3 1 σ).bind (fun q_4 =>
      (C_Front_hasTen a1 q_4 σ).bind (fun q_5 =>
      if q_5 = true then (
        C_War_hasHisNeeds_p44 (C_War_hasHisNeeds_l2 F n) F a0 a1 x2 x3 σ)
      else (
        some false))))
    else (
      C_War_hasHisNeeds_p44 (C_War_hasHisNeeds_l2 F n) F a0 a1 x2 x3 σ)))
  else (
    some true))
def C_War_hasHisNeeds (F : Nat) (a0 : Nat) (a1 : Nat) (x2 : Int32) (σ : am_SS) : Option Bool :=
  C_War_hasHisNeeds_l2 F F a0 a1 x2 0 σ
/-- SlipperTruce$War.asks(LSlipperTruce$Front;II)I -/
def C_War_asks (F : Nat) (a0 : Nat) (a1 : Nat) (x2 : Int32) (x3 : Int32) (σ : am_SS) : Option (Int32 × am_SS) :=
  (C_War_batmanOf F a0 x2 σ).bind (fun q_1 =>
  (C_Law_tells F (a0 + 14) a1 x2 q_1 x3 σ).bind (fun q_2 =>
  some (q_2.1, q_2.2)))
/-- SlipperTruce$War.write(LSlipperTruce$Front;ZIII)V -/
def C_War_write (F : Nat) (a0 : Nat) (a1 : Nat) (x2 : Bool) (x3 : Int32) (x4 : Int32) (x5 : Int32) (σ : am_SS) : Option am_SS :=
  if x2 = true then (
    some σ)
  else (
    (C_Table_add F (a0 + 12) (σ a1 14) x3 x4 x5 σ).bind (fun q_2 =>
    some q_2.2))
/-- SlipperTruce$War.canAct(III)Z -/
def C_War_canAct (a0 : Nat) (x1 : Int32) (x2 : Int32) (x3 : Int32) (σ : am_SS) : Option Bool :=
  if (σ (a0 + 1) 13) = (-1) then (
    if x1 = 0 then (
      if (C_Front_hasOfficer (a0 + 1) x2 σ) = true then (
        if x3 < 1 then (
          some false)
        else (
          if 99 < x3 then (
            some false)
          else (
            some true)))
      else (
        some false))
    else     if x1 = 1 then (
      if (C_Front_hasOfficer (a0 + 1) x2 σ) = true then (
        (am_rd σ (a0 + 1 + 6) 12 x2).bind (fun t_10 =>
        if t_10 = 0 then (
          some true)
        else (
          some false)))
      else (
        some false))
    else     if x1 = 2 then (
      if (C_Front_hasOfficer (a0 + 1) x2 σ) = true then (
        (am_rd σ (a0 + 1 + 6) 12 x2).bind (fun t_15 =>
        if t_15 = 1 then (
          some true)
        else (
          some false)))
      else (
        some false))
    else     if x1 = 3 then (
      if (C_Front_hasBatman (a0 + 1) x2 σ) = true then (
        (am_rd σ (a0 + 1 + 10) 12 x2).bind (fun t_20 =>
        if 0 < t_20 then (
          some true)
        else (
          some false)))
      else (
        some false))
    else (
    some false))
  else (
    some false)
/-- SlipperTruce$War.march(LSlipperTruce$Front;ZII)V -/
def C_War_march (F : Nat) (a0 : Nat) (a1 : Nat) (x2 : Bool) (x3 : Int32) (x4 : Int32) (σ : am_SS) : Option am_SS :=
  if (C_Front_hasOfficer a1 x3 σ) = true then (
    (C_Front_mustGiveUp a1 x3 σ).bind (fun q_3 =>
    if q_3 = true then (
      (am_rd σ (a1 + 4) 12 x3).bind (fun t_14 =>
      (C_War_write F a0 a1 x2 1 x3 t_14 σ).bind (fun q_15 =>
      (am_wr q_15 (a1 + 4) 12 x3 0).bind (fun σ_16 =>
      (am_wr σ_16 (a1 + 5) 12 x3 0).bind (fun σ_17 =>
      some σ_17)))))
    else (
      (C_War_hasHisNeeds F a0 a1 x3 σ).bind (fun q_5 =>
      if q_5 = true then (
        (am_rd σ (a1 + 4) 12 x3).bind (fun t_7 =>
        (am_wr σ (a1 + 4) 12 x3 (J_min 99 (t_7 + x4))).bind (fun σ_9 =>
        (am_rd σ_9 (a1 + 4) 12 x3).bind (fun t_10 =>
        (C_War_write F a0 a1 x2 0 x3 t_10 σ_9).bind (fun q_11 =>
        some q_11)))))
      else (
        (am_rd σ (a1 + 4) 12 x3).bind (fun t_12 =>
        (C_War_write F a0 a1 x2 2 x3 t_12 σ).bind (fun q_13 =>
        some q_13)))))))
  else (
    some σ)
/-- SlipperTruce$War.obey(LSlipperTruce$Front;ZIII)V -/
def C_War_obey_p83 (F : Nat) (t0 : Nat) (s1 : Int32) (s2 : Bool) (σ : am_SS) : Option am_SS :=
  (am_wr σ t0 (LC.2.1 t0) s1 (am_bI s2)).bind (fun σ_1 =>
  some σ_1)
def C_War_obey_p66 (F : Nat) (a1 : Nat) (x3 : Int32) (x4 : Int32) (σ : am_SS) : Option am_SS :=
  if x3 = 10 then (
    C_War_obey_p83 F (a1 + 6) x4 true σ)
  else (
    C_War_obey_p83 F (a1 + 6) x4 false σ)
def C_War_obey (F : Nat) (a0 : Nat) (a1 : Nat) (x2 : Bool) (x3 : Int32) (x4 : Int32) (x5 : Int32) (σ : am_SS) : Option am_SS :=
  if x3 = 20 then (
    if (C_Front_hasBatman a1 x4 σ) = true then (
      (am_wr σ (a1 + 10) 12 x4 0).bind (fun σ_10 =>
      some σ_10))
    else (
      some σ))
  else (
    if (C_Front_hasOfficer a1 x4 σ) = true then (
      if x3 = 18 then (
        (C_War_march F a0 a1 x2 x4 x5 σ).bind (fun q_7 =>
        some q_7))
      else (
        if x3 = 10 then (
          C_War_obey_p66 F a1 x3 x4 σ)
        else (
          if x3 = 19 then (
            C_War_obey_p66 F a1 x3 x4 σ)
          else (
            some σ))))
    else (
      some σ))
/-- SlipperTruce$War.perform(III)V -/
def C_War_perform_p31 (F : Nat) (a0 : Nat) (x2 : Int32) (x3 : Int32) (s0 : Int32) (σ : am_SS) : Option am_SS :=
  (C_War_obey F a0 (a0 + 1) false s0 x2 x3 σ).bind (fun q_1 =>
  some q_1)
def C_War_perform (F : Nat) (a0 : Nat) (x1 : Int32) (x2 : Int32) (x3 : Int32) (σ : am_SS) : Option am_SS :=
  if x1 = 0 then (
    C_War_perform_p31 F a0 x2 x3 18 σ)
  else (
    if x1 = 1 then (
      C_War_perform_p31 F a0 x2 x3 10 σ)
    else (
      if x1 = 2 then (
        C_War_perform_p31 F a0 x2 x3 19 σ)
      else (
        C_War_perform_p31 F a0 x2 x3 20 σ)))
/-- SlipperTruce$War.follow(LSlipperTruce$Front;Z)Z -/
def C_War_follow_p91 (rec5 : Nat → Nat → Bool → Bool → Int32 → am_SS → Option (Bool × am_SS)) (F : Nat) (a0 : Nat) (a1 : Nat) (x2 : Bool) (x3 : Bool) (x4 : Int32) (σ : am_SS) : Option (Bool × am_SS) :=
  am_let (x4 + 1) (fun x4_1 =>
  rec5 a0 a1 x2 x3 x4_1 σ)
def C_War_follow_p62 (rec5 : Nat → Nat → Bool → Bool → Int32 → am_SS → Option (Bool × am_SS)) (F : Nat) (a0 : Nat) (a1 : Nat) (x2 : Bool) (x4 : Int32) (x5 : Int32) (s0 : Bool) (σ : am_SS) : Option (Bool × am_SS) :=
  (C_Table_at (a0 + 20) x4 2 σ).bind (fun q_1 =>
  (C_Table_at (a0 + 20) x4 3 σ).bind (fun q_2 =>
  (C_War_obey F a0 a1 x2 x5 q_1 q_2 σ).bind (fun q_3 =>
  C_War_follow_p91 rec5 F a0 a1 x2 s0 x4 q_3)))
def C_War_follow_p57 (rec5 : Nat → Nat → Bool → Bool → Int32 → am_SS → Option (Bool × am_SS)) (F : Nat) (a0 : Nat) (a1 : Nat) (x2 : Bool) (x4 : Int32) (x5 : Int32) (σ : am_SS) : Option (Bool × am_SS) :=
  C_War_follow_p62 rec5 F a0 a1 x2 x4 x5 true σ
def C_War_follow_l5 (F : Nat) : Nat → Nat → Nat → Bool → Bool → Int32 → am_SS → Option (Bool × am_SS)
  | 0, _, _, _, _, _, _ => none
  | n + 1, a0, a1, x2, x3, x4, σ => (
  if x4 < (σ (a0 + 20) 2) then (
    (C_Table_at (a0 + 20) x4 0 σ).bind (fun q_2 =>
    if q_2 = (σ a1 14) then (
      (C_Table_at (a0 + 20) x4 1 σ).bind (fun q_4 =>
      if x3 = true then (
        C_War_follow_p57 (C_War_follow_l5 F n) F a0 a1 x2 x4 q_4 σ)
      else (
        if q_4 = 21 then (
          C_War_follow_p57 (C_War_follow_l5 F n) F a0 a1 x2 x4 q_4 σ)
        else (
          C_War_follow_p62 (C_War_follow_l5 F n) F a0 a1 x2 x4 q_4 false σ))))
    else (
      C_War_follow_p91 (C_War_follow_l5 F n) F a0 a1 x2 x3 x4 σ)))
  else (
    some (x3, σ)))
def C_War_follow (F : Nat) (a0 : Nat) (a1 : Nat) (x2 : Bool) (σ : am_SS) : Option (Bool × am_SS) :=
  C_War_follow_l5 F F a0 a1 x2 false 0 σ
/-- SlipperTruce$War.press(LSlipperTruce$Front;ZI)I -/
def C_War_press_p192 (F : Nat) (x5 : Bool) (σ : am_SS) : Option (Int32 × am_SS) :=
  if x5 = true then (
    some (1, σ))
  else (
    some (0, σ))
def C_War_press_p177 (F : Nat) (a0 : Nat) (a1 : Nat) (x2 : Bool) (x3 : Int32) (x5 : Bool) (t0 : Nat) (s1 : Bool) (σ : am_SS) : Option (Int32 × am_SS) :=
  am_let (am_up σ t0 13 (am_bI s1)) (fun σ_1 =>
  (C_War_write F a0 a1 x2 5 x3 (σ_1 a1 13) σ_1).bind (fun q_2 =>
  C_War_press_p192 F x5 q_2))
def C_War_press_p162 (F : Nat) (a0 : Nat) (a1 : Nat) (x2 : Bool) (x3 : Int32) (x5 : Bool) (σ : am_SS) : Option (Int32 × am_SS) :=
  if (σ a1 12) = 99 then (
    C_War_press_p177 F a0 a1 x2 x3 x5 a1 false σ)
  else (
    C_War_press_p177 F a0 a1 x2 x3 x5 a1 true σ)
def C_War_press_p141 (F : Nat) (a0 : Nat) (a1 : Nat) (x2 : Bool) (x3 : Int32) (x5 : Bool) (t0 : Nat) (s1 : Int32) (σ : am_SS) : Option (Int32 × am_SS) :=
  am_let (am_up σ t0 12 s1) (fun σ_1 =>
  if (σ_1 a1 12) = 99 then (
    C_War_press_p162 F a0 a1 x2 x3 x5 σ_1)
  else (
    if (σ_1 a1 12) = (-99) then (
      C_War_press_p162 F a0 a1 x2 x3 x5 σ_1)
    else (
      C_War_press_p192 F x5 σ_1)))
def C_War_press_p104 (F : Nat) (a0 : Nat) (a1 : Nat) (x2 : Bool) (x3 : Int32) (x4 : Int32) (x5 : Bool) (σ : am_SS) : Option (Int32 × am_SS) :=
  (am_rd σ (a1 + 1) 12 x3).bind (fun t_1 =>
  if t_1 = 0 then (
    C_War_press_p141 F a0 a1 x2 x3 x5 a1 (J_min 99 ((σ a1 12) + x4)) σ)
  else (
    C_War_press_p141 F a0 a1 x2 x3 x5 a1 (J_max (-99) ((σ a1 12) - x4)) σ))
def C_War_press_p67 (F : Nat) (a0 : Nat) (a1 : Nat) (x2 : Bool) (x3 : Int32) (x4 : Int32) (s0 : Bool) (σ : am_SS) : Option (Int32 × am_SS) :=
  if s0 = true then (
    am_let (x4 + 10) (fun x4_2 =>
    (am_rd σ (a1 + 7) 12 x3).bind (fun t_3 =>
    (am_wr σ (a1 + 7) 12 x3 (t_3 + 1)).bind (fun σ_4 =>
    (am_wr σ_4 (a1 + 4) 12 x3 0).bind (fun σ_5 =>
    (C_War_write F a0 a1 x2 3 x3 x4_2 σ_5).bind (fun q_6 =>
    C_War_press_p104 F a0 a1 x2 x3 x4_2 s0 q_6))))))
  else (
    C_War_press_p104 F a0 a1 x2 x3 x4 s0 σ)
def C_War_press_p51 (F : Nat) (a0 : Nat) (a1 : Nat) (x2 : Bool) (x3 : Int32) (x4 : Int32) (σ : am_SS) : Option (Int32 × am_SS) :=
  (am_rd σ (a1 + 4) 12 x3).bind (fun t_1 =>
  if t_1 = 99 then (
    C_War_press_p67 F a0 a1 x2 x3 x4 true σ)
  else (
    C_War_press_p67 F a0 a1 x2 x3 x4 false σ))
def C_War_press (F : Nat) (a0 : Nat) (a1 : Nat) (x2 : Bool) (x3 : Int32) (σ : am_SS) : Option (Int32 × am_SS) :=
  if (C_Front_hasOfficer a1 x3 σ) = true then (
    (C_War_asks F a0 a1 x3 0 σ).bind (fun q_3 =>
    (am_rd q_3.2 (a1 + 3) 12 x3).bind (fun t_4 =>
    if t_4 < 50 then (
      (am_rd q_3.2 (a1 + 3) 12 x3).bind (fun t_6 =>
      am_let ((J_max 0 (q_3.1 - ((50 - t_6) / 10)))) (fun x4_8 =>
      C_War_press_p51 F a0 a1 x2 x3 x4_8 q_3.2)))
    else (
      C_War_press_p51 F a0 a1 x2 x3 q_3.1 q_3.2))))
  else (
    some (0, σ))
/-- SlipperTruce$War.spendEvening(LSlipperTruce$Front;ZI)V -/
def C_War_spendEvening_p142 (F : Nat) (a0 : Nat) (a1 : Nat) (x2 : Bool) (x3 : Int32) (s0 : Bool) (σ : am_SS) : Option am_SS :=
  if s0 = true then (
    (am_rd σ (a1 + 5) 12 x3).bind (fun t_2 =>
    if t_2 = 0 then (
      (am_wr σ (a1 + 5) 12 x3 1).bind (fun σ_4 =>
      (am_rd σ_4 (a1 + 3) 12 x3).bind (fun t_5 =>
      (C_War_write F a0 a1 x2 4 x3 t_5 σ_4).bind (fun q_6 =>
      some q_6))))
    else (
      some σ)))
  else (
    some σ)
def C_War_spendEvening_p141 (F : Nat) (a0 : Nat) (a1 : Nat) (x2 : Bool) (x3 : Int32) (σ : am_SS) : Option am_SS :=
  C_War_spendEvening_p142 F a0 a1 x2 x3 false σ
def C_War_spendEvening (F : Nat) (a0 : Nat) (a1 : Nat) (x2 : Bool) (x3 : Int32) (σ : am_SS) : Option am_SS :=
  if (C_Front_hasOfficer a1 x3 σ) = true then (
    (am_rd σ (a1 + 3) 12 x3).bind (fun t_3 =>
    (am_wr σ (a1 + 3) 12 x3 (J_max 0 (t_3 - 10))).bind (fun σ_5 =>
    (C_War_batmanOf F a0 x3 σ_5).bind (fun q_6 =>
    if (C_Front_hasBatman a1 q_6 σ_5) = true then (
      (am_rd σ_5 (a1 + 3) 12 x3).bind (fun t_9 =>
      (C_War_asks F a0 a1 x3 1 σ_5).bind (fun q_10 =>
      (am_wr q_10.2 (a1 + 3) 12 x3 (J_min 99 (t_9 + q_10.1))).bind (fun σ_12 =>
      (am_rd σ_12 (a1 + 10) 12 q_6).bind (fun t_13 =>
      (am_wr σ_12 (a1 + 10) 12 q_6 (J_min 99 (t_13 + 1))).bind (fun σ_15 =>
      (C_War_asks F a0 a1 x3 2 σ_15).bind (fun q_16 =>
      if x2 = true then (
        if q_16.1 < 500 then (
          C_War_spendEvening_p142 F a0 a1 x2 x3 false q_16.2)
        else (
          C_War_spendEvening_p142 F a0 a1 x2 x3 true q_16.2))
      else (
        if 0 < q_16.1 then (
          (C_Front_draw a1 1000 q_16.2).bind (fun q_19 =>
          if q_19.1 < q_16.1 then (
            C_War_spendEvening_p142 F a0 a1 x2 x3 true q_19.2)
          else (
            C_War_spendEvening_p141 F a0 a1 x2 x3 q_19.2)))
        else (
          C_War_spendEvening_p141 F a0 a1 x2 x3 q_16.2)))))))))
    else (
      some σ_5)))))
  else (
    some σ)
/-- SlipperTruce$War.passDay(LSlipperTruce$Front;Z)I -/
def C_War_passDay_p94 (F : Nat) (a1 : Nat) (x3 : Int32) (σ : am_SS) : Option (Int32 × am_SS) :=
  am_let (am_up σ a1 14 ((σ a1 14) + 1)) (fun σ_1 =>
  some (x3, σ_1))
def C_War_passDay_l63 (F : Nat) : Nat → Nat → Nat → Bool → Int32 → Int32 → am_SS → Option (Int32 × am_SS)
  | 0, _, _, _, _, _, _ => none
  | n + 1, a0, a1, x2, x3, x5, σ => (
  if x5 < (σ a1 0) then (
    if (σ a1 13) = (-1) then (
      (C_War_spendEvening F a0 a1 x2 x5 σ).bind (fun q_3 =>
      am_let (x5 + 1) (fun x5_4 =>
      (C_War_passDay_l63 F n) a0 a1 x2 x3 x5_4 q_3)))
    else (
      C_War_passDay_p94 F a1 x3 σ))
  else (
    C_War_passDay_p94 F a1 x3 σ))
def C_War_passDay_p60 (F : Nat) (a0 : Nat) (a1 : Nat) (x2 : Bool) (x3 : Int32) (σ : am_SS) : Option (Int32 × am_SS) :=
  C_War_passDay_l63 F F a0 a1 x2 x3 0 σ
def C_War_passDay_l21 (F : Nat) : Nat → Nat → Nat → Bool → Int32 → Bool → Int32 → am_SS → Option (Int32 × am_SS)
  | 0, _, _, _, _, _, _, _ => none
  | n + 1, a0, a1, x2, x3, x4, x5, σ => (
  if x5 < (σ a1 0) then (
    if x4 = true then (
      C_War_passDay_p60 F a0 a1 x2 x3 σ)
    else (
      if (σ a1 13) = (-1) then (
        (C_War_press F a0 a1 x2 x5 σ).bind (fun q_4 =>
        am_let (x3 + q_4.1) (fun x3_5 =>
        am_let (x5 + 1) (fun x5_6 =>
        (C_War_passDay_l21 F n) a0 a1 x2 x3_5 x4 x5_6 q_4.2))))
      else (
        C_War_passDay_p60 F a0 a1 x2 x3 σ)))
  else (
    C_War_passDay_p60 F a0 a1 x2 x3 σ))
def C_War_passDay (F : Nat) (a0 : Nat) (a1 : Nat) (x2 : Bool) (σ : am_SS) : Option (Int32 × am_SS) :=
  if (σ a1 13) = (-1) then (
    (C_War_follow F a0 a1 x2 σ).bind (fun q_2 =>
    C_War_passDay_l21 F F a0 a1 x2 0 q_2.1 0 q_2.2))
  else (
    C_War_passDay_p94 F a1 0 σ)
/-- SlipperTruce$Ways.isPoint(II)Z -/
def C_Ways_isPoint (x0 : Int32) (x1 : Int32) : Bool :=
  if x0 < (-50) then (
    false)
  else (
    if 50 < x0 then (
      false)
    else (
      if x1 < (-50) then (
        false)
      else (
        if 50 < x1 then (
          false)
        else (
          true))))
/-- SlipperTruce$Ways.isBetween(III)Z -/
def C_Ways_isBetween (x0 : Int32) (x1 : Int32) (x2 : Int32) : Bool :=
  if x0 < (J_min x1 x2) then (
    false)
  else (
    if (J_max x1 x2) < x0 then (
      false)
    else (
      true))
/-- SlipperTruce$Ways.meets(LSlipperTruce$Table;II)I -/
def C_Ways_meets_p189 (rec5 : Nat → Int32 → Int32 → Bool → Int32 → am_SS → Option Int32) (F : Nat) (a0 : Nat) (x1 : Int32) (x2 : Int32) (x3 : Bool) (x4 : Int32) (σ : am_SS) : Option Int32 :=
  am_let (x4 + 1) (fun x4_1 =>
  rec5 a0 x1 x2 x3 x4_1 σ)
def C_Ways_meets_p188 (rec5 : Nat → Int32 → Int32 → Bool → Int32 → am_SS → Option Int32) (F : Nat) (a0 : Nat) (x1 : Int32) (x2 : Int32) (x4 : Int32) (s0 : Bool) (σ : am_SS) : Option Int32 :=
  C_Ways_meets_p189 rec5 F a0 x1 x2 s0 x4 σ
def C_Ways_meets_p179 (rec5 : Nat → Int32 → Int32 → Bool → Int32 → am_SS → Option Int32) (F : Nat) (a0 : Nat) (x1 : Int32) (x2 : Int32) (x3 : Bool) (x4 : Int32) (σ : am_SS) : Option Int32 :=
  if x3 = true then (
    C_Ways_meets_p188 rec5 F a0 x1 x2 x4 false σ)
  else (
    C_Ways_meets_p188 rec5 F a0 x1 x2 x4 true σ)
def C_Ways_meets_p152 (rec5 : Nat → Int32 → Int32 → Bool → Int32 → am_SS → Option Int32) (F : Nat) (a0 : Nat) (x1 : Int32) (x2 : Int32) (x3 : Bool) (x4 : Int32) (x7 : Int32) (x9 : Int32) (x10 : Int32) (s0 : Bool) (σ : am_SS) : Option Int32 :=
  if s0 = true then (
    if x7 < x9 then (
      if 0 < x10 then (
        C_Ways_meets_p179 rec5 F a0 x1 x2 x3 x4 σ)
      else (
        C_Ways_meets_p189 rec5 F a0 x1 x2 x3 x4 σ))
    else (
      if x10 < 0 then (
        C_Ways_meets_p179 rec5 F a0 x1 x2 x3 x4 σ)
      else (
        C_Ways_meets_p189 rec5 F a0 x1 x2 x3 x4 σ)))
  else (
    C_Ways_meets_p189 rec5 F a0 x1 x2 x3 x4 σ)
def C_Ways_meets_p151 (rec5 : Nat → Int32 → Int32 → Bool → Int32 → am_SS → Option Int32) (F : Nat) (a0 : Nat) (x1 : Int32) (x2 : Int32) (x3 : Bool) (x4 : Int32) (x7 : Int32) (x9 : Int32) (x10 : Int32) (σ : am_SS) : Option Int32 :=
  C_Ways_meets_p152 rec5 F a0 x1 x2 x3 x4 x7 x9 x10 false σ
def C_Ways_meets_p147 (rec5 : Nat → Int32 → Int32 → Bool → Int32 → am_SS → Option Int32) (F : Nat) (a0 : Nat) (x1 : Int32) (x2 : Int32) (x3 : Bool) (x4 : Int32) (x7 : Int32) (x9 : Int32) (x10 : Int32) (σ : am_SS) : Option Int32 :=
  C_Ways_meets_p152 rec5 F a0 x1 x2 x3 x4 x7 x9 x10 true σ
def C_Ways_meets_p135 (rec5 : Nat → Int32 → Int32 → Bool → Int32 → am_SS → Option Int32) (F : Nat) (a0 : Nat) (x1 : Int32) (x2 : Int32) (x3 : Bool) (x4 : Int32) (x7 : Int32) (x9 : Int32) (x10 : Int32) (σ : am_SS) : Option Int32 :=
  if x2 < x9 then (
    C_Ways_meets_p151 rec5 F a0 x1 x2 x3 x4 x7 x9 x10 σ)
  else (
    if x2 < x7 then (
      C_Ways_meets_p147 rec5 F a0 x1 x2 x3 x4 x7 x9 x10 σ)
    else (
      C_Ways_meets_p151 rec5 F a0 x1 x2 x3 x4 x7 x9 x10 σ))
def C_Ways_meets_p123 (rec5 : Nat → Int32 → Int32 → Bool → Int32 → am_SS → Option Int32) (F : Nat) (a0 : Nat) (x1 : Int32) (x2 : Int32) (x3 : Bool) (x4 : Int32) (x7 : Int32) (x9 : Int32) (x10 : Int32) (σ : am_SS) : Option Int32 :=
  if x2 < x7 then (
    C_Ways_meets_p135 rec5 F a0 x1 x2 x3 x4 x7 x9 x10 σ)
  else (
    if x2 < x9 then (
      C_Ways_meets_p147 rec5 F a0 x1 x2 x3 x4 x7 x9 x10 σ)
    else (
      C_Ways_meets_p135 rec5 F a0 x1 x2 x3 x4 x7 x9 x10 σ))
def C_Ways_meets_p33 (rec5 : Nat → Int32 → Int32 → Bool → Int32 → am_SS → Option Int32) (F : Nat) (a0 : Nat) (x1 : Int32) (x2 : Int32) (x3 : Bool) (x4 : Int32) (s0 : Int32) (σ : am_SS) : Option Int32 :=
  (C_Table_at a0 x4 0 σ).bind (fun q_1 =>
  (C_Table_at a0 x4 1 σ).bind (fun q_2 =>
  (C_Table_at a0 s0 0 σ).bind (fun q_3 =>
  (C_Table_at a0 s0 1 σ).bind (fun q_4 =>
  am_let (((q_3 - q_1) * (x2 - q_2)) - ((x1 - q_1) * (q_4 - q_2))) (fun x10_5 =>
  if x10_5 = 0 then (
    if (C_Ways_isBetween x1 q_1 q_3) = true then (
      if (C_Ways_isBetween x2 q_2 q_4) = true then (
        some 2)
      else (
        C_Ways_meets_p123 rec5 F a0 x1 x2 x3 x4 q_2 q_4 x10_5 σ))
    else (
      C_Ways_meets_p123 rec5 F a0 x1 x2 x3 x4 q_2 q_4 x10_5 σ))
  else (
    C_Ways_meets_p123 rec5 F a0 x1 x2 x3 x4 q_2 q_4 x10_5 σ))))))
def C_Ways_meets_l5 (F : Nat) : Nat → Nat → Int32 → Int32 → Bool → Int32 → am_SS → Option Int32
  | 0, _, _, _, _, _, _ => none
  | n + 1, a0, x1, x2, x3, x4, σ => (
  if x4 < (σ a0 2) then (
    if (x4 + 1) < (σ a0 2) then (
      C_Ways_meets_p33 (C_Ways_meets_l5 F n) F a0 x1 x2 x3 x4 (x4 + 1) σ)
    else (
      C_Ways_meets_p33 (C_Ways_meets_l5 F n) F a0 x1 x2 x3 x4 0 σ))
  else (
    if x3 = true then (
      some 1)
    else (
      some 0)))
def C_Ways_meets (F : Nat) (a0 : Nat) (x1 : Int32) (x2 : Int32) (σ : am_SS) : Option Int32 :=
  C_Ways_meets_l5 F F a0 x1 x2 false 0 σ
/-- SlipperTruce$Ways.twiceArea(LSlipperTruce$Table;)I -/
def C_Ways_twiceArea_p29 (rec4 : Nat → Int32 → Int32 → am_SS → Option Int32) (F : Nat) (a0 : Nat) (x1 : Int32) (x2 : Int32) (s0 : Int32) (σ : am_SS) : Option Int32 :=
  (C_Table_at a0 x2 0 σ).bind (fun q_1 =>
  (C_Table_at a0 s0 1 σ).bind (fun q_2 =>
  (C_Table_at a0 s0 0 σ).bind (fun q_3 =>
  (C_Table_at a0 x2 1 σ).bind (fun q_4 =>
  am_let (x1 + ((q_1 * q_2) - (q_3 * q_4))) (fun x1_5 =>
  am_let (x2 + 1) (fun x2_6 =>
  rec4 a0 x1_5 x2_6 σ))))))
def C_Ways_twiceArea_l4 (F : Nat) : Nat → Nat → Int32 → Int32 → am_SS → Option Int32
  | 0, _, _, _, _ => none
  | n + 1, a0, x1, x2, σ => (
  if x2 < (σ a0 2) then (
    if (x2 + 1) < (σ a0 2) then (
      C_Ways_twiceArea_p29 (C_Ways_twiceArea_l4 F n) F a0 x1 x2 (x2 + 1) σ)
    else (
      C_Ways_twiceArea_p29 (C_Ways_twiceArea_l4 F n) F a0 x1 x2 0 σ))
  else (
    some x1))
def C_Ways_twiceArea (F : Nat) (a0 : Nat) (σ : am_SS) : Option Int32 :=
  C_Ways_twiceArea_l4 F F a0 0 0 σ
/-- SlipperTruce.state(I)I -/
def C_state (x1 : Int32) (σ : am_SS) : (Int32 × am_SS) :=
  am_let (σ 2 15) (fun x2_1 =>
  am_let (am_up σ 2 15 x1) (fun σ_2 =>
  am_let (C_Past_forget 88 σ_2) (fun q_3 =>
  (x2_1, q_3))))
/-- SlipperTruce.officer(II)I -/
def C_officer (x1 : Int32) (x2 : Int32) (σ : am_SS) : Option (Int32 × am_SS) :=
  if x1 < 0 then (
    some ((-1), σ))
  else (
    if 1 < x1 then (
      some ((-1), σ))
    else (
      if x2 < 0 then (
        some ((-1), σ))
      else (
        if 9 < x2 then (
          some ((-1), σ))
        else (
          (C_Front_addOfficer 2 x1 x2 σ).bind (fun q_5 =>
          if q_5.1 = (-1) then (
            some (q_5.1, q_5.2))
          else (
            am_let (C_Past_forget 88 q_5.2) (fun q_7 =>
            some (q_5.1, q_7))))))))
/-- SlipperTruce.batman(II)I -/
def C_batman (x1 : Int32) (x2 : Int32) (σ : am_SS) : Option (Int32 × am_SS) :=
  if x1 < 0 then (
    some ((-1), σ))
  else (
    if 1 < x1 then (
      some ((-1), σ))
    else (
      if x2 < 0 then (
        some ((-1), σ))
      else (
        if 9 < x2 then (
          some ((-1), σ))
        else (
          (C_Front_addBatman 2 x1 x2 σ).bind (fun q_5 =>
          if q_5.1 = (-1) then (
            some (q_5.1, q_5.2))
          else (
            am_let (C_Past_forget 88 q_5.2) (fun q_7 =>
            some (q_5.1, q_7))))))))
/-- SlipperTruce.set(III)Z -/
def C_set_p81 (x4 : Bool) (σ : am_SS) : Option (Bool × am_SS) :=
  if x4 = true then (
    am_let (C_Past_forget 88 σ) (fun q_2 =>
    some (x4, q_2)))
  else (
    some (x4, σ))
def C_set_p37 (x1 : Int32) (x2 : Int32) (x3 : Int32) (σ : am_SS) : Option (Bool × am_SS) :=
  (C_Front_putBatman 2 x1 x2 x3 σ).bind (fun q_1 =>
  C_set_p81 q_1.1 q_1.2)
def C_set_p79 (s0 : Bool) (σ : am_SS) : Option (Bool × am_SS) :=
  C_set_p81 s0 σ
def C_set_p78 (σ : am_SS) : Option (Bool × am_SS) :=
  C_set_p79 false σ
def C_set_p27 (x1 : Int32) (x2 : Int32) (x3 : Int32) (σ : am_SS) : Option (Bool × am_SS) :=
  if x1 = 3 then (
    C_set_p37 x1 x2 x3 σ)
  else (
    if x1 = 4 then (
      C_set_p37 x1 x2 x3 σ)
    else (
      if x1 = 5 then (
        am_let (C_Front_putLine 2 x3 σ) (fun q_4 =>
        if q_4.1 = true then (
          C_set_p79 true q_4.2)
        else (
          C_set_p78  q_4.2)))
      else (
        C_set_p78  σ)))
def C_set (x1 : Int32) (x2 : Int32) (x3 : Int32) (σ : am_SS) : Option (Bool × am_SS) :=
  if x1 < 0 then (
    C_set_p27 x1 x2 x3 σ)
  else (
    if 2 < x1 then (
      C_set_p27 x1 x2 x3 σ)
    else (
      (C_Front_putOfficer 2 x1 x2 x3 σ).bind (fun q_3 =>
      C_set_p81 q_3.1 q_3.2)))
/-- SlipperTruce.act(III)Z -/
def C_act (F : Nat) (x1 : Int32) (x2 : Int32) (x3 : Int32) (σ : am_SS) : Option (Bool × am_SS) :=
  (C_War_canAct 1 x1 x2 x3 σ).bind (fun q_1 =>
  if q_1 = true then (
    (C_Past_keep F 88 2 (σ 13 2) σ).bind (fun q_3 =>
    (C_War_perform F 1 x1 x2 x3 q_3).bind (fun q_4 =>
    some (true, q_4))))
  else (
    some (false, σ)))
/-- SlipperTruce.days(I)I -/
def C_days_l35 (F : Nat) : Nat → Int32 → Int32 → Int32 → am_SS → Option (Int32 × am_SS)
  | 0, _, _, _, _ => none
  | n + 1, x1, x2, x3, σ => (
  if x3 < x1 then (
    (C_Past_keep F 88 2 (σ 13 2) σ).bind (fun q_2 =>
    (C_War_passDay F 1 2 false q_2).bind (fun q_3 =>
    am_let (x2 + q_3.1) (fun x2_4 =>
    am_let (x3 + 1) (fun x3_5 =>
    (C_days_l35 F n) x1 x2_4 x3_5 q_3.2)))))
  else (
    some (x2, σ)))
def C_days (F : Nat) (x1 : Int32) (σ : am_SS) : Option (Int32 × am_SS) :=
  if x1 < 1 then (
    some ((-1), σ))
  else (
    if 60 < x1 then (
      some ((-1), σ))
    else (
      if 9999 < ((σ 2 14) + x1) then (
        some ((-1), σ))
      else (
        C_days_l35 F F x1 0 0 σ)))
/-- SlipperTruce.feed(IIIII)I -/
def C_feed (F : Nat) (x1 : Int32) (x2 : Int32) (x3 : Int32) (x4 : Int32) (x5 : Int32) (σ : am_SS) : Option (Int32 × am_SS) :=
  if 400 < ((σ 157 1) + 20) then (
    some ((-1), σ))
  else (
    (C_Reader_put F 157 x1 σ).bind (fun q_2 =>
    (C_Reader_put F 157 x2 q_2).bind (fun q_3 =>
    (C_Reader_put F 157 x3 q_3).bind (fun q_4 =>
    (C_Reader_put F 157 x4 q_4).bind (fun q_5 =>
    (C_Reader_put F 157 x5 q_5).bind (fun q_6 =>
    some ((q_6 157 1), q_6)))))))
/-- SlipperTruce.end(I)Z -/
def C_end (x1 : Int32) (σ : am_SS) : (Bool × am_SS) :=
  if x1 < 0 then (
    (false, σ))
  else (
    if (σ 157 1) < x1 then (
      (false, σ))
    else (
      am_let (am_up σ 157 1 x1) (fun σ_3 =>
      (true, σ_3))))
/-- SlipperTruce.tellRows(LSlipperTruce$Table;)I -/
def C_tellRows (F : Nat) (a1 : Nat) (σ : am_SS) : Option (Int32 × am_SS) :=
  (C_Table_copyFrom F a1 168 σ).bind (fun q_1 =>
  some ((q_1 a1 2), q_1))
/-- SlipperTruce.text(I)I -/
def C_text_p196 (F : Nat) (x2 : Int32) (σ : am_SS) : Option (Int32 × am_SS) :=
  am_let (am_up σ 157 1 0) (fun σ_1 =>
  some (x2, σ_1))
def C_text (F : Nat) (x1 : Int32) (σ : am_SS) : Option (Int32 × am_SS) :=
  (C_Reader_cut F 157 σ).bind (fun q_1 =>
  if x1 = 0 then (
    (C_Reader_readLaw F 157 q_1).bind (fun q_3 =>
    if q_3.1 = true then (
      (C_Law_copyFrom F 15 162 q_3.2).bind (fun q_5 =>
      am_let (q_5 16 2) (fun x2_6 =>
      C_text_p196 F x2_6 q_5)))
    else (
      C_text_p196 F (-1) q_3.2)))
  else   if x1 = 1 then (
    (C_Reader_readOrders F 157 2 q_1).bind (fun q_8 =>
    if q_8.1 = true then (
      (C_tellRows F 21 q_8.2).bind (fun q_10 =>
      am_let (C_Past_forget 88 q_10.2) (fun q_11 =>
      C_text_p196 F q_10.1 q_11)))
    else (
      C_text_p196 F (-1) q_8.2)))
  else   if x1 = 2 then (
    (C_Reader_readCouples F 157 2 true q_1).bind (fun q_13 =>
    if q_13.1 = true then (
      (C_tellRows F 23 q_13.2).bind (fun q_15 =>
      am_let (C_Past_forget 88 q_15.2) (fun q_16 =>
      C_text_p196 F q_15.1 q_16)))
    else (
      C_text_p196 F (-1) q_13.2)))
  else   if x1 = 3 then (
    (C_Reader_readCouples F 157 2 false q_1).bind (fun q_18 =>
    if q_18.1 = true then (
      (C_tellRows F 25 q_18.2).bind (fun q_20 =>
      C_text_p196 F q_20.1 q_20.2))
    else (
      C_text_p196 F (-1) q_18.2)))
  else (
  C_text_p196 F (-1) q_1))
/-- SlipperTruce.fault(I)I -/
def C_fault (x1 : Int32) (σ : am_SS) : Int32 :=
  if x1 = 0 then (
    (σ 157 7))
  else (
    if x1 = 1 then (
      (σ 157 8))
    else (
      (-1)))
/-- SlipperTruce.of(II)I -/
def C_of (F : Nat) (x1 : Int32) (x2 : Int32) (σ : am_SS) : Option (Int32 × am_SS) :=
  if (C_Front_hasOfficer 2 x1 σ) = true then (
    if x2 = 0 then (
      (am_rd σ 3 12 x1).bind (fun t_4 =>
      some (t_4, σ)))
    else     if x2 = 1 then (
      (am_rd σ 4 12 x1).bind (fun t_6 =>
      some (t_6, σ)))
    else     if x2 = 2 then (
      (am_rd σ 5 12 x1).bind (fun t_8 =>
      some (t_8, σ)))
    else     if x2 = 3 then (
      (am_rd σ 6 12 x1).bind (fun t_10 =>
      some (t_10, σ)))
    else     if x2 = 4 then (
      (am_rd σ 7 12 x1).bind (fun t_12 =>
      some (t_12, σ)))
    else     if x2 = 5 then (
      (am_rd σ 8 12 x1).bind (fun t_14 =>
      some (t_14, σ)))
    else     if x2 = 6 then (
      (am_rd σ 9 12 x1).bind (fun t_16 =>
      some (t_16, σ)))
    else     if x2 = 7 then (
      (C_War_batmanOf F 1 x1 σ).bind (fun q_18 =>
      some (q_18, σ)))
    else     if x2 = 8 then (
      (C_War_needed F 1 x1 σ).bind (fun q_20 =>
      some (q_20, σ)))
    else     if x2 = 9 then (
      (C_War_asks F 1 2 x1 0 σ).bind (fun q_22 =>
      some (q_22.1, q_22.2)))
    else     if x2 = 10 then (
      (C_War_asks F 1 2 x1 1 σ).bind (fun q_24 =>
      some (q_24.1, q_24.2)))
    else     if x2 = 11 then (
      (C_War_asks F 1 2 x1 2 σ).bind (fun q_26 =>
      some (q_26.1, q_26.2)))
    else     if x2 = 12 then (
      (C_Front_mustGiveUp 2 x1 σ).bind (fun q_28 =>
      if q_28 = true then (
        some (0, σ))
      else (
        (C_War_hasHisNeeds F 1 2 x1 σ).bind (fun q_30 =>
        if q_30 = true then (
          some (1, σ))
        else (
          some (0, σ))))))
    else (
    some ((-2), σ)))
  else (
    some ((-2), σ))
/-- SlipperTruce.who(II)I -/
def C_who (F : Nat) (x1 : Int32) (x2 : Int32) (σ : am_SS) : Option Int32 :=
  if (C_Front_hasBatman 2 x1 σ) = true then (
    if x2 = 0 then (
      (am_rd σ 10 12 x1).bind (fun t_4 =>
      some t_4))
    else     if x2 = 1 then (
      (am_rd σ 11 12 x1).bind (fun t_6 =>
      some t_6))
    else     if x2 = 2 then (
      (am_rd σ 12 12 x1).bind (fun t_8 =>
      some t_8))
    else     if x2 = 3 then (
      (C_War_servedBy F 1 x1 σ).bind (fun q_10 =>
      some q_10))
    else (
    some (-1)))
  else (
    some (-1))
/-- SlipperTruce.book(II)I -/
def C_book (x1 : Int32) (x2 : Int32) (σ : am_SS) : Option Int32 :=
  (C_Table_at 13 x1 x2 σ).bind (fun q_1 =>
  some q_1)
/-- SlipperTruce.look(I)I -/
def C_look (F : Nat) (x1 : Int32) (σ : am_SS) : Option Int32 :=
  if x1 = 0 then (
    some (σ 2 0))
  else   if x1 = 1 then (
    some (σ 2 8))
  else   if x1 = 2 then (
    some (σ 2 12))
  else   if x1 = 3 then (
    some (σ 2 13))
  else   if x1 = 4 then (
    (C_Front_whoIsRead F 2 σ).bind (fun q_6 =>
    some q_6))
  else   if x1 = 5 then (
    some (σ 2 14))
  else   if x1 = 6 then (
    some (σ 13 2))
  else   if x1 = 7 then (
    some (σ 2 15))
  else   if x1 = 8 then (
    some (σ 16 2))
  else   if x1 = 9 then (
    some (σ 21 2))
  else   if x1 = 10 then (
    some (σ 23 2))
  else   if x1 = 11 then (
    some (σ 25 2))
  else   if x1 = 12 then (
    some (σ 88 3))
  else (
  some (-100000))
/-- SlipperTruce.goes(II)I -/
def C_goes_l40 (F : Nat) : Nat → Int32 → Int32 → Int32 → am_SS → Option (Int32 × am_SS)
  | 0, _, _, _, _ => none
  | n + 1, x1, x2, x3, σ => (
  if x3 < x1 then (
    (C_War_passDay F 1 77 true σ).bind (fun q_8 =>
    am_let (x3 + 1) (fun x3_9 =>
    (C_goes_l40 F n) x1 x2 x3_9 q_8.2)))
  else (
    if x2 = 0 then (
      some ((σ 77 12), σ))
    else     if x2 = 1 then (
      (C_Front_total F 77 84 σ).bind (fun q_4 =>
      some (q_4, σ)))
    else     if x2 = 2 then (
      (C_Front_total F 77 82 σ).bind (fun q_6 =>
      some (q_6, σ)))
    else (
    (C_Front_total F 77 80 σ).bind (fun q_7 =>
    some (q_7, σ)))))
def C_goes (F : Nat) (x1 : Int32) (x2 : Int32) (σ : am_SS) : Option (Int32 × am_SS) :=
  if x1 < 1 then (
    some ((-1000), σ))
  else (
    if 60 < x1 then (
      some ((-1000), σ))
    else (
      if x2 < 0 then (
        some ((-1000), σ))
      else (
        if 3 < x2 then (
          some ((-1000), σ))
        else (
          (C_Front_copyFrom F 77 2 σ).bind (fun q_5 =>
          C_goes_l40 F F x1 x2 0 q_5)))))
/-- SlipperTruce.peace()I -/
def C_peace_l16 (F : Nat) : Nat → Int32 → am_SS → Option (Int32 × am_SS)
  | 0, _, _ => none
  | n + 1, x1, σ => (
  if x1 < 60 then (
    if (σ 77 13) = (-1) then (
      (C_War_passDay F 1 77 true σ).bind (fun q_4 =>
      am_let (x1 + 1) (fun x1_5 =>
      (C_peace_l16 F n) x1_5 q_4.2)))
    else (
      some (x1, σ)))
  else (
    if (σ 77 13) = (-1) then (
      some ((-1), σ))
    else (
      some (60, σ))))
def C_peace (F : Nat) (σ : am_SS) : Option (Int32 × am_SS) :=
  (C_Front_copyFrom F 77 2 σ).bind (fun q_1 =>
  C_peace_l16 F F 0 q_1)
/-- SlipperTruce.guess(III)I -/
def C_guess_p41 (F : Nat) (x1 : Int32) (x2 : Int32) (x3 : Int32) (s0 : Bool) (σ : am_SS) : Option (Int32 × am_SS) :=
  if s0 = true then (
    if (C_Nights_isWord x1) = true then (
      (C_Table_add F 27 x1 x2 x3 0 σ).bind (fun q_4 =>
      some (q_4.1, q_4.2)))
    else (
      some ((-1), σ)))
  else (
    some ((-1), σ))
def C_guess_p40 (F : Nat) (x1 : Int32) (x2 : Int32) (x3 : Int32) (σ : am_SS) : Option (Int32 × am_SS) :=
  C_guess_p41 F x1 x2 x3 false σ
def C_guess (F : Nat) (x1 : Int32) (x2 : Int32) (x3 : Int32) (σ : am_SS) : Option (Int32 × am_SS) :=
  if x1 = (-1) then (
    am_let (C_Table_clear 27 σ) (fun q_6 =>
    some (q_6.1, q_6.2)))
  else (
    if x2 < 0 then (
      C_guess_p40 F x1 x2 x3 σ)
    else (
      if 4 < x2 then (
        C_guess_p40 F x1 x2 x3 σ)
      else (
        if x3 < 0 then (
          C_guess_p40 F x1 x2 x3 σ)
        else (
          if (4 - x2) < x3 then (
            C_guess_p40 F x1 x2 x3 σ)
          else (
            C_guess_p41 F x1 x2 x3 true σ)))))
/-- SlipperTruce.words(I)I -/
def C_words_p62 (rec18 : Int32 → Int32 → Int32 → Int32 → am_SS → Option Int32) (F : Nat) (x1 : Int32) (x2 : Int32) (x3 : Int32) (x4 : Int32) (σ : am_SS) : Option Int32 :=
  am_let (x4 + 1) (fun x4_1 =>
  rec18 x1 x2 x3 x4_1 σ)
def C_words_p58 (rec18 : Int32 → Int32 → Int32 → Int32 → am_SS → Option Int32) (F : Nat) (x1 : Int32) (x2 : Int32) (x4 : Int32) (s0 : Int32) (σ : am_SS) : Option Int32 :=
  am_let (x2 + 1) (fun x2_1 =>
  C_words_p62 rec18 F x1 x2_1 s0 x4 σ)
def C_words_l18 (F : Nat) : Nat → Int32 → Int32 → Int32 → Int32 → am_SS → Option Int32
  | 0, _, _, _, _, _ => none
  | n + 1, x1, x2, x3, x4, σ => (
  if x4 < 1296 then (
    am_let ((C_Nights_word x4)) (fun x5_4 =>
    (C_Nights_fits F 27 x5_4 σ).bind (fun q_5 =>
    if q_5 = true then (
      if x2 = 0 then (
        C_words_p58 (C_words_l18 F n) F x1 x2 x4 x5_4 σ)
      else (
        C_words_p58 (C_words_l18 F n) F x1 x2 x4 x3 σ))
    else (
      C_words_p62 (C_words_l18 F n) F x1 x2 x3 x4 σ))))
  else (
    if x1 = 0 then (
      some x2)
    else (
      some x3)))
def C_words_p11 (F : Nat) (x1 : Int32) (σ : am_SS) : Option Int32 :=
  C_words_l18 F F x1 0 (-1) 0 σ
def C_words (F : Nat) (x1 : Int32) (σ : am_SS) : Option Int32 :=
  if x1 = 0 then (
    C_words_p11 F x1 σ)
  else (
    if x1 = 1 then (
      C_words_p11 F x1 σ)
    else (
      some (-1)))
/-- SlipperTruce.letter(II)I -/
def C_letter_p32 (F : Nat) (x2 : Int32) (t0 : Nat) (σ : am_SS) : Option (Int32 × am_SS) :=
  if x2 = (-1) then (
    am_let (C_Table_clear t0 σ) (fun q_5 =>
    some (q_5.1, q_5.2)))
  else (
    if x2 < 0 then (
      some ((-1), σ))
    else (
      if x2 < 26 then (
        (C_Table_add F t0 x2 0 0 0 σ).bind (fun q_4 =>
        some (q_4.1, q_4.2)))
      else (
        some ((-1), σ))))
def C_letter_p11 (F : Nat) (x1 : Int32) (x2 : Int32) (σ : am_SS) : Option (Int32 × am_SS) :=
  if x1 = 0 then (
    C_letter_p32 F x2 29 σ)
  else (
    C_letter_p32 F x2 31 σ)
def C_letter (F : Nat) (x1 : Int32) (x2 : Int32) (σ : am_SS) : Option (Int32 × am_SS) :=
  if x1 = 0 then (
    C_letter_p11 F x1 x2 σ)
  else (
    if x1 = 1 then (
      C_letter_p11 F x1 x2 σ)
    else (
      some ((-1), σ)))
/-- SlipperTruce.message(II)I -/
def C_message_p154 (F : Nat) (s0 : Int32) (σ : am_SS) : Option Int32 :=
  (J_floorMod s0 26).bind (fun q_1 =>
  some q_1)
def C_message_p121 (F : Nat) (x1 : Int32) (x2 : Int32) (s0 : Int32) (σ : am_SS) : Option Int32 :=
  (C_Table_at 29 x2 0 σ).bind (fun q_1 =>
  if x1 = 0 then (
    C_message_p154 F (q_1 + s0) σ)
  else (
    C_message_p154 F (q_1 - s0) σ))
def C_message_p81 (F : Nat) (x1 : Int32) (x2 : Int32) (σ : am_SS) : Option Int32 :=
  if (σ 31 2) = 0 then (
    C_message_p121 F x1 x2 0 σ)
  else (
    if (σ 31 2) = 0 then none else (
    (C_Table_at 31 (x2 % (σ 31 2)) 0 σ).bind (fun q_3 =>
    C_message_p121 F x1 x2 q_3 σ)))
def C_message (F : Nat) (x1 : Int32) (x2 : Int32) (σ : am_SS) : Option Int32 :=
  am_let (σ 29 2) (fun x3_1 =>
  if x1 = 2 then (
    (C_Table_at 29 (x3_1 - 1) 0 σ).bind (fun q_11 =>
    (C_Table_at 29 0 0 σ).bind (fun q_12 =>
    am_let (q_11 - q_12) (fun x4_13 =>
    if x3_1 = 0 then (
      some (-1))
    else (
      (J_floorMod x4_13 26).bind (fun q_15 =>
      some q_15))))))
  else (
    if x2 < 0 then (
      some (-1))
    else (
      if x2 < x3_1 then (
        if x1 = 0 then (
          C_message_p81 F x1 x2 σ)
        else (
          if x1 = 1 then (
            C_message_p81 F x1 x2 σ)
          else (
            if x1 < 11 then (
              some (-1))
            else (
              if 16 < x1 then (
                some (-1))
              else (
                (C_Nights_byRails F x3_1 (x1 - 10) x2).bind (fun q_9 =>
                (C_Table_at 29 q_9 0 σ).bind (fun q_10 =>
                some q_10)))))))
      else (
        some (-1)))))
/-- SlipperTruce.bit(I)I -/
def C_bit_p25 (F : Nat) (x1 : Int32) (σ : am_SS) : Option (Int32 × am_SS) :=
  (C_Table_add F 33 x1 0 0 0 σ).bind (fun q_1 =>
  some (q_1.1, q_1.2))
def C_bit (F : Nat) (x1 : Int32) (σ : am_SS) : Option (Int32 × am_SS) :=
  if x1 = (-1) then (
    am_let (C_Table_clear 33 σ) (fun q_4 =>
    some (q_4.1, q_4.2)))
  else (
    if x1 = 0 then (
      C_bit_p25 F x1 σ)
    else (
      if x1 = 1 then (
        C_bit_p25 F x1 σ)
      else (
        some ((-1), σ))))
/-- SlipperTruce.queen(II)I -/
def C_queen_p41 (F : Nat) (x1 : Int32) (x2 : Int32) (s0 : Bool) (σ : am_SS) : Option (Int32 × am_SS) :=
  if s0 = true then (
    (C_Table_has F 35 x1 x2 σ).bind (fun q_2 =>
    if q_2 = true then (
      some ((-1), σ))
    else (
      (C_Table_add F 35 x1 x2 0 0 σ).bind (fun q_4 =>
      some (q_4.1, q_4.2)))))
  else (
    some ((-1), σ))
def C_queen_p40 (F : Nat) (x1 : Int32) (x2 : Int32) (σ : am_SS) : Option (Int32 × am_SS) :=
  C_queen_p41 F x1 x2 false σ
def C_queen (F : Nat) (x1 : Int32) (x2 : Int32) (σ : am_SS) : Option (Int32 × am_SS) :=
  if x1 = (-1) then (
    am_let (C_Table_clear 35 σ) (fun q_6 =>
    some (q_6.1, q_6.2)))
  else (
    if x1 < 0 then (
      C_queen_p40 F x1 x2 σ)
    else (
      if x1 < 7 then (
        if x2 < 0 then (
          C_queen_p40 F x1 x2 σ)
        else (
          if x2 < 7 then (
            C_queen_p41 F x1 x2 true σ)
          else (
            C_queen_p40 F x1 x2 σ)))
      else (
        C_queen_p40 F x1 x2 σ)))
/-- SlipperTruce.queens(I)I -/
def C_queens (F : Nat) (x1 : Int32) (σ : am_SS) : Option Int32 :=
  if x1 < 1 then (
    some (-1))
  else (
    if 7 < x1 then (
      some (-1))
    else (
      (C_Nights_stand F 35 x1 0 0 0 0 σ).bind (fun q_3 =>
      some q_3)))
/-- SlipperTruce.corner(II)I -/
def C_corner (F : Nat) (x1 : Int32) (x2 : Int32) (σ : am_SS) : Option (Int32 × am_SS) :=
  if x1 = (-100) then (
    am_let (C_Table_clear 37 σ) (fun q_5 =>
    some (q_5.1, q_5.2)))
  else (
    if (C_Ways_isPoint x1 x2) = true then (
      (C_Table_add F 37 x1 x2 0 0 σ).bind (fun q_4 =>
      some (q_4.1, q_4.2)))
    else (
      some ((-1), σ)))
/-- SlipperTruce.within(II)I -/
def C_within (F : Nat) (x1 : Int32) (x2 : Int32) (σ : am_SS) : Option Int32 :=
  if (C_Ways_isPoint x1 x2) = true then (
    (C_Ways_meets F 37 x1 x2 σ).bind (fun q_3 =>
    some q_3))
  else (
    some (-1))
/-- SlipperTruce.area()I -/
def C_area (F : Nat) (σ : am_SS) : Option Int32 :=
  (C_Ways_twiceArea F 37 σ).bind (fun q_1 =>
  some q_1)
/-- SlipperTruce.boots(III)I -/
def C_boots (F : Nat) (x1 : Int32) (x2 : Int32) (x3 : Int32) : Option Int32 :=
  if x1 < 1 then (
    some (-1))
  else (
    if 10 < x1 then (
      some (-1))
    else (
      if x2 < 0 then (
        some (-1))
      else (
        if x2 < x1 then (
          if x3 < 0 then (
            some (-1))
          else (
            if x3 < (1 <<< (x1 &&& 31)) then (
              (C_Sums_peg F x1 x2 x3).bind (fun q_7 =>
              some q_7))
            else (
              some (-1))))
        else (
          some (-1)))))
/-- SlipperTruce.moves(I)I -/
def C_moves (F : Nat) (x1 : Int32) : Option Int32 :=
  (C_Sums_movesLeft F x1).bind (fun q_1 =>
  some q_1)
/-- SlipperTruce.billets(II)I -/
def C_billets_l39 (F : Nat) : Nat → Int32 → Int32 → Int32 → Option Int32
  | 0, _, _, _ => none
  | n + 1, x1, x3, x4 => (
  if x1 < x4 then (
    some x3)
  else (
    (C_Sums_housed F x1 x4).bind (fun q_2 =>
    am_let (x3 + q_2) (fun x3_3 =>
    am_let (x4 + 1) (fun x4_4 =>
    (C_billets_l39 F n) x1 x3_3 x4_4)))))
def C_billets (F : Nat) (x1 : Int32) (x2 : Int32) : Option Int32 :=
  if x1 < 0 then (
    some (-1))
  else (
    if 10 < x1 then (
      some (-1))
    else (
      if x2 < (-1) then (
        some (-1))
      else (
        if 10 < x2 then (
          some (-1))
        else (
          if x2 = (-1) then (
            C_billets_l39 F F x1 0 0)
          else (
            (C_Sums_housed F x1 x2).bind (fun q_6 =>
            some q_6))))))
/-- SlipperTruce.pairs(II)I -/
def C_pairs (F : Nat) (x1 : Int32) (x2 : Int32) : Option Int32 :=
  if x1 < 0 then (
    some (-1))
  else (
    if 10 < x1 then (
      some (-1))
    else (
      if x2 < 0 then (
        some (-1))
      else (
        if x1 < x2 then (
          some (-1))
        else (
          (C_Sums_choose F x1 x2).bind (fun q_5 =>
          (C_Sums_noneHisOwn F (x1 - x2)).bind (fun q_6 =>
          some (q_5 * q_6)))))))
/-- SlipperTruce.ahead(III)I -/
def C_ahead_p78 (F : Nat) (x6 : Int32) (s0 : Int32) : Option Int32 :=
  if x6 = 0 then none else (
  some (s0 / x6))
def C_ahead (F : Nat) (x1 : Int32) (x2 : Int32) (x3 : Int32) : Option Int32 :=
  if x1 < 0 then (
    some (-1))
  else (
    if 12 < x1 then (
      some (-1))
    else (
      if x2 < 0 then (
        some (-1))
      else (
        if x2 < x1 then (
          if x3 < 0 then (
            some (-1))
          else (
            if 2 < x3 then (
              some (-1))
            else (
              am_let (x1 + x2) (fun x4_7 =>
              am_let (x1 - x2) (fun x5_8 =>
              if x3 = 0 then (
                (C_Sums_choose F x4_7 x1).bind (fun q_12 =>
                if x4_7 = 0 then none else (
                some ((q_12 * x5_8) / x4_7))))
              else (
                (C_Sums_commonPart F x4_7 x5_8).bind (fun q_10 =>
                if x3 = 1 then (
                  C_ahead_p78 F q_10 x5_8)
                else (
                  C_ahead_p78 F q_10 x4_7))))))))
        else (
          some (-1)))))
/-- SlipperTruce.feast(II)I -/
def C_feast (x1 : Int32) (x2 : Int32) : Int32 :=
  if x1 < 1600 then (
    (-1))
  else (
    if 2400 < x1 then (
      (-1))
    else (
      if x2 < 0 then (
        (-1))
      else (
        if 1 < x2 then (
          (-1))
        else (
          am_let ((C_Sums_feastDay x1)) (fun x3_6 =>
          if x2 = 0 then (
            (x3_6 / 31))
          else (
            ((x3_6 % 31) + 1)))))))
/-- SlipperTruce.happy(II)I -/
def C_happy (F : Nat) (x1 : Int32) (x2 : Int32) : Option Int32 :=
  if x1 < 1 then (
    some (-1))
  else (
    if 99999 < x1 then (
      some (-1))
    else (
      if x2 = 0 then (
        (C_Sums_happyEnd F x1).bind (fun q_4 =>
        if q_4 = 1 then (
          some 1)
        else (
          some 0)))
      else       if x2 = 1 then (
        (C_Sums_happySteps F x1).bind (fun q_7 =>
        some q_7))
      else       if x2 = 2 then (
        if 999 < x1 then (
          some (-1))
        else (
          (C_Sums_happyUpTo F x1).bind (fun q_10 =>
          some q_10)))
      else (
      some (-1))))
/-- SlipperTruce.parts(II)I -/
def C_parts (F : Nat) (x1 : Int32) (x2 : Int32) : Option Int32 :=
  if x1 < 2 then (
    some (-1))
  else (
    if 99999 < x1 then (
      some (-1))
    else (
      if x2 < 0 then (
        some (-1))
      else (
        if 3 < x2 then (
          some (-1))
        else (
          (C_Sums_ofPrimes F x1 x2).bind (fun q_5 =>
          some q_5)))))
/-- SlipperTruce.brackets(III)I -/
def C_brackets_p63 (F : Nat) : Option Int32 :=
  some (-1)
def C_brackets_p86 (F : Nat) : Option Int32 :=
  some (-1)
def C_brackets (F : Nat) (x1 : Int32) (x2 : Int32) (x3 : Int32) : Option Int32 :=
  if x1 < 0 then (
    some (-1))
  else (
    if 8 < x1 then (
      some (-1))
    else (
      if x3 = 0 then (
        (C_Sums_closings F (2 * x1) 0).bind (fun q_4 =>
        some q_4))
      else       if x3 = 1 then (
        if x2 < 0 then (
          C_brackets_p63 F )
        else (
          (C_Sums_closings F (2 * x1) 0).bind (fun q_7 =>
          if x2 < q_7 then (
            (C_Sums_bracketRow F x1 x2).bind (fun q_9 =>
            some q_9))
          else (
            C_brackets_p63 F ))))
      else       if x3 = 2 then (
        if x2 < 0 then (
          C_brackets_p86 F )
        else (
          if x2 < (1 <<< ((2 * x1) &&& 31)) then (
            (C_Sums_bracketPlace F x1 x2).bind (fun q_13 =>
            some q_13))
          else (
            C_brackets_p86 F )))
      else (
      some (-1))))
/-- SlipperTruce.game(II)I -/
def C_game_p47 (F : Nat) (x3 : Int32) (s0 : Int32) (s1 : Int32) : Option Int32 :=
  if s1 < s0 then (
    some (-1))
  else (
    some x3)
def C_game_p29 (F : Nat) (x1 : Int32) (x2 : Int32) : Option Int32 :=
  (C_Sums_leastPart F x1).bind (fun q_1 =>
  if x2 = (-1) then (
    C_game_p47 F q_1 q_1 (x1 - 1))
  else (
    C_game_p47 F q_1 q_1 x2))
def C_game (F : Nat) (x1 : Int32) (x2 : Int32) : Option Int32 :=
  if x1 < 1 then (
    some (-1))
  else (
    if 120 < x1 then (
      some (-1))
    else (
      if 120 < x2 then (
        some (-1))
      else (
        if x2 < 1 then (
          if x2 = (-1) then (
            C_game_p29 F x1 x2)
          else (
            some (-1)))
        else (
          C_game_p29 F x1 x2))))
/-- SlipperTruce.undo()Z -/
def C_undo (F : Nat) (σ : am_SS) : Option (Bool × am_SS) :=
  (C_Past_goBack F 88 1 σ).bind (fun q_1 =>
  some (q_1.1, q_1.2))
/-- SlipperTruce.image(Z)Z -/
def C_image_p48 (F : Nat) (σ : am_SS) : Option (Bool × am_SS) :=
  if (σ 0 2) = 0 then some (false, σ) else if (σ 0 2) = 1 then some (true, σ) else none
def C_image (F : Nat) (x1 : Bool) (σ : am_SS) : Option (Bool × am_SS) :=
  if x1 = true then (
    (C_War_copyFrom F 39 1 σ).bind (fun q_5 =>
    am_let (am_up q_5 0 2 1) (fun σ_6 =>
    C_image_p48 F  σ_6)))
  else (
    if (σ 0 2) = 0 then (
      C_image_p48 F  σ)
    else (
      (C_War_copyFrom F 1 39 σ).bind (fun q_3 =>
      am_let (C_Past_forget 88 q_3) (fun q_4 =>
      C_image_p48 F  q_4))))
/-- SlipperTruceModel.isIn(III)Z -/
def M_isIn (x1 : Int32) (x2 : Int32) (x3 : Int32) : Bool :=
  if x1 < x2 then (
    false)
  else (
    if x3 < x1 then (
      false)
    else (
      true))
/-- SlipperTruceModel.held(III)I -/
def M_held (x1 : Int32) (x2 : Int32) (x3 : Int32) : Int32 :=
  if x1 < x2 then (
    x2)
  else (
    if x3 < x1 then (
      x3)
    else (
      x1))
/-- SlipperTruceModel.greater(II)I -/
def M_greater (x1 : Int32) (x2 : Int32) : Int32 :=
  if x2 < x1 then (
    x1)
  else (
    x2)
/-- SlipperTruceModel.lesser(II)I -/
def M_lesser (x1 : Int32) (x2 : Int32) : Int32 :=
  if x1 < x2 then (
    x1)
  else (
    x2)
/-- SlipperTruceModel.common(II)I -/
def M_common_l5 (F : Nat) : Nat → Int32 → Int32 → Option Int32
  | 0, _, _ => none
  | n + 1, x3, x4 => (
  if x4 = 0 then (
    some x3)
  else (
    if x4 = 0 then none else (
    am_let (x3 % x4) (fun x5_3 =>
    (M_common_l5 F n) x4 x5_3))))
def M_common (F : Nat) (x1 : Int32) (x2 : Int32) : Option Int32 :=
  M_common_l5 F F x1 x2
/-- SlipperTruceModel.has(II)Z -/
def M_has (x1 : Int32) (x2 : Int32) : Bool :=
  if ((x1 >>> (x2 &&& 31)) &&& 1) = 1 then (
    true)
  else (
    false)
/-- SlipperTruceModel.keepsAhead()V -/
def M_keepsAhead_l55 (F : Nat) : Nat → Int32 → am_SS → Option am_SS
  | 0, _, _ => none
  | n + 1, x1, σ => (
  if x1 < 77 then (
    (am_rd σ 1 77 x1).bind (fun t_3 =>
    (am_wr σ 2 462 ((77 * (σ 0 3)) + x1) t_3).bind (fun σ_4 =>
    am_let (x1 + 1) (fun x1_5 =>
    (M_keepsAhead_l55 F n) x1_5 σ_4))))
  else (
    am_let (am_up σ 0 3 ((σ 0 3) + 1)) (fun σ_2 =>
    some σ_2)))
def M_keepsAhead_p53 (F : Nat) (σ : am_SS) : Option am_SS :=
  M_keepsAhead_l55 F F 0 σ
def M_keepsAhead_l21 (F : Nat) : Nat → Int32 → am_SS → Option am_SS
  | 0, _, _ => none
  | n + 1, x1, σ => (
  if x1 < (77 * (σ 0 3)) then (
    (am_rd σ 2 462 (x1 + 77)).bind (fun t_2 =>
    (am_wr σ 2 462 x1 t_2).bind (fun σ_3 =>
    am_let (x1 + 1) (fun x1_4 =>
    (M_keepsAhead_l21 F n) x1_4 σ_3))))
  else (
    M_keepsAhead_p53 F  σ))
def M_keepsAhead (F : Nat) (σ : am_SS) : Option am_SS :=
  if (σ 0 3) = 6 then (
    am_let (am_up σ 0 3 ((σ 0 3) - 1)) (fun σ_2 =>
    M_keepsAhead_l21 F F 0 σ_2))
  else (
    M_keepsAhead_p53 F  σ)
/-- SlipperTruceModel.undo()Z -/
def M_undo_l26 (F : Nat) : Nat → Int32 → am_SS → Option (Bool × am_SS)
  | 0, _, _ => none
  | n + 1, x1, σ => (
  if x1 < 77 then (
    (am_rd σ 2 462 ((77 * (σ 0 3)) + x1)).bind (fun t_2 =>
    (am_wr σ 1 77 x1 t_2).bind (fun σ_3 =>
    am_let (x1 + 1) (fun x1_4 =>
    (M_undo_l26 F n) x1_4 σ_3))))
  else (
    some (true, σ)))
def M_undo (F : Nat) (σ : am_SS) : Option (Bool × am_SS) :=
  am_let (am_up σ 0 0 0) (fun σ_1 =>
  if (σ_1 0 3) = 0 then (
    some (false, σ_1))
  else (
    am_let (am_up σ_1 0 3 ((σ_1 0 3) - 1)) (fun σ_3 =>
    M_undo_l26 F F 0 σ_3)))
/-- SlipperTruceModel.thinks()V -/
def M_thinks_l2 (F : Nat) : Nat → Int32 → am_SS → Option am_SS
  | 0, _, _ => none
  | n + 1, x1, σ => (
  if x1 < 77 then (
    (am_rd σ 1 77 x1).bind (fun t_3 =>
    (am_wr σ 3 77 x1 t_3).bind (fun σ_4 =>
    am_let (x1 + 1) (fun x1_5 =>
    (M_thinks_l2 F n) x1_5 σ_4))))
  else (
    am_let (am_up σ 0 5 1) (fun σ_2 =>
    some σ_2)))
def M_thinks (F : Nat) (σ : am_SS) : Option am_SS :=
  M_thinks_l2 F F 0 σ
/-- SlipperTruceModel.endsThought()V -/
def M_endsThought_l2 (F : Nat) : Nat → Int32 → am_SS → Option am_SS
  | 0, _, _ => none
  | n + 1, x1, σ => (
  if x1 < 77 then (
    (am_rd σ 3 77 x1).bind (fun t_3 =>
    (am_wr σ 1 77 x1 t_3).bind (fun σ_4 =>
    am_let (x1 + 1) (fun x1_5 =>
    (M_endsThought_l2 F n) x1_5 σ_4))))
  else (
    am_let (am_up σ 0 5 0) (fun σ_2 =>
    some σ_2)))
def M_endsThought (F : Nat) (σ : am_SS) : Option am_SS :=
  M_endsThought_l2 F F 0 σ
/-- SlipperTruceModel.state(I)I -/
def M_state (x1 : Int32) (σ : am_SS) : Option (Int32 × am_SS) :=
  am_let (am_up σ 0 0 0) (fun σ_1 =>
  (am_rd σ_1 1 77 1).bind (fun t_2 =>
  (am_wr σ_1 1 77 1 x1).bind (fun σ_3 =>
  am_let (am_up σ_3 0 3 0) (fun σ_4 =>
  some (t_2, σ_4)))))
/-- SlipperTruceModel.draw(I)I -/
def M_draw (x1 : Int32) (σ : am_SS) : Option (Int32 × am_SS) :=
  (am_rd σ 1 77 1).bind (fun t_1 =>
  (am_wr σ 1 77 1 ((1664525 * t_1) + 1013904223)).bind (fun σ_2 =>
  (am_rd σ_2 1 77 1).bind (fun t_3 =>
  if x1 = 0 then none else (
  some (((((t_3).toUInt32 >>> ((8 : Int32).toUInt32 &&& Int32.toUInt32 31)).toInt32) % x1), σ_2)))))
/-- SlipperTruceModel.isOfficer(I)Z -/
def M_isOfficer (x1 : Int32) (σ : am_SS) : Bool :=
  if x1 < 0 then (
    false)
  else (
    if x1 < (σ 0 6) then (
      true)
    else (
      false))
/-- SlipperTruceModel.isBatman(I)Z -/
def M_isBatman (x1 : Int32) (σ : am_SS) : Bool :=
  if x1 < 0 then (
    false)
  else (
    if x1 < (σ 0 7) then (
      true)
    else (
      false))
/-- SlipperTruceModel.isWon()Z -/
def M_isWon (σ : am_SS) : Option Bool :=
  (am_rd σ 1 77 4).bind (fun t_1 =>
  if 0 < t_1 then (
    some true)
  else (
    some false))
/-- SlipperTruceModel.officer(II)I -/
def M_officer_p86 (rec59 : Int32 → am_SS → Option (Int32 × am_SS)) (F : Nat) (x3 : Int32) (s1 : Int32) (s2 : Int32) (σ : am_SS) : Option (Int32 × am_SS) :=
  (am_wr σ 1 77 s1 s2).bind (fun σ_1 =>
  am_let (x3 + 12) (fun x3_2 =>
  rec59 x3_2 σ_1))
def M_officer_l59 (F : Nat) : Nat → Int32 → am_SS → Option (Int32 × am_SS)
  | 0, _, _ => none
  | n + 1, x3, σ => (
  if x3 < 65 then (
    if x3 = 5 then (
      M_officer_p86 (M_officer_l59 F n) F x3 (x3 + (σ 0 6)) 50 σ)
    else (
      M_officer_p86 (M_officer_l59 F n) F x3 (x3 + (σ 0 6)) 0 σ))
  else (
    am_let (am_up σ 0 6 ((σ 0 6) + 1)) (fun σ_2 =>
    am_let (am_up σ_2 0 3 0) (fun σ_3 =>
    some (((σ_3 0 6) - 1), σ_3)))))
def M_officer (F : Nat) (x1 : Int32) (x2 : Int32) (σ : am_SS) : Option (Int32 × am_SS) :=
  am_let (am_up σ 0 0 0) (fun σ_1 =>
  if (M_isIn x1 0 1) = true then (
    if (M_isIn x2 0 9) = true then (
      if (σ_1 0 6) = 12 then (
        some ((-1), σ_1))
      else (
        (am_wr σ_1 4 12 (σ_1 0 6) x1).bind (fun σ_7 =>
        (am_wr σ_7 5 12 (σ_7 0 6) x2).bind (fun σ_8 =>
        M_officer_l59 F F 5 σ_8))))
    else (
      some ((-1), σ_1)))
  else (
    some ((-1), σ_1)))
/-- SlipperTruceModel.batman(II)I -/
def M_batman (x1 : Int32) (x2 : Int32) (σ : am_SS) : Option (Int32 × am_SS) :=
  am_let (am_up σ 0 0 0) (fun σ_1 =>
  if (M_isIn x1 0 1) = true then (
    if (M_isIn x2 0 9) = true then (
      if (σ_1 0 7) = 12 then (
        some ((-1), σ_1))
      else (
        (am_wr σ_1 6 12 (σ_1 0 7) x1).bind (fun σ_7 =>
        (am_wr σ_7 7 12 (σ_7 0 7) x2).bind (fun σ_8 =>
        (am_wr σ_8 1 77 (65 + (σ_8 0 7)) 0).bind (fun σ_9 =>
        am_let (am_up σ_9 0 7 ((σ_9 0 7) + 1)) (fun σ_10 =>
        am_let (am_up σ_10 0 3 0) (fun σ_11 =>
        some (((σ_11 0 7) - 1), σ_11))))))))
    else (
      some ((-1), σ_1)))
  else (
    some ((-1), σ_1)))
/-- SlipperTruceModel.canSet(III)Z -/
def M_canSet_p107 (s1 : Int32) (s2 : Bool) (s3 : Int32) (σ : am_SS) : Option Bool :=
  if (M_isIn s1 (am_bI s2) s3) = true then (
    some true)
  else (
    some false)
def M_canSet_p62 (s1 : Int32) (s2 : Bool) (s3 : Int32) (σ : am_SS) : Option Bool :=
  if (M_isIn s1 (am_bI s2) s3) = true then (
    some true)
  else (
    some false)
def M_canSet (x1 : Int32) (x2 : Int32) (x3 : Int32) (σ : am_SS) : Option Bool :=
  if x1 = 5 then (
    (M_isWon  σ).bind (fun q_12 =>
    if q_12 = true then (
      some false)
    else (
      if (M_isIn x3 (-98) 98) = true then (
        some true)
      else (
        some false))))
  else (
    if (M_isIn x1 0 2) = true then (
      if (M_isOfficer x2 σ) = true then (
        if x1 = 0 then (
          M_canSet_p62 x3 false 9 σ)
        else (
          M_canSet_p62 x3 false 99 σ))
      else (
        some false))
    else (
      if (M_isIn x1 3 4) = true then (
        if (M_isBatman x2 σ) = true then (
          if x1 = 3 then (
            M_canSet_p107 x3 false 9 σ)
          else (
            M_canSet_p107 x3 false 99 σ))
        else (
          some false))
      else (
        some false)))
/-- SlipperTruceModel.set(III)Z -/
def M_set_p96 (σ : am_SS) : Option (Bool × am_SS) :=
  am_let (am_up σ 0 3 0) (fun σ_1 =>
  some (true, σ_1))
def M_set_p84 (x1 : Int32) (x3 : Int32) (σ : am_SS) : Option (Bool × am_SS) :=
  if x1 = 5 then (
    (am_wr σ 1 77 3 x3).bind (fun σ_2 =>
    M_set_p96  σ_2))
  else (
    M_set_p96  σ)
def M_set_p69 (x1 : Int32) (x2 : Int32) (x3 : Int32) (σ : am_SS) : Option (Bool × am_SS) :=
  if x1 = 4 then (
    (am_wr σ 1 77 (65 + x2) x3).bind (fun σ_2 =>
    M_set_p84 x1 x3 σ_2))
  else (
    M_set_p84 x1 x3 σ)
def M_set_p57 (x1 : Int32) (x2 : Int32) (x3 : Int32) (σ : am_SS) : Option (Bool × am_SS) :=
  if x1 = 3 then (
    (am_wr σ 7 12 x2 x3).bind (fun σ_2 =>
    M_set_p69 x1 x2 x3 σ_2))
  else (
    M_set_p69 x1 x2 x3 σ)
def M_set_p42 (x1 : Int32) (x2 : Int32) (x3 : Int32) (σ : am_SS) : Option (Bool × am_SS) :=
  if x1 = 2 then (
    (am_wr σ 1 77 (17 + x2) x3).bind (fun σ_2 =>
    M_set_p57 x1 x2 x3 σ_2))
  else (
    M_set_p57 x1 x2 x3 σ)
def M_set_p28 (x1 : Int32) (x2 : Int32) (x3 : Int32) (σ : am_SS) : Option (Bool × am_SS) :=
  if x1 = 1 then (
    (am_wr σ 1 77 (5 + x2) x3).bind (fun σ_2 =>
    M_set_p42 x1 x2 x3 σ_2))
  else (
    M_set_p42 x1 x2 x3 σ)
def M_set (x1 : Int32) (x2 : Int32) (x3 : Int32) (σ : am_SS) : Option (Bool × am_SS) :=
  am_let (am_up σ 0 0 0) (fun σ_1 =>
  (M_canSet x1 x2 x3 σ_1).bind (fun q_2 =>
  if q_2 = true then (
    if x1 = 0 then (
      (am_wr σ_1 5 12 x2 x3).bind (fun σ_5 =>
      M_set_p28 x1 x2 x3 σ_5))
    else (
      M_set_p28 x1 x2 x3 σ_1))
  else (
    some (false, σ_1))))
/-- SlipperTruceModel.types(I)V -/
def M_types_l3 (F : Nat) : Nat → Int32 → Int32 → am_SS → Option am_SS
  | 0, _, _, _ => none
  | n + 1, x1, x2, σ => (
  if x2 < 0 then (
    some σ)
  else (
    (am_wr σ 9 400 (σ 0 14) ((x1 >>> (x2 &&& 31)) &&& 255)).bind (fun σ_2 =>
    am_let (am_up σ_2 0 14 ((σ_2 0 14) + 1)) (fun σ_3 =>
    am_let (x2 + (-8)) (fun x2_4 =>
    (M_types_l3 F n) x1 x2_4 σ_3)))))
def M_types (F : Nat) (x1 : Int32) (σ : am_SS) : Option am_SS :=
  M_types_l3 F F x1 24 σ
/-- SlipperTruceModel.feed(IIIII)I -/
def M_feed (F : Nat) (x1 : Int32) (x2 : Int32) (x3 : Int32) (x4 : Int32) (x5 : Int32) (σ : am_SS) : Option (Int32 × am_SS) :=
  am_let (am_up σ 0 0 0) (fun σ_1 =>
  if 380 < (σ_1 0 14) then (
    some ((-1), σ_1))
  else (
    (M_types F x1 σ_1).bind (fun q_3 =>
    (M_types F x2 q_3).bind (fun q_4 =>
    (M_types F x3 q_4).bind (fun q_5 =>
    (M_types F x4 q_5).bind (fun q_6 =>
    (M_types F x5 q_6).bind (fun q_7 =>
    some ((q_7 0 14), q_7))))))))
/-- SlipperTruceModel.end(I)Z -/
def M_end (x1 : Int32) (σ : am_SS) : (Bool × am_SS) :=
  am_let (am_up σ 0 0 0) (fun σ_1 =>
  if (M_isIn x1 0 (σ_1 0 14)) = true then (
    am_let (am_up σ_1 0 14 x1) (fun σ_4 =>
    (true, σ_4)))
  else (
    (false, σ_1)))
/-- SlipperTruceModel.raw(I)I -/
def M_raw (x1 : Int32) (σ : am_SS) : Option Int32 :=
  if x1 < (σ 0 14) then (
    (am_rd σ 9 400 x1).bind (fun t_2 =>
    some t_2))
  else (
    some (-1))
/-- SlipperTruceModel.isLetter(I)Z -/
def M_isLetter_p24 : Bool :=
  true
def M_isLetter (x1 : Int32) : Bool :=
  if (M_isIn x1 97 122) = true then (
    M_isLetter_p24 )
  else (
    if (M_isIn x1 65 90) = true then (
      M_isLetter_p24 )
    else (
      false))
/-- SlipperTruceModel.isDigit(I)Z -/
def M_isDigit (x1 : Int32) : Bool :=
  (M_isIn x1 48 57)
/-- SlipperTruceModel.isMarkSign(I)Z -/
def M_isMarkSign_p60 : Bool :=
  true
def M_isMarkSign (x1 : Int32) : Bool :=
  if x1 = 59 then (
    M_isMarkSign_p60 )
  else (
    if x1 = 43 then (
      M_isMarkSign_p60 )
    else (
      if x1 = 45 then (
        M_isMarkSign_p60 )
      else (
        if x1 = 42 then (
          M_isMarkSign_p60 )
        else (
          if x1 = 47 then (
            M_isMarkSign_p60 )
          else (
            if x1 = 40 then (
              M_isMarkSign_p60 )
            else (
              if x1 = 41 then (
                M_isMarkSign_p60 )
              else (
                if x1 = 60 then (
                  M_isMarkSign_p60 )
                else (
                  if x1 = 61 then (
                    M_isMarkSign_p60 )
                  else (
                    if x1 = 62 then (
                      M_isMarkSign_p60 )
                    else (
                      false))))))))))
/-- SlipperTruceModel.wordAt(II)I -/
def M_wordAt_l94 (rec5 : Int32 → Int32 → Int32 → Int32 → am_SS → Option Int32) (F : Nat) : Nat → Int32 → Int32 → Int32 → Int32 → am_SS → Option Int32
  | 0, _, _, _, _, _ => none
  | n + 1, x1, x2, x3, x4, σ => (
  (am_rd σ 10 133 x4).bind (fun t_1 =>
  if t_1 = 32 then (
    rec5 x1 x2 x3 x4 σ)
  else (
    am_let (x4 + 1) (fun x4_3 =>
    (M_wordAt_l94 rec5 F n) x1 x2 x3 x4_3 σ))))
def M_wordAt_p88 (rec5 : Int32 → Int32 → Int32 → Int32 → am_SS → Option Int32) (F : Nat) (x1 : Int32) (x2 : Int32) (x3 : Int32) (x4 : Int32) (σ : am_SS) : Option Int32 :=
  am_let (x4 + 1) (fun x4_1 =>
  M_wordAt_l94 rec5 F F x1 x2 x3 x4_1 σ)
def M_wordAt_p61 (rec5 : Int32 → Int32 → Int32 → Int32 → am_SS → Option Int32) (F : Nat) (x1 : Int32) (x2 : Int32) (x3 : Int32) (x4 : Int32) (x5 : Int32) (σ : am_SS) : Option Int32 :=
  if (x1 + x5) = x2 then (
    (am_rd σ 10 133 ((x4 + 1) + x5)).bind (fun t_2 =>
    if t_2 = 32 then (
      some x3)
    else (
      M_wordAt_p88 rec5 F x1 x2 x3 x4 σ)))
  else (
    M_wordAt_p88 rec5 F x1 x2 x3 x4 σ)
def M_wordAt_l20 (rec5 : Int32 → Int32 → Int32 → Int32 → am_SS → Option Int32) (F : Nat) : Nat → Int32 → Int32 → Int32 → Int32 → Int32 → am_SS → Option Int32
  | 0, _, _, _, _, _, _ => none
  | n + 1, x1, x2, x3, x4, x5, σ => (
  if (x1 + x5) < x2 then (
    (am_rd σ 10 133 ((x4 + 1) + x5)).bind (fun t_2 =>
    (am_rd σ 9 400 (x1 + x5)).bind (fun t_3 =>
    if t_2 = t_3 then (
      am_let (x5 + 1) (fun x5_5 =>
      (M_wordAt_l20 rec5 F n) x1 x2 x3 x4 x5_5 σ))
    else (
      M_wordAt_p61 rec5 F x1 x2 x3 x4 x5 σ))))
  else (
    M_wordAt_p61 rec5 F x1 x2 x3 x4 x5 σ))
def M_wordAt_l5 (F : Nat) : Nat → Int32 → Int32 → Int32 → Int32 → am_SS → Option Int32
  | 0, _, _, _, _, _ => none
  | n + 1, x1, x2, x3, x4, σ => (
  if x4 < 132 then (
    am_let (x3 + 1) (fun x3_2 =>
    M_wordAt_l20 (M_wordAt_l5 F n) F F x1 x2 x3_2 x4 0 σ))
  else (
    some (-1)))
def M_wordAt (F : Nat) (x1 : Int32) (x2 : Int32) (σ : am_SS) : Option Int32 :=
  M_wordAt_l5 F F x1 x2 (-1) 0 σ
/-- SlipperTruceModel.reads()V -/
def M_reads_p26 (rec0 : am_SS → Option am_SS) (F : Nat) (σ : am_SS) : Option am_SS :=
  am_let (am_up σ 0 15 ((σ 0 15) + 1)) (fun σ_1 =>
  rec0  σ_1)
def M_reads_p223 (rec171 : am_SS → Option am_SS) (F : Nat) (s1 : Int32) (σ : am_SS) : Option am_SS :=
  am_let (am_up σ 0 18 s1) (fun σ_1 =>
  am_let (am_up σ_1 0 15 ((σ_1 0 15) + 1)) (fun σ_2 =>
  rec171  σ_2))
def M_reads_l171 (F : Nat) : Nat → am_SS → Option am_SS
  | 0, _ => none
  | n + 1, σ => (
  (M_raw (σ 0 15) σ).bind (fun q_1 =>
  if (M_isDigit q_1) = true then (
    if (σ 0 18) < 10000 then (
      (M_raw (σ 0 15) σ).bind (fun q_7 =>
      M_reads_p223 (M_reads_l171 F n) F (((10 * (σ 0 18)) + q_7) - 48) σ))
    else (
      M_reads_p223 (M_reads_l171 F n) F (σ 0 18) σ))
  else (
    if ((σ 0 15) - (σ 0 16)) < 5 then (
      am_let (am_up σ 0 17 3) (fun σ_5 =>
      some σ_5))
    else (
      some σ))))
def M_reads_l95 (F : Nat) : Nat → am_SS → Option am_SS
  | 0, _ => none
  | n + 1, σ => (
  (M_raw (σ 0 15) σ).bind (fun q_1 =>
  if (M_isLetter q_1) = true then (
    am_let (am_up σ 0 15 ((σ 0 15) + 1)) (fun σ_8 =>
    (M_reads_l95 F n)  σ_8))
  else (
    (M_wordAt F (σ 0 16) (σ 0 15) σ).bind (fun q_4 =>
    am_let (am_up σ 0 18 q_4) (fun σ_5 =>
    if (σ_5 0 18) = (-1) then (
      some σ_5)
    else (
      am_let (am_up σ_5 0 17 2) (fun σ_7 =>
      some σ_7)))))))
def M_reads_l0 (F : Nat) : Nat → am_SS → Option am_SS
  | 0, _ => none
  | n + 1, σ => (
  (M_raw (σ 0 15) σ).bind (fun q_1 =>
  if q_1 = 32 then (
    M_reads_p26 (M_reads_l0 F n) F  σ)
  else (
    (M_raw (σ 0 15) σ).bind (fun q_3 =>
    if q_3 = 10 then (
      M_reads_p26 (M_reads_l0 F n) F  σ)
    else (
      am_let (am_up σ 0 16 (σ 0 15)) (fun σ_5 =>
      am_let (am_up σ_5 0 17 1) (fun σ_6 =>
      (M_raw (σ_6 0 15) σ_6).bind (fun q_7 =>
      if q_7 = (-1) then (
        am_let (am_up σ_6 0 17 0) (fun σ_19 =>
        some σ_19))
      else (
        am_let (am_up σ_6 0 15 ((σ_6 0 15) + 1)) (fun σ_9 =>
        am_let (am_up σ_9 0 18 q_7) (fun σ_10 =>
        if (M_isLetter q_7) = true then (
          M_reads_l95 F F  σ_10)
        else (
          if (M_isDigit q_7) = true then (
            am_let (am_up σ_10 0 18 (q_7 - 48)) (fun σ_18 =>
            M_reads_l171 F F  σ_18))
          else (
            if (M_isMarkSign q_7) = true then (
              am_let (am_up σ_10 0 17 4) (fun σ_17 =>
              some σ_17))
            else (
              some σ_10))))))))))))))
def M_reads (F : Nat) (σ : am_SS) : Option am_SS := M_reads_l0 F F  σ
/-- SlipperTruceModel.errs(I)I -/
def M_errs (x1 : Int32) (σ : am_SS) : (Int32 × am_SS) :=
  am_let (am_up σ 0 32 x1) (fun σ_1 =>
  am_let (am_up σ_1 0 33 (σ_1 0 16)) (fun σ_2 =>
  ((-1), σ_2)))
/-- SlipperTruceModel.isWord(I)Z -/
def M_isWord (x1 : Int32) (σ : am_SS) : Bool :=
  if (σ 0 17) = 2 then (
    if (σ 0 18) = x1 then (
      true)
    else (
      false))
  else (
    false)
/-- SlipperTruceModel.isSign(I)Z -/
def M_isSign (x1 : Int32) (σ : am_SS) : Bool :=
  if (σ 0 17) = 4 then (
    if (σ 0 18) = x1 then (
      true)
    else (
      false))
  else (
    false)
/-- SlipperTruceModel.emits(II)V -/
def M_emits (x1 : Int32) (x2 : Int32) (σ : am_SS) : Option am_SS :=
  (am_wr σ 16 1200 (800 + (σ 0 28)) x1).bind (fun σ_1 =>
  (am_wr σ_1 17 1200 (800 + (σ_1 0 28)) x2).bind (fun σ_2 =>
  am_let (am_up σ_2 0 28 ((σ_2 0 28) + 1)) (fun σ_3 =>
  some σ_3)))
/-- SlipperTruceModel.canAsk(I)Z -/
def M_canAsk (x1 : Int32) : Bool :=
  (M_isIn x1 7 16)
/-- SlipperTruceModel.readUnit()I -/
def M_readUnit_p71 (F : Nat) (s1 : Bool) (s2 : Int32) (σ : am_SS) : Option (Int32 × am_SS) :=
  (M_emits (am_bI s1) s2 σ).bind (fun q_1 =>
  (M_reads F  q_1).bind (fun q_2 =>
  some (0, q_2)))
def M_readUnit_p53 (F : Nat) (x1 : Bool) (s1 : Bool) (σ : am_SS) : Option (Int32 × am_SS) :=
  if x1 = true then (
    M_readUnit_p71 F s1 ((σ 0 18) - 7) σ)
  else (
    M_readUnit_p71 F s1 (σ 0 18) σ)
def M_readUnit_p43 (F : Nat) (x1 : Bool) (σ : am_SS) : Option (Int32 × am_SS) :=
  if x1 = true then (
    M_readUnit_p53 F x1 true σ)
  else (
    M_readUnit_p53 F x1 false σ)
def M_readUnit_p24 (F : Nat) (s0 : Bool) (σ : am_SS) : Option (Int32 × am_SS) :=
  if s0 = true then (
    M_readUnit_p43 F s0 σ)
  else (
    if (σ 0 17) = 3 then (
      M_readUnit_p43 F s0 σ)
    else (
      am_let (M_errs 1 σ) (fun q_3 =>
      some (q_3.1, q_3.2))))
def M_readUnit_p23 (F : Nat) (σ : am_SS) : Option (Int32 × am_SS) :=
  M_readUnit_p24 F false σ
def M_readUnit (F : Nat) (σ : am_SS) : Option (Int32 × am_SS) :=
  if (σ 0 17) = 2 then (
    if (M_canAsk (σ 0 18)) = true then (
      M_readUnit_p24 F true σ)
    else (
      M_readUnit_p23 F  σ))
  else (
    M_readUnit_p23 F  σ)
/-- SlipperTruceModel.readProduct()I -/
def M_readProduct_p94 (rec10 : am_SS → Option (Int32 × am_SS)) (F : Nat) (s1 : Int32) (σ : am_SS) : Option (Int32 × am_SS) :=
  (M_emits s1 0 σ).bind (fun q_1 =>
  rec10  q_1)
def M_readProduct_p74 (rec10 : am_SS → Option (Int32 × am_SS)) (F : Nat) (x1 : Bool) (σ : am_SS) : Option (Int32 × am_SS) :=
  (M_readUnit F  σ).bind (fun q_1 =>
  if q_1.1 = (-1) then (
    some ((-1), q_1.2))
  else (
    if x1 = true then (
      M_readProduct_p94 rec10 F 4 q_1.2)
    else (
      M_readProduct_p94 rec10 F 5 q_1.2)))
def M_readProduct_p57 (rec10 : am_SS → Option (Int32 × am_SS)) (F : Nat) (x1 : Bool) (σ : am_SS) : Option (Int32 × am_SS) :=
  if x1 = true then (
    M_readProduct_p74 rec10 F x1 σ)
  else (
    if (σ 0 18) = 0 then (
      am_let (M_errs 2 σ) (fun q_3 =>
      some (q_3.1, q_3.2)))
    else (
      M_readProduct_p74 rec10 F x1 σ))
def M_readProduct_p28 (rec10 : am_SS → Option (Int32 × am_SS)) (F : Nat) (σ : am_SS) : Option (Int32 × am_SS) :=
  (M_reads F  σ).bind (fun q_2 =>
  if (M_isSign 42 σ) = true then (
    M_readProduct_p57 rec10 F (M_isSign 42 σ) q_2)
  else (
    if (q_2 0 17) = 3 then (
      M_readProduct_p57 rec10 F (M_isSign 42 σ) q_2)
    else (
      am_let (M_errs 1 q_2) (fun q_5 =>
      some (q_5.1, q_5.2)))))
def M_readProduct_l10 (F : Nat) : Nat → am_SS → Option (Int32 × am_SS)
  | 0, _ => none
  | n + 1, σ => (
  if (M_isSign 42 σ) = true then (
    M_readProduct_p28 (M_readProduct_l10 F n) F  σ)
  else (
    if (M_isSign 47 σ) = true then (
      M_readProduct_p28 (M_readProduct_l10 F n) F  σ)
    else (
      some (0, σ))))
def M_readProduct (F : Nat) (σ : am_SS) : Option (Int32 × am_SS) :=
  (M_readUnit F  σ).bind (fun q_1 =>
  if q_1.1 = (-1) then (
    some ((-1), q_1.2))
  else (
    M_readProduct_l10 F F  q_1.2))
/-- SlipperTruceModel.readSum()I -/
def M_readSum_p42 (rec10 : am_SS → Option (Int32 × am_SS)) (F : Nat) (s0 : Int32) (σ : am_SS) : Option (Int32 × am_SS) :=
  (M_reads F  σ).bind (fun q_1 =>
  (M_readProduct F  q_1).bind (fun q_2 =>
  if q_2.1 = (-1) then (
    some ((-1), q_2.2))
  else (
    (M_emits s0 0 q_2.2).bind (fun q_4 =>
    rec10  q_4))))
def M_readSum_p28 (rec10 : am_SS → Option (Int32 × am_SS)) (F : Nat) (σ : am_SS) : Option (Int32 × am_SS) :=
  if (σ 0 18) = 43 then (
    M_readSum_p42 rec10 F 2 σ)
  else (
    M_readSum_p42 rec10 F 3 σ)
def M_readSum_l10 (F : Nat) : Nat → am_SS → Option (Int32 × am_SS)
  | 0, _ => none
  | n + 1, σ => (
  if (M_isSign 43 σ) = true then (
    M_readSum_p28 (M_readSum_l10 F n) F  σ)
  else (
    if (M_isSign 45 σ) = true then (
      M_readSum_p28 (M_readSum_l10 F n) F  σ)
    else (
      some (0, σ))))
def M_readSum (F : Nat) (σ : am_SS) : Option (Int32 × am_SS) :=
  (M_readProduct F  σ).bind (fun q_1 =>
  if q_1.1 = (-1) then (
    some ((-1), q_1.2))
  else (
    M_readSum_l10 F F  q_1.2))
/-- SlipperTruceModel.readCompared()I -/
def M_readCompared_p73 (F : Nat) (s0 : Int32) (σ : am_SS) : Option (Int32 × am_SS) :=
  (M_reads F  σ).bind (fun q_1 =>
  (M_readSum F  q_1).bind (fun q_2 =>
  if q_2.1 = (-1) then (
    some ((-1), q_2.2))
  else (
    (M_emits s0 0 q_2.2).bind (fun q_4 =>
    some (0, q_4)))))
def M_readCompared_p43 (F : Nat) (σ : am_SS) : Option (Int32 × am_SS) :=
  if (σ 0 18) = 60 then (
    M_readCompared_p73 F 6 σ)
  else (
    if (σ 0 18) = 61 then (
      M_readCompared_p73 F 7 σ)
    else (
      M_readCompared_p73 F 8 σ))
def M_readCompared (F : Nat) (σ : am_SS) : Option (Int32 × am_SS) :=
  (M_readSum F  σ).bind (fun q_1 =>
  if q_1.1 = (-1) then (
    some ((-1), q_1.2))
  else (
    if (M_isSign 60 q_1.2) = true then (
      M_readCompared_p43 F  q_1.2)
    else (
      if (M_isSign 61 q_1.2) = true then (
        M_readCompared_p43 F  q_1.2)
      else (
        if (M_isSign 62 q_1.2) = true then (
          M_readCompared_p43 F  q_1.2)
        else (
          am_let (M_errs 1 q_1.2) (fun q_9 =>
          some (q_9.1, q_9.2)))))))
/-- SlipperTruceModel.waits(I)V -/
def M_waits (x1 : Int32) (σ : am_SS) : Option am_SS :=
  (am_wr σ 18 40 (σ 0 31) x1).bind (fun σ_1 =>
  am_let (am_up σ_1 0 31 ((σ_1 0 31) + 1)) (fun σ_2 =>
  some σ_2))
/-- SlipperTruceModel.settles(I)V -/
def M_settles_l0 (F : Nat) : Nat → Int32 → am_SS → Option am_SS
  | 0, _, _ => none
  | n + 1, x1, σ => (
  if 0 < (σ 0 31) then (
    (am_rd σ 18 40 ((σ 0 31) - 1)).bind (fun t_2 =>
    if t_2 = x1 then (
      am_let (am_up σ 0 31 ((σ 0 31) - 1)) (fun σ_4 =>
      (M_emits x1 0 σ_4).bind (fun q_5 =>
      if x1 = 9 then (
        am_let (am_up q_5 0 29 ((q_5 0 29) - 1)) (fun σ_7 =>
        (M_settles_l0 F n) x1 σ_7))
      else (
        (M_settles_l0 F n) x1 q_5))))
    else (
      some σ)))
  else (
    some σ))
def M_settles (F : Nat) (x1 : Int32) (σ : am_SS) : Option am_SS := M_settles_l0 F F x1 σ
/-- SlipperTruceModel.readAny()I -/
def M_readAny_p78 (rec9 : Int32 → Bool → am_SS → Option (Int32 × am_SS)) (F : Nat) (x1 : Int32) (x2 : Bool) (s1 : Int32) (σ : am_SS) : Option (Int32 × am_SS) :=
  (M_waits s1 σ).bind (fun q_1 =>
  (M_reads F  q_1).bind (fun q_2 =>
  rec9 x1 x2 q_2))
def M_readAny_p66 (rec9 : Int32 → Bool → am_SS → Option (Int32 × am_SS)) (F : Nat) (x1 : Int32) (x2 : Bool) (x3 : Bool) (σ : am_SS) : Option (Int32 × am_SS) :=
  if x3 = true then (
    M_readAny_p78 rec9 F x1 x2 9 σ)
  else (
    M_readAny_p78 rec9 F x1 x2 12 σ)
def M_readAny_p33 (rec9 : Int32 → Bool → am_SS → Option (Int32 × am_SS)) (F : Nat) (x1 : Int32) (x2 : Bool) (x3 : Bool) (σ : am_SS) : Option (Int32 × am_SS) :=
  if (σ 0 29) = 8 then (
    am_let (M_errs 3 σ) (fun q_5 =>
    some (q_5.1, q_5.2)))
  else (
    am_let (am_up σ 0 29 ((σ 0 29) + 1)) (fun σ_2 =>
    if x3 = true then (
      M_readAny_p66 rec9 F x1 x2 x3 σ_2)
    else (
      am_let (x1 + 1) (fun x1_4 =>
      M_readAny_p66 rec9 F x1_4 x2 x3 σ_2))))
def M_readAny_l9 (F : Nat) : Nat → Int32 → Bool → am_SS → Option (Int32 × am_SS)
  | 0, _, _, _ => none
  | n + 1, x1, x2, σ => (
  if x2 = true then (
    if (M_isWord 6 σ) = true then (
      M_readAny_p33 (M_readAny_l9 F n) F x1 x2 (M_isWord 6 σ) σ)
    else (
      if (M_isSign 40 σ) = true then (
        M_readAny_p33 (M_readAny_l9 F n) F x1 x2 (M_isWord 6 σ) σ)
      else (
        (M_readCompared F  σ).bind (fun q_28 =>
        if q_28.1 = (-1) then (
          some ((-1), q_28.2))
        else (
          (M_settles F 9 q_28.2).bind (fun q_30 =>
          (M_readAny_l9 F n) x1 false q_30))))))
  else (
    if (M_isWord 5 σ) = true then (
      (M_settles F 10 σ).bind (fun q_21 =>
      (M_waits 10 q_21).bind (fun q_22 =>
      (M_reads F  q_22).bind (fun q_23 =>
      (M_readAny_l9 F n) x1 true q_23))))
    else (
      if (M_isWord 4 σ) = true then (
        (M_settles F 10 σ).bind (fun q_17 =>
        (M_settles F 11 q_17).bind (fun q_18 =>
        (M_waits 11 q_18).bind (fun q_19 =>
        (M_reads F  q_19).bind (fun q_20 =>
        (M_readAny_l9 F n) x1 true q_20)))))
      else (
        (M_settles F 10 σ).bind (fun q_6 =>
        (M_settles F 11 q_6).bind (fun q_7 =>
        if x1 = 0 then (
          some (0, q_7))
        else (
          if (M_isSign 41 q_7) = true then (
            am_let (am_up q_7 0 31 ((q_7 0 31) - 1)) (fun σ_11 =>
            am_let (x1 - 1) (fun x1_12 =>
            am_let (am_up σ_11 0 29 ((σ_11 0 29) - 1)) (fun σ_13 =>
            (M_settles F 9 σ_13).bind (fun q_14 =>
            (M_reads F  q_14).bind (fun q_15 =>
            (M_readAny_l9 F n) x1_12 x2 q_15))))))
          else (
            am_let (M_errs 1 q_7) (fun q_16 =>
            some (q_16.1, q_16.2))))))))))
def M_readAny (F : Nat) (σ : am_SS) : Option (Int32 × am_SS) :=
  am_let (am_up σ 0 31 0) (fun σ_1 =>
  M_readAny_l9 F F 0 true σ_1)
/-- SlipperTruceModel.isLineWord()Z -/
def M_isLineWord (σ : am_SS) : Bool :=
  if (σ 0 17) = 2 then (
    if (M_isIn (σ 0 18) 0 2) = true then (
      true)
    else (
      false))
  else (
    false)
/-- SlipperTruceModel.readLaw()I -/
def M_readLaw_p92 (rec2 : Int32 → am_SS → Option (Int32 × am_SS)) (F : Nat) (x1 : Int32) (x2 : Int32) (σ : am_SS) : Option (Int32 × am_SS) :=
  (am_wr σ 15 48 x2 (σ 0 28)).bind (fun σ_1 =>
  if (M_isSign 59 σ_1) = true then (
    (M_reads F  σ_1).bind (fun q_4 =>
    am_let (x1 + 1) (fun x1_5 =>
    rec2 x1_5 q_4)))
  else (
    am_let (M_errs 1 σ_1) (fun q_6 =>
    some (q_6.1, q_6.2))))
def M_readLaw_l2 (F : Nat) : Nat → Int32 → am_SS → Option (Int32 × am_SS)
  | 0, _, _ => none
  | n + 1, x1, σ => (
  if (M_isLineWord  σ) = true then (
    if x1 = 16 then (
      am_let (M_errs 3 σ) (fun q_18 =>
      some (q_18.1, q_18.2)))
    else (
      am_let (32 + x1) (fun x2_6 =>
      (am_wr σ 12 48 x2_6 (σ 0 18)).bind (fun σ_7 =>
      (M_reads F  σ_7).bind (fun q_8 =>
      (am_wr q_8 13 48 x2_6 (q_8 0 28)).bind (fun σ_9 =>
      (M_readSum F  σ_9).bind (fun q_10 =>
      if q_10.1 = (-1) then (
        some ((-1), q_10.2))
      else (
        (am_wr q_10.2 14 48 x2_6 (q_10.2 0 28)).bind (fun σ_12 =>
        if (M_isWord 3 σ_12) = true then (
          (M_reads F  σ_12).bind (fun q_15 =>
          (M_readAny F  q_15).bind (fun q_16 =>
          if q_16.1 = (-1) then (
            some ((-1), q_16.2))
          else (
            M_readLaw_p92 (M_readLaw_l2 F n) F x1 x2_6 q_16.2))))
        else (
          M_readLaw_p92 (M_readLaw_l2 F n) F x1 x2_6 σ_12))))))))))
  else (
    if (σ 0 17) = 0 then (
      some (x1, σ))
    else (
      am_let (M_errs 1 σ) (fun q_4 =>
      some (q_4.1, q_4.2)))))
def M_readLaw (F : Nat) (σ : am_SS) : Option (Int32 × am_SS) :=
  M_readLaw_l2 F F 0 σ
/-- SlipperTruceModel.takesLaw(I)V -/
def M_takesLaw_l107 (F : Nat) : Nat → Int32 → Int32 → am_SS → Option am_SS
  | 0, _, _, _ => none
  | n + 1, x1, x2, σ => (
  if x2 < (σ 0 28) then (
    (am_rd σ 16 1200 (800 + x2)).bind (fun t_3 =>
    (am_wr σ 16 1200 ((400 * (σ 0 27)) + x2) t_3).bind (fun σ_4 =>
    (am_rd σ_4 17 1200 (800 + x2)).bind (fun t_5 =>
    (am_wr σ_4 17 1200 ((400 * (σ_4 0 27)) + x2) t_5).bind (fun σ_6 =>
    am_let (x2 + 1) (fun x2_7 =>
    (M_takesLaw_l107 F n) x1 x2_7 σ_6))))))
  else (
    (am_wr σ 11 2 (σ 0 27) x1).bind (fun σ_2 =>
    some σ_2)))
def M_takesLaw_l2 (F : Nat) : Nat → Int32 → Int32 → am_SS → Option am_SS
  | 0, _, _, _ => none
  | n + 1, x1, x2, σ => (
  if x2 < x1 then (
    (am_rd σ 12 48 (32 + x2)).bind (fun t_2 =>
    (am_wr σ 12 48 ((16 * (σ 0 27)) + x2) t_2).bind (fun σ_3 =>
    (am_rd σ_3 13 48 (32 + x2)).bind (fun t_4 =>
    (am_wr σ_3 13 48 ((16 * (σ_3 0 27)) + x2) t_4).bind (fun σ_5 =>
    (am_rd σ_5 14 48 (32 + x2)).bind (fun t_6 =>
    (am_wr σ_5 14 48 ((16 * (σ_5 0 27)) + x2) t_6).bind (fun σ_7 =>
    (am_rd σ_7 15 48 (32 + x2)).bind (fun t_8 =>
    (am_wr σ_7 15 48 ((16 * (σ_7 0 27)) + x2) t_8).bind (fun σ_9 =>
    am_let (x2 + 1) (fun x2_10 =>
    (M_takesLaw_l2 F n) x1 x2_10 σ_9))))))))))
  else (
    M_takesLaw_l107 F F x1 0 σ))
def M_takesLaw (F : Nat) (x1 : Int32) (σ : am_SS) : Option am_SS :=
  M_takesLaw_l2 F F x1 0 σ
/-- SlipperTruceModel.readNumber(II)I -/
def M_readNumber (F : Nat) (x1 : Int32) (x2 : Int32) (σ : am_SS) : Option (Int32 × am_SS) :=
  if (σ 0 17) = 3 then (
    if (M_isIn (σ 0 18) x1 x2) = true then (
      am_let (σ 0 18) (fun x3_4 =>
      (M_reads F  σ).bind (fun q_5 =>
      some (x3_4, q_5))))
    else (
      am_let (M_errs 2 σ) (fun q_6 =>
      some (q_6.1, q_6.2))))
  else (
    am_let (M_errs 1 σ) (fun q_7 =>
    some (q_7.1, q_7.2)))
/-- SlipperTruceModel.readMark(I)I -/
def M_readMark (F : Nat) (x1 : Int32) (σ : am_SS) : Option (Int32 × am_SS) :=
  if (M_isSign x1 σ) = true then (
    (M_reads F  σ).bind (fun q_3 =>
    some (0, q_3)))
  else (
    am_let (M_errs 1 σ) (fun q_4 =>
    some (q_4.1, q_4.2)))
/-- SlipperTruceModel.readTold(III)I -/
def M_readTold (F : Nat) (x1 : Int32) (x2 : Int32) (x3 : Int32) (σ : am_SS) : Option (Int32 × am_SS) :=
  if (M_isWord x1 σ) = true then (
    (M_reads F  σ).bind (fun q_3 =>
    (M_readNumber F x2 x3 q_3).bind (fun q_4 =>
    some (q_4.1, q_4.2))))
  else (
    am_let (M_errs 1 σ) (fun q_5 =>
    some (q_5.1, q_5.2)))
/-- SlipperTruceModel.kindOfOrder()I -/
def M_kindOfOrder (σ : am_SS) : Int32 :=
  if (M_isWord 10 σ) = true then (
    1)
  else (
    if (M_isWord 18 σ) = true then (
      0)
    else (
      if (σ 0 17) = 2 then (
        if (M_isIn (σ 0 18) 19 21) = true then (
          ((2 + (σ 0 18)) - 19))
        else (
          (-1)))
      else (
        (-1))))
/-- SlipperTruceModel.readOrder(I)I -/
def M_readOrder_p133 (F : Nat) (x1 : Int32) (s1 : Int32) (s2 : Int32) (σ : am_SS) : Option (Int32 × am_SS) :=
  (am_wr σ 19 128 s1 s2).bind (fun σ_1 =>
  (am_rd σ_1 19 128 (x1 + 3)).bind (fun t_2 =>
  if t_2 = (-1) then (
    some ((-1), σ_1))
  else (
    (M_readMark F 59 σ_1).bind (fun q_4 =>
    some (q_4.1, q_4.2)))))
def M_readOrder_p96 (F : Nat) (x1 : Int32) (x2 : Int32) (s1 : Int32) (s2 : Int32) (σ : am_SS) : Option (Int32 × am_SS) :=
  (am_wr σ 19 128 s1 s2).bind (fun σ_1 =>
  (am_rd σ_1 19 128 (x1 + 2)).bind (fun t_2 =>
  if t_2 = (-1) then (
    some ((-1), σ_1))
  else (
    if x2 = 0 then (
      (M_readNumber F 1 99 σ_1).bind (fun q_5 =>
      M_readOrder_p133 F x1 (x1 + 3) q_5.1 q_5.2))
    else (
      M_readOrder_p133 F x1 (x1 + 3) 0 σ_1))))
def M_readOrder_p91 (F : Nat) (x1 : Int32) (x2 : Int32) (s1 : Int32) (s3 : Bool) (s4 : Int32) (σ : am_SS) : Option (Int32 × am_SS) :=
  (M_readNumber F (am_bI s3) (s4 - 1) σ).bind (fun q_1 =>
  M_readOrder_p96 F x1 x2 s1 q_1.1 q_1.2)
def M_readOrder (F : Nat) (x1 : Int32) (σ : am_SS) : Option (Int32 × am_SS) :=
  (M_readTold F 17 0 999 σ).bind (fun q_1 =>
  (am_wr q_1.2 19 128 x1 q_1.1).bind (fun σ_2 =>
  (am_rd σ_2 19 128 x1).bind (fun t_3 =>
  if t_3 = (-1) then (
    some ((-1), σ_2))
  else (
    am_let ((M_kindOfOrder  σ_2)) (fun x2_6 =>
    if x2_6 = (-1) then (
      am_let (M_errs 1 σ_2) (fun q_12 =>
      some (q_12.1, q_12.2)))
    else (
      (M_reads F  σ_2).bind (fun q_8 =>
      (am_wr q_8 19 128 (x1 + 1) x2_6).bind (fun σ_9 =>
      if x2_6 = 4 then (
        M_readOrder_p96 F x1 x2_6 (x1 + 2) 0 σ_9)
      else (
        if x2_6 = 3 then (
          M_readOrder_p91 F x1 x2_6 (x1 + 2) false (σ_9 0 7) σ_9)
        else (
          M_readOrder_p91 F x1 x2_6 (x1 + 2) false (σ_9 0 6) σ_9))))))))))
/-- SlipperTruceModel.readOrders()I -/
def M_readOrders_l2 (F : Nat) : Nat → Int32 → am_SS → Option (Int32 × am_SS)
  | 0, _, _ => none
  | n + 1, x1, σ => (
  if (M_isWord 17 σ) = true then (
    if x1 = 16 then (
      am_let (M_errs 3 σ) (fun q_9 =>
      some (q_9.1, q_9.2)))
    else (
      (M_readOrder F (64 + (4 * x1)) σ).bind (fun q_6 =>
      if q_6.1 = (-1) then (
        some ((-1), q_6.2))
      else (
        am_let (x1 + 1) (fun x1_8 =>
        (M_readOrders_l2 F n) x1_8 q_6.2)))))
  else (
    if (σ 0 17) = 0 then (
      some (x1, σ))
    else (
      am_let (M_errs 1 σ) (fun q_4 =>
      some (q_4.1, q_4.2)))))
def M_readOrders (F : Nat) (σ : am_SS) : Option (Int32 × am_SS) :=
  M_readOrders_l2 F F 0 σ
/-- SlipperTruceModel.readService()I -/
def M_readService_p83 (F : Nat) (x1 : Int32) (σ : am_SS) : Option (Int32 × am_SS) :=
  (M_readNumber F 0 ((σ 0 7) - 1) σ).bind (fun q_1 =>
  if q_1.1 = (-1) then (
    some ((-1), q_1.2))
  else (
    (am_wr q_1.2 20 24 (12 + x1) (q_1.1 + 1)).bind (fun σ_3 =>
    (M_readMark F 59 σ_3).bind (fun q_4 =>
    some (q_4.1, q_4.2)))))
def M_readService (F : Nat) (σ : am_SS) : Option (Int32 × am_SS) :=
  (M_readTold F 22 0 ((σ 0 6) - 1) σ).bind (fun q_1 =>
  if q_1.1 = (-1) then (
    some ((-1), q_1.2))
  else (
    if (M_isWord 23 q_1.2) = true then (
      (M_reads F  q_1.2).bind (fun q_5 =>
      if (q_5 0 17) = 3 then (
        if (q_5 0 18) < (q_5 0 7) then (
          (am_rd q_5 6 12 (q_5 0 18)).bind (fun t_8 =>
          (am_rd q_5 4 12 q_1.1).bind (fun t_9 =>
          if t_8 = t_9 then (
            am_let (M_errs 2 q_5) (fun q_11 =>
            some (q_11.1, q_11.2)))
          else (
            M_readService_p83 F q_1.1 q_5))))
        else (
          M_readService_p83 F q_1.1 q_5))
      else (
        M_readService_p83 F q_1.1 q_5)))
    else (
      am_let (M_errs 1 q_1.2) (fun q_12 =>
      some (q_12.1, q_12.2)))))
/-- SlipperTruceModel.readNeed()I -/
def M_readNeed_p91 (F : Nat) (x1 : Int32) (σ : am_SS) : Option (Int32 × am_SS) :=
  (M_readNumber F 0 ((σ 0 6) - 1) σ).bind (fun q_1 =>
  if q_1.1 = (-1) then (
    some ((-1), q_1.2))
  else (
    (am_rd q_1.2 21 24 (12 + x1)).bind (fun t_3 =>
    (am_wr q_1.2 21 24 (12 + x1) (t_3 ||| (1 <<< (q_1.1 &&& 31)))).bind (fun σ_4 =>
    (M_readMark F 59 σ_4).bind (fun q_5 =>
    some (q_5.1, q_5.2))))))
def M_readNeed_p85 (F : Nat) (σ : am_SS) : Option (Int32 × am_SS) :=
  am_let (M_errs 2 σ) (fun q_1 =>
  some (q_1.1, q_1.2))
def M_readNeed (F : Nat) (σ : am_SS) : Option (Int32 × am_SS) :=
  (M_readTold F 22 0 ((σ 0 6) - 1) σ).bind (fun q_1 =>
  if q_1.1 = (-1) then (
    some ((-1), q_1.2))
  else (
    if (M_isWord 24 q_1.2) = true then (
      (M_reads F  q_1.2).bind (fun q_5 =>
      if (q_5 0 17) = 3 then (
        if (q_5 0 18) < (q_5 0 6) then (
          if (q_5 0 18) = q_1.1 then (
            M_readNeed_p85 F  q_5)
          else (
            (am_rd q_5 4 12 (q_5 0 18)).bind (fun t_9 =>
            (am_rd q_5 4 12 q_1.1).bind (fun t_10 =>
            if t_9 = t_10 then (
              M_readNeed_p91 F q_1.1 q_5)
            else (
              M_readNeed_p85 F  q_5)))))
        else (
          M_readNeed_p91 F q_1.1 q_5))
      else (
        M_readNeed_p91 F q_1.1 q_5)))
    else (
      am_let (M_errs 1 q_1.2) (fun q_12 =>
      some (q_12.1, q_12.2)))))
/-- SlipperTruceModel.readOfficers(Z)I -/
def M_readOfficers_p72 (rec36 : Bool → Int32 → am_SS → Option (Int32 × am_SS)) (F : Nat) (x1 : Bool) (x2 : Int32) (s0 : Int32) (σ : am_SS) : Option (Int32 × am_SS) :=
  if s0 = (-1) then (
    some ((-1), σ))
  else (
    am_let (x2 + 1) (fun x2_2 =>
    rec36 x1 x2_2 σ))
def M_readOfficers_l36 (F : Nat) : Nat → Bool → Int32 → am_SS → Option (Int32 × am_SS)
  | 0, _, _, _ => none
  | n + 1, x1, x2, σ => (
  if (M_isWord 22 σ) = true then (
    if x2 = 16 then (
      am_let (M_errs 3 σ) (fun q_9 =>
      some (q_9.1, q_9.2)))
    else (
      if x1 = true then (
        (M_readService F  σ).bind (fun q_8 =>
        M_readOfficers_p72 (M_readOfficers_l36 F n) F x1 x2 q_8.1 q_8.2))
      else (
        (M_readNeed F  σ).bind (fun q_7 =>
        M_readOfficers_p72 (M_readOfficers_l36 F n) F x1 x2 q_7.1 q_7.2))))
  else (
    if (σ 0 17) = 0 then (
      some (x2, σ))
    else (
      am_let (M_errs 1 σ) (fun q_4 =>
      some (q_4.1, q_4.2)))))
def M_readOfficers_l2 (F : Nat) : Nat → Bool → Int32 → am_SS → Option (Int32 × am_SS)
  | 0, _, _, _ => none
  | n + 1, x1, x2, σ => (
  if x2 < 12 then (
    (am_wr σ 20 24 (12 + x2) 0).bind (fun σ_2 =>
    (am_wr σ_2 21 24 (12 + x2) 0).bind (fun σ_3 =>
    am_let (x2 + 1) (fun x2_4 =>
    (M_readOfficers_l2 F n) x1 x2_4 σ_3))))
  else (
    M_readOfficers_l36 F F x1 0 σ))
def M_readOfficers (F : Nat) (x1 : Bool) (σ : am_SS) : Option (Int32 × am_SS) :=
  M_readOfficers_l2 F F x1 0 σ
/-- SlipperTruceModel.readsText(I)I -/
def M_readsText_p41 (F : Nat) (s1 : Bool) (σ : am_SS) : Option (Int32 × am_SS) :=
  (M_readOfficers F s1 σ).bind (fun q_1 =>
  some (q_1.1, q_1.2))
def M_readsText (F : Nat) (x1 : Int32) (σ : am_SS) : Option (Int32 × am_SS) :=
  am_let (am_up σ 0 27 0) (fun σ_1 =>
  (M_reads F  σ_1).bind (fun q_2 =>
  if x1 = 1 then (
    (M_readOrders F  q_2).bind (fun q_7 =>
    some (q_7.1, q_7.2)))
  else (
    if x1 = 0 then (
      (M_readLaw F  q_2).bind (fun q_6 =>
      some (q_6.1, q_6.2)))
    else (
      if x1 = 2 then (
        M_readsText_p41 F true q_2)
      else (
        M_readsText_p41 F false q_2)))))
/-- SlipperTruceModel.takesOther(II)V -/
def M_takesOther_p104 (F : Nat) (x1 : Int32) (x2 : Int32) (σ : am_SS) : Option am_SS :=
  if x1 = 3 then (
    am_let (am_up σ 0 40 x2) (fun σ_3 =>
    some σ_3))
  else (
    am_let (am_up σ 0 3 0) (fun σ_2 =>
    some σ_2))
def M_takesOther_p88 (rec42 : Int32 → Int32 → Int32 → am_SS → Option am_SS) (F : Nat) (x1 : Int32) (x2 : Int32) (x3 : Int32) (σ : am_SS) : Option am_SS :=
  am_let (x3 + 1) (fun x3_1 =>
  rec42 x1 x2 x3_1 σ)
def M_takesOther_p68 (rec42 : Int32 → Int32 → Int32 → am_SS → Option am_SS) (F : Nat) (x1 : Int32) (x2 : Int32) (x3 : Int32) (σ : am_SS) : Option am_SS :=
  if x1 = 3 then (
    (am_rd σ 21 24 (12 + x3)).bind (fun t_2 =>
    (am_wr σ 21 24 x3 t_2).bind (fun σ_3 =>
    M_takesOther_p88 rec42 F x1 x2 x3 σ_3)))
  else (
    M_takesOther_p88 rec42 F x1 x2 x3 σ)
def M_takesOther_l42 (F : Nat) : Nat → Int32 → Int32 → Int32 → am_SS → Option am_SS
  | 0, _, _, _, _ => none
  | n + 1, x1, x2, x3, σ => (
  if x3 < 12 then (
    if x1 = 2 then (
      (am_rd σ 20 24 (12 + x3)).bind (fun t_5 =>
      (am_wr σ 20 24 x3 t_5).bind (fun σ_6 =>
      M_takesOther_p68 (M_takesOther_l42 F n) F x1 x2 x3 σ_6)))
    else (
      M_takesOther_p68 (M_takesOther_l42 F n) F x1 x2 x3 σ))
  else (
    if x1 = 2 then (
      am_let (am_up σ 0 38 x2) (fun σ_3 =>
      M_takesOther_p104 F x1 x2 σ_3))
    else (
      M_takesOther_p104 F x1 x2 σ)))
def M_takesOther_p40 (F : Nat) (x1 : Int32) (x2 : Int32) (σ : am_SS) : Option am_SS :=
  M_takesOther_l42 F F x1 x2 0 σ
def M_takesOther_l7 (F : Nat) : Nat → Int32 → Int32 → Int32 → am_SS → Option am_SS
  | 0, _, _, _, _ => none
  | n + 1, x1, x2, x3, σ => (
  if x3 < (4 * x2) then (
    (am_rd σ 19 128 (64 + x3)).bind (fun t_3 =>
    (am_wr σ 19 128 x3 t_3).bind (fun σ_4 =>
    am_let (x3 + 1) (fun x3_5 =>
    (M_takesOther_l7 F n) x1 x2 x3_5 σ_4))))
  else (
    am_let (am_up σ 0 36 x2) (fun σ_2 =>
    M_takesOther_p40 F x1 x2 σ_2)))
def M_takesOther (F : Nat) (x1 : Int32) (x2 : Int32) (σ : am_SS) : Option am_SS :=
  if x1 = 1 then (
    M_takesOther_l7 F F x1 x2 0 σ)
  else (
    M_takesOther_p40 F x1 x2 σ)
/-- SlipperTruceModel.text(I)I -/
def M_text_p69 (F : Nat) (x1 : Int32) (x2 : Int32) (σ : am_SS) : Option (Int32 × am_SS) :=
  am_let (am_up σ 0 14 0) (fun σ_1 =>
  if x2 = (-1) then (
    some ((-1), σ_1))
  else (
    if x1 = 0 then (
      (M_takesLaw F x2 σ_1).bind (fun q_5 =>
      some (x2, q_5)))
    else (
      (M_takesOther F x1 x2 σ_1).bind (fun q_4 =>
      some (x2, q_4)))))
def M_text (F : Nat) (x1 : Int32) (σ : am_SS) : Option (Int32 × am_SS) :=
  am_let (am_up σ 0 0 0) (fun σ_1 =>
  am_let (am_up σ_1 0 34 0) (fun σ_2 =>
  am_let (am_up σ_2 0 35 (-1)) (fun σ_3 =>
  am_let (am_up σ_3 0 15 0) (fun σ_4 =>
  am_let (am_up σ_4 0 28 0) (fun σ_5 =>
  am_let (am_up σ_5 0 29 0) (fun σ_6 =>
  if (M_isIn x1 0 3) = true then (
    (M_readsText F x1 σ_6).bind (fun q_9 =>
    if q_9.1 = (-1) then (
      am_let (am_up q_9.2 0 34 (q_9.2 0 32)) (fun σ_11 =>
      am_let (am_up σ_11 0 35 (σ_11 0 33)) (fun σ_12 =>
      M_text_p69 F x1 q_9.1 σ_12)))
    else (
      M_text_p69 F x1 q_9.1 q_9.2)))
  else (
    M_text_p69 F x1 (-1) σ_6)))))))
/-- SlipperTruceModel.fault(I)I -/
def M_fault (x1 : Int32) (σ : am_SS) : (Int32 × am_SS) :=
  am_let (am_up σ 0 0 0) (fun σ_1 =>
  if x1 = 0 then (
    ((σ_1 0 34), σ_1))
  else (
    if x1 = 1 then (
      ((σ_1 0 35), σ_1))
    else (
      ((-1), σ_1))))
/-- SlipperTruceModel.twoOf(III)I -/
def M_twoOf (x1 : Int32) (x2 : Int32) (x3 : Int32) : Option Int32 :=
  if x1 = 2 then (
    some (x2 + x3))
  else (
    if x1 = 3 then (
      some (x2 - x3))
    else (
      if x1 = 4 then (
        some (x2 * x3))
      else (
        if x1 = 5 then (
          if x3 = 0 then none else (
          some (x2 / x3)))
        else (
          if x1 = 6 then (
            if x2 < x3 then (
              some 1)
            else (
              some 0))
          else (
            if x1 = 7 then (
              if x2 = x3 then (
                some 1)
              else (
                some 0))
            else (
              if x1 = 8 then (
                if x3 < x2 then (
                  some 1)
                else (
                  some 0))
              else (
                if x1 = 10 then (
                  some (x2 * x3))
                else (
                  if 0 < (x2 + x3) then (
                    some 1)
                  else (
                    some 0)))))))))
/-- SlipperTruceModel.runs(III)I -/
def M_runs_p170 (rec12 : Int32 → Int32 → Int32 → Int32 → am_SS → Option (Int32 × am_SS)) (F : Nat) (x1 : Int32) (x3 : Int32) (x4 : Int32) (x5 : Int32) (σ : am_SS) : Option (Int32 × am_SS) :=
  am_let (x5 + 1) (fun x5_1 =>
  rec12 x1 x3 x4 x5_1 σ)
def M_runs_p83 (rec12 : Int32 → Int32 → Int32 → Int32 → am_SS → Option (Int32 × am_SS)) (F : Nat) (x1 : Int32) (x3 : Int32) (x4 : Int32) (x5 : Int32) (s1 : Int32) (s2 : Int32) (σ : am_SS) : Option (Int32 × am_SS) :=
  (am_wr σ 23 420 s1 s2).bind (fun σ_1 =>
  am_let (x4 + 1) (fun x4_2 =>
  M_runs_p170 rec12 F x1 x3 x4_2 x5 σ_1))
def M_runs_p45 (rec12 : Int32 → Int32 → Int32 → Int32 → am_SS → Option (Int32 × am_SS)) (F : Nat) (x1 : Int32) (x3 : Int32) (x4 : Int32) (x5 : Int32) (σ : am_SS) : Option (Int32 × am_SS) :=
  (am_rd σ 16 1200 x5).bind (fun t_1 =>
  if t_1 = 0 then (
    (am_rd σ 17 1200 x5).bind (fun t_5 =>
    M_runs_p83 rec12 F x1 x3 x4 x5 x4 t_5 σ))
  else (
    (am_rd σ 17 1200 x5).bind (fun t_3 =>
    (am_rd σ 22 10 t_3).bind (fun t_4 =>
    M_runs_p83 rec12 F x1 x3 x4 x5 x4 t_4 σ))))
def M_runs_l12 (F : Nat) : Nat → Int32 → Int32 → Int32 → Int32 → am_SS → Option (Int32 × am_SS)
  | 0, _, _, _, _, _ => none
  | n + 1, x1, x3, x4, x5, σ => (
  if x5 < ((400 * x1) + x3) then (
    (am_rd σ 16 1200 x5).bind (fun t_3 =>
    if t_3 = 0 then (
      M_runs_p45 (M_runs_l12 F n) F x1 x3 x4 x5 σ)
    else (
      (am_rd σ 16 1200 x5).bind (fun t_5 =>
      if t_5 = 1 then (
        M_runs_p45 (M_runs_l12 F n) F x1 x3 x4 x5 σ)
      else (
        (am_rd σ 16 1200 x5).bind (fun t_7 =>
        if t_7 = 9 then (
          (am_rd σ 23 420 (x4 - 1)).bind (fun t_15 =>
          (am_wr σ 23 420 (x4 - 1) (1 - t_15)).bind (fun σ_16 =>
          M_runs_p170 (M_runs_l12 F n) F x1 x3 x4 x5 σ_16)))
        else (
          am_let (x4 - 1) (fun x4_9 =>
          (am_rd σ 16 1200 x5).bind (fun t_10 =>
          (am_rd σ 23 420 (x4_9 - 1)).bind (fun t_11 =>
          (am_rd σ 23 420 x4_9).bind (fun t_12 =>
          (M_twoOf t_10 t_11 t_12).bind (fun q_13 =>
          (am_wr σ 23 420 (x4_9 - 1) q_13).bind (fun σ_14 =>
          M_runs_p170 (M_runs_l12 F n) F x1 x3 x4_9 x5 σ_14)))))))))))))
  else (
    (am_rd σ 23 420 0).bind (fun t_2 =>
    some (t_2, σ))))
def M_runs (F : Nat) (x1 : Int32) (x2 : Int32) (x3 : Int32) (σ : am_SS) : Option (Int32 × am_SS) :=
  am_let ((400 * x1) + x2) (fun x5_1 =>
  M_runs_l12 F F x1 x3 0 x5_1 σ)
/-- SlipperTruceModel.lineOf(I)I -/
def M_lineOf_p59 (rec2 : Int32 → Int32 → am_SS → Option (Int32 × am_SS)) (F : Nat) (x1 : Int32) (x2 : Int32) (σ : am_SS) : Option (Int32 × am_SS) :=
  am_let (x2 + 1) (fun x2_1 =>
  rec2 x1 x2_1 σ)
def M_lineOf_l2 (F : Nat) : Nat → Int32 → Int32 → am_SS → Option (Int32 × am_SS)
  | 0, _, _, _ => none
  | n + 1, x1, x2, σ => (
  (am_rd σ 11 2 0).bind (fun t_1 =>
  if x2 < t_1 then (
    (am_rd σ 12 48 x2).bind (fun t_3 =>
    if t_3 = x1 then (
      (am_rd σ 14 48 x2).bind (fun t_5 =>
      (am_rd σ 15 48 x2).bind (fun t_6 =>
      if t_5 = t_6 then (
        some (x2, σ))
      else (
        (am_rd σ 14 48 x2).bind (fun t_8 =>
        (am_rd σ 15 48 x2).bind (fun t_9 =>
        (M_runs F 0 t_8 t_9 σ).bind (fun q_10 =>
        if q_10.1 = 0 then (
          M_lineOf_p59 (M_lineOf_l2 F n) F x1 x2 q_10.2)
        else (
          some (x2, q_10.2)))))))))
    else (
      M_lineOf_p59 (M_lineOf_l2 F n) F x1 x2 σ)))
  else (
    some ((-1), σ))))
def M_lineOf (F : Nat) (x1 : Int32) (σ : am_SS) : Option (Int32 × am_SS) :=
  M_lineOf_l2 F F x1 0 σ
/-- SlipperTruceModel.asks(I)V -/
def M_asks_p109 (x1 : Int32) (s1 : Int32) (s2 : Int32) (σ : am_SS) : Option am_SS :=
  (am_wr σ 22 10 s1 s2).bind (fun σ_1 =>
  (am_rd σ_1 1 77 3).bind (fun t_2 =>
  (am_wr σ_1 22 10 6 t_2).bind (fun σ_3 =>
  (am_rd σ_3 4 12 x1).bind (fun t_4 =>
  (am_wr σ_3 22 10 7 t_4).bind (fun σ_5 =>
  (am_rd σ_5 1 77 (53 + x1)).bind (fun t_6 =>
  (am_wr σ_5 22 10 8 t_6).bind (fun σ_7 =>
  (am_rd σ_7 1 77 0).bind (fun t_8 =>
  (am_wr σ_7 22 10 9 t_8).bind (fun σ_9 =>
  some σ_9)))))))))
def M_asks_p85 (x1 : Int32) (x2 : Int32) (s1 : Int32) (s2 : Int32) (σ : am_SS) : Option am_SS :=
  (am_wr σ 22 10 s1 s2).bind (fun σ_1 =>
  if x2 = (-1) then (
    M_asks_p109 x1 5 0 σ_1)
  else (
    (am_rd σ_1 1 77 (65 + x2)).bind (fun t_3 =>
    M_asks_p109 x1 5 t_3 σ_1)))
def M_asks (x1 : Int32) (σ : am_SS) : Option am_SS :=
  (am_rd σ 20 24 x1).bind (fun t_1 =>
  am_let (t_1 - 1) (fun x2_2 =>
  (am_rd σ 5 12 x1).bind (fun t_3 =>
  (am_wr σ 22 10 0 t_3).bind (fun σ_4 =>
  (am_rd σ_4 1 77 (5 + x1)).bind (fun t_5 =>
  (am_wr σ_4 22 10 1 t_5).bind (fun σ_6 =>
  (am_rd σ_6 1 77 (17 + x1)).bind (fun t_7 =>
  (am_wr σ_6 22 10 2 t_7).bind (fun σ_8 =>
  (am_rd σ_8 1 77 (41 + x1)).bind (fun t_9 =>
  (am_wr σ_8 22 10 3 t_9).bind (fun σ_10 =>
  if x2_2 = (-1) then (
    M_asks_p85 x1 x2_2 4 0 σ_10)
  else (
    (am_rd σ_10 7 12 x2_2).bind (fun t_12 =>
    M_asks_p85 x1 x2_2 4 t_12 σ_10))))))))))))
/-- SlipperTruceModel.lawTells(III)I -/
def M_lawTells_p37 (F : Nat) (x3 : Int32) (s1 : Int32) (σ : am_SS) : Option (Int32 × am_SS) :=
  some ((M_held s1 0 x3), σ)
def M_lawTells (F : Nat) (x1 : Int32) (x2 : Int32) (x3 : Int32) (σ : am_SS) : Option (Int32 × am_SS) :=
  (M_lineOf F x1 σ).bind (fun q_1 =>
  if q_1.1 = (-1) then (
    M_lawTells_p37 F x3 x2 q_1.2)
  else (
    (am_rd q_1.2 13 48 q_1.1).bind (fun t_3 =>
    (am_rd q_1.2 14 48 q_1.1).bind (fun t_4 =>
    (M_runs F 0 t_3 t_4 q_1.2).bind (fun q_5 =>
    M_lawTells_p37 F x3 q_5.1 q_5.2)))))
/-- SlipperTruceModel.pressesOf(I)I -/
def M_pressesOf (F : Nat) (x1 : Int32) (σ : am_SS) : Option (Int32 × am_SS) :=
  (M_asks x1 σ).bind (fun q_1 =>
  (am_rd q_1 22 10 0).bind (fun t_2 =>
  (M_lawTells F 0 t_2 20 q_1).bind (fun q_3 =>
  some (q_3.1, q_3.2))))
/-- SlipperTruceModel.restsOf(I)I -/
def M_restsOf (F : Nat) (x1 : Int32) (σ : am_SS) : Option (Int32 × am_SS) :=
  (M_asks x1 σ).bind (fun q_1 =>
  (am_rd q_1 22 10 4).bind (fun t_2 =>
  (M_lawTells F 1 (10 + (5 * t_2)) 99 q_1).bind (fun q_3 =>
  some (q_3.1, q_3.2))))
/-- SlipperTruceModel.readsOf(I)I -/
def M_readsOf (F : Nat) (x1 : Int32) (σ : am_SS) : Option (Int32 × am_SS) :=
  (M_asks x1 σ).bind (fun q_1 =>
  (am_rd q_1 22 10 4).bind (fun t_2 =>
  (am_rd q_1 22 10 5).bind (fun t_3 =>
  (M_lawTells F 2 ((40 * t_2) + t_3) 1000 q_1).bind (fun q_4 =>
  some (q_4.1, q_4.2)))))
/-- SlipperTruceModel.notes(III)V -/
def M_notes (x1 : Int32) (x2 : Int32) (x3 : Int32) (σ : am_SS) : Option am_SS :=
  if (σ 0 5) = 0 then (
    (am_rd σ 1 77 2).bind (fun t_2 =>
    if t_2 = 150 then (
      some σ)
    else (
      (am_rd σ 1 77 2).bind (fun t_4 =>
      am_let (4 * t_4) (fun x4_5 =>
      (am_rd σ 1 77 0).bind (fun t_6 =>
      (am_wr σ 8 600 x4_5 t_6).bind (fun σ_7 =>
      (am_wr σ_7 8 600 (x4_5 + 1) x1).bind (fun σ_8 =>
      (am_wr σ_8 8 600 (x4_5 + 2) x2).bind (fun σ_9 =>
      (am_wr σ_9 8 600 (x4_5 + 3) x3).bind (fun σ_10 =>
      (am_rd σ_10 1 77 2).bind (fun t_11 =>
      (am_wr σ_10 1 77 2 (t_11 + 1)).bind (fun σ_12 =>
      some σ_12))))))))))))
  else (
    some σ)
/-- SlipperTruceModel.isGivenUp(I)Z -/
def M_isGivenUp_p26 (σ : am_SS) : Option Bool :=
  some true
def M_isGivenUp (x1 : Int32) (σ : am_SS) : Option Bool :=
  (am_rd σ 1 77 (41 + x1)).bind (fun t_1 =>
  if t_1 = 1 then (
    M_isGivenUp_p26  σ)
  else (
    (am_rd σ 1 77 (29 + x1)).bind (fun t_3 =>
    if t_3 = 1 then (
      M_isGivenUp_p26  σ)
    else (
      some false))))
/-- SlipperTruceModel.hasNeeds(I)Z -/
def M_hasNeeds_p40 (rec2 : Int32 → Int32 → am_SS → Option Bool) (F : Nat) (x1 : Int32) (x2 : Int32) (σ : am_SS) : Option Bool :=
  am_let (x2 + 1) (fun x2_1 =>
  rec2 x1 x2_1 σ)
def M_hasNeeds_l2 (F : Nat) : Nat → Int32 → Int32 → am_SS → Option Bool
  | 0, _, _, _ => none
  | n + 1, x1, x2, σ => (
  if x2 < (σ 0 6) then (
    (am_rd σ 21 24 x1).bind (fun t_2 =>
    if (M_has t_2 x2) = true then (
      (am_rd σ 1 77 (17 + x2)).bind (fun t_5 =>
      if t_5 < 10 then (
        some false)
      else (
        M_hasNeeds_p40 (M_hasNeeds_l2 F n) F x1 x2 σ)))
    else (
      M_hasNeeds_p40 (M_hasNeeds_l2 F n) F x1 x2 σ)))
  else (
    some true))
def M_hasNeeds (F : Nat) (x1 : Int32) (σ : am_SS) : Option Bool :=
  M_hasNeeds_l2 F F x1 0 σ
/-- SlipperTruceModel.marches(II)V -/
def M_marches (F : Nat) (x1 : Int32) (x2 : Int32) (σ : am_SS) : Option am_SS :=
  (M_isGivenUp x1 σ).bind (fun q_1 =>
  if q_1 = true then (
    (am_rd σ 1 77 (17 + x1)).bind (fun t_12 =>
    (M_notes 1 x1 t_12 σ).bind (fun q_13 =>
    (am_wr q_13 1 77 (17 + x1) 0).bind (fun σ_14 =>
    (am_wr σ_14 1 77 (29 + x1) 0).bind (fun σ_15 =>
    some σ_15)))))
  else (
    (M_hasNeeds F x1 σ).bind (fun q_3 =>
    if q_3 = true then (
      (am_rd σ 1 77 (17 + x1)).bind (fun t_5 =>
      (am_wr σ 1 77 (17 + x1) (M_lesser 99 (t_5 + x2))).bind (fun σ_7 =>
      (am_rd σ_7 1 77 (17 + x1)).bind (fun t_8 =>
      (M_notes 0 x1 t_8 σ_7).bind (fun q_9 =>
      some q_9)))))
    else (
      (am_rd σ 1 77 (17 + x1)).bind (fun t_10 =>
      (M_notes 2 x1 t_10 σ).bind (fun q_11 =>
      some q_11))))))
/-- SlipperTruceModel.canAct(III)Z -/
def M_canAct_p48 (x1 : Int32) (x2 : Int32) (σ : am_SS) : Option Bool :=
  if (M_isOfficer x2 σ) = true then (
    (am_rd σ 1 77 (41 + x2)).bind (fun t_3 =>
    if t_3 = (x1 - 1) then (
      some true)
    else (
      some false)))
  else (
    some false)
def M_canAct (x1 : Int32) (x2 : Int32) (x3 : Int32) (σ : am_SS) : Option Bool :=
  (M_isWon  σ).bind (fun q_1 =>
  if q_1 = true then (
    some false)
  else (
    if x1 = 0 then (
      if (M_isOfficer x2 σ) = true then (
        if (M_isIn x3 1 99) = true then (
          some true)
        else (
          some false))
      else (
        some false))
    else (
      if x1 = 1 then (
        M_canAct_p48 x1 x2 σ)
      else (
        if x1 = 2 then (
          M_canAct_p48 x1 x2 σ)
        else (
          if x1 = 3 then (
            if (M_isBatman x2 σ) = true then (
              (am_rd σ 1 77 (65 + x2)).bind (fun t_9 =>
              if 0 < t_9 then (
                some true)
              else (
                some false)))
            else (
              some false))
          else (
            some false))))))
/-- SlipperTruceModel.act(III)Z -/
def M_act_p61 (F : Nat) (x1 : Int32) (x2 : Int32) (σ : am_SS) : Option (Bool × am_SS) :=
  if x1 = 3 then (
    (am_wr σ 1 77 (65 + x2) 0).bind (fun σ_2 =>
    some (true, σ_2)))
  else (
    some (true, σ))
def M_act_p46 (F : Nat) (x1 : Int32) (x2 : Int32) (σ : am_SS) : Option (Bool × am_SS) :=
  if x1 = 2 then (
    (am_wr σ 1 77 (41 + x2) 0).bind (fun σ_2 =>
    M_act_p61 F x1 x2 σ_2))
  else (
    M_act_p61 F x1 x2 σ)
def M_act_p31 (F : Nat) (x1 : Int32) (x2 : Int32) (σ : am_SS) : Option (Bool × am_SS) :=
  if x1 = 1 then (
    (am_wr σ 1 77 (41 + x2) 1).bind (fun σ_2 =>
    M_act_p46 F x1 x2 σ_2))
  else (
    M_act_p46 F x1 x2 σ)
def M_act (F : Nat) (x1 : Int32) (x2 : Int32) (x3 : Int32) (σ : am_SS) : Option (Bool × am_SS) :=
  am_let (am_up σ 0 0 0) (fun σ_1 =>
  (M_canAct x1 x2 x3 σ_1).bind (fun q_2 =>
  if q_2 = true then (
    (M_keepsAhead F  σ_1).bind (fun q_4 =>
    if x1 = 0 then (
      (M_marches F x2 x3 q_4).bind (fun q_6 =>
      M_act_p31 F x1 x2 q_6))
    else (
      M_act_p31 F x1 x2 q_4)))
  else (
    some (false, σ_1))))
/-- SlipperTruceModel.happens(I)Z -/
def M_happens (x1 : Int32) (σ : am_SS) : Option (Bool × am_SS) :=
  if (σ 0 5) = 0 then (
    if 0 < x1 then (
      (M_draw 1000 σ).bind (fun q_3 =>
      if q_3.1 < x1 then (
        some (true, q_3.2))
      else (
        some (false, q_3.2))))
    else (
      some (false, σ)))
  else (
    if (2 * x1) < 1000 then (
      some (false, σ))
    else (
      some (true, σ)))
/-- SlipperTruceModel.does(I)V -/
def M_does_p64 (F : Nat) (x2 : Int32) (x3 : Int32) (σ : am_SS) : Option am_SS :=
  if x2 = 3 then (
    (am_wr σ 1 77 (65 + x3) 0).bind (fun σ_2 =>
    some σ_2))
  else (
    some σ)
def M_does_p63 (F : Nat) (x2 : Int32) (x3 : Int32) (s1 : Int32) (s2 : Bool) (σ : am_SS) : Option am_SS :=
  (am_wr σ 1 77 s1 (am_bI s2)).bind (fun σ_1 =>
  M_does_p64 F x2 x3 σ_1)
def M_does_p45 (F : Nat) (x2 : Int32) (x3 : Int32) (σ : am_SS) : Option am_SS :=
  if x2 = 1 then (
    M_does_p63 F x2 x3 (41 + x3) true σ)
  else (
    M_does_p63 F x2 x3 (41 + x3) false σ)
def M_does_p35 (F : Nat) (x2 : Int32) (x3 : Int32) (σ : am_SS) : Option am_SS :=
  if x2 = 1 then (
    M_does_p45 F x2 x3 σ)
  else (
    if x2 = 2 then (
      M_does_p45 F x2 x3 σ)
    else (
      M_does_p64 F x2 x3 σ))
def M_does (F : Nat) (x1 : Int32) (σ : am_SS) : Option am_SS :=
  (am_rd σ 19 128 (x1 + 1)).bind (fun t_1 =>
  (am_rd σ 19 128 (x1 + 2)).bind (fun t_2 =>
  if t_1 = 0 then (
    (am_rd σ 19 128 (x1 + 3)).bind (fun t_4 =>
    (M_marches F t_2 t_4 σ).bind (fun q_5 =>
    M_does_p35 F t_1 t_2 q_5)))
  else (
    M_does_p35 F t_1 t_2 σ)))
/-- SlipperTruceModel.presses(I)Z -/
def M_presses_p190 (F : Nat) (x1 : Int32) (x3 : Bool) (s1 : Int32) (s2 : Int32) (σ : am_SS) : Option (Bool × am_SS) :=
  (am_wr σ 1 77 s1 s2).bind (fun σ_1 =>
  (am_rd σ_1 1 77 4).bind (fun t_2 =>
  (M_notes 5 x1 (t_2 - 1) σ_1).bind (fun q_3 =>
  some (x3, q_3))))
def M_presses_p169 (F : Nat) (x1 : Int32) (x3 : Bool) (σ : am_SS) : Option (Bool × am_SS) :=
  (am_rd σ 1 77 3).bind (fun t_1 =>
  if t_1 = 99 then (
    M_presses_p190 F x1 x3 4 1 σ)
  else (
    M_presses_p190 F x1 x3 4 2 σ))
def M_presses_p147 (F : Nat) (x1 : Int32) (x3 : Bool) (σ : am_SS) : Option (Bool × am_SS) :=
  (am_rd σ 1 77 3).bind (fun t_1 =>
  if t_1 = 99 then (
    M_presses_p169 F x1 x3 σ)
  else (
    (am_rd σ 1 77 3).bind (fun t_3 =>
    if t_3 = (-99) then (
      M_presses_p169 F x1 x3 σ)
    else (
      some (x3, σ)))))
def M_presses_p127 (F : Nat) (x1 : Int32) (x2 : Int32) (x3 : Bool) (s1 : Int32) (s3 : Int32) (s4 : Int32) (σ : am_SS) : Option (Bool × am_SS) :=
  (am_wr σ 1 77 s1 (M_held (s3 + s4) (-99) 99)).bind (fun σ_2 =>
  if x3 = true then (
    (M_notes 3 x1 x2 σ_2).bind (fun q_4 =>
    M_presses_p147 F x1 x3 q_4))
  else (
    M_presses_p147 F x1 x3 σ_2))
def M_presses_p100 (F : Nat) (x1 : Int32) (x2 : Int32) (x3 : Bool) (σ : am_SS) : Option (Bool × am_SS) :=
  (am_rd σ 1 77 3).bind (fun t_1 =>
  (am_rd σ 4 12 x1).bind (fun t_2 =>
  if t_2 = 0 then (
    M_presses_p127 F x1 x2 x3 3 t_1 x2 σ)
  else (
    M_presses_p127 F x1 x2 x3 3 t_1 (-x2) σ)))
def M_presses_p60 (F : Nat) (x1 : Int32) (x2 : Int32) (s0 : Bool) (σ : am_SS) : Option (Bool × am_SS) :=
  if s0 = true then (
    am_let (x2 + 10) (fun x2_2 =>
    (am_rd σ 1 77 (53 + x1)).bind (fun t_3 =>
    (am_wr σ 1 77 (53 + x1) (t_3 + 1)).bind (fun σ_4 =>
    (am_wr σ_4 1 77 (17 + x1) 0).bind (fun σ_5 =>
    M_presses_p100 F x1 x2_2 s0 σ_5)))))
  else (
    M_presses_p100 F x1 x2 s0 σ)
def M_presses_p41 (F : Nat) (x1 : Int32) (x2 : Int32) (σ : am_SS) : Option (Bool × am_SS) :=
  (am_rd σ 1 77 (17 + x1)).bind (fun t_1 =>
  if t_1 = 99 then (
    M_presses_p60 F x1 x2 true σ)
  else (
    M_presses_p60 F x1 x2 false σ))
def M_presses (F : Nat) (x1 : Int32) (σ : am_SS) : Option (Bool × am_SS) :=
  (M_pressesOf F x1 σ).bind (fun q_1 =>
  (am_rd q_1.2 1 77 (5 + x1)).bind (fun t_2 =>
  if t_2 < 50 then (
    (am_rd q_1.2 1 77 (5 + x1)).bind (fun t_4 =>
    am_let ((M_greater 0 (q_1.1 - ((50 - t_4) / 10)))) (fun x2_6 =>
    M_presses_p41 F x1 x2_6 q_1.2)))
  else (
    M_presses_p41 F x1 q_1.1 q_1.2)))
/-- SlipperTruceModel.sleeps(I)V -/
def M_sleeps_p132 (F : Nat) (x1 : Int32) (σ : am_SS) : Option am_SS :=
  (am_wr σ 1 77 (29 + x1) 1).bind (fun σ_1 =>
  some σ_1)
def M_sleeps (F : Nat) (x1 : Int32) (σ : am_SS) : Option am_SS :=
  (am_rd σ 20 24 x1).bind (fun t_1 =>
  am_let (t_1 - 1) (fun x2_2 =>
  (am_rd σ 1 77 (5 + x1)).bind (fun t_3 =>
  (am_wr σ 1 77 (5 + x1) (M_greater 0 (t_3 - 10))).bind (fun σ_5 =>
  if x2_2 = (-1) then (
    some σ_5)
  else (
    (am_rd σ_5 1 77 (5 + x1)).bind (fun t_7 =>
    (M_restsOf F x1 σ_5).bind (fun q_8 =>
    (am_wr q_8.2 1 77 (5 + x1) (M_lesser 99 (t_7 + q_8.1))).bind (fun σ_10 =>
    (am_rd σ_10 1 77 (65 + x2_2)).bind (fun t_11 =>
    (am_wr σ_10 1 77 (65 + x2_2) (M_lesser 99 (t_11 + 1))).bind (fun σ_13 =>
    (M_readsOf F x1 σ_13).bind (fun q_14 =>
    (M_happens q_14.1 q_14.2).bind (fun q_15 =>
    if q_15.1 = true then (
      (am_rd q_15.2 1 77 (29 + x1)).bind (fun t_17 =>
      if t_17 = 0 then (
        (am_rd q_15.2 1 77 (5 + x1)).bind (fun t_19 =>
        (M_notes 4 x1 t_19 q_15.2).bind (fun q_20 =>
        M_sleeps_p132 F x1 q_20)))
      else (
        M_sleeps_p132 F x1 q_15.2)))
    else (
      some q_15.2)))))))))))))
/-- SlipperTruceModel.goesBy()I -/
def M_goesBy_p142 (F : Nat) (x1 : Int32) (σ : am_SS) : Option (Int32 × am_SS) :=
  (am_rd σ 1 77 0).bind (fun t_1 =>
  (am_wr σ 1 77 0 (t_1 + 1)).bind (fun σ_2 =>
  some (x1, σ_2)))
def M_goesBy_l116 (F : Nat) : Nat → Int32 → Int32 → am_SS → Option (Int32 × am_SS)
  | 0, _, _, _ => none
  | n + 1, x1, x3, σ => (
  if x3 < (σ 0 6) then (
    (M_isWon  σ).bind (fun q_2 =>
    if q_2 = true then (
      M_goesBy_p142 F x1 σ)
    else (
      (M_sleeps F x3 σ).bind (fun q_4 =>
      am_let (x3 + 1) (fun x3_5 =>
      (M_goesBy_l116 F n) x1 x3_5 q_4)))))
  else (
    M_goesBy_p142 F x1 σ))
def M_goesBy_p114 (F : Nat) (x1 : Int32) (σ : am_SS) : Option (Int32 × am_SS) :=
  M_goesBy_l116 F F x1 0 σ
def M_goesBy_p108 (rec77 : Int32 → Bool → Int32 → am_SS → Option (Int32 × am_SS)) (F : Nat) (x1 : Int32) (x2 : Bool) (x3 : Int32) (σ : am_SS) : Option (Int32 × am_SS) :=
  am_let (x3 + 1) (fun x3_1 =>
  rec77 x1 x2 x3_1 σ)
def M_goesBy_l77 (F : Nat) : Nat → Int32 → Bool → Int32 → am_SS → Option (Int32 × am_SS)
  | 0, _, _, _, _ => none
  | n + 1, x1, x2, x3, σ => (
  if x3 < (σ 0 6) then (
    if x2 = true then (
      M_goesBy_p114 F x1 σ)
    else (
      (M_isWon  σ).bind (fun q_3 =>
      if q_3 = true then (
        M_goesBy_p114 F x1 σ)
      else (
        (M_presses F x3 σ).bind (fun q_5 =>
        if q_5.1 = true then (
          am_let (x1 + 1) (fun x1_7 =>
          M_goesBy_p108 (M_goesBy_l77 F n) F x1_7 x2 x3 q_5.2))
        else (
          M_goesBy_p108 (M_goesBy_l77 F n) F x1 x2 x3 q_5.2))))))
  else (
    M_goesBy_p114 F x1 σ))
def M_goesBy_p68 (rec13 : Bool → Bool → Int32 → am_SS → Option (Int32 × am_SS)) (F : Nat) (x1 : Bool) (x2 : Bool) (x3 : Int32) (σ : am_SS) : Option (Int32 × am_SS) :=
  am_let (x3 + 4) (fun x3_1 =>
  rec13 x1 x2 x3_1 σ)
def M_goesBy_p67 (rec13 : Bool → Bool → Int32 → am_SS → Option (Int32 × am_SS)) (F : Nat) (x1 : Bool) (x3 : Int32) (s0 : Bool) (σ : am_SS) : Option (Int32 × am_SS) :=
  M_goesBy_p68 rec13 F x1 s0 x3 σ
def M_goesBy_p62 (rec13 : Bool → Bool → Int32 → am_SS → Option (Int32 × am_SS)) (F : Nat) (x1 : Bool) (x3 : Int32) (σ : am_SS) : Option (Int32 × am_SS) :=
  M_goesBy_p67 rec13 F x1 x3 true σ
def M_goesBy_l13 (F : Nat) : Nat → Bool → Bool → Int32 → am_SS → Option (Int32 × am_SS)
  | 0, _, _, _, _ => none
  | n + 1, x1, x2, x3, σ => (
  if x3 < (4 * (σ 0 36)) then (
    (am_rd σ 19 128 x3).bind (fun t_2 =>
    (am_rd σ 1 77 0).bind (fun t_3 =>
    if t_2 = t_3 then (
      (M_does F x3 σ).bind (fun q_5 =>
      if x2 = true then (
        M_goesBy_p62 (M_goesBy_l13 F n) F x1 x3 q_5)
      else (
        (am_rd q_5 19 128 (x3 + 1)).bind (fun t_7 =>
        if t_7 = 4 then (
          M_goesBy_p62 (M_goesBy_l13 F n) F x1 x3 q_5)
        else (
          M_goesBy_p67 (M_goesBy_l13 F n) F x1 x3 false q_5)))))
    else (
      M_goesBy_p68 (M_goesBy_l13 F n) F x1 x2 x3 σ))))
  else (
    M_goesBy_l77 F F (am_bI x1) x2 0 σ))
def M_goesBy (F : Nat) (σ : am_SS) : Option (Int32 × am_SS) :=
  (M_isWon  σ).bind (fun q_1 =>
  if q_1 = true then (
    M_goesBy_p142 F 0 σ)
  else (
    M_goesBy_l13 F F false false 0 σ))
/-- SlipperTruceModel.days(I)I -/
def M_days_l36 (F : Nat) : Nat → Int32 → Int32 → Int32 → am_SS → Option (Int32 × am_SS)
  | 0, _, _, _, _ => none
  | n + 1, x1, x2, x3, σ => (
  if x3 < x1 then (
    (M_keepsAhead F  σ).bind (fun q_2 =>
    (M_goesBy F  q_2).bind (fun q_3 =>
    am_let (x2 + q_3.1) (fun x2_4 =>
    am_let (x3 + 1) (fun x3_5 =>
    (M_days_l36 F n) x1 x2_4 x3_5 q_3.2)))))
  else (
    some (x2, σ)))
def M_days (F : Nat) (x1 : Int32) (σ : am_SS) : Option (Int32 × am_SS) :=
  am_let (am_up σ 0 0 0) (fun σ_1 =>
  if (M_isIn x1 1 60) = true then (
    (am_rd σ_1 1 77 0).bind (fun t_4 =>
    if 9999 < (t_4 + x1) then (
      some ((-1), σ_1))
    else (
      M_days_l36 F F x1 0 0 σ_1)))
  else (
    some ((-1), σ_1)))
/-- SlipperTruceModel.canComeOn(I)Z -/
def M_canComeOn (F : Nat) (x1 : Int32) (σ : am_SS) : Option Bool :=
  (M_isGivenUp x1 σ).bind (fun q_1 =>
  if q_1 = true then (
    some false)
  else (
    (M_hasNeeds F x1 σ).bind (fun q_3 =>
    if q_3 = true then (
      some true)
    else (
      some false))))
/-- SlipperTruceModel.of(II)I -/
def M_of (F : Nat) (x1 : Int32) (x2 : Int32) (σ : am_SS) : Option (Int32 × am_SS) :=
  am_let (am_up σ 0 0 0) (fun σ_1 =>
  if (M_isOfficer x1 σ_1) = true then (
    if x2 = 0 then (
      (am_rd σ_1 4 12 x1).bind (fun t_23 =>
      some (t_23, σ_1)))
    else (
      if x2 = 1 then (
        (am_rd σ_1 5 12 x1).bind (fun t_22 =>
        some (t_22, σ_1)))
      else (
        if (M_isIn x2 2 6) = true then (
          (am_rd σ_1 1 77 ((5 + (12 * (x2 - 2))) + x1)).bind (fun t_21 =>
          some (t_21, σ_1)))
        else (
          if x2 = 7 then (
            (am_rd σ_1 20 24 x1).bind (fun t_20 =>
            some ((t_20 - 1), σ_1)))
          else (
            if x2 = 8 then (
              (am_rd σ_1 21 24 x1).bind (fun t_19 =>
              some (t_19, σ_1)))
            else (
              if x2 = 9 then (
                (M_pressesOf F x1 σ_1).bind (fun q_18 =>
                some (q_18.1, q_18.2)))
              else (
                if x2 = 10 then (
                  (M_restsOf F x1 σ_1).bind (fun q_17 =>
                  some (q_17.1, q_17.2)))
                else (
                  if x2 = 11 then (
                    (M_readsOf F x1 σ_1).bind (fun q_16 =>
                    some (q_16.1, q_16.2)))
                  else (
                    if x2 = 12 then (
                      (M_canComeOn F x1 σ_1).bind (fun q_14 =>
                      if q_14 = true then (
                        some (1, σ_1))
                      else (
                        some (0, σ_1))))
                    else (
                      some ((-2), σ_1)))))))))))
  else (
    some ((-2), σ_1)))
/-- SlipperTruceModel.who(II)I -/
def M_who_p94 (rec65 : Int32 → Int32 → Int32 → am_SS → Option (Int32 × am_SS)) (F : Nat) (x1 : Int32) (x3 : Int32) (x4 : Int32) (σ : am_SS) : Option (Int32 × am_SS) :=
  am_let (x4 + 1) (fun x4_1 =>
  rec65 x1 x3 x4_1 σ)
def M_who_l65 (F : Nat) : Nat → Int32 → Int32 → Int32 → am_SS → Option (Int32 × am_SS)
  | 0, _, _, _, _ => none
  | n + 1, x1, x3, x4, σ => (
  if x4 < (σ 0 6) then (
    (am_rd σ 20 24 x4).bind (fun t_2 =>
    if t_2 = (x1 + 1) then (
      am_let (x3 ||| (1 <<< (x4 &&& 31))) (fun x3_4 =>
      M_who_p94 (M_who_l65 F n) F x1 x3_4 x4 σ))
    else (
      M_who_p94 (M_who_l65 F n) F x1 x3 x4 σ)))
  else (
    some (x3, σ)))
def M_who (F : Nat) (x1 : Int32) (x2 : Int32) (σ : am_SS) : Option (Int32 × am_SS) :=
  am_let (am_up σ 0 0 0) (fun σ_1 =>
  if (M_isBatman x1 σ_1) = true then (
    if x2 = 0 then (
      (am_rd σ_1 6 12 x1).bind (fun t_10 =>
      some (t_10, σ_1)))
    else (
      if x2 = 1 then (
        (am_rd σ_1 7 12 x1).bind (fun t_9 =>
        some (t_9, σ_1)))
      else (
        if x2 = 2 then (
          (am_rd σ_1 1 77 (65 + x1)).bind (fun t_8 =>
          some (t_8, σ_1)))
        else (
          if x2 = 3 then (
            M_who_l65 F F x1 0 0 σ_1)
          else (
            some ((-1), σ_1))))))
  else (
    some ((-1), σ_1)))
/-- SlipperTruceModel.book(II)I -/
def M_book (x1 : Int32) (x2 : Int32) (σ : am_SS) : Option (Int32 × am_SS) :=
  am_let (am_up σ 0 0 0) (fun σ_1 =>
  (am_rd σ_1 1 77 2).bind (fun t_2 =>
  if (M_isIn x1 0 (t_2 - 1)) = true then (
    if (M_isIn x2 0 3) = true then (
      (am_rd σ_1 8 600 ((4 * x1) + x2)).bind (fun t_7 =>
      some (t_7, σ_1)))
    else (
      some ((-1), σ_1)))
  else (
    some ((-1), σ_1))))
/-- SlipperTruceModel.sumOf(I)I -/
def M_sumOf_l4 (F : Nat) : Nat → Int32 → Int32 → Int32 → am_SS → Option Int32
  | 0, _, _, _, _ => none
  | n + 1, x1, x2, x3, σ => (
  if x3 < (σ 0 6) then (
    (am_rd σ 1 77 (x1 + x3)).bind (fun t_2 =>
    am_let (x2 + t_2) (fun x2_3 =>
    am_let (x3 + 1) (fun x3_4 =>
    (M_sumOf_l4 F n) x1 x2_3 x3_4 σ))))
  else (
    some x2))
def M_sumOf (F : Nat) (x1 : Int32) (σ : am_SS) : Option Int32 :=
  M_sumOf_l4 F F x1 0 0 σ
/-- SlipperTruceModel.goes(II)I -/
def M_goes_p98 (F : Nat) (s0 : Int32) (σ : am_SS) : Option (Int32 × am_SS) :=
  (M_endsThought F  σ).bind (fun q_1 =>
  some (s0, q_1))
def M_goes_l36 (F : Nat) : Nat → Int32 → Int32 → Int32 → am_SS → Option (Int32 × am_SS)
  | 0, _, _, _, _ => none
  | n + 1, x1, x2, x3, σ => (
  if x3 < x1 then (
    (M_goesBy F  σ).bind (fun q_9 =>
    am_let (x3 + 1) (fun x3_10 =>
    (M_goes_l36 F n) x1 x2 x3_10 q_9.2)))
  else (
    if x2 = 0 then (
      (am_rd σ 1 77 3).bind (fun t_8 =>
      M_goes_p98 F t_8 σ))
    else (
      if x2 = 1 then (
        (M_sumOf F 53 σ).bind (fun q_7 =>
        M_goes_p98 F q_7 σ))
      else (
        if x2 = 2 then (
          (M_sumOf F 29 σ).bind (fun q_6 =>
          M_goes_p98 F q_6 σ))
        else (
          (M_sumOf F 5 σ).bind (fun q_5 =>
          M_goes_p98 F q_5 σ))))))
def M_goes (F : Nat) (x1 : Int32) (x2 : Int32) (σ : am_SS) : Option (Int32 × am_SS) :=
  am_let (am_up σ 0 0 0) (fun σ_1 =>
  if (M_isIn x1 1 60) = true then (
    if (M_isIn x2 0 3) = true then (
      (M_thinks F  σ_1).bind (fun q_6 =>
      M_goes_l36 F F x1 x2 0 q_6))
    else (
      some ((-1000), σ_1)))
  else (
    some ((-1000), σ_1)))
/-- SlipperTruceModel.peace()I -/
def M_peace_p36 (F : Nat) (x1 : Int32) (σ : am_SS) : Option (Int32 × am_SS) :=
  (M_endsThought F  σ).bind (fun q_1 =>
  if 60 < x1 then (
    some ((-1), q_1))
  else (
    some (x1, q_1)))
def M_peace_l11 (F : Nat) : Nat → Int32 → am_SS → Option (Int32 × am_SS)
  | 0, _, _ => none
  | n + 1, x1, σ => (
  if 60 < x1 then (
    M_peace_p36 F x1 σ)
  else (
    (M_isWon  σ).bind (fun q_2 =>
    if q_2 = true then (
      M_peace_p36 F x1 σ)
    else (
      (M_goesBy F  σ).bind (fun q_4 =>
      am_let (x1 + 1) (fun x1_5 =>
      (M_peace_l11 F n) x1_5 q_4.2))))))
def M_peace (F : Nat) (σ : am_SS) : Option (Int32 × am_SS) :=
  am_let (am_up σ 0 0 0) (fun σ_1 =>
  (M_thinks F  σ_1).bind (fun q_2 =>
  M_peace_l11 F F 0 q_2))
/-- SlipperTruceModel.digitOf(II)I -/
def M_digitOf (x1 : Int32) (x2 : Int32) : Int32 :=
  if x2 = 0 then (
    (x1 / 1000))
  else (
    if x2 = 1 then (
      ((x1 / 100) % 10))
    else (
      if x2 = 2 then (
        ((x1 / 10) % 10))
      else (
        (x1 % 10))))
/-- SlipperTruceModel.isWordOfNight(I)Z -/
def M_isWordOfNight_l16 (F : Nat) : Nat → Int32 → Int32 → Option Bool
  | 0, _, _ => none
  | n + 1, x1, x2 => (
  if x2 < 4 then (
    if 5 < (M_digitOf x1 x2) then (
      some false)
    else (
      am_let (x2 + 1) (fun x2_4 =>
      (M_isWordOfNight_l16 F n) x1 x2_4)))
  else (
    some true))
def M_isWordOfNight (F : Nat) (x1 : Int32) : Option Bool :=
  if (M_isIn x1 0 5555) = true then (
    M_isWordOfNight_l16 F F x1 0)
  else (
    some false)
/-- SlipperTruceModel.guess(III)I -/
def M_guess (F : Nat) (x1 : Int32) (x2 : Int32) (x3 : Int32) (σ : am_SS) : Option (Int32 × am_SS) :=
  am_let (am_up σ 0 0 0) (fun σ_1 =>
  if x1 = (-1) then (
    am_let (am_up σ_1 0 44 0) (fun σ_15 =>
    some (0, σ_15)))
  else (
    (M_isWordOfNight F x1).bind (fun q_3 =>
    if q_3 = true then (
      if (M_isIn x2 0 4) = true then (
        if (M_isIn x3 0 4) = true then (
          if 4 < (x2 + x3) then (
            some ((-1), σ_1))
          else (
            if (σ_1 0 44) = 8 then (
              some ((-1), σ_1))
            else (
              (am_wr σ_1 24 8 (σ_1 0 44) x1).bind (fun σ_11 =>
              (am_wr σ_11 25 8 (σ_11 0 44) x2).bind (fun σ_12 =>
              (am_wr σ_12 26 8 (σ_12 0 44) x3).bind (fun σ_13 =>
              am_let (am_up σ_13 0 44 ((σ_13 0 44) + 1)) (fun σ_14 =>
              some ((σ_14 0 44), σ_14))))))))
        else (
          some ((-1), σ_1)))
      else (
        some ((-1), σ_1)))
    else (
      some ((-1), σ_1)))))
/-- SlipperTruceModel.rightOf(II)I -/
def M_rightOf_p32 (rec5 : Int32 → Int32 → Int32 → Int32 → Option Int32) (F : Nat) (x1 : Int32) (x2 : Int32) (x3 : Int32) (x4 : Int32) : Option Int32 :=
  am_let (x4 + 1) (fun x4_1 =>
  rec5 x1 x2 x3 x4_1)
def M_rightOf_l5 (F : Nat) : Nat → Int32 → Int32 → Int32 → Int32 → Option Int32
  | 0, _, _, _, _ => none
  | n + 1, x1, x2, x3, x4 => (
  if x4 < 4 then (
    if (M_digitOf x1 x4) = (M_digitOf x2 x4) then (
      am_let (x3 + 1) (fun x3_5 =>
      M_rightOf_p32 (M_rightOf_l5 F n) F x1 x2 x3_5 x4))
    else (
      M_rightOf_p32 (M_rightOf_l5 F n) F x1 x2 x3 x4))
  else (
    some x3))
def M_rightOf (F : Nat) (x1 : Int32) (x2 : Int32) : Option Int32 :=
  M_rightOf_l5 F F x1 x2 0 0
/-- SlipperTruceModel.manyOf(II)I -/
def M_manyOf_p26 (rec5 : Int32 → Int32 → Int32 → Int32 → Option Int32) (F : Nat) (x1 : Int32) (x2 : Int32) (x3 : Int32) (x4 : Int32) : Option Int32 :=
  am_let (x4 + 1) (fun x4_1 =>
  rec5 x1 x2 x3 x4_1)
def M_manyOf_l5 (F : Nat) : Nat → Int32 → Int32 → Int32 → Int32 → Option Int32
  | 0, _, _, _, _ => none
  | n + 1, x1, x2, x3, x4 => (
  if x4 < 4 then (
    if (M_digitOf x1 x4) = x2 then (
      am_let (x3 + 1) (fun x3_4 =>
      M_manyOf_p26 (M_manyOf_l5 F n) F x1 x2 x3_4 x4))
    else (
      M_manyOf_p26 (M_manyOf_l5 F n) F x1 x2 x3 x4))
  else (
    some x3))
def M_manyOf (F : Nat) (x1 : Int32) (x2 : Int32) : Option Int32 :=
  M_manyOf_l5 F F x1 x2 0 0
/-- SlipperTruceModel.doesFit(I)Z -/
def M_doesFit_l15 (rec2 : Int32 → Int32 → am_SS → Option Bool) (F : Nat) : Nat → Int32 → Int32 → Int32 → Int32 → am_SS → Option Bool
  | 0, _, _, _, _, _ => none
  | n + 1, x1, x2, x3, x4, σ => (
  if x4 < 6 then (
    (M_manyOf F x1 x4).bind (fun q_10 =>
    (am_rd σ 24 8 x2).bind (fun t_11 =>
    (M_manyOf F t_11 x4).bind (fun q_12 =>
    am_let (x3 + (M_lesser q_10 q_12)) (fun x3_14 =>
    am_let (x4 + 1) (fun x4_15 =>
    (M_doesFit_l15 rec2 F n) x1 x2 x3_14 x4_15 σ))))))
  else (
    (am_rd σ 24 8 x2).bind (fun t_2 =>
    (M_rightOf F x1 t_2).bind (fun q_3 =>
    (am_rd σ 25 8 x2).bind (fun t_4 =>
    if q_3 = t_4 then (
      (am_rd σ 25 8 x2).bind (fun t_6 =>
      (am_rd σ 26 8 x2).bind (fun t_7 =>
      if x3 = (t_6 + t_7) then (
        am_let (x2 + 1) (fun x2_9 =>
        rec2 x1 x2_9 σ))
      else (
        some false))))
    else (
      some false))))))
def M_doesFit_l2 (F : Nat) : Nat → Int32 → Int32 → am_SS → Option Bool
  | 0, _, _, _ => none
  | n + 1, x1, x2, σ => (
  if x2 < (σ 0 44) then (
    M_doesFit_l15 (M_doesFit_l2 F n) F F x1 x2 0 0 σ)
  else (
    some true))
def M_doesFit (F : Nat) (x1 : Int32) (σ : am_SS) : Option Bool :=
  M_doesFit_l2 F F x1 0 σ
/-- SlipperTruceModel.words(I)I -/
def M_words_p59 (rec26 : Int32 → Int32 → Int32 → Int32 → am_SS → Option (Int32 × am_SS)) (F : Nat) (x1 : Int32) (x2 : Int32) (x3 : Int32) (x4 : Int32) (σ : am_SS) : Option (Int32 × am_SS) :=
  am_let (x4 + (-1)) (fun x4_1 =>
  rec26 x1 x2 x3 x4_1 σ)
def M_words_l26 (F : Nat) : Nat → Int32 → Int32 → Int32 → Int32 → am_SS → Option (Int32 × am_SS)
  | 0, _, _, _, _, _ => none
  | n + 1, x1, x2, x3, x4, σ => (
  if x4 < 0 then (
    if x1 = 0 then (
      some (x2, σ))
    else (
      some (x3, σ)))
  else (
    (M_isWordOfNight F x4).bind (fun q_3 =>
    if q_3 = true then (
      (M_doesFit F x4 σ).bind (fun q_5 =>
      if q_5 = true then (
        am_let (x2 + 1) (fun x2_7 =>
        M_words_p59 (M_words_l26 F n) F x1 x2_7 x4 x4 σ))
      else (
        M_words_p59 (M_words_l26 F n) F x1 x2 x3 x4 σ)))
    else (
      M_words_p59 (M_words_l26 F n) F x1 x2 x3 x4 σ))))
def M_words (F : Nat) (x1 : Int32) (σ : am_SS) : Option (Int32 × am_SS) :=
  am_let (am_up σ 0 0 0) (fun σ_1 =>
  if (M_isIn x1 0 1) = true then (
    M_words_l26 F F x1 0 (-1) 5555 σ_1)
  else (
    some ((-1), σ_1)))
/-- SlipperTruceModel.boots(III)I -/
def M_boots_p102 (rec58 : Int32 → Int32 → Int32 → Int32 → Int32 → am_SS → Option (Int32 × am_SS)) (F : Nat) (x2 : Int32) (x4 : Int32) (x5 : Int32) (x6 : Int32) (x7 : Int32) (σ : am_SS) : Option (Int32 × am_SS) :=
  am_let (x7 + (-1)) (fun x7_1 =>
  rec58 x2 x4 x5 x6 x7_1 σ)
def M_boots_l58 (F : Nat) : Nat → Int32 → Int32 → Int32 → Int32 → Int32 → am_SS → Option (Int32 × am_SS)
  | 0, _, _, _, _, _, _ => none
  | n + 1, x2, x4, x5, x6, x7, σ => (
  if x2 < x7 then (
    am_let ((3 - x4) - x5) (fun x8_3 =>
    if x6 < (1 <<< (x7 &&& 31)) then (
      M_boots_p102 (M_boots_l58 F n) F x2 x4 x8_3 x6 x7 σ)
    else (
      am_let (x6 - (1 <<< (x7 &&& 31))) (fun x6_5 =>
      M_boots_p102 (M_boots_l58 F n) F x2 x8_3 x5 x6_5 x7 σ))))
  else (
    if x6 < (1 <<< (x2 &&& 31)) then (
      some (x4, σ))
    else (
      some (x5, σ))))
def M_boots (F : Nat) (x1 : Int32) (x2 : Int32) (x3 : Int32) (σ : am_SS) : Option (Int32 × am_SS) :=
  am_let (am_up σ 0 0 0) (fun σ_1 =>
  if (M_isIn x1 1 10) = true then (
    if (M_isIn x2 0 (x1 - 1)) = true then (
      if (M_isIn x3 0 ((1 <<< (x1 &&& 31)) - 1)) = true then (
        am_let (x1 - 1) (fun x7_8 =>
        M_boots_l58 F F x2 0 2 x3 x7_8 σ_1))
      else (
        some ((-1), σ_1)))
    else (
      some ((-1), σ_1)))
  else (
    some ((-1), σ_1)))
/-- SlipperTruceModel.moves(I)I -/
def M_moves_p121 (rec73 : Int32 → Int32 → Int32 → Int32 → am_SS → Option (Int32 × am_SS)) (F : Nat) (x2 : Int32) (x4 : Int32) (x5 : Int32) (x6 : Int32) (σ : am_SS) : Option (Int32 × am_SS) :=
  am_let (x6 + 1) (fun x6_1 =>
  rec73 x2 x4 x5 x6_1 σ)
def M_moves_l73 (F : Nat) : Nat → Int32 → Int32 → Int32 → Int32 → am_SS → Option (Int32 × am_SS)
  | 0, _, _, _, _, _ => none
  | n + 1, x2, x4, x5, x6, σ => (
  if x6 < x2 then (
    (am_rd σ 27 10 x6).bind (fun t_2 =>
    if t_2 = x4 then (
      M_moves_p121 (M_moves_l73 F n) F x2 x4 x5 x6 σ)
    else (
      am_let (x5 + (1 <<< (((x2 - 1) - x6) &&& 31))) (fun x5_4 =>
      (am_rd σ 27 10 x6).bind (fun t_5 =>
      am_let ((3 - x4) - t_5) (fun x4_6 =>
      M_moves_p121 (M_moves_l73 F n) F x2 x4_6 x5_4 x6 σ))))))
  else (
    some (x5, σ)))
def M_moves_l9 (F : Nat) : Nat → Int32 → Int32 → am_SS → Option (Int32 × am_SS)
  | 0, _, _, _ => none
  | n + 1, x2, x3, σ => (
  if 9 < x3 then (
    if 2 < (x3 % 10) then (
      some ((-1), σ))
    else (
      if x2 = 10 then (
        some ((-1), σ))
      else (
        (am_wr σ 27 10 x2 (x3 % 10)).bind (fun σ_6 =>
        am_let (x2 + 1) (fun x2_7 =>
        am_let (x3 / 10) (fun x3_8 =>
        (M_moves_l9 F n) x2_7 x3_8 σ_6))))))
  else (
    if x3 = 1 then (
      if x2 = 0 then (
        some ((-1), σ))
      else (
        M_moves_l73 F F x2 2 0 0 σ))
    else (
      some ((-1), σ))))
def M_moves (F : Nat) (x1 : Int32) (σ : am_SS) : Option (Int32 × am_SS) :=
  am_let (am_up σ 0 0 0) (fun σ_1 =>
  M_moves_l9 F F 0 x1 σ_1)
/-- SlipperTruceModel.billets(II)I -/
def M_billets_p141 (rec34 : Int32 → Int32 → Int32 → Int32 → am_SS → Option (Int32 × am_SS)) (rec43 : Int32 → Int32 → Int32 → Int32 → Int32 → am_SS → Option (Int32 × am_SS)) (F : Nat) (x1 : Int32) (x2 : Int32) (x3 : Int32) (x4 : Int32) (x5 : Int32) (σ : am_SS) : Option (Int32 × am_SS) :=
  am_let (x5 + 1) (fun x5_1 =>
  rec43 x1 x2 x3 x4 x5_1 σ)
def M_billets_p115 (rec34 : Int32 → Int32 → Int32 → Int32 → am_SS → Option (Int32 × am_SS)) (rec43 : Int32 → Int32 → Int32 → Int32 → Int32 → am_SS → Option (Int32 × am_SS)) (F : Nat) (x1 : Int32) (x2 : Int32) (x3 : Int32) (x4 : Int32) (x5 : Int32) (x6 : Int32) (σ : am_SS) : Option (Int32 × am_SS) :=
  (am_wr σ 28 121 ((11 * x4) + x5) x6).bind (fun σ_1 =>
  if x4 = x1 then (
    am_let (x3 + x6) (fun x3_3 =>
    M_billets_p141 rec34 rec43 F x1 x2 x3_3 x4 x5 σ_1))
  else (
    M_billets_p141 rec34 rec43 F x1 x2 x3 x4 x5 σ_1))
def M_billets_p65 (rec34 : Int32 → Int32 → Int32 → Int32 → am_SS → Option (Int32 × am_SS)) (rec43 : Int32 → Int32 → Int32 → Int32 → Int32 → am_SS → Option (Int32 × am_SS)) (F : Nat) (x1 : Int32) (x2 : Int32) (x3 : Int32) (x4 : Int32) (x5 : Int32) (s0 : Bool) (σ : am_SS) : Option (Int32 × am_SS) :=
  if 0 < x4 then (
    if 0 < x5 then (
      (am_rd σ 28 121 (((11 * (x4 - 1)) + x5) - 1)).bind (fun t_3 =>
      (am_rd σ 28 121 ((11 * (x4 - 1)) + x5)).bind (fun t_4 =>
      am_let (t_3 + (x5 * t_4)) (fun x6_5 =>
      M_billets_p115 rec34 rec43 F x1 x2 x3 x4 x5 x6_5 σ))))
    else (
      M_billets_p115 rec34 rec43 F x1 x2 x3 x4 x5 (am_bI s0) σ))
  else (
    M_billets_p115 rec34 rec43 F x1 x2 x3 x4 x5 (am_bI s0) σ)
def M_billets_p64 (rec34 : Int32 → Int32 → Int32 → Int32 → am_SS → Option (Int32 × am_SS)) (rec43 : Int32 → Int32 → Int32 → Int32 → Int32 → am_SS → Option (Int32 × am_SS)) (F : Nat) (x1 : Int32) (x2 : Int32) (x3 : Int32) (x4 : Int32) (x5 : Int32) (σ : am_SS) : Option (Int32 × am_SS) :=
  M_billets_p65 rec34 rec43 F x1 x2 x3 x4 x5 false σ
def M_billets_l43 (rec34 : Int32 → Int32 → Int32 → Int32 → am_SS → Option (Int32 × am_SS)) (F : Nat) : Nat → Int32 → Int32 → Int32 → Int32 → Int32 → am_SS → Option (Int32 × am_SS)
  | 0, _, _, _, _, _, _ => none
  | n + 1, x1, x2, x3, x4, x5, σ => (
  if x5 < 11 then (
    if x4 = 0 then (
      if x5 = 0 then (
        M_billets_p65 rec34 (M_billets_l43 rec34 F n) F x1 x2 x3 x4 x5 true σ)
      else (
        M_billets_p64 rec34 (M_billets_l43 rec34 F n) F x1 x2 x3 x4 x5 σ))
    else (
      M_billets_p64 rec34 (M_billets_l43 rec34 F n) F x1 x2 x3 x4 x5 σ))
  else (
    am_let (x4 + 1) (fun x4_2 =>
    rec34 x1 x2 x3 x4_2 σ)))
def M_billets_l34 (F : Nat) : Nat → Int32 → Int32 → Int32 → Int32 → am_SS → Option (Int32 × am_SS)
  | 0, _, _, _, _, _ => none
  | n + 1, x1, x2, x3, x4, σ => (
  if x1 < x4 then (
    if x2 = (-1) then (
      some (x3, σ))
    else (
      (am_rd σ 28 121 ((11 * x1) + x2)).bind (fun t_3 =>
      some (t_3, σ))))
  else (
    M_billets_l43 (M_billets_l34 F n) F F x1 x2 x3 x4 0 σ))
def M_billets (F : Nat) (x1 : Int32) (x2 : Int32) (σ : am_SS) : Option (Int32 × am_SS) :=
  am_let (am_up σ 0 0 0) (fun σ_1 =>
  if (M_isIn x1 0 10) = true then (
    if (M_isIn x2 (-1) 10) = true then (
      M_billets_l34 F F x1 x2 0 0 σ_1)
    else (
      some ((-1), σ_1)))
  else (
    some ((-1), σ_1)))
/-- SlipperTruceModel.chosen(II)I -/
def M_chosen_l5 (F : Nat) : Nat → Int32 → Int32 → Int32 → Int32 → Option Int32
  | 0, _, _, _, _ => none
  | n + 1, x1, x2, x3, x4 => (
  if x2 < x4 then (
    some x3)
  else (
    if x4 = 0 then none else (
    am_let ((x3 * ((x1 - x2) + x4)) / x4) (fun x3_3 =>
    am_let (x4 + 1) (fun x4_4 =>
    (M_chosen_l5 F n) x1 x2 x3_3 x4_4)))))
def M_chosen (F : Nat) (x1 : Int32) (x2 : Int32) : Option Int32 :=
  M_chosen_l5 F F x1 x2 1 1
/-- SlipperTruceModel.pairs(II)I -/
def M_pairs_p57 (rec33 : Int32 → Int32 → Int32 → Int32 → am_SS → Option (Int32 × am_SS)) (F : Nat) (x1 : Int32) (x2 : Int32) (x4 : Int32) (s0 : Int32) (s1 : Int32) (σ : am_SS) : Option (Int32 × am_SS) :=
  am_let (s0 + s1) (fun x3_1 =>
  am_let (x4 + 1) (fun x4_2 =>
  rec33 x1 x2 x3_1 x4_2 σ))
def M_pairs_l33 (F : Nat) : Nat → Int32 → Int32 → Int32 → Int32 → am_SS → Option (Int32 × am_SS)
  | 0, _, _, _, _, _ => none
  | n + 1, x1, x2, x3, x4, σ => (
  if (x1 - x2) < x4 then (
    (M_chosen F x1 x2).bind (fun q_2 =>
    some ((q_2 * x3), σ)))
  else (
    if (x4 % 2) = 0 then (
      M_pairs_p57 (M_pairs_l33 F n) F x1 x2 x4 (x3 * x4) 1 σ)
    else (
      M_pairs_p57 (M_pairs_l33 F n) F x1 x2 x4 (x3 * x4) (-1) σ)))
def M_pairs (F : Nat) (x1 : Int32) (x2 : Int32) (σ : am_SS) : Option (Int32 × am_SS) :=
  am_let (am_up σ 0 0 0) (fun σ_1 =>
  if (M_isIn x1 0 10) = true then (
    if (M_isIn x2 0 x1) = true then (
      M_pairs_l33 F F x1 x2 1 1 σ_1)
    else (
      some ((-1), σ_1)))
  else (
    some ((-1), σ_1)))
/-- SlipperTruceModel.ahead(III)I -/
def M_ahead_p128 (rec47 : Int32 → Int32 → Int32 → Int32 → am_SS → Option (Int32 × am_SS)) (rec56 : Int32 → Int32 → Int32 → Int32 → Int32 → am_SS → Option (Int32 × am_SS)) (F : Nat) (x1 : Int32) (x2 : Int32) (x3 : Int32) (x4 : Int32) (x5 : Int32) (x6 : Int32) (σ : am_SS) : Option (Int32 × am_SS) :=
  (am_wr σ 29 169 ((13 * x4) + x5) x6).bind (fun σ_1 =>
  am_let (x5 + 1) (fun x5_2 =>
  rec56 x1 x2 x3 x4 x5_2 σ_1))
def M_ahead_p125 (rec47 : Int32 → Int32 → Int32 → Int32 → am_SS → Option (Int32 × am_SS)) (rec56 : Int32 → Int32 → Int32 → Int32 → Int32 → am_SS → Option (Int32 × am_SS)) (F : Nat) (x1 : Int32) (x2 : Int32) (x3 : Int32) (x4 : Int32) (x5 : Int32) (s0 : Int32) (s1 : Int32) (σ : am_SS) : Option (Int32 × am_SS) :=
  am_let (s0 + s1) (fun x6_1 =>
  M_ahead_p128 rec47 rec56 F x1 x2 x3 x4 x5 x6_1 σ)
def M_ahead_p77 (rec47 : Int32 → Int32 → Int32 → Int32 → am_SS → Option (Int32 × am_SS)) (rec56 : Int32 → Int32 → Int32 → Int32 → Int32 → am_SS → Option (Int32 × am_SS)) (F : Nat) (x1 : Int32) (x2 : Int32) (x3 : Int32) (x4 : Int32) (x5 : Int32) (s0 : Bool) (σ : am_SS) : Option (Int32 × am_SS) :=
  if x5 < x4 then (
    (am_rd σ 29 169 ((13 * (x4 - 1)) + x5)).bind (fun t_2 =>
    if x5 = 0 then (
      M_ahead_p125 rec47 rec56 F x1 x2 x3 x4 x5 t_2 0 σ)
    else (
      (am_rd σ 29 169 (((13 * x4) + x5) - 1)).bind (fun t_4 =>
      M_ahead_p125 rec47 rec56 F x1 x2 x3 x4 x5 t_2 t_4 σ))))
  else (
    M_ahead_p128 rec47 rec56 F x1 x2 x3 x4 x5 (am_bI s0) σ)
def M_ahead_p76 (rec47 : Int32 → Int32 → Int32 → Int32 → am_SS → Option (Int32 × am_SS)) (rec56 : Int32 → Int32 → Int32 → Int32 → Int32 → am_SS → Option (Int32 × am_SS)) (F : Nat) (x1 : Int32) (x2 : Int32) (x3 : Int32) (x4 : Int32) (x5 : Int32) (σ : am_SS) : Option (Int32 × am_SS) :=
  M_ahead_p77 rec47 rec56 F x1 x2 x3 x4 x5 false σ
def M_ahead_l56 (rec47 : Int32 → Int32 → Int32 → Int32 → am_SS → Option (Int32 × am_SS)) (F : Nat) : Nat → Int32 → Int32 → Int32 → Int32 → Int32 → am_SS → Option (Int32 × am_SS)
  | 0, _, _, _, _, _, _ => none
  | n + 1, x1, x2, x3, x4, x5, σ => (
  if x2 < x5 then (
    am_let (x4 + 1) (fun x4_2 =>
    rec47 x1 x2 x3 x4_2 σ))
  else (
    if x4 = 0 then (
      if x5 = 0 then (
        M_ahead_p77 rec47 (M_ahead_l56 rec47 F n) F x1 x2 x3 x4 x5 true σ)
      else (
        M_ahead_p76 rec47 (M_ahead_l56 rec47 F n) F x1 x2 x3 x4 x5 σ))
    else (
      M_ahead_p76 rec47 (M_ahead_l56 rec47 F n) F x1 x2 x3 x4 x5 σ)))
def M_ahead_l47 (F : Nat) : Nat → Int32 → Int32 → Int32 → Int32 → am_SS → Option (Int32 × am_SS)
  | 0, _, _, _, _, _ => none
  | n + 1, x1, x2, x3, x4, σ => (
  if x1 < x4 then (
    (am_rd σ 29 169 ((13 * x1) + x2)).bind (fun t_2 =>
    (M_chosen F (x1 + x2) x2).bind (fun q_3 =>
    (M_common F t_2 q_3).bind (fun q_4 =>
    if x3 = 0 then (
      some (t_2, σ))
    else (
      if x3 = 1 then (
        if q_4 = 0 then none else (
        some ((t_2 / q_4), σ)))
      else (
        if q_4 = 0 then none else (
        some ((q_3 / q_4), σ))))))))
  else (
    M_ahead_l56 (M_ahead_l47 F n) F F x1 x2 x3 x4 0 σ))
def M_ahead (F : Nat) (x1 : Int32) (x2 : Int32) (x3 : Int32) (σ : am_SS) : Option (Int32 × am_SS) :=
  am_let (am_up σ 0 0 0) (fun σ_1 =>
  if (M_isIn x1 0 12) = true then (
    if (M_isIn x2 0 12) = true then (
      if x2 < x1 then (
        if (M_isIn x3 0 2) = true then (
          M_ahead_l47 F F x1 x2 x3 0 σ_1)
        else (
          some ((-1), σ_1)))
      else (
        some ((-1), σ_1)))
    else (
      some ((-1), σ_1)))
  else (
    some ((-1), σ_1)))
/-- SlipperTruceModel.feast(II)I -/
def M_feast (x1 : Int32) (x2 : Int32) (σ : am_SS) : (Int32 × am_SS) :=
  am_let (am_up σ 0 0 0) (fun σ_1 =>
  if (M_isIn x1 1600 2400) = true then (
    if (M_isIn x2 0 1) = true then (
      am_let (x1 % 19) (fun x3_6 =>
      am_let (x1 / 100) (fun x4_7 =>
      am_let (x1 % 100) (fun x5_8 =>
      am_let ((x4_7 + 8) / 25) (fun x6_9 =>
      am_let (((x4_7 - x6_9) + 1) / 3) (fun x7_10 =>
      am_let ((((((19 * x3_6) + x4_7) - (x4_7 / 4)) - x7_10) + 15) % 30) (fun x8_11 =>
      am_let (((((32 + (2 * (x4_7 % 4))) + (2 * (x5_8 / 4))) - x8_11) - (x5_8 % 4)) % 7) (fun x9_12 =>
      am_let (((x3_6 + (11 * x8_11)) + (22 * x9_12)) / 451) (fun x10_13 =>
      am_let (((x8_11 + x9_12) - (7 * x10_13)) + 114) (fun x11_14 =>
      if x2 = 0 then (
        ((x11_14 / 31), σ_1))
      else (
        (((x11_14 % 31) + 1), σ_1))))))))))))
    else (
      ((-1), σ_1)))
  else (
    ((-1), σ_1)))
/-- SlipperTruceModel.squares(I)I -/
def M_squares_l4 (F : Nat) : Nat → Int32 → Int32 → Option Int32
  | 0, _, _ => none
  | n + 1, x2, x3 => (
  if 0 < x3 then (
    am_let (x2 + ((x3 % 10) * (x3 % 10))) (fun x2_2 =>
    am_let (x3 / 10) (fun x3_3 =>
    (M_squares_l4 F n) x2_2 x3_3)))
  else (
    some x2))
def M_squares (F : Nat) (x1 : Int32) : Option Int32 :=
  M_squares_l4 F F 0 x1
/-- SlipperTruceModel.stepsToEnd(I)I -/
def M_stepsToEnd_l4 (F : Nat) : Nat → Int32 → Int32 → Option Int32
  | 0, _, _ => none
  | n + 1, x2, x3 => (
  if x3 = 1 then (
    some x2)
  else (
    if x3 = 4 then (
      some x2)
    else (
      am_let (x2 + 1) (fun x2_3 =>
      (M_squares F x3).bind (fun q_4 =>
      (M_stepsToEnd_l4 F n) x2_3 q_4)))))
def M_stepsToEnd (F : Nat) (x1 : Int32) : Option Int32 :=
  M_stepsToEnd_l4 F F 0 x1
/-- SlipperTruceModel.isHappy(I)Z -/
def M_isHappy_p21 (F : Nat) (x2 : Int32) : Option Bool :=
  if x2 = 1 then (
    some true)
  else (
    some false)
def M_isHappy_l2 (F : Nat) : Nat → Int32 → Option Bool
  | 0, _ => none
  | n + 1, x2 => (
  if x2 = 1 then (
    M_isHappy_p21 F x2)
  else (
    if x2 = 4 then (
      M_isHappy_p21 F x2)
    else (
      (M_squares F x2).bind (fun q_3 =>
      (M_isHappy_l2 F n) q_3))))
def M_isHappy (F : Nat) (x1 : Int32) : Option Bool :=
  M_isHappy_l2 F F x1
/-- SlipperTruceModel.happy(II)I -/
def M_happy_p93 (rec74 : Int32 → Int32 → Int32 → am_SS → Option (Int32 × am_SS)) (F : Nat) (x1 : Int32) (x3 : Int32) (x4 : Int32) (σ : am_SS) : Option (Int32 × am_SS) :=
  am_let (x4 + 1) (fun x4_1 =>
  rec74 x1 x3 x4_1 σ)
def M_happy_l74 (F : Nat) : Nat → Int32 → Int32 → Int32 → am_SS → Option (Int32 × am_SS)
  | 0, _, _, _, _ => none
  | n + 1, x1, x3, x4, σ => (
  if x1 < x4 then (
    some (x3, σ))
  else (
    (M_isHappy F x4).bind (fun q_2 =>
    if q_2 = true then (
      am_let (x3 + 1) (fun x3_4 =>
      M_happy_p93 (M_happy_l74 F n) F x1 x3_4 x4 σ))
    else (
      M_happy_p93 (M_happy_l74 F n) F x1 x3 x4 σ))))
def M_happy_p22 (F : Nat) (x1 : Int32) (x2 : Int32) (s1 : Int32) (s2 : Bool) (s3 : Int32) (σ : am_SS) : Option (Int32 × am_SS) :=
  if (M_isIn s1 (am_bI s2) s3) = true then (
    if (M_isIn x2 0 2) = true then (
      if x2 = 1 then (
        (M_stepsToEnd F x1).bind (fun q_9 =>
        some (q_9, σ)))
      else (
        if x2 = 0 then (
          (M_isHappy F x1).bind (fun q_7 =>
          if q_7 = true then (
            some (1, σ))
          else (
            some (0, σ))))
        else (
          M_happy_l74 F F x1 0 1 σ)))
    else (
      some ((-1), σ)))
  else (
    some ((-1), σ))
def M_happy (F : Nat) (x1 : Int32) (x2 : Int32) (σ : am_SS) : Option (Int32 × am_SS) :=
  am_let (am_up σ 0 0 0) (fun σ_1 =>
  if x2 = 2 then (
    M_happy_p22 F x1 x2 x1 true 999 σ_1)
  else (
    M_happy_p22 F x1 x2 x1 true 99999 σ_1))
/-- SlipperTruceModel.letter(II)I -/
def M_letter_p58 (x1 : Int32) (x2 : Int32) (s0 : Int32) (s1 : Int32) (σ : am_SS) : Option (Int32 × am_SS) :=
  if s0 = s1 then (
    some ((-1), σ))
  else (
    (am_rd σ 30 2 x1).bind (fun t_2 =>
    (am_wr σ 31 24 ((12 * x1) + t_2) x2).bind (fun σ_3 =>
    (am_rd σ_3 30 2 x1).bind (fun t_4 =>
    (am_wr σ_3 30 2 x1 (t_4 + 1)).bind (fun σ_5 =>
    (am_rd σ_5 30 2 x1).bind (fun t_6 =>
    some (t_6, σ_5)))))))
def M_letter (x1 : Int32) (x2 : Int32) (σ : am_SS) : Option (Int32 × am_SS) :=
  am_let (am_up σ 0 0 0) (fun σ_1 =>
  if (M_isIn x1 0 1) = true then (
    if x2 = (-1) then (
      (am_wr σ_1 30 2 x1 0).bind (fun σ_9 =>
      some (0, σ_9)))
    else (
      if (M_isIn x2 0 25) = true then (
        (am_rd σ_1 30 2 x1).bind (fun t_7 =>
        if x1 = 0 then (
          M_letter_p58 x1 x2 t_7 12 σ_1)
        else (
          M_letter_p58 x1 x2 t_7 4 σ_1)))
      else (
        some ((-1), σ_1))))
  else (
    some ((-1), σ_1)))
/-- SlipperTruceModel.railOf(II)I -/
def M_railOf (x1 : Int32) (x2 : Int32) : Option Int32 :=
  if x2 = 1 then (
    some 0)
  else (
    if ((2 * x2) - 2) = 0 then none else (
    am_let (x1 % ((2 * x2) - 2)) (fun x3_3 =>
    if x3_3 < x2 then (
      some x3_3)
    else (
      some (((2 * x2) - 2) - x3_3)))))
/-- SlipperTruceModel.byRails(II)I -/
def M_byRails_p57 (rec5 : Int32 → Int32 → Int32 → Int32 → am_SS → Option Int32) (rec14 : Int32 → Int32 → Int32 → Int32 → Int32 → am_SS → Option Int32) (F : Nat) (x1 : Int32) (x2 : Int32) (x3 : Int32) (x4 : Int32) (x5 : Int32) (σ : am_SS) : Option Int32 :=
  am_let (x5 + 1) (fun x5_1 =>
  rec14 x1 x2 x3 x4 x5_1 σ)
def M_byRails_l14 (rec5 : Int32 → Int32 → Int32 → Int32 → am_SS → Option Int32) (F : Nat) : Nat → Int32 → Int32 → Int32 → Int32 → Int32 → am_SS → Option Int32
  | 0, _, _, _, _, _, _ => none
  | n + 1, x1, x2, x3, x4, x5, σ => (
  (am_rd σ 30 2 0).bind (fun t_1 =>
  if x5 < t_1 then (
    (M_railOf x5 x1).bind (fun q_4 =>
    if q_4 = x4 then (
      if x3 = x2 then (
        (am_rd σ 31 24 x5).bind (fun t_8 =>
        some t_8))
      else (
        am_let (x3 + 1) (fun x3_7 =>
        M_byRails_p57 rec5 (M_byRails_l14 rec5 F n) F x1 x2 x3_7 x4 x5 σ)))
    else (
      M_byRails_p57 rec5 (M_byRails_l14 rec5 F n) F x1 x2 x3 x4 x5 σ)))
  else (
    am_let (x4 + 1) (fun x4_3 =>
    rec5 x1 x2 x3 x4_3 σ))))
def M_byRails_l5 (F : Nat) : Nat → Int32 → Int32 → Int32 → Int32 → am_SS → Option Int32
  | 0, _, _, _, _, _ => none
  | n + 1, x1, x2, x3, x4, σ => (
  if x4 < x1 then (
    M_byRails_l14 (M_byRails_l5 F n) F F x1 x2 x3 x4 0 σ)
  else (
    some (-1)))
def M_byRails (F : Nat) (x1 : Int32) (x2 : Int32) (σ : am_SS) : Option Int32 :=
  M_byRails_l5 F F x1 x2 0 0 σ
/-- SlipperTruceModel.message(II)I -/
def M_message_p146 (F : Nat) (s0 : Int32) (s1 : Int32) (σ : am_SS) : Option (Int32 × am_SS) :=
  some (((s0 + s1) % 26), σ)
def M_message_p124 (F : Nat) (x1 : Int32) (x2 : Int32) (s0 : Int32) (σ : am_SS) : Option (Int32 × am_SS) :=
  (am_rd σ 31 24 x2).bind (fun t_1 =>
  if x1 = 0 then (
    M_message_p146 F t_1 s0 σ)
  else (
    M_message_p146 F t_1 (26 - s0) σ))
def M_message (F : Nat) (x1 : Int32) (x2 : Int32) (σ : am_SS) : Option (Int32 × am_SS) :=
  am_let (am_up σ 0 0 0) (fun σ_1 =>
  (am_rd σ_1 30 2 0).bind (fun t_2 =>
  if x1 = 2 then (
    if t_2 = 0 then (
      some ((-1), σ_1))
    else (
      (am_rd σ_1 31 24 (t_2 - 1)).bind (fun t_17 =>
      (am_rd σ_1 31 24 0).bind (fun t_18 =>
      some ((((t_17 - t_18) + 26) % 26), σ_1)))))
  else (
    if (M_isIn x2 0 (t_2 - 1)) = true then (
      if (M_isIn x1 11 16) = true then (
        (M_byRails F (x1 - 10) x2 σ_1).bind (fun q_15 =>
        some (q_15, σ_1)))
      else (
        if (M_isIn x1 0 1) = true then (
          (am_rd σ_1 30 2 1).bind (fun t_10 =>
          if t_10 = 0 then (
            M_message_p124 F x1 x2 0 σ_1)
          else (
            (am_rd σ_1 30 2 1).bind (fun t_12 =>
            if t_12 = 0 then none else (
            (am_rd σ_1 31 24 (12 + (x2 % t_12))).bind (fun t_14 =>
            M_message_p124 F x1 x2 t_14 σ_1))))))
        else (
          some ((-1), σ_1))))
    else (
      some ((-1), σ_1)))))
/-- SlipperTruceModel.bit(I)I -/
def M_bit (x1 : Int32) (σ : am_SS) : Option (Int32 × am_SS) :=
  am_let (am_up σ 0 0 0) (fun σ_1 =>
  if x1 = (-1) then (
    am_let (am_up σ_1 0 53 0) (fun σ_8 =>
    some (0, σ_8)))
  else (
    if (M_isIn x1 0 1) = true then (
      if (σ_1 0 53) = 16 then (
        some ((-1), σ_1))
      else (
        (am_wr σ_1 32 16 (σ_1 0 53) x1).bind (fun σ_6 =>
        am_let (am_up σ_6 0 53 ((σ_6 0 53) + 1)) (fun σ_7 =>
        some ((σ_7 0 53), σ_7)))))
    else (
      some ((-1), σ_1))))
/-- SlipperTruceModel.cutPieces()I -/
def M_cutPieces_p88 (rec6 : Int32 → Int32 → Int32 → am_SS → Option (Int32 × am_SS)) (F : Nat) (x1 : Int32) (x2 : Int32) (x3 : Int32) (σ : am_SS) : Option (Int32 × am_SS) :=
  am_let (x3 + 1) (fun x3_1 =>
  rec6 x1 x2 x3_1 σ)
def M_cutPieces_p75 (rec6 : Int32 → Int32 → Int32 → am_SS → Option (Int32 × am_SS)) (F : Nat) (x1 : Int32) (x2 : Int32) (x3 : Int32) (σ : am_SS) : Option (Int32 × am_SS) :=
  (am_wr σ 33 16 x1 x2).bind (fun σ_1 =>
  am_let (x1 + 1) (fun x1_2 =>
  M_cutPieces_p88 rec6 F x1_2 1 x3 σ_1))
def M_cutPieces_p51 (rec6 : Int32 → Int32 → Int32 → am_SS → Option (Int32 × am_SS)) (rec31 : Int32 → Int32 → Int32 → Bool → Int32 → am_SS → Option (Int32 × am_SS)) (F : Nat) (x1 : Int32) (x2 : Int32) (x3 : Int32) (x4 : Bool) (x5 : Int32) (σ : am_SS) : Option (Int32 × am_SS) :=
  am_let (x5 + 1) (fun x5_1 =>
  rec31 x1 x2 x3 x4 x5_1 σ)
def M_cutPieces_l31 (rec6 : Int32 → Int32 → Int32 → am_SS → Option (Int32 × am_SS)) (F : Nat) : Nat → Int32 → Int32 → Int32 → Bool → Int32 → am_SS → Option (Int32 × am_SS)
  | 0, _, _, _, _, _, _ => none
  | n + 1, x1, x2, x3, x4, x5, σ => (
  if x5 < x1 then (
    (am_rd σ 33 16 x5).bind (fun t_4 =>
    if t_4 = x2 then (
      M_cutPieces_p51 rec6 (M_cutPieces_l31 rec6 F n) F x1 x2 x3 true x5 σ)
    else (
      M_cutPieces_p51 rec6 (M_cutPieces_l31 rec6 F n) F x1 x2 x3 x4 x5 σ)))
  else (
    if x4 = true then (
      if x3 < ((σ 0 53) - 1) then (
        M_cutPieces_p88 rec6 F x1 x2 x3 σ)
      else (
        M_cutPieces_p75 rec6 F x1 x2 x3 σ))
    else (
      M_cutPieces_p75 rec6 F x1 x2 x3 σ)))
def M_cutPieces_l6 (F : Nat) : Nat → Int32 → Int32 → Int32 → am_SS → Option (Int32 × am_SS)
  | 0, _, _, _, _ => none
  | n + 1, x1, x2, x3, σ => (
  if x3 < (σ 0 53) then (
    (am_rd σ 32 16 x3).bind (fun t_2 =>
    am_let ((2 * x2) + t_2) (fun x2_3 =>
    M_cutPieces_l31 (M_cutPieces_l6 F n) F F x1 x2_3 x3 false 0 σ)))
  else (
    some (x1, σ)))
def M_cutPieces (F : Nat) (σ : am_SS) : Option (Int32 × am_SS) :=
  M_cutPieces_l6 F F 0 1 0 σ
/-- SlipperTruceModel.readsAlike(II)Z -/
def M_readsAlike_l2 (F : Nat) : Nat → Int32 → Int32 → Int32 → am_SS → Option Bool
  | 0, _, _, _, _ => none
  | n + 1, x1, x2, x3, σ => (
  if x3 < x2 then (
    (am_rd σ 32 16 (x1 + x3)).bind (fun t_2 =>
    (am_rd σ 32 16 (((x1 + x2) - 1) - x3)).bind (fun t_3 =>
    if t_2 = t_3 then (
      am_let (x3 + 1) (fun x3_5 =>
      (M_readsAlike_l2 F n) x1 x2 x3_5 σ))
    else (
      some false))))
  else (
    some true))
def M_readsAlike (F : Nat) (x1 : Int32) (x2 : Int32) (σ : am_SS) : Option Bool :=
  M_readsAlike_l2 F F x1 x2 0 σ
/-- SlipperTruceModel.anew(I)I -/
def M_anew_l37 (rec31 : Int32 → Int32 → am_SS → Option (Int32 × am_SS)) (F : Nat) : Nat → Int32 → Int32 → Int32 → am_SS → Option (Int32 × am_SS)
  | 0, _, _, _, _ => none
  | n + 1, x1, x2, x3, σ => (
  if (σ 0 53) < (x3 + x2) then (
    am_let (x2 + (-1)) (fun x2_2 =>
    rec31 x1 x2_2 σ))
  else (
    (M_readsAlike F x3 x2 σ).bind (fun q_3 =>
    if q_3 = true then (
      if x1 = 1 then (
        some (x2, σ))
      else (
        some (x3, σ)))
    else (
      am_let (x3 + 1) (fun x3_5 =>
      (M_anew_l37 rec31 F n) x1 x2 x3_5 σ)))))
def M_anew_l31 (F : Nat) : Nat → Int32 → Int32 → am_SS → Option (Int32 × am_SS)
  | 0, _, _, _ => none
  | n + 1, x1, x2, σ => (
  if 0 < x2 then (
    M_anew_l37 (M_anew_l31 F n) F F x1 x2 0 σ)
  else (
    if x1 = 1 then (
      some (0, σ))
    else (
      some ((-1), σ))))
def M_anew (F : Nat) (x1 : Int32) (σ : am_SS) : Option (Int32 × am_SS) :=
  am_let (am_up σ 0 0 0) (fun σ_1 =>
  if (M_isIn x1 0 2) = true then (
    if x1 = 0 then (
      (M_cutPieces F  σ_1).bind (fun q_6 =>
      some (q_6.1, q_6.2)))
    else (
      am_let (σ_1 0 53) (fun x2_5 =>
      M_anew_l31 F F x1 x2_5 σ_1)))
  else (
    some ((-1), σ_1)))
/-- SlipperTruceModel.queen(II)I -/
def M_queen_l52 (F : Nat) : Nat → Int32 → Int32 → Int32 → am_SS → Option (Int32 × am_SS)
  | 0, _, _, _, _ => none
  | n + 1, x1, x2, x3, σ => (
  if x3 < (σ 0 56) then (
    (am_rd σ 34 7 x3).bind (fun t_4 =>
    if t_4 = ((7 * x2) + x1) then (
      some ((-1), σ))
    else (
      am_let (x3 + 1) (fun x3_6 =>
      (M_queen_l52 F n) x1 x2 x3_6 σ))))
  else (
    (am_wr σ 34 7 (σ 0 56) ((7 * x2) + x1)).bind (fun σ_2 =>
    am_let (am_up σ_2 0 56 ((σ_2 0 56) + 1)) (fun σ_3 =>
    some ((σ_3 0 56), σ_3)))))
def M_queen (F : Nat) (x1 : Int32) (x2 : Int32) (σ : am_SS) : Option (Int32 × am_SS) :=
  am_let (am_up σ 0 0 0) (fun σ_1 =>
  if x1 = (-1) then (
    am_let (am_up σ_1 0 56 0) (fun σ_8 =>
    some (0, σ_8)))
  else (
    if (M_isIn x1 0 6) = true then (
      if (M_isIn x2 0 6) = true then (
        if (σ_1 0 56) = 7 then (
          some ((-1), σ_1))
        else (
          M_queen_l52 F F x1 x2 0 σ_1))
      else (
        some ((-1), σ_1)))
    else (
      some ((-1), σ_1))))
/-- SlipperTruceModel.doStand(I)Z -/
def M_doStand_p119 (rec66 : Int32 → Int32 → am_SS → Option Bool) (F : Nat) (x1 : Int32) (x2 : Int32) (σ : am_SS) : Option Bool :=
  am_let (x2 + 1) (fun x2_1 =>
  rec66 x1 x2_1 σ)
def M_doStand_l66 (F : Nat) : Nat → Int32 → Int32 → am_SS → Option Bool
  | 0, _, _, _ => none
  | n + 1, x1, x2, σ => (
  if x2 < (σ 0 56) then (
    (am_rd σ 34 7 x2).bind (fun t_2 =>
    am_let (t_2 % 7) (fun x3_3 =>
    (am_rd σ 34 7 x2).bind (fun t_4 =>
    am_let (t_4 / 7) (fun x4_5 =>
    if x3_3 < x1 then (
      if x4_5 < x1 then (
        (am_rd σ 35 7 x4_5).bind (fun t_8 =>
        if t_8 = x3_3 then (
          M_doStand_p119 (M_doStand_l66 F n) F x1 x2 σ)
        else (
          some false)))
      else (
        M_doStand_p119 (M_doStand_l66 F n) F x1 x2 σ))
    else (
      M_doStand_p119 (M_doStand_l66 F n) F x1 x2 σ))))))
  else (
    some true))
def M_doStand_l9 (rec2 : Int32 → Int32 → am_SS → Option Bool) (F : Nat) : Nat → Int32 → Int32 → Int32 → am_SS → Option Bool
  | 0, _, _, _, _ => none
  | n + 1, x1, x2, x3, σ => (
  if x3 < x2 then (
    (am_rd σ 35 7 x2).bind (fun t_3 =>
    (am_rd σ 35 7 x3).bind (fun t_4 =>
    am_let (t_3 - t_4) (fun x4_5 =>
    if x4_5 = 0 then (
      some false)
    else (
      if x4_5 = (x2 - x3) then (
        some false)
      else (
        if x4_5 = (x3 - x2) then (
          some false)
        else (
          am_let (x3 + 1) (fun x3_9 =>
          (M_doStand_l9 rec2 F n) x1 x2 x3_9 σ))))))))
  else (
    am_let (x2 + 1) (fun x2_2 =>
    rec2 x1 x2_2 σ)))
def M_doStand_l2 (F : Nat) : Nat → Int32 → Int32 → am_SS → Option Bool
  | 0, _, _, _ => none
  | n + 1, x1, x2, σ => (
  if x2 < x1 then (
    M_doStand_l9 (M_doStand_l2 F n) F F x1 x2 0 σ)
  else (
    M_doStand_l66 F F x1 0 σ))
def M_doStand (F : Nat) (x1 : Int32) (σ : am_SS) : Option Bool :=
  M_doStand_l2 F F x1 0 σ
/-- SlipperTruceModel.queens(I)I -/
def M_queens_p96 (rec42 : Int32 → Int32 → Int32 → Int32 → am_SS → Option (Int32 × am_SS)) (F : Nat) (x1 : Int32) (x2 : Int32) (x3 : Int32) (x4 : Int32) (σ : am_SS) : Option (Int32 × am_SS) :=
  am_let (x4 + 1) (fun x4_1 =>
  rec42 x1 x2 x3 x4_1 σ)
def M_queens_l55 (rec42 : Int32 → Int32 → Int32 → Int32 → am_SS → Option (Int32 × am_SS)) (F : Nat) : Nat → Int32 → Int32 → Int32 → Int32 → Int32 → Int32 → am_SS → Option (Int32 × am_SS)
  | 0, _, _, _, _, _, _, _ => none
  | n + 1, x1, x2, x3, x4, x5, x6, σ => (
  if x6 < x1 then (
    if x1 = 0 then none else (
    (am_wr σ 35 7 x6 (x5 % x1)).bind (fun σ_6 =>
    if x1 = 0 then none else (
    am_let (x5 / x1) (fun x5_8 =>
    am_let (x6 + 1) (fun x6_9 =>
    (M_queens_l55 rec42 F n) x1 x2 x3 x4 x5_8 x6_9 σ_6))))))
  else (
    (M_doStand F x1 σ).bind (fun q_2 =>
    if q_2 = true then (
      am_let (x3 + 1) (fun x3_4 =>
      M_queens_p96 rec42 F x1 x2 x3_4 x4 σ))
    else (
      M_queens_p96 rec42 F x1 x2 x3 x4 σ))))
def M_queens_l42 (F : Nat) : Nat → Int32 → Int32 → Int32 → Int32 → am_SS → Option (Int32 × am_SS)
  | 0, _, _, _, _, _ => none
  | n + 1, x1, x2, x3, x4, σ => (
  if x4 < x2 then (
    M_queens_l55 (M_queens_l42 F n) F F x1 x2 x3 x4 x4 0 σ)
  else (
    some (x3, σ)))
def M_queens_l22 (F : Nat) : Nat → Int32 → Int32 → Int32 → am_SS → Option (Int32 × am_SS)
  | 0, _, _, _, _ => none
  | n + 1, x1, x2, x3, σ => (
  if x3 < x1 then (
    am_let (x2 * x1) (fun x2_2 =>
    am_let (x3 + 1) (fun x3_3 =>
    (M_queens_l22 F n) x1 x2_2 x3_3 σ)))
  else (
    M_queens_l42 F F x1 x2 0 0 σ))
def M_queens (F : Nat) (x1 : Int32) (σ : am_SS) : Option (Int32 × am_SS) :=
  am_let (am_up σ 0 0 0) (fun σ_1 =>
  if (M_isIn x1 1 7) = true then (
    M_queens_l22 F F x1 1 0 σ_1)
  else (
    some ((-1), σ_1)))
/-- SlipperTruceModel.corner(II)I -/
def M_corner (x1 : Int32) (x2 : Int32) (σ : am_SS) : Option (Int32 × am_SS) :=
  am_let (am_up σ 0 0 0) (fun σ_1 =>
  if x1 = (-100) then (
    am_let (am_up σ_1 0 59 0) (fun σ_11 =>
    some (0, σ_11)))
  else (
    if (M_isIn x1 (-50) 50) = true then (
      if (M_isIn x2 (-50) 50) = true then (
        if (σ_1 0 59) = 8 then (
          some ((-1), σ_1))
        else (
          (am_wr σ_1 36 8 (σ_1 0 59) x1).bind (fun σ_8 =>
          (am_wr σ_8 37 8 (σ_8 0 59) x2).bind (fun σ_9 =>
          am_let (am_up σ_9 0 59 ((σ_9 0 59) + 1)) (fun σ_10 =>
          some ((σ_10 0 59), σ_10))))))
      else (
        some ((-1), σ_1)))
    else (
      some ((-1), σ_1))))
/-- SlipperTruceModel.nextCorner(I)I -/
def M_nextCorner (x1 : Int32) (σ : am_SS) : Option Int32 :=
  if (σ 0 59) = 0 then none else (
  some ((x1 + 1) % (σ 0 59)))
/-- SlipperTruceModel.sideOf(III)I -/
def M_sideOf (x1 : Int32) (x2 : Int32) (x3 : Int32) (σ : am_SS) : Option Int32 :=
  (M_nextCorner x1 σ).bind (fun q_1 =>
  (am_rd σ 36 8 q_1).bind (fun t_2 =>
  (am_rd σ 36 8 x1).bind (fun t_3 =>
  (am_rd σ 37 8 x1).bind (fun t_4 =>
  (am_rd σ 37 8 q_1).bind (fun t_5 =>
  (am_rd σ 37 8 x1).bind (fun t_6 =>
  (am_rd σ 36 8 x1).bind (fun t_7 =>
  some (((t_2 - t_3) * (x3 - t_4)) - ((t_5 - t_6) * (x2 - t_7))))))))))
/-- SlipperTruceModel.isOnEdge(III)Z -/
def M_isOnEdge (x1 : Int32) (x2 : Int32) (x3 : Int32) (σ : am_SS) : Option Bool :=
  (M_nextCorner x1 σ).bind (fun q_1 =>
  (M_sideOf x1 x2 x3 σ).bind (fun q_2 =>
  if q_2 = 0 then (
    (am_rd σ 36 8 x1).bind (fun t_4 =>
    (am_rd σ 36 8 q_1).bind (fun t_5 =>
    (am_rd σ 36 8 x1).bind (fun t_7 =>
    (am_rd σ 36 8 q_1).bind (fun t_8 =>
    if (M_isIn x2 (M_lesser t_4 t_5) (M_greater t_7 t_8)) = true then (
      (am_rd σ 37 8 x1).bind (fun t_12 =>
      (am_rd σ 37 8 q_1).bind (fun t_13 =>
      (am_rd σ 37 8 x1).bind (fun t_15 =>
      (am_rd σ 37 8 q_1).bind (fun t_16 =>
      if (M_isIn x3 (M_lesser t_12 t_13) (M_greater t_15 t_16)) = true then (
        some true)
      else (
        some false))))))
    else (
      some false))))))
  else (
    some false)))
/-- SlipperTruceModel.isMet(III)Z -/
def M_isMet (x1 : Int32) (x2 : Int32) (x3 : Int32) (σ : am_SS) : Option Bool :=
  (M_nextCorner x1 σ).bind (fun q_1 =>
  (am_rd σ 37 8 x1).bind (fun t_2 =>
  (am_rd σ 37 8 q_1).bind (fun t_3 =>
  (am_rd σ 37 8 x1).bind (fun t_5 =>
  (am_rd σ 37 8 q_1).bind (fun t_6 =>
  if (M_isIn x3 (M_lesser t_2 t_3) ((M_greater t_5 t_6) - 1)) = true then (
    (am_rd σ 37 8 q_1).bind (fun t_10 =>
    (am_rd σ 37 8 x1).bind (fun t_11 =>
    if t_11 < t_10 then (
      (M_sideOf x1 x2 x3 σ).bind (fun q_15 =>
      if 0 < q_15 then (
        some true)
      else (
        some false)))
    else (
      (M_sideOf x1 x2 x3 σ).bind (fun q_13 =>
      if q_13 < 0 then (
        some true)
      else (
        some false))))))
  else (
    some false))))))
/-- SlipperTruceModel.within(II)I -/
def M_within_p73 (rec36 : Int32 → Int32 → Int32 → Int32 → am_SS → Option (Int32 × am_SS)) (F : Nat) (x1 : Int32) (x2 : Int32) (x3 : Int32) (x4 : Int32) (σ : am_SS) : Option (Int32 × am_SS) :=
  am_let (x4 + 1) (fun x4_1 =>
  rec36 x1 x2 x3 x4_1 σ)
def M_within_l36 (F : Nat) : Nat → Int32 → Int32 → Int32 → Int32 → am_SS → Option (Int32 × am_SS)
  | 0, _, _, _, _, _ => none
  | n + 1, x1, x2, x3, x4, σ => (
  if x4 < (σ 0 59) then (
    (M_isOnEdge x4 x1 x2 σ).bind (fun q_2 =>
    if q_2 = true then (
      some (2, σ))
    else (
      (M_isMet x4 x1 x2 σ).bind (fun q_4 =>
      if q_4 = true then (
        am_let (x3 + 1) (fun x3_6 =>
        M_within_p73 (M_within_l36 F n) F x1 x2 x3_6 x4 σ))
      else (
        M_within_p73 (M_within_l36 F n) F x1 x2 x3 x4 σ)))))
  else (
    some ((x3 % 2), σ)))
def M_within (F : Nat) (x1 : Int32) (x2 : Int32) (σ : am_SS) : Option (Int32 × am_SS) :=
  am_let (am_up σ 0 0 0) (fun σ_1 =>
  if (M_isIn x1 (-50) 50) = true then (
    if (M_isIn x2 (-50) 50) = true then (
      M_within_l36 F F x1 x2 0 0 σ_1)
    else (
      some ((-1), σ_1)))
  else (
    some ((-1), σ_1)))
/-- SlipperTruceModel.area()I -/
def M_area_l9 (F : Nat) : Nat → Int32 → Int32 → am_SS → Option (Int32 × am_SS)
  | 0, _, _, _ => none
  | n + 1, x1, x2, σ => (
  if x2 < (σ 0 59) then (
    if 2 < (σ 0 59) then (
      (am_rd σ 36 8 x2).bind (fun t_3 =>
      (M_nextCorner x2 σ).bind (fun q_4 =>
      (am_rd σ 37 8 q_4).bind (fun t_5 =>
      (M_nextCorner x2 σ).bind (fun q_6 =>
      (am_rd σ 36 8 q_6).bind (fun t_7 =>
      (am_rd σ 37 8 x2).bind (fun t_8 =>
      am_let ((x1 + (t_3 * t_5)) - (t_7 * t_8)) (fun x1_9 =>
      am_let (x2 + 1) (fun x2_10 =>
      (M_area_l9 F n) x1_9 x2_10 σ)))))))))
    else (
      some (x1, σ)))
  else (
    some (x1, σ)))
def M_area (F : Nat) (σ : am_SS) : Option (Int32 × am_SS) :=
  am_let (am_up σ 0 0 0) (fun σ_1 =>
  M_area_l9 F F 0 0 σ_1)
/-- SlipperTruceModel.parts(II)I -/
def M_parts_p132 (rec103 : Int32 → Int32 → Int32 → Int32 → Int32 → am_SS → Option (Int32 × am_SS)) (F : Nat) (x1 : Int32) (x2 : Int32) (x6 : Int32) (x7 : Int32) (x8 : Int32) (σ : am_SS) : Option (Int32 × am_SS) :=
  am_let (x8 + 1) (fun x8_1 =>
  rec103 x1 x2 x6 x7 x8_1 σ)
def M_parts_l103 (F : Nat) : Nat → Int32 → Int32 → Int32 → Int32 → Int32 → am_SS → Option (Int32 × am_SS)
  | 0, _, _, _, _, _, _ => none
  | n + 1, x1, x2, x6, x7, x8, σ => (
  if x1 < x8 then (
    if x2 = 2 then (
      some (x6, σ))
    else (
      some (x7, σ)))
  else (
    if x8 = 0 then none else (
    if (x1 % x8) = 0 then (
      am_let (x6 + 1) (fun x6_5 =>
      am_let (x7 + x8) (fun x7_6 =>
      M_parts_p132 (M_parts_l103 F n) F x1 x2 x6_5 x7_6 x8 σ)))
    else (
      M_parts_p132 (M_parts_l103 F n) F x1 x2 x6 x7 x8 σ))))
def M_parts_l46 (rec40 : Int32 → Int32 → Int32 → Int32 → Int32 → Int32 → am_SS → Option (Int32 × am_SS)) (F : Nat) : Nat → Int32 → Int32 → Int32 → Int32 → Int32 → Int32 → am_SS → Option (Int32 × am_SS)
  | 0, _, _, _, _, _, _, _ => none
  | n + 1, x1, x2, x3, x4, x5, x6, σ => (
  if x6 = 0 then none else (
  if (x5 % x6) = 0 then (
    if x6 = 0 then none else (
    am_let (x5 / x6) (fun x5_5 =>
    am_let (x3 + 1) (fun x3_6 =>
    (M_parts_l46 rec40 F n) x1 x2 x3_6 x6 x5_5 x6 σ))))
  else (
    am_let (x6 + 1) (fun x6_3 =>
    rec40 x1 x2 x3 x4 x5 x6_3 σ))))
def M_parts_l40 (F : Nat) : Nat → Int32 → Int32 → Int32 → Int32 → Int32 → Int32 → am_SS → Option (Int32 × am_SS)
  | 0, _, _, _, _, _, _, _ => none
  | n + 1, x1, x2, x3, x4, x5, x6, σ => (
  if 1 < x5 then (
    M_parts_l46 (M_parts_l40 F n) F F x1 x2 x3 x4 x5 x6 σ)
  else (
    if x2 < 2 then (
      if x2 = 0 then (
        some (x3, σ))
      else (
        some (x4, σ)))
    else (
      M_parts_l103 F F x1 x2 0 0 1 σ)))
def M_parts (F : Nat) (x1 : Int32) (x2 : Int32) (σ : am_SS) : Option (Int32 × am_SS) :=
  am_let (am_up σ 0 0 0) (fun σ_1 =>
  if (M_isIn x1 2 99999) = true then (
    if (M_isIn x2 0 3) = true then (
      M_parts_l40 F F x1 x2 0 0 x1 2 σ_1)
    else (
      some ((-1), σ_1)))
  else (
    some ((-1), σ_1)))
/-- SlipperTruceModel.isWellSet(II)Z -/
def M_isWellSet_p30 (rec9 : Int32 → Int32 → Int32 → Option Bool) (F : Nat) (x1 : Int32) (x4 : Int32) (s0 : Int32) (s1 : Int32) : Option Bool :=
  am_let (s0 + s1) (fun x3_1 =>
  if x3_1 < 0 then (
    some false)
  else (
    am_let (x4 + (-1)) (fun x4_3 =>
    rec9 x1 x3_1 x4_3)))
def M_isWellSet_l9 (F : Nat) : Nat → Int32 → Int32 → Int32 → Option Bool
  | 0, _, _, _ => none
  | n + 1, x1, x3, x4 => (
  if x4 < 0 then (
    if x3 = 0 then (
      some true)
    else (
      some false))
  else (
    if (M_has x1 x4) = true then (
      M_isWellSet_p30 (M_isWellSet_l9 F n) F x1 x4 x3 1)
    else (
      M_isWellSet_p30 (M_isWellSet_l9 F n) F x1 x4 x3 (-1))))
def M_isWellSet (F : Nat) (x1 : Int32) (x2 : Int32) : Option Bool :=
  am_let ((2 * x2) - 1) (fun x4_1 =>
  M_isWellSet_l9 F F x1 0 x4_1)
/-- SlipperTruceModel.brackets(III)I -/
def M_brackets_p124 (rec72 : Int32 → Int32 → Int32 → Int32 → Int32 → am_SS → Option (Int32 × am_SS)) (F : Nat) (x1 : Int32) (x2 : Int32) (x3 : Int32) (x4 : Int32) (x5 : Int32) (σ : am_SS) : Option (Int32 × am_SS) :=
  am_let (x5 + (-1)) (fun x5_1 =>
  rec72 x1 x2 x3 x4 x5_1 σ)
def M_brackets_p118 (rec72 : Int32 → Int32 → Int32 → Int32 → Int32 → am_SS → Option (Int32 × am_SS)) (F : Nat) (x1 : Int32) (x2 : Int32) (x3 : Int32) (x4 : Int32) (x5 : Int32) (σ : am_SS) : Option (Int32 × am_SS) :=
  am_let (x4 + 1) (fun x4_1 =>
  M_brackets_p124 rec72 F x1 x2 x3 x4_1 x5 σ)
def M_brackets_p104 (rec72 : Int32 → Int32 → Int32 → Int32 → Int32 → am_SS → Option (Int32 × am_SS)) (F : Nat) (x1 : Int32) (x2 : Int32) (x3 : Int32) (x4 : Int32) (x5 : Int32) (σ : am_SS) : Option (Int32 × am_SS) :=
  if x3 = 2 then (
    if x5 = x2 then (
      some (x4, σ))
    else (
      M_brackets_p118 rec72 F x1 x2 x3 x4 x5 σ))
  else (
    M_brackets_p118 rec72 F x1 x2 x3 x4 x5 σ)
def M_brackets_l72 (F : Nat) : Nat → Int32 → Int32 → Int32 → Int32 → Int32 → am_SS → Option (Int32 × am_SS)
  | 0, _, _, _, _, _, _ => none
  | n + 1, x1, x2, x3, x4, x5, σ => (
  if x5 < 0 then (
    if x3 = 0 then (
      some (x4, σ))
    else (
      some ((-1), σ)))
  else (
    (M_isWellSet F x5 x1).bind (fun q_3 =>
    if q_3 = true then (
      if x3 = 1 then (
        if x4 = x2 then (
          some (x5, σ))
        else (
          M_brackets_p104 (M_brackets_l72 F n) F x1 x2 x3 x4 x5 σ))
      else (
        M_brackets_p104 (M_brackets_l72 F n) F x1 x2 x3 x4 x5 σ))
    else (
      M_brackets_p124 (M_brackets_l72 F n) F x1 x2 x3 x4 x5 σ))))
def M_brackets_p60 (F : Nat) (x1 : Int32) (x2 : Int32) (x3 : Int32) (σ : am_SS) : Option (Int32 × am_SS) :=
  am_let ((1 <<< ((2 * x1) &&& 31)) - 1) (fun x5_1 =>
  M_brackets_l72 F F x1 x2 x3 0 x5_1 σ)
def M_brackets (F : Nat) (x1 : Int32) (x2 : Int32) (x3 : Int32) (σ : am_SS) : Option (Int32 × am_SS) :=
  am_let (am_up σ 0 0 0) (fun σ_1 =>
  if (M_isIn x1 0 8) = true then (
    if (M_isIn x3 0 2) = true then (
      if x3 = 2 then (
        if (M_isIn x2 0 ((1 <<< ((2 * x1) &&& 31)) - 1)) = true then (
          (M_isWellSet F x2 x1).bind (fun q_9 =>
          if q_9 = true then (
            M_brackets_p60 F x1 x2 x3 σ_1)
          else (
            some ((-1), σ_1))))
        else (
          some ((-1), σ_1)))
      else (
        M_brackets_p60 F x1 x2 x3 σ_1))
    else (
      some ((-1), σ_1)))
  else (
    some ((-1), σ_1)))
/-- SlipperTruceModel.game(II)I -/
def M_game_p101 (F : Nat) (x1 : Int32) (s0 : Int32) (σ : am_SS) : Option (Int32 × am_SS) :=
  (am_rd σ 38 121 x1).bind (fun t_1 =>
  if s0 < t_1 then (
    some ((-1), σ))
  else (
    (am_rd σ 38 121 x1).bind (fun t_3 =>
    some (t_3, σ))))
def M_game_p75 (rec36 : Int32 → Int32 → Int32 → am_SS → Option (Int32 × am_SS)) (F : Nat) (x1 : Int32) (x2 : Int32) (x3 : Int32) (x4 : Int32) (σ : am_SS) : Option (Int32 × am_SS) :=
  (am_wr σ 38 121 x3 x4).bind (fun σ_1 =>
  am_let (x3 + 1) (fun x3_2 =>
  rec36 x1 x2 x3_2 σ_1))
def M_game_l44 (rec36 : Int32 → Int32 → Int32 → am_SS → Option (Int32 × am_SS)) (F : Nat) : Nat → Int32 → Int32 → Int32 → Int32 → am_SS → Option (Int32 × am_SS)
  | 0, _, _, _, _, _ => none
  | n + 1, x1, x2, x3, x4, σ => (
  if x4 < x3 then (
    (am_rd σ 38 121 (x3 - x4)).bind (fun t_2 =>
    if (2 * x4) < t_2 then (
      M_game_p75 rec36 F x1 x2 x3 x4 σ)
    else (
      am_let (x4 + 1) (fun x4_4 =>
      (M_game_l44 rec36 F n) x1 x2 x3 x4_4 σ))))
  else (
    M_game_p75 rec36 F x1 x2 x3 x4 σ))
def M_game_l36 (F : Nat) : Nat → Int32 → Int32 → Int32 → am_SS → Option (Int32 × am_SS)
  | 0, _, _, _, _ => none
  | n + 1, x1, x2, x3, σ => (
  if x1 < x3 then (
    if x2 = (-1) then (
      M_game_p101 F x1 (x1 - 1) σ)
    else (
      M_game_p101 F x1 x2 σ))
  else (
    M_game_l44 (M_game_l36 F n) F F x1 x2 x3 1 σ))
def M_game_p34 (F : Nat) (x1 : Int32) (x2 : Int32) (σ : am_SS) : Option (Int32 × am_SS) :=
  M_game_l36 F F x1 x2 1 σ
def M_game (F : Nat) (x1 : Int32) (x2 : Int32) (σ : am_SS) : Option (Int32 × am_SS) :=
  am_let (am_up σ 0 0 0) (fun σ_1 =>
  if (M_isIn x1 1 120) = true then (
    if x2 = (-1) then (
      M_game_p34 F x1 x2 σ_1)
    else (
      if (M_isIn x2 1 120) = true then (
        M_game_p34 F x1 x2 σ_1)
      else (
        some ((-1), σ_1))))
  else (
    some ((-1), σ_1)))
/-- SlipperTruceModel.keeps(I)I -/
def M_keeps (x1 : Int32) (σ : am_SS) : Option (Int32 × am_SS) :=
  am_let (am_up σ 0 65 ((σ 0 65) + 1)) (fun σ_1 =>
  if (σ_1 0 63) = 0 then (
    (am_rd σ_1 39 2200 ((σ_1 0 65) - 1)).bind (fun t_4 =>
    some (t_4, σ_1)))
  else (
    (am_wr σ_1 39 2200 ((σ_1 0 65) - 1) x1).bind (fun σ_3 =>
    some (x1, σ_3))))
/-- SlipperTruceModel.keepsLaw()V -/
def M_keepsLaw_l96 (F : Nat) : Nat → Int32 → am_SS → Option am_SS
  | 0, _, _ => none
  | n + 1, x1, σ => (
  if x1 < 400 then (
    (am_rd σ 16 1200 x1).bind (fun t_2 =>
    (M_keeps t_2 σ).bind (fun q_3 =>
    (am_wr q_3.2 16 1200 x1 q_3.1).bind (fun σ_4 =>
    (am_rd σ_4 17 1200 x1).bind (fun t_5 =>
    (M_keeps t_5 σ_4).bind (fun q_6 =>
    (am_wr q_6.2 17 1200 x1 q_6.1).bind (fun σ_7 =>
    am_let (x1 + 1) (fun x1_8 =>
    (M_keepsLaw_l96 F n) x1_8 σ_7))))))))
  else (
    some σ))
def M_keepsLaw_l18 (F : Nat) : Nat → Int32 → am_SS → Option am_SS
  | 0, _, _ => none
  | n + 1, x1, σ => (
  if x1 < 16 then (
    (am_rd σ 12 48 x1).bind (fun t_2 =>
    (M_keeps t_2 σ).bind (fun q_3 =>
    (am_wr q_3.2 12 48 x1 q_3.1).bind (fun σ_4 =>
    (am_rd σ_4 13 48 x1).bind (fun t_5 =>
    (M_keeps t_5 σ_4).bind (fun q_6 =>
    (am_wr q_6.2 13 48 x1 q_6.1).bind (fun σ_7 =>
    (am_rd σ_7 14 48 x1).bind (fun t_8 =>
    (M_keeps t_8 σ_7).bind (fun q_9 =>
    (am_wr q_9.2 14 48 x1 q_9.1).bind (fun σ_10 =>
    (am_rd σ_10 15 48 x1).bind (fun t_11 =>
    (M_keeps t_11 σ_10).bind (fun q_12 =>
    (am_wr q_12.2 15 48 x1 q_12.1).bind (fun σ_13 =>
    am_let (x1 + 1) (fun x1_14 =>
    (M_keepsLaw_l18 F n) x1_14 σ_13))))))))))))))
  else (
    M_keepsLaw_l96 F F 0 σ))
def M_keepsLaw (F : Nat) (σ : am_SS) : Option am_SS :=
  (am_rd σ 11 2 0).bind (fun t_1 =>
  (M_keeps t_1 σ).bind (fun q_2 =>
  (am_wr q_2.2 11 2 0 q_2.1).bind (fun σ_3 =>
  M_keepsLaw_l18 F F 0 σ_3)))
/-- SlipperTruceModel.keepsTold()V -/
def M_keepsTold_l436 (F : Nat) : Nat → Int32 → am_SS → Option am_SS
  | 0, _, _ => none
  | n + 1, x1, σ => (
  if x1 < 7 then (
    (am_rd σ 34 7 x1).bind (fun t_2 =>
    (M_keeps t_2 σ).bind (fun q_3 =>
    (am_wr q_3.2 34 7 x1 q_3.1).bind (fun σ_4 =>
    am_let (x1 + 1) (fun x1_5 =>
    (M_keepsTold_l436 F n) x1_5 σ_4)))))
  else (
    some σ))
def M_keepsTold_l406 (F : Nat) : Nat → Int32 → am_SS → Option am_SS
  | 0, _, _ => none
  | n + 1, x1, σ => (
  if x1 < 16 then (
    (am_rd σ 32 16 x1).bind (fun t_2 =>
    (M_keeps t_2 σ).bind (fun q_3 =>
    (am_wr q_3.2 32 16 x1 q_3.1).bind (fun σ_4 =>
    am_let (x1 + 1) (fun x1_5 =>
    (M_keepsTold_l406 F n) x1_5 σ_4)))))
  else (
    M_keepsTold_l436 F F 0 σ))
def M_keepsTold_l376 (F : Nat) : Nat → Int32 → am_SS → Option am_SS
  | 0, _, _ => none
  | n + 1, x1, σ => (
  if x1 < 24 then (
    (am_rd σ 31 24 x1).bind (fun t_2 =>
    (M_keeps t_2 σ).bind (fun q_3 =>
    (am_wr q_3.2 31 24 x1 q_3.1).bind (fun σ_4 =>
    am_let (x1 + 1) (fun x1_5 =>
    (M_keepsTold_l376 F n) x1_5 σ_4)))))
  else (
    M_keepsTold_l406 F F 0 σ))
def M_keepsTold_l282 (F : Nat) : Nat → Int32 → am_SS → Option am_SS
  | 0, _, _ => none
  | n + 1, x1, σ => (
  if x1 < 8 then (
    (am_rd σ 24 8 x1).bind (fun t_2 =>
    (M_keeps t_2 σ).bind (fun q_3 =>
    (am_wr q_3.2 24 8 x1 q_3.1).bind (fun σ_4 =>
    (am_rd σ_4 25 8 x1).bind (fun t_5 =>
    (M_keeps t_5 σ_4).bind (fun q_6 =>
    (am_wr q_6.2 25 8 x1 q_6.1).bind (fun σ_7 =>
    (am_rd σ_7 26 8 x1).bind (fun t_8 =>
    (M_keeps t_8 σ_7).bind (fun q_9 =>
    (am_wr q_9.2 26 8 x1 q_9.1).bind (fun σ_10 =>
    (am_rd σ_10 36 8 x1).bind (fun t_11 =>
    (M_keeps t_11 σ_10).bind (fun q_12 =>
    (am_wr q_12.2 36 8 x1 q_12.1).bind (fun σ_13 =>
    (am_rd σ_13 37 8 x1).bind (fun t_14 =>
    (M_keeps t_14 σ_13).bind (fun q_15 =>
    (am_wr q_15.2 37 8 x1 q_15.1).bind (fun σ_16 =>
    am_let (x1 + 1) (fun x1_17 =>
    (M_keepsTold_l282 F n) x1_17 σ_16)))))))))))))))))
  else (
    M_keepsTold_l376 F F 0 σ))
def M_keepsTold_l252 (F : Nat) : Nat → Int32 → am_SS → Option am_SS
  | 0, _, _ => none
  | n + 1, x1, σ => (
  if x1 < 64 then (
    (am_rd σ 19 128 x1).bind (fun t_2 =>
    (M_keeps t_2 σ).bind (fun q_3 =>
    (am_wr q_3.2 19 128 x1 q_3.1).bind (fun σ_4 =>
    am_let (x1 + 1) (fun x1_5 =>
    (M_keepsTold_l252 F n) x1_5 σ_4)))))
  else (
    M_keepsTold_l282 F F 0 σ))
def M_keepsTold_l142 (F : Nat) : Nat → Int32 → am_SS → Option am_SS
  | 0, _, _ => none
  | n + 1, x1, σ => (
  if x1 < 12 then (
    (am_rd σ 4 12 x1).bind (fun t_2 =>
    (M_keeps t_2 σ).bind (fun q_3 =>
    (am_wr q_3.2 4 12 x1 q_3.1).bind (fun σ_4 =>
    (am_rd σ_4 5 12 x1).bind (fun t_5 =>
    (M_keeps t_5 σ_4).bind (fun q_6 =>
    (am_wr q_6.2 5 12 x1 q_6.1).bind (fun σ_7 =>
    (am_rd σ_7 6 12 x1).bind (fun t_8 =>
    (M_keeps t_8 σ_7).bind (fun q_9 =>
    (am_wr q_9.2 6 12 x1 q_9.1).bind (fun σ_10 =>
    (am_rd σ_10 7 12 x1).bind (fun t_11 =>
    (M_keeps t_11 σ_10).bind (fun q_12 =>
    (am_wr q_12.2 7 12 x1 q_12.1).bind (fun σ_13 =>
    (am_rd σ_13 20 24 x1).bind (fun t_14 =>
    (M_keeps t_14 σ_13).bind (fun q_15 =>
    (am_wr q_15.2 20 24 x1 q_15.1).bind (fun σ_16 =>
    (am_rd σ_16 21 24 x1).bind (fun t_17 =>
    (M_keeps t_17 σ_16).bind (fun q_18 =>
    (am_wr q_18.2 21 24 x1 q_18.1).bind (fun σ_19 =>
    am_let (x1 + 1) (fun x1_20 =>
    (M_keepsTold_l142 F n) x1_20 σ_19))))))))))))))))))))
  else (
    M_keepsTold_l252 F F 0 σ))
def M_keepsTold (F : Nat) (σ : am_SS) : Option am_SS :=
  (M_keeps (σ 0 6) σ).bind (fun q_1 =>
  am_let (am_up q_1.2 0 6 q_1.1) (fun σ_2 =>
  (M_keeps (σ_2 0 7) σ_2).bind (fun q_3 =>
  am_let (am_up q_3.2 0 7 q_3.1) (fun σ_4 =>
  (M_keeps (σ_4 0 36) σ_4).bind (fun q_5 =>
  am_let (am_up q_5.2 0 36 q_5.1) (fun σ_6 =>
  (M_keeps (σ_6 0 38) σ_6).bind (fun q_7 =>
  am_let (am_up q_7.2 0 38 q_7.1) (fun σ_8 =>
  (M_keeps (σ_8 0 40) σ_8).bind (fun q_9 =>
  am_let (am_up q_9.2 0 40 q_9.1) (fun σ_10 =>
  (M_keeps (σ_10 0 44) σ_10).bind (fun q_11 =>
  am_let (am_up q_11.2 0 44 q_11.1) (fun σ_12 =>
  (am_rd σ_12 30 2 0).bind (fun t_13 =>
  (M_keeps t_13 σ_12).bind (fun q_14 =>
  (am_wr q_14.2 30 2 0 q_14.1).bind (fun σ_15 =>
  (am_rd σ_15 30 2 1).bind (fun t_16 =>
  (M_keeps t_16 σ_15).bind (fun q_17 =>
  (am_wr q_17.2 30 2 1 q_17.1).bind (fun σ_18 =>
  (M_keeps (σ_18 0 53) σ_18).bind (fun q_19 =>
  am_let (am_up q_19.2 0 53 q_19.1) (fun σ_20 =>
  (M_keeps (σ_20 0 56) σ_20).bind (fun q_21 =>
  am_let (am_up q_21.2 0 56 q_21.1) (fun σ_22 =>
  (M_keeps (σ_22 0 59) σ_22).bind (fun q_23 =>
  am_let (am_up q_23.2 0 59 q_23.1) (fun σ_24 =>
  M_keepsTold_l142 F F 0 σ_24))))))))))))))))))))))))
/-- SlipperTruceModel.image(Z)Z -/
def M_image_l69 (F : Nat) : Nat → Bool → Int32 → am_SS → Option (Bool × am_SS)
  | 0, _, _, _ => none
  | n + 1, x1, x2, σ => (
  if x2 < 600 then (
    (am_rd σ 8 600 x2).bind (fun t_5 =>
    (M_keeps t_5 σ).bind (fun q_6 =>
    (am_wr q_6.2 8 600 x2 q_6.1).bind (fun σ_7 =>
    am_let (x2 + 1) (fun x2_8 =>
    (M_image_l69 F n) x1 x2_8 σ_7)))))
  else (
    (M_keepsLaw F  σ).bind (fun q_2 =>
    if x1 = true then (
      some (true, q_2))
    else (
      am_let (am_up q_2 0 3 0) (fun σ_4 =>
      some (true, σ_4))))))
def M_image_l35 (F : Nat) : Nat → Bool → Int32 → am_SS → Option (Bool × am_SS)
  | 0, _, _, _ => none
  | n + 1, x1, x2, σ => (
  if x2 < 77 then (
    (am_rd σ 1 77 x2).bind (fun t_3 =>
    (M_keeps t_3 σ).bind (fun q_4 =>
    (am_wr q_4.2 1 77 x2 q_4.1).bind (fun σ_5 =>
    am_let (x2 + 1) (fun x2_6 =>
    (M_image_l35 F n) x1 x2_6 σ_5)))))
  else (
    (M_keepsTold F  σ).bind (fun q_2 =>
    M_image_l69 F F x1 0 q_2)))
def M_image_p18 (F : Nat) (x1 : Bool) (σ : am_SS) : Option (Bool × am_SS) :=
  am_let (am_up σ 0 63 (am_bI x1)) (fun σ_1 =>
  am_let (am_up σ_1 0 64 1) (fun σ_2 =>
  am_let (am_up σ_2 0 65 0) (fun σ_3 =>
  M_image_l35 F F x1 0 σ_3)))
def M_image (F : Nat) (x1 : Bool) (σ : am_SS) : Option (Bool × am_SS) :=
  am_let (am_up σ 0 0 0) (fun σ_1 =>
  if x1 = true then (
    M_image_p18 F x1 σ_1)
  else (
    if (σ_1 0 64) = 0 then (
      some (false, σ_1))
    else (
      M_image_p18 F x1 σ_1)))
/-- SlipperTruceModel.readSet()I -/
def M_readSet_p31 (rec4 : Int32 → Int32 → am_SS → Option Int32) (F : Nat) (x1 : Int32) (x2 : Int32) (σ : am_SS) : Option Int32 :=
  am_let (x2 + 1) (fun x2_1 =>
  rec4 x1 x2_1 σ)
def M_readSet_l4 (F : Nat) : Nat → Int32 → Int32 → am_SS → Option Int32
  | 0, _, _, _ => none
  | n + 1, x1, x2, σ => (
  if x2 < (σ 0 6) then (
    (am_rd σ 1 77 (29 + x2)).bind (fun t_2 =>
    if t_2 = 1 then (
      am_let (x1 ||| (1 <<< (x2 &&& 31))) (fun x1_4 =>
      M_readSet_p31 (M_readSet_l4 F n) F x1_4 x2 σ))
    else (
      M_readSet_p31 (M_readSet_l4 F n) F x1 x2 σ)))
  else (
    some x1))
def M_readSet (F : Nat) (σ : am_SS) : Option Int32 :=
  M_readSet_l4 F F 0 0 σ
/-- SlipperTruceModel.look(I)I -/
def M_look (F : Nat) (x1 : Int32) (σ : am_SS) : Option (Int32 × am_SS) :=
  am_let (am_up σ 0 0 0) (fun σ_1 =>
  if x1 = 0 then (
    some ((σ_1 0 6), σ_1))
  else (
    if x1 = 1 then (
      some ((σ_1 0 7), σ_1))
    else (
      if x1 = 2 then (
        (am_rd σ_1 1 77 3).bind (fun t_21 =>
        some (t_21, σ_1)))
      else (
        if x1 = 3 then (
          (am_rd σ_1 1 77 4).bind (fun t_20 =>
          some ((t_20 - 1), σ_1)))
        else (
          if x1 = 4 then (
            (M_readSet F  σ_1).bind (fun q_19 =>
            some (q_19, σ_1)))
          else (
            if x1 = 5 then (
              (am_rd σ_1 1 77 0).bind (fun t_18 =>
              some (t_18, σ_1)))
            else (
              if x1 = 6 then (
                (am_rd σ_1 1 77 2).bind (fun t_17 =>
                some (t_17, σ_1)))
              else (
                if x1 = 7 then (
                  (am_rd σ_1 1 77 1).bind (fun t_16 =>
                  some (t_16, σ_1)))
                else (
                  if x1 = 8 then (
                    (am_rd σ_1 11 2 0).bind (fun t_15 =>
                    some (t_15, σ_1)))
                  else (
                    if x1 = 9 then (
                      some ((σ_1 0 36), σ_1))
                    else (
                      if x1 = 10 then (
                        some ((σ_1 0 38), σ_1))
                      else (
                        if x1 = 11 then (
                          some ((σ_1 0 40), σ_1))
                        else (
                          if x1 = 12 then (
                            some ((σ_1 0 3), σ_1))
                          else (
                            some ((-100000), σ_1)))))))))))))))
