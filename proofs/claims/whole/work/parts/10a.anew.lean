def C_Nights_stands_l (row : Nat → Int32) (x1 x2 : Int32) : Nat → Int32 → Option Bool
  | 0, _ => none
  | n + 1, x3 => (
    if x3 < x1 then (
      if x3 < 16 then (
        (am_rd (fun _ => row) 0 16 x3).bind (fun t =>
        if t = x2 then some true else (
          am_let (x3 + 1) (fun x => C_Nights_stands_l row x1 x2 n x))))
      else some false)
    else some false)
def C_Nights_stands (F : Nat) (row : Nat → Int32) (x1 x2 : Int32) : Option Bool := C_Nights_stands_l row x1 x2 F 0
def C_Nights_pieces_l (F : Nat) (a0 : Nat) : Nat → (Nat → Int32) → Int32 → Int32 → Int32 → am_SS → Option Int32
  | 0, _, _, _, _, _ => none
  | n + 1, row, x2, x3, x4, σ => (
    if x4 < (σ a0 2) then (
      (C_Table_at a0 x4 0 σ).bind (fun q =>
      am_let ((x3 * 2) + q) (fun x3a =>
      (C_Nights_stands F row x2 x3a).bind (fun q2 =>
      if q2 = true then (
        am_let (x4 + 1) (fun x4a => C_Nights_pieces_l F a0 n row x2 x3a x4a σ))
      else (
        if x2 < 16 then (
          if x2 < 0 ∨ 16 ≤ x2.toNatClampNeg then none else (
          am_let (x2 + 1) (fun x2a =>
          am_let (x4 + 1) (fun x4a =>
          C_Nights_pieces_l F a0 n (upd row x2.toNatClampNeg x3a) x2a 1 x4a σ))))
        else (
          am_let (x4 + 1) (fun x4a => C_Nights_pieces_l F a0 n row x2 x3a x4a σ)))))))
    else (
      if x3 = 1 then some x2 else some (x2 + 1)))
def C_Nights_pieces (F : Nat) (a0 : Nat) (σ : am_SS) : Option Int32 := C_Nights_pieces_l F a0 F (fun _ => 0) 0 1 0 σ
def C_anew (F : Nat) (x1 : Int32) (σ : am_SS) : Option Int32 :=
  if x1 = 0 then C_Nights_pieces F 33 σ
  else if x1 = 1 then C_Nights_longestAlike F 33 σ
  else if x1 = 2 then (C_Nights_longestAlike F 33 σ).bind (fun q => C_Nights_firstAlike F 33 q σ)
  else some (-1)
