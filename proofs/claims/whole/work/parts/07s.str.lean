/-- the text's own cell: a String constant -/
def am_isS (G : am_T) (qs : Nat) : Prop := match G with
  | (p, l, e, R, s, m, args, below, meth, c, Λ, D, cI, cF, b0, b, X, cells, slots, Q) => ∃ adK adV : Nat → Nat, qs = adK 0 ∧ am_sf b0 adK adV s
def am_ch (i : Int32) : Option Int32 := if i < 0 ∨ 132 ≤ i.toNatClampNeg then none else some (am_bytes.getD i.toNatClampNeg 0)
theorem am_ldcS {G : am_T} {cc : ByteArray} {nL : Nat} {Λ0 : am_L} {d0 : Nat} (C0 : am_C G cc nL RX4 Λ0 d0) {pc : Nat} {lv : List (Nat × Value)} {st : List Value} {σ : am_SS} (hdg : decode cc pc = .ok (.ldc 70, 2)) (kk : ∀ qs : Nat, am_isS G qs → am_K G nL (pc + 2) lv (.ref qs :: st) σ) : am_K G nL (pc) lv (st) σ := by
  obtain ⟨p, l, e, R, s, m, args, below, meth, c, Λ, D, cI, cF, b0, b, X, cells, slots, Q⟩ := G
  obtain ⟨⟨hx, hb, hml, hown, hts⟩, hK, hlk, hb0, hnt, hsx, rfl, hR1, hR2, hR3, hR4⟩ := C0
  intro H locs ls hP hD hS hl
  obtain ⟨adK, adV, h1, h2⟩ := hsx
  exact va_ldcS hx hb hown h1 hdg (kk (adK 0) ⟨adK, adV, rfl, h2⟩ H locs ls hP hD hS hl)
