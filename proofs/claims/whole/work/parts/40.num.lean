/-! L3: numbers: an Int32 within range is a natural number -/
theorem ni_int {a : Nat} (h : a < 2147483648) : (Int32.ofNat a).toInt = (a : Int) := Int32.toInt_ofNat_of_lt h
theorem ni_tn {a : Nat} (h : a < 2147483648) : (Int32.ofNat a).toNatClampNeg = a := Int32.toNatClampNeg_ofNat_of_lt h
theorem ni_lt {a b : Nat} (h : a < 2147483648) (h' : b < 2147483648) : (Int32.ofNat a < Int32.ofNat b) ↔ a < b := Int32.ofNat_lt_iff_lt h h'
theorem ni_le {a b : Nat} (h : a < 2147483648) (h' : b < 2147483648) : (Int32.ofNat a ≤ Int32.ofNat b) ↔ a ≤ b := Int32.ofNat_le_iff_le h h'
theorem ni_eq {a b : Nat} (h : a < 2147483648) (h' : b < 2147483648) : (Int32.ofNat a = Int32.ofNat b) ↔ a = b := by
  constructor
  · intro e
    have := congrArg Int32.toNatClampNeg e
    rwa [ni_tn h, ni_tn h'] at this
  · intro e; rw [e]
theorem ni_nn {a : Nat} (h : a < 2147483648) : ¬ (Int32.ofNat a < 0) := by
  have := (ni_lt h (b := 0) (by decide)); exact fun c => absurd (this.mp c) (Nat.not_lt_zero a)
theorem ni_of {x : Int32} (h : ¬ x < 0) : ∃ j : Nat, j < 2147483648 ∧ x = Int32.ofNat j := by
  refine ⟨x.toNatClampNeg, x.toNatClampNeg_lt, (Int32.ofNat_toNatClampNeg x ?_).symm⟩
  exact Int32.not_lt.mp h
theorem ni_ofl {x : Int32} {n : Nat} (h : ¬ x < 0) (hn : n < 2147483648) (h' : x < Int32.ofNat n) : ∃ j : Nat, j < n ∧ x = Int32.ofNat j := by
  obtain ⟨j, hj, rfl⟩ := ni_of h
  exact ⟨j, (ni_lt hj hn).mp h', rfl⟩
theorem ni_rd {σ : am_SS} {a n j : Nat} (h : j < n) (hn : n ≤ 2147483648) : am_rd σ a n (Int32.ofNat j) = some (σ a j) := by
  have hj : j < 2147483648 := Nat.lt_of_lt_of_le h hn
  rw [am_rd, if_neg, ni_tn hj]
  rw [ni_tn hj]
  exact fun c => c.elim (ni_nn hj) (fun c => absurd c (by omega))
theorem ni_wr {σ : am_SS} {a n j : Nat} {v : Int32} (h : j < n) (hn : n ≤ 2147483648) : am_wr σ a n (Int32.ofNat j) v = some (am_up σ a j v) := by
  have hj : j < 2147483648 := Nat.lt_of_lt_of_le h hn
  rw [am_wr, if_neg, ni_tn hj]
  rw [ni_tn hj]
  exact fun c => c.elim (ni_nn hj) (fun c => absurd c (by omega))
