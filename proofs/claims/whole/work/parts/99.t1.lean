theorem t1a (x y : Int32) (h0 : 0 ≤ x) (h1 : x < 12) (h2 : -99 ≤ y) (h3 : y ≤ 99) : (if y + x < -99 then -99 else if 99 < y + x then 99 else y + x) = (if y + x < 99 then y + x else 99) := by grind
theorem t1b (x : Int32) (h0 : 0 ≤ x) (h1 : x < 12) : x + 1 ≤ 12 := by grind
theorem t1c (x : Int32) (h0 : 0 ≤ x) (h1 : x < 12) : ¬ (x = -1) := by grind
theorem t1d (x : Int32) (h0 : 0 ≤ x) (h1 : x < 12) : x.toNatClampNeg < 12 := by grind
theorem t1e (x : Int32) (h0 : 0 ≤ x) (h1 : x < 12) : (5 + x).toNatClampNeg = 5 + x.toNatClampNeg := by grind
theorem t1f (x y : Int32) (h0 : 0 ≤ x) (h1 : x < 12) (h : 3 * y + x = 7) (h' : 0 ≤ y) (h'' : y < 100): y ≤ 2 := by grind
theorem t1g (x : Int32) (h0 : 0 ≤ x) (h1 : x < 12) : x.toInt < 12 := by grind
theorem t1h (x : Int32) (h0 : 0 ≤ x) (h1 : x < 12) : x % 19 = x := by grind
theorem t1i (x y : Int32) : x * y + x = x * (y + 1) := by grind
theorem t1j (j : Nat) (h : j < 12) : Int32.ofNat j < 12 := by grind
theorem t1k (j : Nat) (h : j < 12) : Int32.ofNat j + 1 = Int32.ofNat (j+1) := by grind
