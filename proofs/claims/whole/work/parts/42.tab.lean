/-! L3: the class's tables -/
theorem ni_add (a b : Nat) : Int32.ofNat a + Int32.ofNat b = Int32.ofNat (a + b) := (Int32.ofNat_add a b).symm
theorem ni_mul (a b : Nat) : Int32.ofNat a * Int32.ofNat b = Int32.ofNat (a * b) := (Int32.ofNat_mul a b).symm
theorem ni_succ (a : Nat) : Int32.ofNat a + 1 = Int32.ofNat (a + 1) := ni_add a 1
theorem ni_sub {a b : Nat} (h : b ≤ a) : Int32.ofNat a - Int32.ofNat b = Int32.ofNat (a - b) := (Int32.ofNat_sub a b h).symm
theorem ni_pred {a : Nat} (h : 0 < a) : Int32.ofNat a - 1 = Int32.ofNat (a - 1) := ni_sub h
theorem tb_at {a : Nat} {σ : am_SS} {j k w r : Nat} (L : Nat) (hr : σ a 2 = Int32.ofNat r) (hw : σ a 0 = Int32.ofNat w) (hL : LC.2.1 (a + 1) = L) (hj : j < r) (hk : k < w) (hs : r * w ≤ L) (hr9 : r ≤ 1000) (hw9 : w ≤ 1000) (hL9 : L ≤ 1000) :
    C_Table_at a (Int32.ofNat j) (Int32.ofNat k) σ = some (σ (a + 1) (j * w + k)) := by
  have hb : j * w + k < L := by
    have h1 : (j + 1) * w ≤ r * w := Nat.mul_le_mul_right w hj
    rw [Nat.add_mul] at h1
    omega
  rw [C_Table_at, if_neg (ni_nn (by omega)), hr, if_pos ((ni_lt (by omega) (by omega)).mpr hj), if_neg (ni_nn (by omega)), hw, if_pos ((ni_lt (by omega) (by omega)).mpr hk)]
  rw [am_let, ni_mul, ni_add, hL, if_pos ((ni_lt (by omega) (by omega)).mpr hb), ni_rd hb (by omega)]
  rfl
theorem tb_at_no {a : Nat} {σ : am_SS} {x y : Int32} (h : x < 0 ∨ ¬ x < σ a 2) : C_Table_at a x y σ = some (-1) := by
  rw [C_Table_at]
  rcases h with h | h
  · rw [if_pos h]
  · by_cases q : x < 0
    · rw [if_pos q]
    · rw [if_neg q, if_neg h]
theorem tb_at_no2 {a : Nat} {σ : am_SS} {x y : Int32} (h : y < 0 ∨ ¬ y < σ a 0) : C_Table_at a x y σ = some (-1) := by
  rw [C_Table_at]
  by_cases q1 : x < 0
  · rw [if_pos q1]
  rw [if_neg q1]
  by_cases q2 : x < σ a 2
  · rw [if_pos q2]
    rcases h with h | h
    · rw [if_pos h]
    · by_cases q : y < 0
      · rw [if_pos q]
      · rw [if_neg q, if_neg h]
  · rw [if_neg q2]
def tb_pick (x1 x2 x3 x4 : Int32) (i : Nat) : Int32 := if i = 0 then x1 else if i = 1 then x2 else if i = 2 then x3 else x4
def tb_wr (x1 x2 x3 x4 : Int32) (b s : Nat) : Nat → Nat → am_SS → am_SS
  | 0, _, σ => σ
  | d + 1, i, σ => tb_wr x1 x2 x3 x4 b s d (i + 1) (am_up σ b (s + i) (tb_pick x1 x2 x3 x4 i))
theorem tb_loop {F a w c : Nat} (L : Nat) {x1 x2 x3 x4 : Int32} (hL : LC.2.1 (a + 1) = L) (hw9 : w ≤ 1000) (hc9 : c ≤ 1000) (hL9 : L ≤ 1000) (hs : (c + 1) * w ≤ L) :
    ∀ (d i n : Nat) (σ : am_SS), i + d = w → d < n → σ a 0 = Int32.ofNat w → σ a 2 = Int32.ofNat c →
    C_Table_add_l31 F n a x1 x2 x3 x4 (Int32.ofNat (c * w)) (Int32.ofNat i) σ = some (Int32.ofNat (c + 1), am_up (tb_wr x1 x2 x3 x4 (a + 1) (c * w) d i σ) a 2 (Int32.ofNat (c + 1))) := by
  intro d
  induction d with
  | zero =>
    intro i n σ hi hn h0 h2
    obtain ⟨n, rfl⟩ : ∃ n', n = n' + 1 := ⟨n - 1, by omega⟩
    rw [C_Table_add_l31, h0, if_neg (fun q => absurd ((ni_lt (by omega) (by omega)).mp q) (by omega)), C_Table_add_p100, am_let, h2, ni_succ]
    simp [am_up_ap, tb_wr]
  | succ d ih =>
    intro i n σ hi hn h0 h2
    obtain ⟨n, rfl⟩ : ∃ n', n = n' + 1 := ⟨n - 1, by omega⟩
    rw [Nat.add_mul] at hs
    have hb : c * w + i < L := by omega
    have go : ∀ v : Int32, C_Table_add_p93 (C_Table_add_l31 F n) F a x1 x2 x3 x4 (Int32.ofNat (c * w)) (Int32.ofNat i) (a + 1) (Int32.ofNat (c * w) + Int32.ofNat i) v σ
        = C_Table_add_l31 F n a x1 x2 x3 x4 (Int32.ofNat (c * w)) (Int32.ofNat (i + 1)) (am_up σ (a + 1) (c * w + i) v) := by
      intro v
      rw [C_Table_add_p93, ni_add, hL, ni_wr hb (by omega), Option.bind_some, am_let, ni_succ]
    have key : C_Table_add_l31 F (n + 1) a x1 x2 x3 x4 (Int32.ofNat (c * w)) (Int32.ofNat i) σ = C_Table_add_l31 F n a x1 x2 x3 x4 (Int32.ofNat (c * w)) (Int32.ofNat (i + 1)) (am_up σ (a + 1) (c * w + i) (tb_pick x1 x2 x3 x4 i)) := by
      rw [C_Table_add_l31, h0, if_pos ((ni_lt (by omega) (by omega)).mpr (by omega)), hL, ni_add, if_pos ((ni_lt (by omega) (by omega)).mpr hb), ← ni_add]
      have e0 : (Int32.ofNat i = 0) ↔ i = 0 := ni_eq (b := 0) (by omega) (by omega)
      have e1 : (Int32.ofNat i = 1) ↔ i = 1 := ni_eq (b := 1) (by omega) (by omega)
      have e2 : (Int32.ofNat i = 2) ↔ i = 2 := ni_eq (b := 2) (by omega) (by omega)
      simp only [go, e0, e1, e2, tb_pick]
      by_cases q0 : i = 0
      · simp [q0]
      by_cases q1 : i = 1
      · simp [q1]
      by_cases q2 : i = 2
      · simp [q2]
      simp [q0, q1, q2]
    rw [key, ih (i + 1) n _ (by omega) (by omega) (by rw [am_up_ne (by omega)]; exact h0) (by rw [am_up_ne (by omega)]; exact h2)]
    rfl
theorem tb_add {F a w c : Nat} (L : Nat) {x1 x2 x3 x4 : Int32} {σ : am_SS} (hF : 2000 ≤ F) (h2 : σ a 2 = Int32.ofNat c) (h0 : σ a 0 = Int32.ofNat w) (hL : LC.2.1 (a + 1) = L) (hs : (c + 1) * w ≤ L) (hw9 : w ≤ 1000) (hc9 : c ≤ 1000) (hL9 : L ≤ 1000) :
    C_Table_add F a x1 x2 x3 x4 σ = some (Int32.ofNat (c + 1), am_up (tb_wr x1 x2 x3 x4 (a + 1) (c * w) w 0 σ) a 2 (Int32.ofNat (c + 1))) := by
  rw [C_Table_add, am_let, h2, h0, ni_mul, ni_add, hL, if_neg (fun q => absurd ((ni_lt (by omega) (by rw [Nat.add_mul] at hs; omega)).mp q) (by rw [Nat.add_mul] at hs; omega))]
  exact tb_loop L hL hw9 hc9 hL9 hs w 0 F σ (by omega) (by omega) h0 h2
theorem tb_full {F a w c : Nat} (L : Nat) {x1 x2 x3 x4 : Int32} {σ : am_SS} (h2 : σ a 2 = Int32.ofNat c) (h0 : σ a 0 = Int32.ofNat w) (hL : LC.2.1 (a + 1) = L) (hs : L < (c + 1) * w) (hs9 : (c + 1) * w ≤ 2000) (hL9 : L ≤ 1000) :
    C_Table_add F a x1 x2 x3 x4 σ = some (-1, σ) := by
  rw [Nat.add_mul] at hs hs9
  rw [C_Table_add, am_let, h2, h0, ni_mul, ni_add, hL, if_pos ((ni_lt (by omega) (by omega)).mpr (by omega))]
theorem am_rd_lit {σ : am_SS} {a n : Nat} {x : Int32} (k : Nat) (hx : x = Int32.ofNat k) (h : k < n) (hn : n ≤ 2147483648) : am_rd σ a n x = some (σ a k) := by
  rw [hx]; exact ni_rd h hn
theorem am_wr_lit {σ : am_SS} {a n : Nat} {x v : Int32} (k : Nat) (hx : x = Int32.ofNat k) (h : k < n) (hn : n ≤ 2147483648) : am_wr σ a n x v = some (am_up σ a k v) := by
  rw [hx]; exact ni_wr h hn
/-- an index that is told -/
theorem ni_in {x : Int32} {lo hi : Int32} : M_isIn x lo hi = true ↔ lo ≤ x ∧ x ≤ hi := by
  unfold M_isIn
  by_cases h : x < lo
  · simp only [h, if_true]; grind
  · by_cases h' : hi < x
    · simp only [h, h', if_true, if_false]; grind
    · simp only [h, h', if_false]; grind
