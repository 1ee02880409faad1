/-! L3: boots, moves -/
theorem bt_1 : ∀ s, s < 20 → (1 : Int32) <<< (Int32.ofNat s &&& 31) = Int32.ofNat (2 ^ s) := by decide +kernel
theorem bt_b : ∀ s, s < 10 → ∀ k, k < 1024 → (((Int32.ofNat k >>> (Int32.ofNat s &&& 31)) &&& 1 = 0) ↔ k % 2 ^ (s + 1) < 2 ^ s) := by decide +kernel
theorem bt_pow {s : Nat} (h : s < 20) : 2 ^ s < 1048576 := Nat.pow_lt_pow_right (by omega) (show s < 20 from h)
section
variable {F : Nat} {τ : am_SS}
theorem bt_loop {i k : Nat} (hi : i < 10) (hk : k < 1024) : ∀ (d j n n' : Nat) (x3 x4 : Int32), j = i + d → j < 10 → d < n → d < n' →
    ∃ r, C_Sums_peg_l10 F n (Int32.ofNat i) (Int32.ofNat k) x3 x4 (Int32.ofNat j) = some r ∧ M_boots_l58 F n' (Int32.ofNat i) x3 x4 (Int32.ofNat (k % 2 ^ (j + 1))) (Int32.ofNat j) τ = some (r, τ) := by
  intro d
  induction d with
  | zero =>
    intro j n n' x3 x4 hj hj10 hn hn'
    obtain ⟨n, rfl⟩ : ∃ m, n = m + 1 := ⟨n - 1, by omega⟩
    obtain ⟨n', rfl⟩ : ∃ m, n' = m + 1 := ⟨n' - 1, by omega⟩
    have e : j = i := by omega
    subst e
    have hp := bt_pow (s := j + 1) (by omega)
    have hp' := bt_pow (s := j) (by omega)
    have hm := Nat.mod_lt k (show 2 ^ (j + 1) > 0 from Nat.pow_pos (by omega))
    rw [C_Sums_peg_l10, M_boots_l58, if_neg (Int32.lt_irrefl), if_neg (Int32.lt_irrefl), bt_1 j (by omega)]
    by_cases q : k % 2 ^ (j + 1) < 2 ^ j
    · rw [if_pos ((bt_b j hj10 k hk).mpr q), if_pos ((ni_lt (by omega) (by omega)).mpr q)]
      exact ⟨x3, rfl, rfl⟩
    · rw [if_neg (fun g => q ((bt_b j hj10 k hk).mp g)), if_neg (fun g => q ((ni_lt (by omega) (by omega)).mp g))]
      exact ⟨x4, rfl, rfl⟩
  | succ d ih =>
    intro j n n' x3 x4 hj hj10 hn hn'
    obtain ⟨n, rfl⟩ : ∃ m, n = m + 1 := ⟨n - 1, by omega⟩
    obtain ⟨n', rfl⟩ : ∃ m, n' = m + 1 := ⟨n' - 1, by omega⟩
    obtain ⟨j, rfl⟩ : ∃ m, j = m + 1 := ⟨j - 1, by omega⟩
    have hp := bt_pow (s := j + 1 + 1) (by omega)
    have hp' := bt_pow (s := j + 1) (by omega)
    have hp0 : 0 < 2 ^ (j + 1) := Nat.pow_pos (by omega)
    have e2 : 2 ^ (j + 1 + 1) = 2 ^ (j + 1) * 2 := Nat.pow_succ ..
    have hm := Nat.mod_lt k (show 2 ^ (j + 1 + 1) > 0 from Nat.pow_pos (by omega))
    have hmm : k % 2 ^ (j + 1 + 1) % 2 ^ (j + 1) = k % 2 ^ (j + 1) := Nat.mod_mod_of_dvd k ⟨2, e2⟩
    have m1 : Int32.ofNat (j + 1) + -1 = Int32.ofNat j := by rw [show Int32.ofNat (j + 1) + -1 = Int32.ofNat (j + 1) - 1 from by grind, ni_pred (by omega)]; rfl
    rw [C_Sums_peg_l10, M_boots_l58, if_pos ((ni_lt (by omega) (by omega)).mpr (by omega)), if_pos ((ni_lt (by omega) (by omega)).mpr (by omega)), am_let, am_let, bt_1 (j + 1) (by omega)]
    by_cases q : k % 2 ^ (j + 1 + 1) < 2 ^ (j + 1)
    · rw [if_pos ((bt_b (j + 1) hj10 k hk).mpr q), if_pos ((ni_lt (by omega) (by omega)).mpr q), C_Sums_peg_p43, M_boots_p102, am_let, am_let, m1]
      rw [Nat.mod_eq_of_lt q] at hmm
      rw [hmm]
      exact ih j n n' _ _ (by omega) (by omega) (by omega) (by omega)
    · rw [if_neg (fun g => q ((bt_b (j + 1) hj10 k hk).mp g)), if_neg (fun g => q ((ni_lt (by omega) (by omega)).mp g)), am_let, C_Sums_peg_p43, M_boots_p102, am_let, am_let, m1, ni_sub (by omega)]
      have e3 : k % 2 ^ (j + 1 + 1) - 2 ^ (j + 1) = k % 2 ^ (j + 1) := by
        generalize k % 2 ^ (j + 1 + 1) = r at q hm hmm ⊢
        rw [← hmm, Nat.mod_eq_sub_mod (by omega), Nat.mod_eq_of_lt (by omega)]
      rw [e3]
      exact ih j n n' _ _ (by omega) (by omega) (by omega) (by omega)
end
theorem ca_17 (F : Nat) (hF : 2000 ≤ F) : aj_S17 F rl_R := by
  intro x y z σ τ h
  have h := rl_told h 0
  simp only [C_boots, M_boots, am_let]
  generalize am_up τ 0 0 0 = τ at h ⊢
  by_cases v : rl_rg x 1 10
  case neg =>
    rw [if_neg (fun g => v (ni_in.mp g))]
    by_cases q : x < 1
    · rw [if_pos q]; exact ⟨_, _, rfl, rfl, rfl, h⟩
    · rw [if_neg q, if_pos (Decidable.byContradiction (fun g => v ⟨Int32.not_lt.mp q, Int32.not_lt.mp g⟩))]
      exact ⟨_, _, rfl, rfl, rfl, h⟩
  rw [if_neg (Int32.not_lt.mpr v.1), if_neg (Int32.not_lt.mpr v.2), if_pos (ni_in.mpr v)]
  obtain ⟨N, hN, rfl⟩ := ni_of (x := x) (by have := v.1; grind)
  have hN1 : 1 ≤ N := (ni_le (a := 1) (by omega) hN).mp v.1
  have hN2 : N ≤ 10 := (ni_le (b := 10) hN (by omega)).mp v.2
  by_cases w : ¬ y < 0 ∧ y < Int32.ofNat N
  case neg =>
    rw [if_neg (fun g => w ((isin_pred (Int32.not_lt.mp (ni_nn (by omega)))).mp g))]
    by_cases q : y < 0
    · rw [if_pos q]; exact ⟨_, _, rfl, rfl, rfl, h⟩
    · rw [if_neg q, if_neg (fun g => w ⟨q, g⟩)]; exact ⟨_, _, rfl, rfl, rfl, h⟩
  rw [if_neg w.1, if_pos w.2, if_pos ((isin_pred (Int32.not_lt.mp (ni_nn (by omega)))).mpr w), bt_1 N (by omega)]
  have hp := bt_pow (s := N) (by omega)
  by_cases u : ¬ z < 0 ∧ z < Int32.ofNat (2 ^ N)
  case neg =>
    rw [if_neg (fun g => u ((isin_pred (Int32.not_lt.mp (ni_nn (by omega)))).mp g))]
    by_cases q : z < 0
    · rw [if_pos q]; exact ⟨_, _, rfl, rfl, rfl, h⟩
    · rw [if_neg q, if_neg (fun g => u ⟨q, g⟩)]; exact ⟨_, _, rfl, rfl, rfl, h⟩
  rw [if_neg u.1, if_pos u.2, if_pos ((isin_pred (Int32.not_lt.mp (ni_nn (by omega)))).mpr u)]
  obtain ⟨i, hi, rfl⟩ := (ni_iff (by omega)).mp w
  obtain ⟨k, hk, rfl⟩ := (ni_iff (by omega)).mp u
  have hk2 : k < 1024 := Nat.lt_of_lt_of_le hk (Nat.pow_le_pow_right (by omega) (show N ≤ 10 from hN2))
  obtain ⟨r, r1, r2⟩ := bt_loop (F := F) (τ := τ) (i := i) (by omega) hk2 (N - 1 - i) (N - 1) F F 0 2 (by omega) (by omega) (by omega) (by omega)
  rw [show N - 1 + 1 = N from by omega, Nat.mod_eq_of_lt hk] at r2
  rw [ni_pred (by omega), C_Sums_peg, am_let, ni_pred (by omega), r1, r2]
  exact ⟨_, _, rfl, rfl, rfl, h⟩
/-! moves -/
theorem p10 {k : Nat} (h : k ≤ 11) : 10 ^ k ≤ 100000000000 ∧ 0 < 10 ^ k := ⟨Nat.pow_le_pow_right (by omega) h, Nat.pow_pos (by omega)⟩
theorem lg_lt {x y : Int64} : lg_cmp x y < 0 ↔ x < y := by
  unfold lg_cmp
  by_cases q : x > y
  · rw [if_pos q]
    constructor
    · intro g; exact absurd g (by decide)
    · intro g; exact absurd (Int64.lt_trans q g) Int64.lt_irrefl
  · rw [if_neg q]
    by_cases q' : x = y
    · rw [if_pos q']
      constructor
      · intro g; exact absurd g (by decide)
      · intro g; rw [q'] at g; exact absurd g Int64.lt_irrefl
    · rw [if_neg q']
      constructor
      · intro _
        rcases Int64.lt_or_lt_of_ne q' with g | g
        · exact g
        · exact absurd g q
      · intro _; decide
theorem l_lt {a b : Nat} (ha : a < 9223372036854775808) (hb : b < 9223372036854775808) : Int64.ofNat a < Int64.ofNat b ↔ a < b := Int64.ofNat_lt_iff_lt ha hb
section
variable {F : Nat} {τ : am_SS} {a : Nat}
theorem mv_digit {k j : Nat} (hj : j < k) (h1 : 10 ^ k ≤ a) : (a - 10 ^ k) / 10 ^ j % 10 = a / 10 ^ j % 10 := by
  obtain ⟨d, rfl⟩ : ∃ d, k = j + 1 + d := ⟨k - j - 1, by omega⟩
  have e : 10 ^ (j + 1 + d) = 10 ^ j * (10 * 10 ^ d) := by rw [Nat.pow_add, Nat.pow_succ, Nat.mul_assoc]
  rw [e] at h1 ⊢
  obtain ⟨r, rfl⟩ : ∃ r, a = r + 10 ^ j * (10 * 10 ^ d) := ⟨a - 10 ^ j * (10 * 10 ^ d), by omega⟩
  rw [Nat.add_sub_cancel, Nat.add_mul_div_left _ _ (Nat.pow_pos (by omega)), Nat.add_mul_mod_self_left]
/-- the class's moves of a row whose digits are all at most 2, against the reference's -/
theorem mv_loop {k : Nat} (hk : k ≤ 9) (ha : a < 2147483648) (h1 : 10 ^ k ≤ a) (g : Nat → Int32) (hg : ∀ i, i < k → g i = Int32.ofNat (a / 10 ^ i % 10) ∧ a / 10 ^ i % 10 ≤ 2) :
    ∀ (d j n n' : Nat) (acc goal : Int32), j + d = k → d < n → d < n' →
    ∃ r, C_Sums_movesFrom_l12 F n acc goal (Int32.ofNat ((a - 10 ^ k) / 10 ^ j)) (Int32.ofNat d - 1) = some r ∧ M_moves_l73 F n' (Int32.ofNat k) goal acc (Int32.ofNat j) (am_row τ 27 g) = some (r, am_row τ 27 g) := by
  intro d
  induction d with
  | zero =>
    intro j n n' acc goal hj hn hn'
    obtain ⟨n, rfl⟩ : ∃ m, n = m + 1 := ⟨n - 1, by omega⟩
    obtain ⟨n', rfl⟩ : ∃ m, n' = m + 1 := ⟨n' - 1, by omega⟩
    rw [C_Sums_movesFrom_l12, if_pos (by decide), M_moves_l73, if_neg (fun q => absurd ((ni_lt (by omega) (by omega)).mp q) (by omega))]
    exact ⟨acc, rfl, rfl⟩
  | succ d ih =>
    intro j n n' acc goal hj hn hn'
    obtain ⟨n, rfl⟩ : ∃ m, n = m + 1 := ⟨n - 1, by omega⟩
    obtain ⟨n', rfl⟩ : ∃ m, n' = m + 1 := ⟨n' - 1, by omega⟩
    obtain ⟨g1, g2⟩ := hg j (by omega)
    have hle : (a - 10 ^ k) / 10 ^ j ≤ a := Nat.le_trans (Nat.div_le_self _ _) (Nat.sub_le _ _)
    have ed : Int32.ofNat ((a - 10 ^ k) / 10 ^ j) % 10 = Int32.ofNat (a / 10 ^ j % 10) := by
      rw [show Int32.ofNat ((a - 10 ^ k) / 10 ^ j) % 10 = Int32.ofNat ((a - 10 ^ k) / 10 ^ j % 10) from ni_mod (b := 10) (by omega) (by omega), mv_digit (by omega) h1]
    have er : Int32.ofNat ((a - 10 ^ k) / 10 ^ j) / 10 = Int32.ofNat ((a - 10 ^ k) / 10 ^ (j + 1)) := by
      rw [show Int32.ofNat ((a - 10 ^ k) / 10 ^ j) / 10 = Int32.ofNat ((a - 10 ^ k) / 10 ^ j / 10) from ni_div (b := 10) (by omega) (by omega), Nat.div_div_eq_div_mul, ← Nat.pow_succ]
    have m1 : Int32.ofNat d + -1 = Int32.ofNat d - 1 := by grind
    have sh : Int32.ofNat k - 1 - Int32.ofNat j = Int32.ofNat d := by rw [ni_pred (by omega), ni_sub (by omega), show k - 1 - j = d from by omega]
    rw [ni_pred (by omega), show d + 1 - 1 = d from rfl, C_Sums_movesFrom_l12, if_neg (ni_nn (by omega)), am_let, am_let, ed, er, if_neg (fun q : (2 : Int32) < _ => absurd ((ni_lt (a := 2) (by omega) (by omega)).mp q) (by omega)),
      M_moves_l73, if_pos ((ni_lt (by omega) (by omega)).mpr (by omega)), ni_rd (by omega) (by omega), Option.bind_some, am_row_eq, g1]
    by_cases q : Int32.ofNat (a / 10 ^ j % 10) = goal
    · rw [if_pos q, if_pos q, C_Sums_movesFrom_p59, M_moves_p121, am_let, am_let, ni_succ, m1]
      exact ih (j + 1) n n' _ _ (by omega) (by omega) (by omega)
    · rw [if_neg q, if_neg q, am_let, am_let, am_let, Option.bind_some, am_let, C_Sums_movesFrom_p59, M_moves_p121, am_let, am_let, ni_succ, m1, sh]
      exact ih (j + 1) n n' _ _ (by omega) (by omega) (by omega)
theorem mv_bad {k : Nat} (hk : k ≤ 9) (ha : a < 2147483648) (h1 : 10 ^ k ≤ a) {i : Nat} (hi : i < k) (hb : 2 < a / 10 ^ i % 10) :
    ∀ (d j n : Nat) (acc goal : Int32), j + d = k → d < n → j ≤ i →
    C_Sums_movesFrom_l12 F n acc goal (Int32.ofNat ((a - 10 ^ k) / 10 ^ j)) (Int32.ofNat d - 1) = some (-1) := by
  intro d
  induction d with
  | zero => intro j n acc goal hj hn hji; omega
  | succ d ih =>
    intro j n acc goal hj hn hji
    obtain ⟨n, rfl⟩ : ∃ m, n = m + 1 := ⟨n - 1, by omega⟩
    have hle : (a - 10 ^ k) / 10 ^ j ≤ a := Nat.le_trans (Nat.div_le_self _ _) (Nat.sub_le _ _)
    have ed : Int32.ofNat ((a - 10 ^ k) / 10 ^ j) % 10 = Int32.ofNat (a / 10 ^ j % 10) := by
      rw [show Int32.ofNat ((a - 10 ^ k) / 10 ^ j) % 10 = Int32.ofNat ((a - 10 ^ k) / 10 ^ j % 10) from ni_mod (b := 10) (by omega) (by omega), mv_digit (by omega) h1]
    have er : Int32.ofNat ((a - 10 ^ k) / 10 ^ j) / 10 = Int32.ofNat ((a - 10 ^ k) / 10 ^ (j + 1)) := by
      rw [show Int32.ofNat ((a - 10 ^ k) / 10 ^ j) / 10 = Int32.ofNat ((a - 10 ^ k) / 10 ^ j / 10) from ni_div (b := 10) (by omega) (by omega), Nat.div_div_eq_div_mul, ← Nat.pow_succ]
    have m1 : Int32.ofNat d + -1 = Int32.ofNat d - 1 := by grind
    rw [ni_pred (by omega), show d + 1 - 1 = d from rfl, C_Sums_movesFrom_l12, if_neg (ni_nn (by omega)), am_let, am_let, ed, er]
    by_cases q2 : 2 < a / 10 ^ j % 10
    · rw [if_pos (show (2 : Int32) < _ from (ni_lt (a := 2) (by omega) (by omega)).mpr q2)]
    · have hne : j ≠ i := fun e => q2 (by rw [e]; exact hb)
      rw [if_neg (fun q : (2 : Int32) < _ => q2 ((ni_lt (a := 2) (by omega) (by omega)).mp q))]
      by_cases q : Int32.ofNat (a / 10 ^ j % 10) = goal
      · rw [if_pos q, C_Sums_movesFrom_p59, am_let, m1]
        exact ih (j + 1) n _ _ (by omega) (by omega) (by omega)
      · rw [if_neg q, am_let, am_let, C_Sums_movesFrom_p59, am_let, m1]
        exact ih (j + 1) n _ _ (by omega) (by omega) (by omega)
theorem mv_C (ha : a < 2147483648) : ∀ (d k n : Nat), k + d = 11 → 1 ≤ k → d < n →
    (∃ e, k ≤ e ∧ e ≤ 9 ∧ 10 ^ e ≤ a ∧ a < 2 * 10 ^ e ∧ C_Sums_movesLeft_l6 F n (Int32.ofNat a) (Int64.ofNat (10 ^ k)) (Int32.ofNat k) = (C_Sums_movesFrom F (Int32.ofNat (a - 10 ^ e)) (Int32.ofNat e)).bind (fun q => some q)) ∨
    ((∀ e, k ≤ e → ¬ (10 ^ e ≤ a ∧ a < 2 * 10 ^ e)) ∧ C_Sums_movesLeft_l6 F n (Int32.ofNat a) (Int64.ofNat (10 ^ k)) (Int32.ofNat k) = some (-1)) := by
  intro d
  induction d with
  | zero =>
    intro k n hk hk1 hn
    obtain ⟨n, rfl⟩ : ∃ m, n = m + 1 := ⟨n - 1, by omega⟩
    right
    refine ⟨fun e he => ?_, by rw [C_Sums_movesLeft_l6, show k = 11 from by omega, if_pos (by decide)]⟩
    have : 10 ^ 11 ≤ 10 ^ e := Nat.pow_le_pow_right (by omega) (by omega)
    omega
  | succ d ih =>
    intro k n hk hk1 hn
    obtain ⟨n, rfl⟩ : ∃ m, n = m + 1 := ⟨n - 1, by omega⟩
    obtain ⟨p1, p2⟩ := p10 (k := k) (by omega)
    have t64 : (Int32.ofNat a).toInt64 = Int64.ofNat a := Int32.toInt64_ofNat (by omega)
    have x10 : Int64.ofNat (10 ^ k) * 10 = Int64.ofNat (10 ^ (k + 1)) := by rw [Nat.pow_succ, Int64.ofNat_mul]; rfl
    have x2 : 2 * Int64.ofNat (10 ^ k) = Int64.ofNat (2 * 10 ^ k) := by rw [Int64.ofNat_mul]; rfl
    have nx := ih (k + 1) n (by omega) (by omega) (by omega)
    rw [C_Sums_movesLeft_l6, if_neg (fun q : (10 : Int32) < _ => absurd ((ni_lt (a := 10) (by omega) (by omega)).mp q) (by omega)), t64, x2]
    have next : (¬ (10 ^ k ≤ a ∧ a < 2 * 10 ^ k)) →
        (∃ e, k ≤ e ∧ e ≤ 9 ∧ 10 ^ e ≤ a ∧ a < 2 * 10 ^ e ∧ C_Sums_movesLeft_p40 (C_Sums_movesLeft_l6 F n) F (Int32.ofNat a) (Int64.ofNat (10 ^ k)) (Int32.ofNat k) = (C_Sums_movesFrom F (Int32.ofNat (a - 10 ^ e)) (Int32.ofNat e)).bind (fun q => some q)) ∨
        ((∀ e, k ≤ e → ¬ (10 ^ e ≤ a ∧ a < 2 * 10 ^ e)) ∧ C_Sums_movesLeft_p40 (C_Sums_movesLeft_l6 F n) F (Int32.ofNat a) (Int64.ofNat (10 ^ k)) (Int32.ofNat k) = some (-1)) := by
      intro hno
      rw [C_Sums_movesLeft_p40, am_let, am_let, ni_succ, x10]
      rcases nx with ⟨e, e1, e2⟩ | ⟨e1, e2⟩
      · exact .inl ⟨e, by omega, e2⟩
      · refine .inr ⟨fun e he => ?_, e2⟩
        by_cases q : e = k
        · rw [q]; exact hno
        · exact e1 e (by omega)
    by_cases q1 : a < 10 ^ k
    · rw [if_pos (lg_lt.mpr ((l_lt (by omega) (by omega)).mpr q1))]
      exact next (by omega)
    · rw [if_neg (fun g => q1 ((l_lt (by omega) (by omega)).mp (lg_lt.mp g)))]
      by_cases q2 : a < 2 * 10 ^ k
      · rw [if_pos (lg_lt.mpr ((l_lt (by omega) (by omega)).mpr q2))]
        have k9 : k ≤ 9 := by
          by_cases q : k ≤ 9
          · exact q
          · have : 10 ^ 10 ≤ 10 ^ k := Nat.pow_le_pow_right (by omega) (by omega)
            omega
        refine .inl ⟨k, Nat.le_refl k, k9, by omega, q2, ?_⟩
        rw [show Int64.ofNat a - Int64.ofNat (10 ^ k) = Int64.ofNat (a - 10 ^ k) from (Int64.ofNat_sub a (10 ^ k) (by omega)).symm, Int64.toInt32_ofNat']
      · rw [if_neg (fun g => q2 ((l_lt (by omega) (by omega)).mp (lg_lt.mp g)))]
        exact next (by omega)
theorem mv_M (hF : 2000 ≤ F) (ha : a < 2147483648) : ∀ (d c n : Nat) (g : Nat → Int32), c + d = 10 → d < n → (c = 0 ∨ 10 ^ c ≤ a) → (∀ i, i < c → g i = Int32.ofNat (a / 10 ^ i % 10) ∧ a / 10 ^ i % 10 ≤ 2) →
    (∃ e g', e ≤ 9 ∧ (e = 0 ∨ 10 ^ e ≤ a) ∧ a < 10 ^ (e + 1) ∧ (∀ i, i < e → g' i = Int32.ofNat (a / 10 ^ i % 10) ∧ a / 10 ^ i % 10 ≤ 2) ∧
      M_moves_l9 F n (Int32.ofNat c) (Int32.ofNat (a / 10 ^ c)) (am_row τ 27 g) = (if a / 10 ^ e = 1 ∧ e ≠ 0 then M_moves_l73 F F (Int32.ofNat e) 2 0 0 (am_row τ 27 g') else some (-1, am_row τ 27 g'))) ∨
    (∃ i g', 10 ^ (i + 1) ≤ a ∧ 2 < a / 10 ^ i % 10 ∧ M_moves_l9 F n (Int32.ofNat c) (Int32.ofNat (a / 10 ^ c)) (am_row τ 27 g) = some (-1, am_row τ 27 g')) := by
  intro d
  induction d with
  | zero =>
    intro c n g hc hn hca hg
    rw [show c = 10 from by omega] at hca
    have : (10 : Nat) ^ 10 = 10000000000 := by decide
    omega
  | succ d ih =>
    intro c n g hc hn hca hg
    obtain ⟨n, rfl⟩ : ∃ m, n = m + 1 := ⟨n - 1, by omega⟩
    have hle : a / 10 ^ c ≤ a := Nat.div_le_self _ _
    obtain ⟨p1, p2⟩ := p10 (k := c) (by omega)
    have e10 : 10 ^ (c + 1) = 10 ^ c * 10 := Nat.pow_succ ..
    rw [M_moves_l9]
    by_cases q9 : 9 < a / 10 ^ c
    · have hge : 10 ^ (c + 1) ≤ a := by
        have := (Nat.le_div_iff_mul_le p2).mp (show 10 ≤ a / 10 ^ c by omega)
        omega
      have ed : Int32.ofNat (a / 10 ^ c) % 10 = Int32.ofNat (a / 10 ^ c % 10) := ni_mod (b := 10) (by omega) (by omega)
      have er : Int32.ofNat (a / 10 ^ c) / 10 = Int32.ofNat (a / 10 ^ (c + 1)) := by
        rw [show Int32.ofNat (a / 10 ^ c) / 10 = Int32.ofNat (a / 10 ^ c / 10) from ni_div (b := 10) (by omega) (by omega), Nat.div_div_eq_div_mul, ← Nat.pow_succ]
      rw [if_pos (show (9 : Int32) < _ from (ni_lt (a := 9) (by omega) (by omega)).mpr q9), ed]
      by_cases q2 : 2 < a / 10 ^ c % 10
      · rw [if_pos (show (2 : Int32) < _ from (ni_lt (a := 2) (by omega) (by omega)).mpr q2)]
        exact .inr ⟨c, g, hge, q2, rfl⟩
      · rw [if_neg (fun q : (2 : Int32) < _ => q2 ((ni_lt (a := 2) (by omega) (by omega)).mp q)), if_neg (fun q : _ = (10 : Int32) => absurd ((ni_eq (b := 10) (by omega) (by omega)).mp q) (by omega)), ni_wr (by omega) (by omega), Option.bind_some, am_row_up, am_let, am_let, ni_succ, er]
        refine ih (c + 1) n _ (by omega) (by omega) (.inr hge) (fun i hi => ?_)
        by_cases q : i = c
        · subst q; rw [upd_eq]; exact ⟨rfl, by omega⟩
        · rw [upd_ne q]; exact hg i (by omega)
    · rw [if_neg (fun q : (9 : Int32) < _ => q9 ((ni_lt (a := 9) (by omega) (by omega)).mp q))]
      have hlt : a < 10 ^ (c + 1) := by
        have := (Nat.div_lt_iff_lt_mul p2).mp (show a / 10 ^ c < 10 by omega)
        rw [e10, Nat.mul_comm]; exact this
      refine .inl ⟨c, g, by omega, hca, hlt, hg, ?_⟩
      by_cases q1 : a / 10 ^ c = 1
      · rw [if_pos (show Int32.ofNat (a / 10 ^ c) = 1 from by rw [q1]; rfl)]
        by_cases c0 : c = 0
        · rw [if_pos (show Int32.ofNat c = 0 from by rw [c0]; rfl), if_neg (fun g => g.2 c0)]
        · rw [if_neg (fun q : _ = (0 : Int32) => c0 ((ni_eq (b := 0) (by omega) (by omega)).mp q)), if_pos ⟨q1, c0⟩]
      · rw [if_neg (fun q : _ = (1 : Int32) => q1 ((ni_eq (b := 1) (by omega) (by omega)).mp q)), if_neg (fun g => q1 g.1)]
end
theorem rl_junk27 {σ τ : am_SS} {g : Nat → Int32} (h : rl_R σ τ) : rl_R σ (am_row τ 27 g) := by simpa [rl_R, rl_N, am_row_ne] using h
theorem ca_18 (F : Nat) (hF : 2000 ≤ F) : aj_S18 F rl_R := by
  intro x σ τ h
  have h := rl_told h 0
  simp only [C_moves, M_moves, am_let]
  generalize am_up τ 0 0 0 = τ at h ⊢
  by_cases x0 : x < 0
  · have eM : M_moves_l9 F F 0 x τ = some (-1, τ) := by
      obtain ⟨n, rfl⟩ : ∃ n, F = n + 1 := ⟨F - 1, by omega⟩
      rw [M_moves_l9, if_neg (by grind), if_neg (by grind)]
    have eC : ∀ (d k n : Nat), k + d = 11 → 1 ≤ k → d < n → C_Sums_movesLeft_l6 F n x (Int64.ofNat (10 ^ k)) (Int32.ofNat k) = some (-1) := by
      intro d
      induction d with
      | zero =>
        intro k n hk _ hn
        obtain ⟨n, rfl⟩ : ∃ m, n = m + 1 := ⟨n - 1, by omega⟩
        rw [C_Sums_movesLeft_l6, show k = 11 from by omega, if_pos (by decide)]
      | succ d ih =>
        intro k n hk hk1 hn
        obtain ⟨n, rfl⟩ : ∃ m, n = m + 1 := ⟨n - 1, by omega⟩
        obtain ⟨p1, p2⟩ := p10 (k := k) (by omega)
        have lt : x.toInt64 < Int64.ofNat (10 ^ k) := by
          rw [Int64.lt_iff_toInt_lt, Int32.toInt_toInt64, Int64.toInt_ofNat_of_lt (by omega)]
          have := Int32.lt_iff_toInt_lt.mp x0
          rw [show (0 : Int32).toInt = 0 from rfl] at this
          omega
        rw [C_Sums_movesLeft_l6, if_neg (fun q : (10 : Int32) < _ => absurd ((ni_lt (a := 10) (by omega) (by omega)).mp q) (by omega)), if_pos (lg_lt.mpr lt), C_Sums_movesLeft_p40, am_let, am_let, ni_succ, show Int64.ofNat (10 ^ k) * 10 = Int64.ofNat (10 ^ (k + 1)) from by rw [Nat.pow_succ, Int64.ofNat_mul]; rfl]
        exact ih (k + 1) n (by omega) (by omega) (by omega)
    have := eC 10 1 F (by omega) (by omega) (by omega)
    rw [C_Sums_movesLeft, show (10 : Int64) = Int64.ofNat (10 ^ 1) from rfl, show (1 : Int32) = Int32.ofNat 1 from rfl, this, eM]
    exact ⟨_, _, rfl, rfl, rfl, h⟩
  · obtain ⟨a, ha, rfl⟩ := ni_of x0
    have hM := mv_M (F := F) (τ := τ) hF ha 10 0 F (τ 27) (by omega) (by omega) (.inl rfl) (fun i hi => absurd hi (by omega))
    rw [am_row_id, Nat.pow_zero, Nat.div_one, show Int32.ofNat 0 = 0 from rfl] at hM
    have hC := mv_C (F := F) ha 10 1 F (by omega) (by omega) (by omega)
    rw [show Int64.ofNat (10 ^ 1) = 10 from rfl, show Int32.ofNat 1 = 1 from rfl] at hC
    rw [C_Sums_movesLeft]
    rcases hM with ⟨e, g', e9, e0, elt, eg, eM⟩ | ⟨i, g', i1, i2, eM⟩
    · rw [eM]
      rcases hC with ⟨k, k1, k9, ka, kb, eC⟩ | ⟨hno, eC⟩
      · have hek : e = k := by
          rcases Nat.lt_trichotomy e k with q | q | q
          · have := Nat.pow_le_pow_right (show 0 < 10 by omega) (show e + 1 ≤ k from q); exact absurd (Nat.lt_of_lt_of_le elt (Nat.le_trans this ka)) (Nat.lt_irrefl a)
          · exact q
          · have h2 : 10 ^ (k + 1) ≤ 10 ^ e := Nat.pow_le_pow_right (by omega) q
            rw [Nat.pow_succ] at h2
            have := e0.resolve_left (by omega)
            omega
        subst hek
        have hd : a / 10 ^ e = 1 := by
          have p2 := (p10 (k := e) (by omega)).2
          exact Nat.div_eq_of_lt_le (by omega) (by omega)
        rw [if_pos ⟨hd, by omega⟩]
        obtain ⟨r, r1, r2⟩ := mv_loop (F := F) (τ := τ) e9 ha ka g' eg e 0 F F 0 2 (by omega) (by omega) (by omega)
        rw [Nat.pow_zero, Nat.div_one] at r1
        rw [show Int32.ofNat 0 = 0 from rfl] at r2
        rw [eC, C_Sums_movesFrom, am_let, r1, r2]
        exact ⟨_, _, rfl, rfl, rfl, rl_junk27 h⟩
      · rw [eC]
        have : ¬ (a / 10 ^ e = 1 ∧ e ≠ 0) := by
          rintro ⟨q1, q2⟩
          have p2 := (p10 (k := e) (by omega)).2
          have hlt := (Nat.div_lt_iff_lt_mul p2).mp (show a / 10 ^ e < 2 by omega)
          exact hno e (by omega) ⟨e0.resolve_left q2, hlt⟩
        rw [if_neg this]
        exact ⟨_, _, rfl, rfl, rfl, rl_junk27 h⟩
    · rw [eM]
      rcases hC with ⟨k, k1, k9, ka, kb, eC⟩ | ⟨hno, eC⟩
      · have hik : i < k := by
          rcases Nat.lt_or_ge i k with q | q
          · exact q
          · have h2 : 10 ^ (k + 1) ≤ 10 ^ (i + 1) := Nat.pow_le_pow_right (by omega) (by omega)
            rw [Nat.pow_succ] at h2
            omega
        have r1 := mv_bad (F := F) k9 ha ka hik i2 k 0 F 0 2 (by omega) (by omega) (by omega)
        rw [Nat.pow_zero, Nat.div_one] at r1
        rw [eC, C_Sums_movesFrom, am_let, r1]
        exact ⟨_, _, rfl, rfl, rfl, rl_junk27 h⟩
      · rw [eC]
        exact ⟨_, _, rfl, rfl, rfl, rl_junk27 h⟩
