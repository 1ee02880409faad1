/-! L3: happy -/
def sqs : Nat → Nat → Nat
  | 0, _ => 0
  | d + 1, m => m % 10 * (m % 10) + sqs d (m / 10)
theorem sqs_0 : ∀ d, sqs d 0 = 0 := by
  intro d
  induction d with
  | zero => rfl
  | succ d ih => rw [sqs, Nat.zero_mod, Nat.zero_div, ih]
theorem sqs_le : ∀ d m, sqs d m ≤ 81 * d := by
  intro d
  induction d with
  | zero => intro m; simp [sqs]
  | succ d ih =>
    intro m
    have h := ih (m / 10)
    have h9 : m % 10 ≤ 9 := by omega
    have := Nat.mul_le_mul h9 h9
    rw [sqs]; omega
theorem sqs_pos : ∀ d m, 1 ≤ m → m < 10 ^ d → 1 ≤ sqs d m := by
  intro d
  induction d with
  | zero => intro m h1 h2; rw [Nat.pow_zero] at h2; omega
  | succ d ih =>
    intro m h1 h2
    rw [sqs]
    by_cases q : m % 10 = 0
    · have := ih (m / 10) (by omega) (by rw [Nat.pow_succ] at h2; exact (Nat.div_lt_iff_lt_mul (by omega)).mpr h2)
      omega
    · have : 1 * 1 ≤ m % 10 * (m % 10) := Nat.mul_le_mul (by omega) (by omega)
      omega
def rch : Nat → Nat → Bool
  | 0, m => m == 1 || m == 4
  | t + 1, m => m == 1 || m == 4 || rch t (sqs 5 m)
theorem rch_fact : ∀ m, m < 406 → 1 ≤ m → rch 20 m = true := by decide +kernel
theorem rch_all {m : Nat} (h1 : 1 ≤ m) (h2 : m < 100000) : rch 21 m = true := by
  have a := sqs_pos 5 m h1 h2
  have b := sqs_le 5 m
  rw [rch, rch_fact (sqs 5 m) (by omega) a, Bool.or_true]
section
variable {F : Nat} {τ : am_SS}
theorem hp_C : ∀ (d m k : Nat) (acc : Int32), m < 10 ^ d → m < 100000 → d < k → C_Sums_digitSquares_l4 F k acc (Int32.ofNat m) = some (acc + Int32.ofNat (sqs d m)) := by
  intro d
  induction d with
  | zero =>
    intro m k acc h h' hk
    obtain ⟨k, rfl⟩ : ∃ k', k = k' + 1 := ⟨k - 1, by omega⟩
    rw [Nat.pow_zero] at h
    rw [show m = 0 from by omega, C_Sums_digitSquares_l4, if_neg (by decide), sqs]; simp
  | succ d ih =>
    intro m k acc h h' hk
    obtain ⟨k, rfl⟩ : ∃ k', k = k' + 1 := ⟨k - 1, by omega⟩
    by_cases q : m = 0
    · rw [q, C_Sums_digitSquares_l4, if_neg (by decide), sqs_0]; simp
    · rw [C_Sums_digitSquares_l4, if_pos (show (0 : Int32) < _ from (ni_lt (a := 0) (by omega) (by omega)).mpr (by omega)), am_let, am_let, show Int32.ofNat m % 10 = Int32.ofNat (m % 10) from ni_mod (b := 10) (by omega) (by omega), show Int32.ofNat m / 10 = Int32.ofNat (m / 10) from ni_div (b := 10) (by omega) (by omega),
        ih (m / 10) k _ (by rw [Nat.pow_succ] at h; exact (Nat.div_lt_iff_lt_mul (by omega)).mpr h) (by omega) (by omega), ni_mul, Int32.add_assoc, ni_add]
      rfl
theorem hp_M : ∀ (d m k : Nat) (acc : Int32), m < 10 ^ d → m < 100000 → d < k → M_squares_l4 F k acc (Int32.ofNat m) = some (acc + Int32.ofNat (sqs d m)) := by
  intro d
  induction d with
  | zero =>
    intro m k acc h h' hk
    obtain ⟨k, rfl⟩ : ∃ k', k = k' + 1 := ⟨k - 1, by omega⟩
    rw [Nat.pow_zero] at h
    rw [show m = 0 from by omega, M_squares_l4, if_neg (by decide), sqs]; simp
  | succ d ih =>
    intro m k acc h h' hk
    obtain ⟨k, rfl⟩ : ∃ k', k = k' + 1 := ⟨k - 1, by omega⟩
    by_cases q : m = 0
    · rw [q, M_squares_l4, if_neg (by decide), sqs_0]; simp
    · rw [M_squares_l4, if_pos (show (0 : Int32) < _ from (ni_lt (a := 0) (by omega) (by omega)).mpr (by omega)), am_let, am_let, show Int32.ofNat m % 10 = Int32.ofNat (m % 10) from ni_mod (b := 10) (by omega) (by omega), show Int32.ofNat m / 10 = Int32.ofNat (m / 10) from ni_div (b := 10) (by omega) (by omega),
        ih (m / 10) k _ (by rw [Nat.pow_succ] at h; exact (Nat.div_lt_iff_lt_mul (by omega)).mpr h) (by omega) (by omega), ni_mul, Int32.add_assoc, ni_add]
      rfl
theorem hp_sC (hF : 2000 ≤ F) {m : Nat} (h : m < 100000) : C_Sums_digitSquares F (Int32.ofNat m) = some (Int32.ofNat (sqs 5 m)) := by
  rw [C_Sums_digitSquares, hp_C 5 m F 0 h h (by omega)]; simp
theorem hp_sM (hF : 2000 ≤ F) {m : Nat} (h : m < 100000) : M_squares F (Int32.ofNat m) = some (Int32.ofNat (sqs 5 m)) := by
  rw [M_squares, hp_M 5 m F 0 h h (by omega)]; simp
theorem hp_run (hF : 2000 ≤ F) : ∀ (t m j k k' : Nat), rch t m = true → m < 100000 → j + t < 900 → t < k → t < k' →
    (∃ s, C_Sums_happySteps_l4 F k (Int32.ofNat m) (Int32.ofNat j) = some s ∧ M_stepsToEnd_l4 F k' (Int32.ofNat j) (Int32.ofNat m) = some s) ∧
    (∃ e, C_Sums_happyEnd_l4 F k (Int32.ofNat m) (Int32.ofNat j) = some e ∧ M_isHappy_l2 F k' (Int32.ofNat m) = some (decide (e = 1))) := by
  intro t
  induction t with
  | zero =>
    intro m j k k' hr hm hj hk hk'
    obtain ⟨k, rfl⟩ : ∃ n, k = n + 1 := ⟨k - 1, by omega⟩
    obtain ⟨k', rfl⟩ : ∃ n, k' = n + 1 := ⟨k' - 1, by omega⟩
    have h1000 : Int32.ofNat j < 1000 := (ni_lt (b := 1000) (by omega) (by omega)).mpr (by omega)
    rw [C_Sums_happySteps_l4, C_Sums_happyEnd_l4, M_stepsToEnd_l4, M_isHappy_l2, M_isHappy_p21, if_pos h1000, if_pos h1000]
    have : m = 1 ∨ m = 4 := by simpa [rch] using hr
    rcases this with rfl | rfl
    · exact ⟨⟨_, by rw [if_pos (show Int32.ofNat 1 = 1 from rfl)], by rw [if_pos (show Int32.ofNat 1 = 1 from rfl)]⟩, ⟨Int32.ofNat 1, by rw [if_pos (show Int32.ofNat 1 = 1 from rfl)], by simp⟩⟩
    · refine ⟨⟨_, by rw [if_neg (by decide), if_pos (show Int32.ofNat 4 = 4 from rfl)], by rw [if_neg (by decide), if_pos (show Int32.ofNat 4 = 4 from rfl)]⟩, ⟨Int32.ofNat 4, by rw [if_neg (by decide), if_pos (show Int32.ofNat 4 = 4 from rfl)], ?_⟩⟩
      rw [if_neg (show ¬ Int32.ofNat 4 = 1 from by decide), if_pos (show Int32.ofNat 4 = 4 from rfl), if_neg (show ¬ Int32.ofNat 4 = 1 from by decide)]
      rfl
  | succ t ih =>
    intro m j k k' hr hm hj hk hk'
    obtain ⟨k, rfl⟩ : ∃ n, k = n + 1 := ⟨k - 1, by omega⟩
    obtain ⟨k', rfl⟩ : ∃ n, k' = n + 1 := ⟨k' - 1, by omega⟩
    have h1000 : Int32.ofNat j < 1000 := (ni_lt (b := 1000) (by omega) (by omega)).mpr (by omega)
    rw [C_Sums_happySteps_l4, C_Sums_happyEnd_l4, M_stepsToEnd_l4, M_isHappy_l2, M_isHappy_p21, if_pos h1000, if_pos h1000]
    by_cases m1 : m = 1
    · subst m1
      exact ⟨⟨_, by rw [if_pos (show Int32.ofNat 1 = 1 from rfl)], by rw [if_pos (show Int32.ofNat 1 = 1 from rfl)]⟩, ⟨Int32.ofNat 1, by rw [if_pos (show Int32.ofNat 1 = 1 from rfl)], by simp⟩⟩
    by_cases m4 : m = 4
    · subst m4
      refine ⟨⟨_, by rw [if_neg (by decide), if_pos (show Int32.ofNat 4 = 4 from rfl)], by rw [if_neg (by decide), if_pos (show Int32.ofNat 4 = 4 from rfl)]⟩, ⟨Int32.ofNat 4, by rw [if_neg (by decide), if_pos (show Int32.ofNat 4 = 4 from rfl)], ?_⟩⟩
      rw [if_neg (show ¬ Int32.ofNat 4 = 1 from by decide), if_pos (show Int32.ofNat 4 = 4 from rfl), if_neg (show ¬ Int32.ofNat 4 = 1 from by decide)]
      rfl
    have n1 : ¬ Int32.ofNat m = 1 := fun q => m1 ((ni_eq (b := 1) (by omega) (by omega)).mp q)
    have n4 : ¬ Int32.ofNat m = 4 := fun q => m4 ((ni_eq (b := 4) (by omega) (by omega)).mp q)
    have hr' : rch t (sqs 5 m) = true := by simpa [rch, m1, m4] using hr
    have hs := sqs_le 5 m
    obtain ⟨i1, i2⟩ := ih (sqs 5 m) (j + 1) k k' hr' (by omega) (by omega) (by omega) (by omega)
    simp only [n1, n4, if_false, hp_sC hF hm, hp_sM hF hm, Option.bind_some, am_let, ni_succ]
    exact ⟨i1, i2⟩
theorem hp_up {N : Nat} (hF : 2000 ≤ F) (hN : N ≤ 999) : ∀ (d j k k' : Nat) (acc : Int32), j + d = N + 1 → 1 ≤ j → d < k → d < k' → ∃ r, C_Sums_happyUpTo_l4 F k (Int32.ofNat N) acc (Int32.ofNat j) = some r ∧ M_happy_l74 F k' (Int32.ofNat N) acc (Int32.ofNat j) τ = some (r, τ) := by
  intro d
  induction d with
  | zero =>
    intro j k k' acc hj hj1 hk hk'
    obtain ⟨k, rfl⟩ : ∃ n, k = n + 1 := ⟨k - 1, by omega⟩
    obtain ⟨k', rfl⟩ : ∃ n, k' = n + 1 := ⟨k' - 1, by omega⟩
    have h1 : Int32.ofNat N < Int32.ofNat j := (ni_lt (by omega) (by omega)).mpr (by omega)
    rw [C_Sums_happyUpTo_l4, M_happy_l74, if_pos h1, if_pos h1]
    exact ⟨_, rfl, rfl⟩
  | succ d ih =>
    intro j k k' acc hj hj1 hk hk'
    obtain ⟨k, rfl⟩ : ∃ n, k = n + 1 := ⟨k - 1, by omega⟩
    obtain ⟨k', rfl⟩ : ∃ n, k' = n + 1 := ⟨k' - 1, by omega⟩
    have h1 : ¬ Int32.ofNat N < Int32.ofNat j := fun q => absurd ((ni_lt (by omega) (by omega)).mp q) (by omega)
    obtain ⟨-, e, e1, e2⟩ := hp_run (F := F) hF 21 j 0 F F (rch_all hj1 (by omega)) (by omega) (by omega) (by omega) (by omega)
    rw [show Int32.ofNat 0 = 0 from rfl] at e1
    rw [C_Sums_happyUpTo_l4, M_happy_l74, if_neg h1, if_neg h1, C_Sums_happyEnd, M_isHappy, e1, e2, Option.bind_some, Option.bind_some]
    by_cases q : e = 1
    · rw [if_pos q, if_pos (by simp [q]), C_Sums_happyUpTo_p23, am_let, am_let, am_let, M_happy_p93, am_let, ni_succ]
      exact ih (j + 1) k k' _ (by omega) (by omega) (by omega) (by omega)
    · rw [if_neg q, if_neg (by simp [q]), C_Sums_happyUpTo_p23, am_let, am_let, M_happy_p93, am_let, ni_succ, show acc + am_bI false = acc from by rw [show am_bI false = 0 from rfl]; simp]
      exact ih (j + 1) k k' _ (by omega) (by omega) (by omega) (by omega)
end
theorem ca_23 (F : Nat) (hF : 2000 ≤ F) : aj_S23 F rl_R := by
  intro x y σ τ h
  have h := rl_told h 0
  simp only [C_happy, M_happy, am_let, M_happy_p22, show am_bI true = 1 from rfl]
  generalize am_up τ 0 0 0 = τ at h ⊢
  by_cases v : rl_rg x 1 99999
  case neg =>
    have eC : ∀ A : Option Int32, (if x < 1 then some (-1) else if 99999 < x then some (-1) else A) = some (-1) := by
      intro A
      by_cases q : x < 1
      · rw [if_pos q]
      · rw [if_neg q, if_pos (Decidable.byContradiction (fun g => v ⟨Int32.not_lt.mp q, Int32.not_lt.mp g⟩))]
    have v' : ¬ rl_rg x 1 999 := fun g => v ⟨g.1, by have := g.2; grind⟩
    rw [eC]
    simp only [rg_ni v, rg_ni v', if_false, ite_self]
    exact ⟨_, _, rfl, rfl, rfl, h⟩
  rw [if_neg (Int32.not_lt.mpr v.1), if_neg (Int32.not_lt.mpr v.2)]
  obtain ⟨N, hN, rfl⟩ := ni_of (x := x) (by have := v.1; grind)
  have hN1 : 1 ≤ N := (ni_le (a := 1) (by omega) hN).mp v.1
  have hN2 : N ≤ 99999 := (ni_le (b := 99999) hN (by omega)).mp v.2
  obtain ⟨⟨s, s1, s2⟩, e, e1, e2⟩ := hp_run (F := F) hF 21 N 0 F F (rch_all hN1 (by omega)) (by omega) (by omega) (by omega) (by omega)
  rw [show Int32.ofNat 0 = 0 from rfl] at s1 s2 e1
  by_cases y0 : y = 0
  · subst y0
    rw [if_pos rfl, if_neg (show ¬ (0 : Int32) = 2 from by decide), if_pos (ni_in.mpr v), if_pos (show M_isIn 0 0 2 = true from by decide), if_neg (show ¬ (0 : Int32) = 1 from by decide), if_pos (show (0 : Int32) = 0 from rfl), C_Sums_happyEnd, M_isHappy, e1, e2, Option.bind_some, Option.bind_some]
    by_cases q : e = 1
    · rw [if_pos q, if_pos (by simp [q])]; exact ⟨_, _, rfl, rfl, rfl, h⟩
    · rw [if_neg q, if_neg (by simp [q])]; exact ⟨_, _, rfl, rfl, rfl, h⟩
  by_cases y1 : y = 1
  · subst y1
    rw [if_neg y0, if_pos rfl, if_neg (show ¬ (1 : Int32) = 2 from by decide), if_pos (ni_in.mpr v), if_pos (show M_isIn 1 0 2 = true from by decide), if_pos (show (1 : Int32) = 1 from rfl), C_Sums_happySteps, M_stepsToEnd, s1, s2, Option.bind_some, Option.bind_some]
    exact ⟨_, _, rfl, rfl, rfl, h⟩
  by_cases y2 : y = 2
  · subst y2
    rw [if_neg y0, if_neg y1, if_pos rfl, if_pos (show (2 : Int32) = 2 from rfl)]
    by_cases q : N ≤ 999
    · have w : rl_rg (Int32.ofNat N) 1 999 := ⟨v.1, (ni_le (b := 999) hN (by omega)).mpr q⟩
      rw [if_neg (Int32.not_lt.mpr w.2), if_pos (ni_in.mpr w), if_pos (show M_isIn 2 0 2 = true from by decide), if_neg y1, if_neg y0]
      obtain ⟨r, r1, r2⟩ := hp_up (F := F) (τ := τ) hF q N 1 F F 0 (by omega) (by omega) (by omega) (by omega)
      rw [show Int32.ofNat 1 = 1 from rfl] at r1 r2
      rw [C_Sums_happyUpTo, r1, r2, Option.bind_some]
      exact ⟨_, _, rfl, rfl, rfl, h⟩
    · have w : ¬ rl_rg (Int32.ofNat N) 1 999 := fun g => q ((ni_le (b := 999) hN (by omega)).mp g.2)
      rw [if_pos (show (999 : Int32) < _ from (ni_lt (a := 999) (by omega) (by omega)).mpr (by omega)), if_neg (fun g => w (ni_in.mp g))]
      exact ⟨_, _, rfl, rfl, rfl, h⟩
  have y02 : ¬ rl_rg y 0 2 := fun g => by have a := g.1; have b := g.2; have : y = 0 ∨ y = 1 ∨ y = 2 := by grind
                                          rcases this with q | q | q
                                          · exact y0 q
                                          · exact y1 q
                                          · exact y2 q
  simp only [y0, y1, y2, if_false, rg_i v, if_true, rg_ni y02]
  exact ⟨_, _, rfl, rfl, rfl, h⟩
