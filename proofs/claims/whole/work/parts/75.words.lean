/-! L3: words -/
def dg (a i : Nat) : Nat := a / 10 ^ i % 10
def e01 (p : Bool) : Int32 := if p = true then 1 else 0
theorem p10_4 {i : Nat} (h : i ≤ 4) : 10 ^ i ≤ 10000 ∧ 0 < 10 ^ i := ⟨Nat.pow_le_pow_right (by omega) h, Nat.pow_pos (by omega)⟩
section
variable {F : Nat} {a b : Nat}
theorem dg_C (ha : a < 10000) {i : Nat} (hi : i < 4) : Int32.ofNat a / Int32.ofNat (10 ^ i) % 10 = Int32.ofNat (dg a i) := by
  have := p10_4 (i := i) (by omega)
  have hd : a / 10 ^ i ≤ a := Nat.div_le_self _ _
  rw [ni_div (by omega) (by omega)]
  exact ni_mod (b := 10) (by omega) (by omega)
theorem dg_lt {a i : Nat} : dg a i < 10 := Nat.mod_lt _ (by omega)
theorem dg_M (ha : a < 10000) {j : Nat} (hj : j < 4) : M_digitOf (Int32.ofNat a) (Int32.ofNat j) = Int32.ofNat (dg a (3 - j)) := by
  have h0 : a / 1000 < 10 := by omega
  rcases (by omega : j = 0 ∨ j = 1 ∨ j = 2 ∨ j = 3) with rfl | rfl | rfl | rfl
  · rw [M_digitOf, if_pos (show Int32.ofNat 0 = 0 from rfl), show dg a (3 - 0) = a / 1000 from Nat.mod_eq_of_lt h0]; exact ni_div (b := 1000) (by omega) (by omega)
  · rw [M_digitOf, if_neg (by decide), if_pos (show Int32.ofNat 1 = 1 from rfl)]; exact dg_C ha (i := 2) (by omega)
  · rw [M_digitOf, if_neg (by decide), if_neg (by decide), if_pos (show Int32.ofNat 2 = 2 from rfl)]; exact dg_C ha (i := 1) (by omega)
  · rw [M_digitOf, if_neg (by decide), if_neg (by decide), if_neg (by decide), show dg a (3 - 3) = a % 10 from by simp [dg]]; exact ni_mod (b := 10) (by omega) (by omega)
theorem rt_C (ha : a < 10000) (hb : b < 10000) {i n : Nat} (hi : i < 4) (acc : Int32) : C_Nights_right_l4 F (n + 1) (Int32.ofNat a) (Int32.ofNat b) acc (Int32.ofNat (10 ^ i)) = C_Nights_right_l4 F n (Int32.ofNat a) (Int32.ofNat b) (acc + e01 (dg a i == dg b i)) (Int32.ofNat (10 ^ (i + 1))) := by
  obtain ⟨p1, p2⟩ := p10_4 (i := i) (by omega)
  have p3 : 10 ^ i ≤ 10 ^ 3 := Nat.pow_le_pow_right (by omega) (by omega)
  have nz : ¬ Int32.ofNat (10 ^ i) = 0 := fun g => absurd ((ni_eq (b := 0) (by omega) (by omega)).mp g) (by omega)
  have l1 := dg_lt (a := a) (i := i)
  have l2 := dg_lt (a := b) (i := i)
  rw [C_Nights_right_l4, if_neg (fun g : (1000 : Int32) < _ => absurd ((ni_lt (a := 1000) (by omega) (by omega)).mp g) (by omega)), if_neg nz, if_neg nz, dg_C ha hi, dg_C hb hi, C_Nights_right_p32, C_Nights_right_p32, am_let, am_let, am_let, am_let,
    show Int32.ofNat (10 ^ i) * 10 = Int32.ofNat (10 ^ (i + 1)) from by rw [Nat.pow_succ]; exact ni_mul _ 10]
  by_cases q : dg a i = dg b i
  · rw [if_pos (by rw [q]), e01, if_pos (by simp [q])]; rfl
  · rw [if_neg (fun g => q ((ni_eq (by omega) (by omega)).mp g)), e01, if_neg (by simp [q])]; rfl
theorem rt_M (ha : a < 10000) (hb : b < 10000) {j n : Nat} (hj : j < 4) (acc : Int32) : M_rightOf_l5 F (n + 1) (Int32.ofNat a) (Int32.ofNat b) acc (Int32.ofNat j) = M_rightOf_l5 F n (Int32.ofNat a) (Int32.ofNat b) (acc + e01 (dg a (3 - j) == dg b (3 - j))) (Int32.ofNat (j + 1)) := by
  have l1 := dg_lt (a := a) (i := 3 - j)
  have l2 := dg_lt (a := b) (i := 3 - j)
  rw [M_rightOf_l5, if_pos (show _ < (4 : Int32) from (ni_lt (b := 4) (by omega) (by omega)).mpr hj), dg_M ha hj, dg_M hb hj, am_let, M_rightOf_p32, M_rightOf_p32, am_let, am_let, ni_succ]
  by_cases q : dg a (3 - j) = dg b (3 - j)
  · rw [if_pos (by rw [q]), e01, if_pos (by simp [q])]
  · rw [if_neg (fun g => q ((ni_eq (by omega) (by omega)).mp g)), e01, if_neg (by simp [q])]; simp
theorem rt_eq (hF : 2000 ≤ F) (ha : a < 10000) (hb : b < 10000) : ∃ r, C_Nights_right F (Int32.ofNat b) (Int32.ofNat a) = some r ∧ M_rightOf F (Int32.ofNat a) (Int32.ofNat b) = some r := by
  obtain ⟨n, rfl⟩ : ∃ n, F = n + 5 := ⟨F - 5, by omega⟩
  refine ⟨0 + e01 (dg b 0 == dg a 0) + e01 (dg b 1 == dg a 1) + e01 (dg b 2 == dg a 2) + e01 (dg b 3 == dg a 3), ?_, ?_⟩
  · rw [C_Nights_right, show (1 : Int32) = Int32.ofNat (10 ^ 0) from rfl, rt_C hb ha (by omega), rt_C hb ha (by omega), rt_C hb ha (by omega), rt_C hb ha (by omega), C_Nights_right_l4, if_pos (by decide)]
  · rw [M_rightOf, show M_rightOf_l5 (n + 5) (n + 5) (Int32.ofNat a) (Int32.ofNat b) 0 0 = M_rightOf_l5 (n + 5) (n + 5) (Int32.ofNat a) (Int32.ofNat b) 0 (Int32.ofNat 0) from rfl, rt_M ha hb (by omega), rt_M ha hb (by omega), rt_M ha hb (by omega), rt_M ha hb (by omega), M_rightOf_l5, if_neg (by decide)]
    have c : ∀ i, (dg b i == dg a i) = (dg a i == dg b i) := fun i => by
      rw [Bool.eq_iff_iff, beq_iff_eq, beq_iff_eq]; exact eq_comm
    rw [c, c, c, c]
    congr 1
    show 0 + e01 (dg a 3 == dg b 3) + e01 (dg a 2 == dg b 2) + e01 (dg a 1 == dg b 1) + e01 (dg a 0 == dg b 0) = _
    generalize e01 (dg a 0 == dg b 0) = x0
    generalize e01 (dg a 1 == dg b 1) = x1
    generalize e01 (dg a 2 == dg b 2) = x2
    generalize e01 (dg a 3 == dg b 3) = x3
    grind
theorem tm_C (ha : a < 10000) {i n d : Nat} (hd : d < 6) (hi : i < 4) (acc : Int32) : C_Nights_times_l4 F (n + 1) (Int32.ofNat d) (Int32.ofNat a) acc (Int32.ofNat (10 ^ i)) = C_Nights_times_l4 F n (Int32.ofNat d) (Int32.ofNat a) (acc + e01 (dg a i == d)) (Int32.ofNat (10 ^ (i + 1))) := by
  obtain ⟨p1, p2⟩ := p10_4 (i := i) (by omega)
  have p3 : 10 ^ i ≤ 10 ^ 3 := Nat.pow_le_pow_right (by omega) (by omega)
  have nz : ¬ Int32.ofNat (10 ^ i) = 0 := fun g => absurd ((ni_eq (b := 0) (by omega) (by omega)).mp g) (by omega)
  have l1 := dg_lt (a := a) (i := i)
  rw [C_Nights_times_l4, if_neg (fun g : (1000 : Int32) < _ => absurd ((ni_lt (a := 1000) (by omega) (by omega)).mp g) (by omega)), if_neg nz, dg_C ha hi, C_Nights_times_p27, C_Nights_times_p27, am_let, am_let, am_let, am_let,
    show Int32.ofNat (10 ^ i) * 10 = Int32.ofNat (10 ^ (i + 1)) from by rw [Nat.pow_succ]; exact ni_mul _ 10]
  by_cases q : dg a i = d
  · rw [if_pos (by rw [q]), e01, if_pos (by simp [q])]; rfl
  · rw [if_neg (fun g => q ((ni_eq (by omega) (by omega)).mp g)), e01, if_neg (by simp [q])]; rfl
theorem tm_M (ha : a < 10000) {j n d : Nat} (hd : d < 6) (hj : j < 4) (acc : Int32) : M_manyOf_l5 F (n + 1) (Int32.ofNat a) (Int32.ofNat d) acc (Int32.ofNat j) = M_manyOf_l5 F n (Int32.ofNat a) (Int32.ofNat d) (acc + e01 (dg a (3 - j) == d)) (Int32.ofNat (j + 1)) := by
  have l1 := dg_lt (a := a) (i := 3 - j)
  rw [M_manyOf_l5, if_pos (show _ < (4 : Int32) from (ni_lt (b := 4) (by omega) (by omega)).mpr hj), dg_M ha hj, am_let, M_manyOf_p26, M_manyOf_p26, am_let, am_let, ni_succ]
  by_cases q : dg a (3 - j) = d
  · rw [if_pos (by rw [q]), e01, if_pos (by simp [q])]
  · rw [if_neg (fun g => q ((ni_eq (by omega) (by omega)).mp g)), e01, if_neg (by simp [q])]; simp
theorem tm_eq (hF : 2000 ≤ F) (ha : a < 10000) {d : Nat} (hd : d < 6) : ∃ r, C_Nights_times F (Int32.ofNat d) (Int32.ofNat a) = some r ∧ M_manyOf F (Int32.ofNat a) (Int32.ofNat d) = some r := by
  obtain ⟨n, rfl⟩ : ∃ n, F = n + 5 := ⟨F - 5, by omega⟩
  refine ⟨0 + e01 (dg a 0 == d) + e01 (dg a 1 == d) + e01 (dg a 2 == d) + e01 (dg a 3 == d), ?_, ?_⟩
  · rw [C_Nights_times, show (1 : Int32) = Int32.ofNat (10 ^ 0) from rfl, tm_C ha hd (by omega), tm_C ha hd (by omega), tm_C ha hd (by omega), tm_C ha hd (by omega), C_Nights_times_l4, if_pos (by decide)]
  · rw [M_manyOf, show M_manyOf_l5 (n + 5) (n + 5) (Int32.ofNat a) (Int32.ofNat d) 0 0 = M_manyOf_l5 (n + 5) (n + 5) (Int32.ofNat a) (Int32.ofNat d) 0 (Int32.ofNat 0) from rfl, tm_M ha hd (by omega), tm_M ha hd (by omega), tm_M ha hd (by omega), tm_M ha hd (by omega), M_manyOf_l5, if_neg (by decide)]
    congr 1
    show 0 + e01 (dg a 3 == d) + e01 (dg a 2 == d) + e01 (dg a 1 == d) + e01 (dg a 0 == d) = _
    generalize e01 (dg a 0 == d) = x0
    generalize e01 (dg a 1 == d) = x1
    generalize e01 (dg a 2 == d) = x2
    generalize e01 (dg a 3 == d) = x3
    grind
end
section
variable {F c : Nat} {σ τ : am_SS} {a : Nat}
theorem gu_at (hc : c ≤ 8) (w : σ 27 0 = 3) (e1 : σ 27 2 = Int32.ofNat c) {j k : Nat} (hj : j < c) (hk : k < 3) : C_Table_at 27 (Int32.ofNat j) (Int32.ofNat k) σ = some (σ 28 (3 * j + k)) := by
  rw [tb_at (w := 3) 24 e1 w rfl hj hk (by omega) (by omega) (by omega) (by omega), Nat.mul_comm j 3]
theorem co_eq (hF : 2000 ≤ F) (ha : a < 10000) {b j : Nat} (hb : b < 10000) (hj : j < 8) (et : τ 24 j = Int32.ofNat b) {rec2 : Int32 → Int32 → am_SS → Option Bool} : ∀ (e d k k' : Nat) (acc : Int32), d + e = 6 → e < k → e < k' →
    ∃ r, C_Nights_common_l4 F k (Int32.ofNat b) (Int32.ofNat a) acc (Int32.ofNat d) = some r ∧
      M_doesFit_l15 rec2 F k' (Int32.ofNat a) (Int32.ofNat j) acc (Int32.ofNat d) τ = M_doesFit_l15 rec2 F 1 (Int32.ofNat a) (Int32.ofNat j) r 6 τ := by
  intro e
  induction e with
  | zero =>
    intro d k k' acc hd hk hk'
    obtain ⟨k, rfl⟩ : ∃ n, k = n + 1 := ⟨k - 1, by omega⟩
    obtain ⟨k', rfl⟩ : ∃ n, k' = n + 1 := ⟨k' - 1, by omega⟩
    have e6 : d = 6 := by omega
    subst e6
    refine ⟨acc, by rw [C_Nights_common_l4, if_neg (by decide)], ?_⟩
    rw [M_doesFit_l15, if_neg (by decide), M_doesFit_l15, if_neg (by decide)]
  | succ e ih =>
    intro d k k' acc hd hk hk'
    obtain ⟨k, rfl⟩ : ∃ n, k = n + 1 := ⟨k - 1, by omega⟩
    obtain ⟨k', rfl⟩ : ∃ n, k' = n + 1 := ⟨k' - 1, by omega⟩
    obtain ⟨r1, c1, m1⟩ := tm_eq (F := F) hF ha (d := d) (by omega)
    obtain ⟨r2, c2, m2⟩ := tm_eq (F := F) hF hb (d := d) (by omega)
    have h6 : Int32.ofNat d < 6 := (ni_lt (b := 6) (by omega) (by omega)).mpr (by omega)
    rw [C_Nights_common_l4, if_pos h6, c1, c2, Option.bind_some, Option.bind_some, am_let, am_let, ni_succ, M_doesFit_l15, if_pos h6, m1, Option.bind_some, ni_rd hj (by omega), Option.bind_some, et, m2, Option.bind_some, am_let, am_let, ni_succ, jm_min]
    have comm : M_lesser r2 r1 = M_lesser r1 r2 := by unfold M_lesser; by_cases q : r2 < r1 <;> by_cases q' : r1 < r2 <;> simp [q, q'] <;> grind
    rw [comm]
    exact ih (d + 1) k k' _ (by omega) (by omega) (by omega)
theorem fit_eq (hF : 2000 ≤ F) (hc : c ≤ 8) (w : σ 27 0 = 3) (e1 : σ 27 2 = Int32.ofNat c) (e2 : τ 0 44 = Int32.ofNat c)
    (e3 : ∀ k, k < 8 → σ 28 (3 * k) = τ 24 k ∧ σ 28 (3 * k + 1) = τ 25 k ∧ σ 28 (3 * k + 2) = τ 26 k ∧ rl_rg (τ 24 k) 0 5555 ∧ rl_rg (τ 25 k) 0 4 ∧ rl_rg (τ 26 k) 0 4) (ha : a < 10000) :
    ∀ (d j k k' : Nat), j + d = c → d < k → d < k' → ∃ r, C_Nights_fits_l2 F k 27 (Int32.ofNat a) (Int32.ofNat j) σ = some r ∧ M_doesFit_l2 F k' (Int32.ofNat a) (Int32.ofNat j) τ = some r := by
  intro d
  induction d with
  | zero =>
    intro j k k' hj hk hk'
    obtain ⟨k, rfl⟩ : ∃ n, k = n + 1 := ⟨k - 1, by omega⟩
    obtain ⟨k', rfl⟩ : ∃ n, k' = n + 1 := ⟨k' - 1, by omega⟩
    rw [C_Nights_fits_l2, M_doesFit_l2, e1, e2, if_neg (fun g => absurd ((ni_lt (by omega) (by omega)).mp g) (by omega)), if_neg (fun g => absurd ((ni_lt (by omega) (by omega)).mp g) (by omega))]
    exact ⟨true, rfl, rfl⟩
  | succ d ih =>
    intro j k k' hj hk hk'
    obtain ⟨k, rfl⟩ : ∃ n, k = n + 1 := ⟨k - 1, by omega⟩
    obtain ⟨k', rfl⟩ : ∃ n, k' = n + 1 := ⟨k' - 1, by omega⟩
    obtain ⟨g0, g1, g2, r0, -, -⟩ := e3 j (by omega)
    obtain ⟨b, hb, eb⟩ := ni_of (x := τ 24 j) (Int32.not_lt.mpr r0.1)
    have hb' : b ≤ 5555 := (ni_le (b := 5555) hb (by omega)).mp (by rw [← eb]; exact r0.2)
    have h1 : Int32.ofNat j < Int32.ofNat c := (ni_lt (by omega) (by omega)).mpr (by omega)
    have a0 : C_Table_at 27 (Int32.ofNat j) 0 σ = some (Int32.ofNat b) := by rw [show (0 : Int32) = Int32.ofNat 0 from rfl, gu_at hc w e1 (by omega) (by omega), Nat.add_zero, g0, eb]
    have a1 : C_Table_at 27 (Int32.ofNat j) 1 σ = some (τ 25 j) := by rw [show (1 : Int32) = Int32.ofNat 1 from rfl, gu_at hc w e1 (by omega) (by omega), g1]
    have a2 : C_Table_at 27 (Int32.ofNat j) 2 σ = some (τ 26 j) := by rw [show (2 : Int32) = Int32.ofNat 2 from rfl, gu_at hc w e1 (by omega) (by omega), g2]
    obtain ⟨rr, q1, q2⟩ := rt_eq (F := F) hF ha (show b < 10000 by omega)
    obtain ⟨rc, q3, q4⟩ := co_eq (F := F) (τ := τ) hF ha (show b < 10000 by omega) (show j < 8 by omega) eb (rec2 := M_doesFit_l2 F k') 6 0 F F 0 (by omega) (by omega) (by omega)
    rw [show Int32.ofNat 0 = 0 from rfl] at q3 q4
    rw [C_Nights_fits_l2, M_doesFit_l2, e1, e2, if_pos h1, if_pos h1, a0, Option.bind_some, q1, Option.bind_some, a1, Option.bind_some, q4, M_doesFit_l15, if_neg (show ¬ (6 : Int32) < 6 from by decide), ni_rd (by omega) (by omega), Option.bind_some, eb, q2, Option.bind_some]
    rw [show am_rd τ 25 8 (Int32.ofNat j) = some (τ 25 j) from ni_rd (by omega) (by omega), show am_rd τ 26 8 (Int32.ofNat j) = some (τ 26 j) from ni_rd (by omega) (by omega)]
    simp only [Option.bind_some, C_Nights_common, q3, a2, am_let]
    by_cases z1 : rr = τ 25 j
    · rw [if_pos z1, if_pos z1]
      by_cases z2 : rc = τ 25 j + τ 26 j
      · rw [if_pos z2, if_pos (by rw [z1, z2]; grind), ni_succ]
        exact ih (j + 1) k k' (by omega) (by omega) (by omega)
      · rw [if_neg z2, if_neg (fun g => z2 (by rw [← g, z1]; grind))]
        exact ⟨false, rfl, rfl⟩
    · rw [if_neg z1, if_neg z1]
      exact ⟨false, rfl, rfl⟩
end
/-! all words -/
def wd (i : Nat) : Nat := i / 216 % 6 * 1000 + i / 36 % 6 * 100 + i / 6 % 6 * 10 + i % 6
theorem wd_C : ∀ i, i < 1296 → C_Nights_word (Int32.ofNat i) = Int32.ofNat (wd i) ∧ wd i ≤ 5555 := by decide +kernel
def cwd : Nat → List Nat
  | 0 => []
  | d + 1 => wd (1295 - d) :: cwd d
def wfd : Nat → List Nat
  | 0 => []
  | d + 1 => if C_Nights_isWord (Int32.ofNat (5555 - d)) = true then (5555 - d) :: wfd d else wfd d
theorem wd_same : cwd 1296 = wfd 5556 := by decide +kernel
/-- how many fit, and the first one -/
def fw (P : Nat → Bool) : List Nat → Nat × Int32
  | [] => (0, -1)
  | x :: L => if P x = true then ((fw P L).1 + 1, Int32.ofNat x) else fw P L
section
variable {F : Nat} {σ τ : am_SS} {P : Nat → Bool} {x1 : Int32}
theorem wo_C (hP : ∀ w, w ≤ 5555 → C_Nights_fits F 27 (Int32.ofNat w) σ = some (P w)) : ∀ (d k c : Nat) (l : Int32), d ≤ 1296 → d < k → c + d ≤ 1296 → (c = 0 → l = -1) →
    C_words_l18 F k x1 (Int32.ofNat c) l (Int32.ofNat (1296 - d)) σ = some (if x1 = 0 then Int32.ofNat (c + (fw P (cwd d)).1) else if c = 0 then (fw P (cwd d)).2 else l) := by
  intro d
  induction d with
  | zero =>
    intro k c l hd hk hc hl
    obtain ⟨k, rfl⟩ : ∃ n, k = n + 1 := ⟨k - 1, by omega⟩
    rw [C_words_l18, if_neg (by decide)]
    by_cases q : x1 = 0
    · rw [if_pos q, if_pos q]; rfl
    · rw [if_neg q, if_neg q]
      by_cases c0 : c = 0
      · rw [if_pos c0, hl c0]; rfl
      · rw [if_neg c0]
  | succ d ih =>
    intro k c l hd hk hc hl
    obtain ⟨k, rfl⟩ : ∃ n, k = n + 1 := ⟨k - 1, by omega⟩
    obtain ⟨w1, w2⟩ := wd_C (1296 - (d + 1)) (by omega)
    have nx : Int32.ofNat (1296 - (d + 1)) + 1 = Int32.ofNat (1296 - d) := by rw [ni_succ]; congr 1; omega
    rw [C_words_l18, if_pos (show _ < (1296 : Int32) from (ni_lt (b := 1296) (by omega) (by omega)).mpr (by omega)), w1, am_let, hP _ w2, Option.bind_some, cwd, fw, show 1295 - d = 1296 - (d + 1) from by omega]
    by_cases q : P (wd (1296 - (d + 1))) = true
    · rw [if_pos q, if_pos q]
      by_cases c0 : c = 0
      · subst c0
        rw [if_pos (show Int32.ofNat 0 = 0 from rfl), C_words_p58, am_let, C_words_p62, am_let, nx, ni_succ, ih k 1 _ (by omega) (by omega) (by omega) (fun g => absurd g (by omega)), if_neg (show ¬ (0 + 1) = 0 by omega), if_pos rfl]
        congr 2
        · congr 1; omega
      · rw [if_neg (fun g : _ = (0 : Int32) => c0 ((ni_eq (b := 0) (by omega) (by omega)).mp g)), C_words_p58, am_let, C_words_p62, am_let, nx, ni_succ, ih k (c + 1) _ (by omega) (by omega) (by omega) (fun g => absurd g (by omega)), if_neg (show ¬ (c + 1) = 0 by omega), if_neg c0]
        congr 2
        · congr 1; omega
    · rw [if_neg q, if_neg q, C_words_p62, am_let, nx]
      exact ih k c l (by omega) (by omega) (by omega) hl
theorem wo_M (hF : 2000 ≤ F) (hP : ∀ w, w ≤ 5555 → M_doesFit F (Int32.ofNat w) τ = some (P w)) : ∀ (e d k : Nat), d + e = 5556 → e < k →
    M_words_l26 F k x1 (Int32.ofNat (fw P (wfd d)).1) (fw P (wfd d)).2 (Int32.ofNat e - 1) τ = some (if x1 = 0 then Int32.ofNat (fw P (wfd 5556)).1 else (fw P (wfd 5556)).2, τ) := by
  intro e
  induction e with
  | zero =>
    intro d k hd hk
    obtain ⟨k, rfl⟩ : ∃ n, k = n + 1 := ⟨k - 1, by omega⟩
    rw [show d = 5556 from by omega, M_words_l26, if_pos (by decide)]
    by_cases q : x1 = 0
    · rw [if_pos q, if_pos q]
    · rw [if_neg q, if_neg q]
  | succ e ih =>
    intro d k hd hk
    obtain ⟨k, rfl⟩ : ∃ n, k = n + 1 := ⟨k - 1, by omega⟩
    have m1 : Int32.ofNat e + -1 = Int32.ofNat e - 1 := by grind
    have ih' := ih (d + 1) k (by omega) (by omega)
    rw [wfd, show 5555 - d = e from by omega] at ih'
    rw [ni_pred (by omega), show e + 1 - 1 = e from rfl, M_words_l26, if_neg (ni_nn (by omega)), gu_word hF, Option.bind_some]
    by_cases q : C_Nights_isWord (Int32.ofNat e) = true
    · rw [if_pos q] at ih' ⊢
      rw [hP e (by omega), Option.bind_some]
      rw [fw] at ih'
      by_cases p : P e = true
      · rw [if_pos p] at ih' ⊢
        rw [am_let, M_words_p59, am_let, m1, ni_succ]
        exact ih'
      · rw [if_neg p] at ih' ⊢
        rw [M_words_p59, am_let, m1]
        exact ih'
    · rw [if_neg q] at ih' ⊢
      rw [M_words_p59, am_let, m1]
      exact ih'
end
theorem ca_16 (F : Nat) (hF : 10000 ≤ F) : aj_S16 F rl_R := by
  intro x σ τ h
  have h := rl_told h 0
  simp only [C_words, M_words, am_let, C_words_p11]
  generalize am_up τ 0 0 0 = τ at h ⊢
  have h' := h
  obtain ⟨hK, ⟨n, m, hFR, hFS, hIR, hIS, hBK, hGU, hLE, hKY, hBI, hQU, hCO, hOR, hSV, hND, hLW⟩, hPS, hTP, hFT, hIM⟩ := h'
  obtain ⟨c, hc, e1, e2, e3⟩ := hGU
  have w : σ 27 0 = 3 := hK.2.2.2.2.2.2.1
  by_cases v : x = 0 ∨ x = 1
  case neg =>
    have v' : ¬ rl_rg x 0 1 := fun g => v (by have := g.1; have := g.2; grind)
    rw [if_neg (fun g => v (.inl g)), if_neg (fun g => v (.inr g)), if_neg (fun g => v' (ni_in.mp g))]
    exact ⟨_, _, rfl, rfl, rfl, h⟩
  have v' : rl_rg x 0 1 := by rcases v with rfl | rfl <;> exact ⟨by decide, by decide⟩
  have eC : (if x = 0 then C_words_l18 F F x 0 (-1) 0 σ else if x = 1 then C_words_l18 F F x 0 (-1) 0 σ else some (-1)) = C_words_l18 F F x 0 (-1) 0 σ := by
    rcases v with v | v
    · rw [if_pos v]
    · rw [if_neg (by rw [v]; decide), if_pos v]
  rw [eC, if_pos (ni_in.mpr v')]
  have both : ∀ w', w' ≤ 5555 → ∃ r, C_Nights_fits F 27 (Int32.ofNat w') σ = some r ∧ M_doesFit F (Int32.ofNat w') τ = some r := fun w' hw' =>
    fit_eq (F := F) (a := w') (by omega) hc w e1 e2 e3 (by omega) c 0 F F (by omega) (by omega) (by omega)
  let P : Nat → Bool := fun w' => (C_Nights_fits F 27 (Int32.ofNat w') σ).getD false
  have pC : ∀ w', w' ≤ 5555 → C_Nights_fits F 27 (Int32.ofNat w') σ = some (P w') := fun w' hw' => by
    obtain ⟨r, r1, -⟩ := both w' hw'
    simp [P, r1]
  have pM : ∀ w', w' ≤ 5555 → M_doesFit F (Int32.ofNat w') τ = some (P w') := fun w' hw' => by
    obtain ⟨r, r1, r2⟩ := both w' hw'
    rw [r2]; simp [P, r1]
  have a := wo_C (x1 := x) pC 1296 F 0 (-1) (by omega) (by omega) (by omega) (fun _ => rfl)
  have b := wo_M (x1 := x) (by omega) pM 5556 0 F (by omega) (by omega)
  rw [show Int32.ofNat (1296 - 1296) = 0 from rfl, Nat.zero_add, if_pos rfl, wd_same] at a
  rw [show Int32.ofNat (fw P (wfd 0)).1 = 0 from rfl, show (fw P (wfd 0)).2 = -1 from rfl, show Int32.ofNat 5556 - 1 = 5555 from rfl] at b
  rw [a, b]
  exact ⟨_, _, rfl, rfl, rfl, h⟩
