/-! L3: the game, pairs: by the kernel, with so much fuel -/
def gm_l : List Nat := [0, 1, 2, 3, 1, 5, 1, 2, 8, 1, 2, 3, 1, 13, 1, 2, 3, 1, 5, 1, 2, 21, 1, 2, 3, 1, 5, 1, 2, 8, 1, 2, 3, 1, 34, 1, 2, 3, 1, 5, 1, 2, 8, 1, 2, 3, 1, 13, 1, 2, 3, 1, 5, 1, 2, 55, 1, 2, 3, 1, 5, 1, 2, 8, 1, 2, 3, 1, 13, 1, 2, 3, 1, 5, 1, 2, 21, 1, 2, 3, 1, 5, 1, 2, 8, 1, 2, 3, 1, 89, 1, 2, 3, 1, 5, 1, 2, 8, 1, 2, 3, 1, 13, 1, 2, 3, 1, 5, 1, 2, 21, 1, 2, 3, 1, 5, 1, 2, 8, 1, 2]
def gm (x : Nat) : Nat := gm_l.getD x 0
theorem gm_fact : ∀ x, x < 121 → 1 ≤ x → 1 ≤ gm x ∧ gm x ≤ x ∧ (∀ y, y < gm x → 1 ≤ y → ¬ 2 * y < gm (x - y)) ∧ (gm x < x → 2 * gm x < gm (x - gm x)) := by decide +kernel
theorem gm_C : ∀ x, x < 121 → 1 ≤ x → C_Sums_leastPart 2000000 (Int32.ofNat x) = some (Int32.ofNat (gm x)) := by decide +kernel
section
variable {F : Nat} {τ : am_SS} {x1 x2 : Int32}
theorem gm_in {rec36 : Int32 → Int32 → Int32 → am_SS → Option (Int32 × am_SS)} {x : Nat} (h1 : 1 ≤ x) (h2 : x ≤ 120) (ht : ∀ y, y < x → 1 ≤ y → τ 38 y = Int32.ofNat (gm y)) : ∀ (d y n : Nat), y + d = gm x → 1 ≤ y → d < n →
    M_game_l44 rec36 F n x1 x2 (Int32.ofNat x) (Int32.ofNat y) τ = M_game_p75 rec36 F x1 x2 (Int32.ofNat x) (Int32.ofNat (gm x)) τ := by
  obtain ⟨a1, a2, a3, a4⟩ := gm_fact x (by omega) h1
  intro d
  induction d with
  | zero =>
    intro y n hy hy1 hn
    obtain ⟨n, rfl⟩ : ∃ n', n = n' + 1 := ⟨n - 1, by omega⟩
    have e : y = gm x := by omega
    subst e
    rw [M_game_l44]
    by_cases q : gm x < x
    · have hg : gm (x - gm x) ≤ 120 := by have := (gm_fact (x - gm x) (by omega) (by omega)).2.1; omega
      rw [if_pos ((ni_lt (by omega) (by omega)).mpr q), ni_sub (by omega), ni_rd (by omega) (by omega), Option.bind_some, ht _ (by omega) (by omega), show (2 : Int32) * Int32.ofNat (gm x) = Int32.ofNat (2 * gm x) from ni_mul 2 _, if_pos ((ni_lt (by omega) (by omega)).mpr (a4 q))]
    · rw [if_neg (fun g => q ((ni_lt (by omega) (by omega)).mp g))]
  | succ d ih =>
    intro y n hy hy1 hn
    obtain ⟨n, rfl⟩ : ∃ n', n = n' + 1 := ⟨n - 1, by omega⟩
    have hg : gm (x - y) ≤ 120 := by have := (gm_fact (x - y) (by omega) (by omega)).2.1; omega
    rw [M_game_l44, if_pos ((ni_lt (by omega) (by omega)).mpr (by omega)), ni_sub (by omega), ni_rd (by omega) (by omega), Option.bind_some, ht _ (by omega) (by omega), show (2 : Int32) * Int32.ofNat y = Int32.ofNat (2 * y) from ni_mul 2 _,
      if_neg (fun g => a3 y (by omega) hy1 ((ni_lt (by omega) (by omega)).mp g)), am_let, ni_succ]
    exact ih (y + 1) n (by omega) (by omega) (by omega)
theorem gm_out (hF : 2000 ≤ F) {N : Nat} (hN : N ≤ 120) (hN1 : 1 ≤ N) : ∀ (d x n : Nat) (g : Nat → Int32), x + d = N + 1 → 1 ≤ x → d < n → (∀ y, y < x → 1 ≤ y → g y = Int32.ofNat (gm y)) →
    ∃ g', M_game_l36 F n (Int32.ofNat N) x2 (Int32.ofNat x) (am_row τ 38 g) = (if x2 = -1 then M_game_p101 F (Int32.ofNat N) (Int32.ofNat N - 1) (am_row τ 38 g') else M_game_p101 F (Int32.ofNat N) x2 (am_row τ 38 g')) ∧ g' N = Int32.ofNat (gm N) := by
  intro d
  induction d with
  | zero =>
    intro x n g hx hx1 hn hg
    obtain ⟨n, rfl⟩ : ∃ n', n = n' + 1 := ⟨n - 1, by omega⟩
    rw [M_game_l36, if_pos ((ni_lt (by omega) (by omega)).mpr (by omega))]
    exact ⟨g, rfl, hg N (by omega) hN1⟩
  | succ d ih =>
    intro x n g hx hx1 hn hg
    obtain ⟨n, rfl⟩ : ∃ n', n = n' + 1 := ⟨n - 1, by omega⟩
    obtain ⟨a1, a2, -, -⟩ := gm_fact x (by omega) hx1
    rw [M_game_l36, if_neg (fun q => absurd ((ni_lt (by omega) (by omega)).mp q) (by omega)), show (1 : Int32) = Int32.ofNat 1 from rfl, gm_in hx1 (by omega) (fun y h1 h2 => by rw [am_row_eq]; exact hg y h1 h2) (gm x - 1) 1 F (by omega) (by omega) (by omega),
      M_game_p75, ni_wr (by omega) (by omega), Option.bind_some, am_row_up, am_let, ni_succ]
    exact ih (x + 1) n _ (by omega) (by omega) (by omega) (fun y h1 h2 => by
      by_cases q : y = x
      · rw [q, upd_eq]
      · rw [upd_ne q]; exact hg y (by omega) h2)
end
theorem rl_junk {σ τ : am_SS} {g : Nat → Int32} (h : rl_R σ τ) : rl_R σ (am_row τ 38 g) := by simpa [rl_R, rl_N, am_row_ne] using h
theorem ca_35 : aj_S35 2000000 rl_R := by
  intro x y σ τ h
  have h := rl_told h 0
  simp only [C_game, M_game, am_let]
  generalize am_up τ 0 0 0 = τ at h ⊢
  by_cases v : rl_rg x 1 120
  case neg =>
    rw [if_neg (fun g => v (ni_in.mp g))]
    by_cases q : x < 1
    · rw [if_pos q]; exact ⟨_, _, rfl, rfl, rfl, h⟩
    · rw [if_neg q, if_pos (Decidable.byContradiction (fun g => v ⟨Int32.not_lt.mp q, Int32.not_lt.mp g⟩))]
      exact ⟨_, _, rfl, rfl, rfl, h⟩
  rw [if_neg (Int32.not_lt.mpr v.1), if_neg (Int32.not_lt.mpr v.2), if_pos (ni_in.mpr v)]
  obtain ⟨N, hN, rfl⟩ := ni_of (x := x) (by have := v.1; grind)
  have hN1 : 1 ≤ N := (ni_le (a := 1) (by omega) hN).mp v.1
  have hN2 : N ≤ 120 := (ni_le (b := 120) hN (by omega)).mp v.2
  have fin : ∃ (qC : Int32) (qM : Int32 × am_SS), C_game_p29 2000000 (Int32.ofNat N) y = some qC ∧ M_game_p34 2000000 (Int32.ofNat N) y τ = some qM ∧ qC = qM.1 ∧ rl_R σ qM.2 := by
    obtain ⟨g', e1, e2⟩ := gm_out (F := 2000000) (τ := τ) (x2 := y) (by omega) hN2 hN1 N 1 2000000 (τ 38) (by omega) (by omega) (by omega) (fun y h1 h2 => absurd h2 (by omega))
    rw [am_row_id, show Int32.ofNat 1 = 1 from rfl] at e1
    rw [C_game_p29, gm_C N (by omega) hN1, Option.bind_some, M_game_p34, e1]
    have p : ∀ s, ∃ (qC : Int32) (qM : Int32 × am_SS), C_game_p47 2000000 (Int32.ofNat (gm N)) (Int32.ofNat (gm N)) s = some qC ∧ M_game_p101 2000000 (Int32.ofNat N) s (am_row τ 38 g') = some qM ∧ qC = qM.1 ∧ rl_R σ qM.2 := by
      intro s
      have r : am_rd (am_row τ 38 g') 38 121 (Int32.ofNat N) = some (Int32.ofNat (gm N)) := by rw [ni_rd (by omega) (by omega), am_row_eq, e2]
      rw [C_game_p47, M_game_p101]
      simp only [r, Option.bind_some]
      by_cases q : s < Int32.ofNat (gm N)
      · rw [if_pos q, if_pos q]; exact ⟨_, _, rfl, rfl, rfl, rl_junk h⟩
      · rw [if_neg q, if_neg q]; exact ⟨_, _, rfl, rfl, rfl, rl_junk h⟩
    by_cases q : y = -1
    · rw [if_pos q, if_pos q]; exact p _
    · rw [if_neg q, if_neg q]; exact p _
  by_cases q : y = -1
  · rw [if_neg (show ¬ 120 < y from by rw [q]; decide), if_pos (show y < 1 from by rw [q]; decide)]
    simp only [q, if_true]
    rw [q] at fin
    exact fin
  · by_cases w : rl_rg y 1 120
    · rw [if_neg (Int32.not_lt.mpr w.2), if_neg (Int32.not_lt.mpr w.1)]
      simp only [q, if_false, rg_i w, if_true]
      exact fin
    · simp only [q, if_false, rg_ni w]
      by_cases q1 : 120 < y
      · simp only [q1, if_true]; exact ⟨_, _, rfl, rfl, rfl, h⟩
      · rw [if_neg q1, if_pos (Decidable.byContradiction (fun g => w ⟨Int32.not_lt.mp g, Int32.not_lt.mp q1⟩))]
        exact ⟨_, _, rfl, rfl, rfl, h⟩
/-- the reference's loop for pairs looks at no state -/
theorem pa_st {F : Nat} {x1 x2 : Int32} {τ τ' : am_SS} : ∀ (n : Nat) (x3 x4 : Int32), M_pairs_l33 F n x1 x2 x3 x4 τ = (M_pairs_l33 F n x1 x2 x3 x4 τ').map (fun q => (q.1, τ)) := by
  intro n
  induction n with
  | zero => intro x3 x4; rfl
  | succ n ih =>
    intro x3 x4
    rw [M_pairs_l33, M_pairs_l33]
    by_cases q : x1 - x2 < x4
    · rw [if_pos q, if_pos q]
      cases M_chosen F x1 x2 <;> rfl
    · rw [if_neg q, if_neg q]
      by_cases q' : x4 % 2 = 0
      · rw [if_pos q', if_pos q', M_pairs_p57, M_pairs_p57, am_let, am_let, am_let, am_let, ih]
      · rw [if_neg q', if_neg q', M_pairs_p57, M_pairs_p57, am_let, am_let, am_let, am_let, ih]
theorem pa_all : ∀ n, n < 11 → ∀ k, k ≤ n → C_pairs 2000000 (Int32.ofNat n) (Int32.ofNat k) = (M_pairs_l33 2000000 2000000 (Int32.ofNat n) (Int32.ofNat k) 1 1 (fun _ _ => 0)).map (fun q => q.1) ∧ (C_pairs 2000000 (Int32.ofNat n) (Int32.ofNat k)).isSome = true := by decide +kernel
theorem ca_20 : aj_S20 2000000 rl_R := by
  intro x y σ τ h
  have h := rl_told h 0
  simp only [M_pairs, am_let]
  generalize am_up τ 0 0 0 = τ at h ⊢
  by_cases v : rl_rg x 0 10
  case neg =>
    rw [if_neg (fun g => v (ni_in.mp g)), C_pairs]
    by_cases q : x < 0
    · rw [if_pos q]; exact ⟨_, _, rfl, rfl, rfl, h⟩
    · rw [if_neg q, if_pos (Decidable.byContradiction (fun g => v ⟨Int32.not_lt.mp q, Int32.not_lt.mp g⟩))]
      exact ⟨_, _, rfl, rfl, rfl, h⟩
  by_cases w : rl_rg y 0 x
  case neg =>
    rw [if_pos (ni_in.mpr v), if_neg (fun g => w (ni_in.mp g)), C_pairs, if_neg (Int32.not_lt.mpr v.1), if_neg (Int32.not_lt.mpr v.2)]
    by_cases q : y < 0
    · rw [if_pos q]; exact ⟨_, _, rfl, rfl, rfl, h⟩
    · rw [if_neg q, if_pos (Decidable.byContradiction (fun g => w ⟨Int32.not_lt.mp q, Int32.not_lt.mp g⟩))]
      exact ⟨_, _, rfl, rfl, rfl, h⟩
  rw [if_pos (ni_in.mpr v), if_pos (ni_in.mpr w)]
  obtain ⟨n, hn, rfl⟩ := ni_of (x := x) (Int32.not_lt.mpr v.1)
  obtain ⟨k, hk, rfl⟩ := ni_of (x := y) (Int32.not_lt.mpr w.1)
  obtain ⟨a, b⟩ := pa_all n (by have := (ni_le (b := 10) hn (by omega)).mp v.2; omega) k ((ni_le hk hn).mp w.2)
  obtain ⟨r, hr⟩ := Option.isSome_iff_exists.mp b
  rw [pa_st (τ' := fun _ _ => 0)]
  rw [hr] at a ⊢
  cases hm : M_pairs_l33 2000000 2000000 (Int32.ofNat n) (Int32.ofNat k) 1 1 (fun _ _ => 0) with
  | none => rw [hm] at a; cases a
  | some q =>
    rw [hm] at a
    cases a
    exact ⟨_, _, rfl, rfl, rfl, h⟩
