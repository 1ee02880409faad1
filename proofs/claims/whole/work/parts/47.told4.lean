/-! L3: guess, queen, feast -/
theorem gu_word {F : Nat} (hF : 2000 ≤ F) (x : Int32) : M_isWordOfNight F x = some (C_Nights_isWord x) := by
  by_cases h : M_isIn x 0 5555 = true
  · have h' := ni_in.mp h
    obtain ⟨a, ha, rfl⟩ := ni_of (x := x) (by grind)
    have ha' : a ≤ 5555 := (ni_le (b := 5555) (by omega) (by omega)).mp h'.2
    obtain ⟨k, rfl⟩ : ∃ k, F = k + 5 := ⟨F - 5, by omega⟩
    rw [M_isWordOfNight, if_pos h]
    have e : M_isWordOfNight_l16 (k + 5) (k + 5) (Int32.ofNat a) 0 = if 5 < M_digitOf (Int32.ofNat a) 0 then some false else if 5 < M_digitOf (Int32.ofNat a) 1 then some false else
      if 5 < M_digitOf (Int32.ofNat a) 2 then some false else if 5 < M_digitOf (Int32.ofNat a) 3 then some false else some true := by
      simp [M_isWordOfNight_l16, am_let]
    rw [e]
    have d0 : M_digitOf (Int32.ofNat a) 0 = Int32.ofNat (a / 1000) := by
      rw [M_digitOf, if_pos rfl]; exact ni_div (b := 1000) (by omega) (by omega)
    have d1 : M_digitOf (Int32.ofNat a) 1 = Int32.ofNat (a / 100 % 10) := by
      rw [M_digitOf, if_neg (by decide), if_pos rfl, show (100 : Int32) = Int32.ofNat 100 from rfl, ni_div (by omega) (by omega)]; exact ni_mod (b := 10) (by omega) (by omega)
    have d2 : M_digitOf (Int32.ofNat a) 2 = Int32.ofNat (a / 10 % 10) := by
      rw [M_digitOf, if_neg (by decide), if_neg (by decide), if_pos rfl, show (10 : Int32) = Int32.ofNat 10 from rfl, ni_div (by omega) (by omega)]; exact ni_mod (b := 10) (by omega) (by omega)
    have d3 : M_digitOf (Int32.ofNat a) 3 = Int32.ofNat (a % 10) := by
      rw [M_digitOf, if_neg (by decide), if_neg (by decide), if_neg (by decide)]; exact ni_mod (b := 10) (by omega) (by omega)
    have c1 : Int32.ofNat a % 10 = Int32.ofNat (a % 10) := ni_mod (b := 10) (by omega) (by omega)
    have c2 : Int32.ofNat a / 10 % 10 = Int32.ofNat (a / 10 % 10) := by
      rw [show (10 : Int32) = Int32.ofNat 10 from rfl, ni_div (by omega) (by omega)]; exact ni_mod (b := 10) (by omega) (by omega)
    have c3 : Int32.ofNat a / 100 % 10 = Int32.ofNat (a / 100 % 10) := by
      rw [show (100 : Int32) = Int32.ofNat 100 from rfl, ni_div (by omega) (by omega)]; exact ni_mod (b := 10) (by omega) (by omega)
    rw [d0, d1, d2, d3, C_Nights_isWord, c1, c2, c3, if_neg (ni_nn (by omega)), if_neg (fun g : (5555 : Int32) < _ => absurd ((ni_lt (a := 5555) (by omega) (by omega)).mp g) (by omega))]
    have g5 : ∀ b : Nat, b < 2147483648 → ((5 : Int32) < Int32.ofNat b ↔ 5 < b) := fun b hb => ni_lt (a := 5) (by omega) hb
    have g6 : ∀ b : Nat, b < 2147483648 → (Int32.ofNat b < (6 : Int32) ↔ b < 6) := fun b hb => ni_lt (b := 6) hb (by omega)
    simp only [g5 _ (show a / 1000 < 2147483648 by omega), g5 _ (show a / 100 % 10 < 2147483648 by omega), g5 _ (show a / 10 % 10 < 2147483648 by omega), g5 _ (show a % 10 < 2147483648 by omega),
      g6 _ (show a / 100 % 10 < 2147483648 by omega), g6 _ (show a / 10 % 10 < 2147483648 by omega), g6 _ (show a % 10 < 2147483648 by omega)]
    have b0 : ¬ 5 < a / 1000 := by omega
    have n1 : 5 < a % 10 ↔ ¬ a % 10 < 6 := by omega
    have n2 : 5 < a / 10 % 10 ↔ ¬ a / 10 % 10 < 6 := by omega
    have n3 : 5 < a / 100 % 10 ↔ ¬ a / 100 % 10 < 6 := by omega
    rw [if_neg b0]
    by_cases b1 : a % 10 < 6 <;> by_cases b2 : a / 10 % 10 < 6 <;> by_cases b3 : a / 100 % 10 < 6 <;> simp [n1, n2, n3, b1, b2, b3]
  · rw [M_isWordOfNight, if_neg h, C_Nights_isWord]
    by_cases q : x < 0
    · rw [if_pos q]
    · rw [if_neg q, if_pos (by have := mt ni_in.mpr h; grind)]
theorem gu_rg {x : Int32} (h : C_Nights_isWord x = true) : rl_rg x 0 5555 := by
  unfold C_Nights_isWord at h
  by_cases q : x < 0
  · simp [q] at h
  by_cases q' : 5555 < x
  · simp [q, q'] at h
  unfold rl_rg; grind
theorem ca_15 (F : Nat) (hF : 2000 ≤ F) : aj_S15 F rl_R := by
  intro x y z σ τ h
  have h := rl_told h 0
  simp only [C_guess, M_guess, am_let, C_Table_clear, C_guess_p40, C_guess_p41, bi_E, gu_word hF, Option.bind_some]
  generalize am_up τ 0 0 0 = τ at h ⊢
  have h' := h
  obtain ⟨hK, ⟨n, m, hFR, hFS, hIR, hIS, hBK, hGU, hLE, hKY, hBI, hQU, hCO, hOR, hSV, hND, hLW⟩, hPS, hTP, hFT, hIM⟩ := h'
  obtain ⟨c, hc, e1, e2, e3⟩ := hGU
  have w : σ 27 0 = 3 := hK.2.2.2.2.2.2.1
  by_cases q : x = -1
  · simp only [q, if_true]
    refine ⟨_, _, rfl, rfl, rfl, ?_⟩
    refine ⟨?_, ⟨n, m, ?_, ?_, ?_, ?_, ?_, ?_, ?_, ?_, ?_, ?_, ?_, ?_, ?_, ?_, ?_⟩, ?_, ?_, ?_, ?_⟩
    · simpa [C_Past_forget, am_let, am_up_ap, am_up_ne, am_up_row, rl_pf_up, rl_IM_up] using hK
    · simpa [C_Past_forget, am_let, am_up_ap, am_up_ne, am_up_row, rl_pf_up, rl_IM_up] using hFR
    · simpa [C_Past_forget, am_let, am_up_ap, am_up_ne, am_up_row, rl_pf_up, rl_IM_up] using hFS
    · simpa [C_Past_forget, am_let, am_up_ap, am_up_ne, am_up_row, rl_pf_up, rl_IM_up] using hIR
    · simpa [C_Past_forget, am_let, am_up_ap, am_up_ne, am_up_row, rl_pf_up, rl_IM_up] using hIS
    · simpa [C_Past_forget, am_let, am_up_ap, am_up_ne, am_up_row, rl_pf_up, rl_IM_up] using hBK
    · simpa [am_up_ap, am_up_ne, am_up_row] using ⟨0, by omega, rfl, rfl, e3⟩
    · simpa [C_Past_forget, am_let, am_up_ap, am_up_ne, am_up_row, rl_pf_up, rl_IM_up] using hLE
    · simpa [C_Past_forget, am_let, am_up_ap, am_up_ne, am_up_row, rl_pf_up, rl_IM_up] using hKY
    · simpa [C_Past_forget, am_let, am_up_ap, am_up_ne, am_up_row, rl_pf_up, rl_IM_up] using hBI
    · simpa [C_Past_forget, am_let, am_up_ap, am_up_ne, am_up_row, rl_pf_up, rl_IM_up] using hQU
    · simpa [C_Past_forget, am_let, am_up_ap, am_up_ne, am_up_row, rl_pf_up, rl_IM_up] using hCO
    · simpa [C_Past_forget, am_let, am_up_ap, am_up_ne, am_up_row, rl_pf_up, rl_IM_up] using hOR
    · simpa [C_Past_forget, am_let, am_up_ap, am_up_ne, am_up_row, rl_pf_up, rl_IM_up] using hSV
    · simpa [C_Past_forget, am_let, am_up_ap, am_up_ne, am_up_row, rl_pf_up, rl_IM_up] using hND
    · simpa [C_Past_forget, am_let, am_up_ap, am_up_ne, am_up_row, rl_pf_up, rl_IM_up] using hLW
    · simpa [C_Past_forget, am_let, am_up_ap, am_up_ne, am_up_row, rl_pf_up, rl_IM_up] using hPS
    · simpa [C_Past_forget, am_let, am_up_ap, am_up_ne, am_up_row, rl_pf_up, rl_IM_up] using hTP
    · simpa [C_Past_forget, am_let, am_up_ap, am_up_ne, am_up_row, rl_pf_up, rl_IM_up] using hFT
    · simpa [C_Past_forget, am_let, am_up_ap, am_up_ne, am_up_row, rl_pf_up, rl_IM_up] using hIM
  by_cases v : rl_rg y 0 4 ∧ rl_rg z 0 4 ∧ ¬ 4 < y + z
  · have v1 : ¬ y < 0 ∧ ¬ 4 < y ∧ ¬ z < 0 ∧ ¬ 4 - y < z := by
      unfold rl_rg at v
      refine ⟨?_, ?_, ?_, ?_⟩ <;> grind
    by_cases qw : C_Nights_isWord x = true
    · simp only [q, v1.1, v1.2.1, v1.2.2.1, v1.2.2.2, if_false, if_true, qw, rg_i v.1, rg_i v.2.1, v.2.2, e2]
      by_cases q8 : c = 8
      · subst q8
        rw [tb_full (w := 3) 24 e1 w rfl (by omega) (by omega) (by omega), if_pos (show Int32.ofNat 8 = 8 from rfl)]
        exact ⟨_, _, rfl, rfl, rfl, h⟩
      · simp only [ni_neL (c := c) (x := 8) 8 rfl (by omega) (by omega) q8, if_false]
        rw [add_3 24 hF e1 w rfl (by omega) (by omega), ni_wr (by omega) (by omega), Option.bind_some]
        simp only [show am_up τ 24 c x 0 44 = Int32.ofNat c from e2]
        rw [ni_wr (by omega) (by omega), Option.bind_some]
        simp only [show am_up (am_up τ 24 c x) 25 c y 0 44 = Int32.ofNat c from e2]
        rw [ni_wr (by omega) (by omega), Option.bind_some]
        refine ⟨_, _, rfl, rfl, ?_, ?_⟩
        · simp [am_up_ap, e2]
        refine ⟨?_, ⟨n, m, ?_, ?_, ?_, ?_, ?_, ?_, ?_, ?_, ?_, ?_, ?_, ?_, ?_, ?_, ?_⟩, ?_, ?_, ?_, ?_⟩
        · simpa [C_Past_forget, am_let, am_up_ap, am_up_ne, am_up_row, rl_pf_up, rl_IM_up] using hK
        · simpa [C_Past_forget, am_let, am_up_ap, am_up_ne, am_up_row, rl_pf_up, rl_IM_up] using hFR
        · simpa [C_Past_forget, am_let, am_up_ap, am_up_ne, am_up_row, rl_pf_up, rl_IM_up] using hFS
        · simpa [C_Past_forget, am_let, am_up_ap, am_up_ne, am_up_row, rl_pf_up, rl_IM_up] using hIR
        · simpa [C_Past_forget, am_let, am_up_ap, am_up_ne, am_up_row, rl_pf_up, rl_IM_up] using hIS
        · simpa [C_Past_forget, am_let, am_up_ap, am_up_ne, am_up_row, rl_pf_up, rl_IM_up] using hBK
        · refine ⟨c + 1, by omega, by simp [am_up_ap], by simp [am_up_ap, e2], fun k hk => ?_⟩
          have h3 := e3 k hk
          by_cases qk : k = c
          · subst qk; simpa [upd, am_up_ap, am_up_ne, am_up_row] using ⟨gu_rg qw, v.1, v.2.1⟩
          · have a1 : 3 * k ≠ 3 * c + 1 := by omega
            have a2 : 3 * k ≠ 3 * c + 2 := by omega
            have a3 : 3 * k + 1 ≠ 3 * c := by omega
            have a4 : 3 * k + 1 ≠ 3 * c + 2 := by omega
            have a5 : 3 * k + 2 ≠ 3 * c := by omega
            have a6 : 3 * k + 2 ≠ 3 * c + 1 := by omega
            have a7 : ¬ 3 * k = 3 * c := by omega
            simpa [upd, qk, a1, a2, a3, a4, a5, a6, a7, am_up_ap, am_up_ne, am_up_row] using h3
        · simpa [C_Past_forget, am_let, am_up_ap, am_up_ne, am_up_row, rl_pf_up, rl_IM_up] using hLE
        · simpa [C_Past_forget, am_let, am_up_ap, am_up_ne, am_up_row, rl_pf_up, rl_IM_up] using hKY
        · simpa [C_Past_forget, am_let, am_up_ap, am_up_ne, am_up_row, rl_pf_up, rl_IM_up] using hBI
        · simpa [C_Past_forget, am_let, am_up_ap, am_up_ne, am_up_row, rl_pf_up, rl_IM_up] using hQU
        · simpa [C_Past_forget, am_let, am_up_ap, am_up_ne, am_up_row, rl_pf_up, rl_IM_up] using hCO
        · simpa [C_Past_forget, am_let, am_up_ap, am_up_ne, am_up_row, rl_pf_up, rl_IM_up] using hOR
        · simpa [C_Past_forget, am_let, am_up_ap, am_up_ne, am_up_row, rl_pf_up, rl_IM_up] using hSV
        · simpa [C_Past_forget, am_let, am_up_ap, am_up_ne, am_up_row, rl_pf_up, rl_IM_up] using hND
        · simpa [C_Past_forget, am_let, am_up_ap, am_up_ne, am_up_row, rl_pf_up, rl_IM_up] using hLW
        · simpa [C_Past_forget, am_let, am_up_ap, am_up_ne, am_up_row, rl_pf_up, rl_IM_up] using hPS
        · simpa [C_Past_forget, am_let, am_up_ap, am_up_ne, am_up_row, rl_pf_up, rl_IM_up] using hTP
        · simpa [C_Past_forget, am_let, am_up_ap, am_up_ne, am_up_row, rl_pf_up, rl_IM_up] using hFT
        · simpa [C_Past_forget, am_let, am_up_ap, am_up_ne, am_up_row, rl_pf_up, rl_IM_up] using hIM
    · simp only [q, v1.1, v1.2.1, v1.2.2.1, v1.2.2.2, if_false, if_true, qw]
      exact ⟨_, _, rfl, rfl, rfl, h⟩
  · have eC : ∀ A : Option (Int32 × am_SS), (if y < 0 then some (-1, σ) else if 4 < y then some (-1, σ) else if z < 0 then some (-1, σ) else if 4 - y < z then some (-1, σ) else A) = some (-1, σ) := by
      intro A
      unfold rl_rg at v
      split <;> try rfl
      split <;> try rfl
      split <;> try rfl
      split <;> try rfl
      exact absurd (by refine ⟨⟨?_, ?_⟩, ⟨?_, ?_⟩, ?_⟩ <;> grind) v
    simp only [q, if_false, if_true, Bool.false_eq_true, eC]
    by_cases q1 : C_Nights_isWord x = true
    · by_cases q2 : rl_rg y 0 4
      · by_cases q3 : rl_rg z 0 4
        · have q4 : 4 < y + z := Decidable.byContradiction (fun g => v ⟨q2, q3, g⟩)
          simp only [q1, if_true, rg_i q2, rg_i q3, q4]
          exact ⟨_, _, rfl, rfl, rfl, h⟩
        · simp only [q1, if_true, rg_i q2, rg_ni q3, if_false]
          exact ⟨_, _, rfl, rfl, rfl, h⟩
      · simp only [q1, if_true, rg_ni q2, if_false]
        exact ⟨_, _, rfl, rfl, rfl, h⟩
    · simp only [q1, if_false]
      exact ⟨_, _, rfl, rfl, rfl, h⟩
theorem qu_same {x y a b v : Int32} (hx : 0 ≤ x ∧ x ≤ 6) (hy : 0 ≤ y ∧ y ≤ 6) (ha : rl_rg a 0 6) (hb : rl_rg b 0 6) (hv : v = 7 * b + a) : (v = 7 * y + x) ↔ (a = x ∧ b = y) := by
  unfold rl_rg at ha hb
  constructor
  · intro q; constructor <;> grind
  · rintro ⟨rfl, rfl⟩; exact hv
theorem qu_loop {F c : Nat} {x y : Int32} {σ τ : am_SS} (hc : c ≤ 7) (w : σ 35 0 = 2) (e1 : σ 35 2 = Int32.ofNat c) (e2 : τ 0 56 = Int32.ofNat c) (hx : 0 ≤ x ∧ x ≤ 6) (hy : 0 ≤ y ∧ y ≤ 6)
    (e3 : ∀ k, k < 7 → τ 34 k = 7 * σ 36 (2 * k + 1) + σ 36 (2 * k) ∧ rl_rg (σ 36 (2 * k)) 0 6 ∧ rl_rg (σ 36 (2 * k + 1)) 0 6) :
    ∀ (d j k k' : Nat), j + d = c → d < k → d < k' →
    (C_Table_has_l2 F k 35 x y (Int32.ofNat j) σ = some true ∧ M_queen_l52 F k' x y (Int32.ofNat j) τ = some (-1, τ)) ∨
    (C_Table_has_l2 F k 35 x y (Int32.ofNat j) σ = some false ∧ M_queen_l52 F k' x y (Int32.ofNat j) τ = (am_wr τ 34 7 (τ 0 56) ((7 * y) + x)).bind (fun σ_2 => am_let (am_up σ_2 0 56 ((σ_2 0 56) + 1)) (fun σ_3 => some ((σ_3 0 56), σ_3)))) := by
  intro d
  induction d with
  | zero =>
    intro j k k' hj hk hk'
    obtain ⟨k, rfl⟩ : ∃ n', k = n' + 1 := ⟨k - 1, by omega⟩
    obtain ⟨k', rfl⟩ : ∃ n', k' = n' + 1 := ⟨k' - 1, by omega⟩
    right
    rw [C_Table_has_l2, M_queen_l52, e1, e2, if_neg (fun g => absurd ((ni_lt (by omega) (by omega)).mp g) (by omega)), if_neg (fun g => absurd ((ni_lt (by omega) (by omega)).mp g) (by omega))]
    exact ⟨rfl, rfl⟩
  | succ d ih =>
    intro j k k' hj hk hk'
    obtain ⟨k, rfl⟩ : ∃ n', k = n' + 1 := ⟨k - 1, by omega⟩
    obtain ⟨k', rfl⟩ : ∃ n', k' = n' + 1 := ⟨k' - 1, by omega⟩
    have hj' : j < 7 := by omega
    obtain ⟨a1, a2, a3⟩ := e3 j hj'
    have same := qu_same hx hy a2 a3 a1
    have s0 : C_Table_at 35 (Int32.ofNat j) 0 σ = some (σ 36 (2 * j)) := by
      rw [show (0 : Int32) = Int32.ofNat 0 from rfl, tb_at (w := 2) 14 e1 w rfl (by omega) (by omega) (by omega) (by omega) (by omega) (by omega), Nat.mul_comm j 2]; rfl
    have s1 : C_Table_at 35 (Int32.ofNat j) 1 σ = some (σ 36 (2 * j + 1)) := by
      rw [show (1 : Int32) = Int32.ofNat 1 from rfl, tb_at (w := 2) 14 e1 w rfl (by omega) (by omega) (by omega) (by omega) (by omega) (by omega), Nat.mul_comm j 2]
    rw [C_Table_has_l2, M_queen_l52, e1, e2, if_pos ((ni_lt (by omega) (by omega)).mpr (by omega)), if_pos ((ni_lt (by omega) (by omega)).mpr (by omega)), s0, Option.bind_some, s1, Option.bind_some, ni_rd hj' (by omega), Option.bind_some]
    have ih' := ih (j + 1) k k' (by omega) (by omega) (by omega)
    rw [C_Table_has_p32, am_let, am_let, ni_succ]
    rw [e2] at ih'
    by_cases qa : σ 36 (2 * j) = x
    · by_cases qb : σ 36 (2 * j + 1) = y
      · left
        rw [if_pos qa, if_pos qb, if_pos (same.mpr ⟨qa, qb⟩)]
        exact ⟨rfl, rfl⟩
      · rw [if_pos qa, if_neg qb, if_neg (fun g => qb (same.mp g).2)]
        exact ih'
    · rw [if_neg qa, if_neg (fun g => qa (same.mp g).1)]
      exact ih'
theorem ca_28 (F : Nat) (hF : 2000 ≤ F) : aj_S28 F rl_R := by
  intro x y σ τ h
  have h := rl_told h 0
  simp only [C_queen, M_queen, am_let, C_Table_clear, C_queen_p40, C_queen_p41, C_Table_has, bi_E]
  generalize am_up τ 0 0 0 = τ at h ⊢
  have h' := h
  obtain ⟨hK, ⟨n, m, hFR, hFS, hIR, hIS, hBK, hGU, hLE, hKY, hBI, hQU, hCO, hOR, hSV, hND, hLW⟩, hPS, hTP, hFT, hIM⟩ := h'
  obtain ⟨c, hc, e1, e2, e3⟩ := hQU
  have w : σ 35 0 = 2 := hK.2.2.2.2.2.2.2.2.2.2.1
  by_cases q : x = -1
  · simp only [q, if_true]
    refine ⟨_, _, rfl, rfl, rfl, ?_⟩
    refine ⟨?_, ⟨n, m, ?_, ?_, ?_, ?_, ?_, ?_, ?_, ?_, ?_, ?_, ?_, ?_, ?_, ?_, ?_⟩, ?_, ?_, ?_, ?_⟩
    · simpa [C_Past_forget, am_let, am_up_ap, am_up_ne, am_up_row, rl_pf_up, rl_IM_up] using hK
    · simpa [C_Past_forget, am_let, am_up_ap, am_up_ne, am_up_row, rl_pf_up, rl_IM_up] using hFR
    · simpa [C_Past_forget, am_let, am_up_ap, am_up_ne, am_up_row, rl_pf_up, rl_IM_up] using hFS
    · simpa [C_Past_forget, am_let, am_up_ap, am_up_ne, am_up_row, rl_pf_up, rl_IM_up] using hIR
    · simpa [C_Past_forget, am_let, am_up_ap, am_up_ne, am_up_row, rl_pf_up, rl_IM_up] using hIS
    · simpa [C_Past_forget, am_let, am_up_ap, am_up_ne, am_up_row, rl_pf_up, rl_IM_up] using hBK
    · simpa [C_Past_forget, am_let, am_up_ap, am_up_ne, am_up_row, rl_pf_up, rl_IM_up] using hGU
    · simpa [C_Past_forget, am_let, am_up_ap, am_up_ne, am_up_row, rl_pf_up, rl_IM_up] using hLE
    · simpa [C_Past_forget, am_let, am_up_ap, am_up_ne, am_up_row, rl_pf_up, rl_IM_up] using hKY
    · simpa [C_Past_forget, am_let, am_up_ap, am_up_ne, am_up_row, rl_pf_up, rl_IM_up] using hBI
    · simpa [am_up_ap, am_up_ne, am_up_row] using ⟨0, by omega, rfl, rfl, e3⟩
    · simpa [C_Past_forget, am_let, am_up_ap, am_up_ne, am_up_row, rl_pf_up, rl_IM_up] using hCO
    · simpa [C_Past_forget, am_let, am_up_ap, am_up_ne, am_up_row, rl_pf_up, rl_IM_up] using hOR
    · simpa [C_Past_forget, am_let, am_up_ap, am_up_ne, am_up_row, rl_pf_up, rl_IM_up] using hSV
    · simpa [C_Past_forget, am_let, am_up_ap, am_up_ne, am_up_row, rl_pf_up, rl_IM_up] using hND
    · simpa [C_Past_forget, am_let, am_up_ap, am_up_ne, am_up_row, rl_pf_up, rl_IM_up] using hLW
    · simpa [C_Past_forget, am_let, am_up_ap, am_up_ne, am_up_row, rl_pf_up, rl_IM_up] using hPS
    · simpa [C_Past_forget, am_let, am_up_ap, am_up_ne, am_up_row, rl_pf_up, rl_IM_up] using hTP
    · simpa [C_Past_forget, am_let, am_up_ap, am_up_ne, am_up_row, rl_pf_up, rl_IM_up] using hFT
    · simpa [C_Past_forget, am_let, am_up_ap, am_up_ne, am_up_row, rl_pf_up, rl_IM_up] using hIM
  by_cases v : rl_rg x 0 6 ∧ rl_rg y 0 6
  · have v1 : ¬ x < 0 ∧ x < 7 ∧ ¬ y < 0 ∧ y < 7 := by
      unfold rl_rg at v
      refine ⟨?_, ?_, ?_, ?_⟩ <;> grind
    simp only [q, v1.1, v1.2.1, v1.2.2.1, v1.2.2.2, if_false, if_true, rg_i v.1, rg_i v.2]
    have lp := qu_loop (F := F) hc w e1 e2 v.1 v.2 e3 c 0 F F (by omega) (by omega) (by omega)
    rw [show Int32.ofNat 0 = 0 from rfl] at lp
    rcases lp with ⟨l1, l2⟩ | ⟨l1, l2⟩
    · simp only [l1, l2, Option.bind_some, if_true]
      by_cases q7 : τ 0 56 = 7
      · simp only [q7, if_true]; exact ⟨_, _, rfl, rfl, rfl, h⟩
      · simp only [q7, if_false]; exact ⟨_, _, rfl, rfl, rfl, h⟩
    · simp only [l1, l2, Option.bind_some, Bool.false_eq_true, if_false, e2]
      by_cases q7 : c = 7
      · subst q7
        rw [tb_full (w := 2) 14 e1 w rfl (by omega) (by omega) (by omega), if_pos (show Int32.ofNat 7 = 7 from rfl)]
        exact ⟨_, _, rfl, rfl, rfl, h⟩
      · simp only [ni_neL (c := c) (x := 7) 7 rfl (by omega) (by omega) q7, if_false]
        rw [add_2 14 hF e1 w rfl (by omega) (by omega), ni_wr (by omega) (by omega), Option.bind_some, am_let]
        refine ⟨_, _, rfl, rfl, ?_, ?_⟩
        · simp [am_up_ap, e2]
        refine ⟨?_, ⟨n, m, ?_, ?_, ?_, ?_, ?_, ?_, ?_, ?_, ?_, ?_, ?_, ?_, ?_, ?_, ?_⟩, ?_, ?_, ?_, ?_⟩
        · simpa [C_Past_forget, am_let, am_up_ap, am_up_ne, am_up_row, rl_pf_up, rl_IM_up] using hK
        · simpa [C_Past_forget, am_let, am_up_ap, am_up_ne, am_up_row, rl_pf_up, rl_IM_up] using hFR
        · simpa [C_Past_forget, am_let, am_up_ap, am_up_ne, am_up_row, rl_pf_up, rl_IM_up] using hFS
        · simpa [C_Past_forget, am_let, am_up_ap, am_up_ne, am_up_row, rl_pf_up, rl_IM_up] using hIR
        · simpa [C_Past_forget, am_let, am_up_ap, am_up_ne, am_up_row, rl_pf_up, rl_IM_up] using hIS
        · simpa [C_Past_forget, am_let, am_up_ap, am_up_ne, am_up_row, rl_pf_up, rl_IM_up] using hBK
        · simpa [C_Past_forget, am_let, am_up_ap, am_up_ne, am_up_row, rl_pf_up, rl_IM_up] using hGU
        · simpa [C_Past_forget, am_let, am_up_ap, am_up_ne, am_up_row, rl_pf_up, rl_IM_up] using hLE
        · simpa [C_Past_forget, am_let, am_up_ap, am_up_ne, am_up_row, rl_pf_up, rl_IM_up] using hKY
        · simpa [C_Past_forget, am_let, am_up_ap, am_up_ne, am_up_row, rl_pf_up, rl_IM_up] using hBI
        · refine ⟨c + 1, by omega, by simp [am_up_ap], by simp [am_up_ap, e2], fun k hk => ?_⟩
          have h3 := e3 k hk
          by_cases qk : k = c
          · subst qk; simpa [upd, am_up_ap, am_up_ne, am_up_row] using v
          · have a1 : ¬ 2 * k = 2 * c + 1 := by omega
            have a2 : ¬ 2 * k + 1 = 2 * c := by omega
            have a3 : ¬ 2 * k = 2 * c := by omega
            simpa [upd, qk, a1, a2, a3, am_up_ap, am_up_ne, am_up_row] using h3
        · simpa [C_Past_forget, am_let, am_up_ap, am_up_ne, am_up_row, rl_pf_up, rl_IM_up] using hCO
        · simpa [C_Past_forget, am_let, am_up_ap, am_up_ne, am_up_row, rl_pf_up, rl_IM_up] using hOR
        · simpa [C_Past_forget, am_let, am_up_ap, am_up_ne, am_up_row, rl_pf_up, rl_IM_up] using hSV
        · simpa [C_Past_forget, am_let, am_up_ap, am_up_ne, am_up_row, rl_pf_up, rl_IM_up] using hND
        · simpa [C_Past_forget, am_let, am_up_ap, am_up_ne, am_up_row, rl_pf_up, rl_IM_up] using hLW
        · simpa [C_Past_forget, am_let, am_up_ap, am_up_ne, am_up_row, rl_pf_up, rl_IM_up] using hPS
        · simpa [C_Past_forget, am_let, am_up_ap, am_up_ne, am_up_row, rl_pf_up, rl_IM_up] using hTP
        · simpa [C_Past_forget, am_let, am_up_ap, am_up_ne, am_up_row, rl_pf_up, rl_IM_up] using hFT
        · simpa [C_Past_forget, am_let, am_up_ap, am_up_ne, am_up_row, rl_pf_up, rl_IM_up] using hIM
  · have e4 : ∀ A : Option (Int32 × am_SS), (if x < 0 then some (-1, σ) else if x < 7 then (if y < 0 then some (-1, σ) else if y < 7 then A else some (-1, σ)) else some (-1, σ)) = some (-1, σ) := by
      intro A
      unfold rl_rg at v
      split <;> try rfl
      split <;> try rfl
      split <;> try rfl
      split <;> try rfl
      exact absurd (by refine ⟨⟨?_, ?_⟩, ⟨?_, ?_⟩⟩ <;> grind) v
    simp only [q, if_false, if_true, Bool.false_eq_true, e4]
    by_cases q1 : rl_rg x 0 6
    · simp only [rg_i q1, rg_ni (fun g => v ⟨q1, g⟩), if_true, if_false]
      exact ⟨_, _, rfl, rfl, rfl, h⟩
    · simp only [rg_ni q1, if_false]
      exact ⟨_, _, rfl, rfl, rfl, h⟩
