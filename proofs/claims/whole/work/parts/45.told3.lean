/-! L3: book, look, letter, bit, corner -/
theorem ni_div {a b : Nat} (ha : a < 2147483648) (hb : b < 2147483648) : Int32.ofNat a / Int32.ofNat b = Int32.ofNat (a / b) := by
  have h : a / b ≤ a := Nat.div_le_self a b
  apply Int32.toInt_inj.mp
  rw [Int32.toInt_div, ni_int ha, ni_int hb, ni_int (by omega), ← Int.ofNat_tdiv]
  generalize a / b = q at h
  exact Int.bmod_eq_of_le (by omega) (by omega)
theorem ni_mod {a b : Nat} (ha : a < 2147483648) (hb : b < 2147483648) : Int32.ofNat a % Int32.ofNat b = Int32.ofNat (a % b) := by
  have h : a % b ≤ a := Nat.mod_le a b
  apply Int32.toInt_inj.mp
  rw [Int32.toInt_mod, ni_int ha, ni_int hb, ni_int (by omega), ← Int.ofNat_tmod]
theorem isin_pred {x C : Int32} (h0 : 0 ≤ C) : M_isIn x 0 (C - 1) = true ↔ ¬ x < 0 ∧ x < C := by
  rw [ni_in]
  constructor <;> intro h <;> constructor <;> grind
theorem ca_12 (F : Nat) : aj_S12 F rl_R := by
  intro x y σ τ h
  have h := rl_told h 0
  simp only [C_book, M_book, am_let]
  generalize am_up τ 0 0 0 = τ at h ⊢
  have hK := h.1
  obtain ⟨n, m, -, -, -, -, ⟨c, hc, e1, e2, e3⟩, -⟩ := h.2.1
  rw [rd_2 (by decide) (by decide), Option.bind_some, e2]
  have k13 : σ 13 0 = Int32.ofNat 4 := hK.1
  by_cases q : ¬ x < 0 ∧ x < Int32.ofNat c
  · rw [if_pos ((isin_pred (by exact Int32.not_lt.mp (ni_nn (by omega)))).mpr q)]
    obtain ⟨j, hj, rfl⟩ := (ni_iff (by omega)).mp q
    by_cases q' : ¬ y < 0 ∧ y < Int32.ofNat 4
    · obtain ⟨k, hk, rfl⟩ := (ni_iff (by omega)).mp q'
      rw [if_pos (show M_isIn (Int32.ofNat k) 0 3 = true from ni_in.mpr ⟨Int32.not_lt.mp q'.1, (ni_le (b := 3) (by omega) (by omega)).mpr (by omega)⟩)]
      rw [tb_at 600 e1 k13 rfl hj hk (by omega) (by omega) (by omega) (by omega), Option.bind_some]
      rw [show (4 : Int32) * Int32.ofNat j = Int32.ofNat (4 * j) from ni_mul 4 j, ni_add, ni_rd (by omega) (by omega), Option.bind_some]
      refine ⟨_, _, rfl, rfl, ?_, h⟩
      rw [e3 _ (by omega), Nat.mul_comm j 4]
    · rw [tb_at_no2 (by rw [k13]; by_cases q1 : y < 0; exact .inl q1; exact .inr (fun g => q' ⟨q1, g⟩)), if_neg (fun g => q' (by have := ni_in.mp g; constructor <;> grind))]
      exact ⟨_, _, rfl, rfl, rfl, h⟩
  · rw [tb_at_no (by rw [e1]; by_cases q1 : x < 0; exact .inl q1; exact .inr (fun g => q ⟨q1, g⟩)), if_neg (fun g => q ((isin_pred (by exact Int32.not_lt.mp (ni_nn (by omega)))).mp g))]
    exact ⟨_, _, rfl, rfl, rfl, h⟩
theorem look_set {F n : Nat} {σ τ : am_SS} (hn : n ≤ 12) (h1 : σ 2 0 = Int32.ofNat n) (h2 : τ 0 6 = Int32.ofNat n) (h3 : ∀ j, j < 12 → σ 7 j = τ 1 (29 + j)) (h4 : ∀ j, j < 12 → rl_rg (τ 1 (29 + j)) 0 1) :
    ∀ (d j k k' : Nat) (acc : Int32), j + d = n → d < k → d < k' → ∃ r, C_Front_whoIsRead_l4 F k 2 acc (Int32.ofNat j) σ = some r ∧ M_readSet_l4 F k' acc (Int32.ofNat j) τ = some r := by
  intro d
  induction d with
  | zero =>
    intro j k k' acc hj hk hk'
    obtain ⟨k, rfl⟩ : ∃ n', k = n' + 1 := ⟨k - 1, by omega⟩
    obtain ⟨k', rfl⟩ : ∃ n', k' = n' + 1 := ⟨k' - 1, by omega⟩
    rw [C_Front_whoIsRead_l4, M_readSet_l4, h1, h2, if_neg (fun g => absurd ((ni_lt (by omega) (by omega)).mp g) (by omega)), if_neg (fun g => absurd ((ni_lt (by omega) (by omega)).mp g) (by omega))]
    exact ⟨acc, rfl, rfl⟩
  | succ d ih =>
    intro j k k' acc hj hk hk'
    obtain ⟨k, rfl⟩ : ∃ n', k = n' + 1 := ⟨k - 1, by omega⟩
    obtain ⟨k', rfl⟩ : ∃ n', k' = n' + 1 := ⟨k' - 1, by omega⟩
    have hj' : j < 12 := by omega
    rw [C_Front_whoIsRead_l4, M_readSet_l4, h1, h2, if_pos ((ni_lt (by omega) (by omega)).mpr (by omega)), if_pos ((ni_lt (by omega) (by omega)).mpr (by omega)), if_pos (show _ < (12 : Int32) from (ni_lt (b := 12) (by omega) (by omega)).mpr (by omega))]
    rw [ni_rd hj' (by omega), Option.bind_some, am_let, am_let, show (29 : Int32) + Int32.ofNat j = Int32.ofNat (29 + j) from ni_add 29 j, ni_rd (by omega) (by omega), Option.bind_some, ni_succ, h3 j hj']
    have hr := h4 j hj'
    by_cases q : τ 1 (29 + j) = 1
    · rw [if_pos q, am_let, M_readSet_p31, am_let, ni_succ, q]
      exact ih (j + 1) k k' _ (by omega) (by omega) (by omega)
    · have z : τ 1 (29 + j) = 0 := by unfold rl_rg at hr; grind
      rw [if_neg q, M_readSet_p31, am_let, ni_succ, z]
      have e : acc ||| (0 : Int32) <<< (Int32.ofNat j &&& 31) = acc := by simp
      rw [e]
      exact ih (j + 1) k k' _ (by omega) (by omega) (by omega)
theorem ca_38 (F : Nat) (hF : 2000 ≤ F) : aj_S38 F rl_R := by
  intro y σ τ h
  have h := rl_told h 0
  simp only [C_look, M_look, am_let]
  generalize am_up τ 0 0 0 = τ at h ⊢
  have h' := h
  obtain ⟨hK, ⟨n, m, hFR, hFS, hIR, hIS, hBK, hGU, hLE, hKY, hBI, hQU, hCO, hOR, hSV, hND, hLW⟩, hPS, hTP, hFT, hIM⟩ := h'
  obtain ⟨cb, hcb, eb1, eb2, eb3⟩ := hBK
  obtain ⟨f1, f2, f3, f4, f5⟩ := hFR
  obtain ⟨s1, s2, s3⟩ := hFS
  obtain ⟨i1, i2, i3⟩ := hIR
  obtain ⟨hn, hm, e6, e7, hI⟩ := hIS
  simp only [rd_0 (n := 77) (by decide) (by decide), rd_1 (n := 77) (by decide) (by decide), rd_2 (n := 77) (by decide) (by decide), rd_3 (n := 77) (by decide) (by decide), rd_4 (n := 77) (by decide) (by decide), rd_0 (n := 2) (by decide) (by decide), Option.bind_some]
  by_cases q0 : y = 0
  · simp only [q0, if_true]; exact ⟨_, _, rfl, rfl, s1, h⟩
  by_cases q1 : y = 1
  · simp only [q0, q1, if_true, if_false]; exact ⟨_, _, rfl, rfl, s2, h⟩
  by_cases q2 : y = 2
  · simp only [q0, q1, q2, if_true, if_false]; exact ⟨_, _, rfl, rfl, f1, h⟩
  by_cases q3 : y = 3
  · simp only [q0, q1, q2, q3, if_true, if_false]; exact ⟨_, _, rfl, rfl, f2, h⟩
  by_cases q4 : y = 4
  · simp only [q0, q1, q2, q3, q4, if_true, if_false]
    obtain ⟨r, r1, r2⟩ := look_set (F := F) hn (s1.trans e6) e6 (fun j hj => (f5 j hj).2.2.1) (fun j hj => (i3 j hj).2.2.1) n 0 F F 0 (by omega) (by omega) (by omega)
    rw [C_Front_whoIsRead, M_readSet, show (0 : Int32) = Int32.ofNat 0 from rfl] at *
    rw [r1, r2]
    exact ⟨_, _, rfl, rfl, rfl, h⟩
  by_cases q5 : y = 5
  · simp only [q0, q1, q2, q3, q4, q5, if_true, if_false]; exact ⟨_, _, rfl, rfl, f3, h⟩
  by_cases q6 : y = 6
  · simp only [q0, q1, q2, q3, q4, q5, q6, if_true, if_false]; exact ⟨_, _, rfl, rfl, eb1.trans eb2.symm, h⟩
  by_cases q7 : y = 7
  · simp only [q0, q1, q2, q3, q4, q5, q6, q7, if_true, if_false]; exact ⟨_, _, rfl, rfl, f4, h⟩
  by_cases q8 : y = 8
  · simp only [q0, q1, q2, q3, q4, q5, q6, q7, q8, if_true, if_false]
    obtain ⟨c, k, -, -, a1, a2, -⟩ := hLW
    exact ⟨_, _, rfl, rfl, a1.trans a2.symm, h⟩
  by_cases q9 : y = 9
  · simp only [q0, q1, q2, q3, q4, q5, q6, q7, q8, q9, if_true, if_false]
    obtain ⟨c, -, a1, a2, -⟩ := hOR
    exact ⟨_, _, rfl, rfl, a1.trans a2.symm, h⟩
  by_cases q10 : y = 10
  · simp only [q0, q1, q2, q3, q4, q5, q6, q7, q8, q9, q10, if_true, if_false]
    obtain ⟨c, -, a1, a2, -⟩ := hSV
    exact ⟨_, _, rfl, rfl, a1.trans a2.symm, h⟩
  by_cases q11 : y = 11
  · simp only [q0, q1, q2, q3, q4, q5, q6, q7, q8, q9, q10, q11, if_true, if_false]
    obtain ⟨c, -, a1, a2, -⟩ := hND
    exact ⟨_, _, rfl, rfl, a1.trans a2.symm, h⟩
  by_cases q12 : y = 12
  · simp only [q0, q1, q2, q3, q4, q5, q6, q7, q8, q9, q10, q11, q12, if_true, if_false]
    obtain ⟨p, u, b, -, -, -, -, a1, a2, -⟩ := hPS
    exact ⟨_, _, rfl, rfl, a1.trans a2.symm, h⟩
  simp only [q0, q1, q2, q3, q4, q5, q6, q7, q8, q9, q10, q11, q12, if_false]
  exact ⟨_, _, rfl, rfl, rfl, h⟩
