/-! L3: the class's image -/
theorem tc_copy {F a0 a1 : Nat} (L : Nat) {σ : am_SS} (hF : 2000 ≤ F) (h1 : a1 + 1 ≠ a0 + 1) (h2 : a1 + 1 ≠ a0) (hs : LC.2.1 (a1 + 1) = L) (hd : LC.2.1 (a0 + 1) = L) (hL : L ≤ 1000) :
    C_Table_copyFrom F a0 a1 σ = some (am_row (am_up σ a0 2 (σ a1 2)) (a0 + 1) (cp_r (σ (a1 + 1)) (σ (a0 + 1)) L)) := by
  rw [C_Table_copyFrom, am_let, cp_row L hF h1 hs hd hL, Option.bind_some, am_up_ne h2, am_up_ne (by omega)]
theorem lc_kept {k : Nat} (h1 : 1 ≤ k) (h2 : k ≤ 10) : LC.2.1 (40 + k) = 12 := by
  rcases (by omega : k = 1 ∨ k = 2 ∨ k = 3 ∨ k = 4 ∨ k = 5 ∨ k = 6 ∨ k = 7 ∨ k = 8 ∨ k = 9 ∨ k = 10) with rfl | rfl | rfl | rfl | rfl | rfl | rfl | rfl | rfl | rfl <;> rfl
theorem wc_39 {F : Nat} {σ : am_SS} (hF : 2000 ≤ F) : ∃ σ', C_War_copyFrom F 39 1 σ = some σ' ∧ (∀ c, c ≤ 39 ∨ 76 < c → σ' c = σ c) ∧
      (σ' 40 0 = σ 2 0 ∧ σ' 40 8 = σ 2 8 ∧ σ' 40 12 = σ 2 12 ∧ σ' 40 13 = σ 2 13 ∧ σ' 40 14 = σ 2 14 ∧ σ' 40 15 = σ 2 15) ∧
      (∀ k, 1 ≤ k → k ≤ 10 → ∀ j, j < 12 → σ' (40 + k) j = σ (2 + k) j) ∧
      (σ' 51 2 = σ 13 2 ∧ σ' 51 0 = σ 51 0 ∧ ∀ j, j < 600 → σ' 52 j = σ 14 j) ∧
      (σ' 54 2 = σ 16 2 ∧ σ' 54 0 = σ 54 0 ∧ ∀ j, j < 64 → σ' 55 j = σ 17 j) ∧
      (σ' 56 2 = σ 18 2 ∧ σ' 56 0 = σ 56 0 ∧ ∀ j, j < 800 → σ' 57 j = σ 19 j) ∧
      (σ' 59 2 = σ 21 2 ∧ σ' 59 0 = σ 59 0 ∧ ∀ j, j < 64 → σ' 60 j = σ 22 j) ∧
      (σ' 61 2 = σ 23 2 ∧ σ' 61 0 = σ 61 0 ∧ ∀ j, j < 64 → σ' 62 j = σ 24 j) ∧
      (σ' 63 2 = σ 25 2 ∧ σ' 63 0 = σ 63 0 ∧ ∀ j, j < 64 → σ' 64 j = σ 26 j) ∧
      (σ' 65 2 = σ 27 2 ∧ σ' 65 0 = σ 65 0 ∧ ∀ j, j < 24 → σ' 66 j = σ 28 j) ∧
      (σ' 67 2 = σ 29 2 ∧ σ' 67 0 = σ 67 0 ∧ ∀ j, j < 12 → σ' 68 j = σ 30 j) ∧
      (σ' 69 2 = σ 31 2 ∧ σ' 69 0 = σ 69 0 ∧ ∀ j, j < 4 → σ' 70 j = σ 32 j) ∧
      (σ' 71 2 = σ 33 2 ∧ σ' 71 0 = σ 71 0 ∧ ∀ j, j < 16 → σ' 72 j = σ 34 j) ∧
      (σ' 73 2 = σ 35 2 ∧ σ' 73 0 = σ 73 0 ∧ ∀ j, j < 14 → σ' 74 j = σ 36 j) ∧
      (σ' 75 2 = σ 37 2 ∧ σ' 75 0 = σ 75 0 ∧ ∀ j, j < 16 → σ' 76 j = σ 38 j) := by
  obtain ⟨σ3, y1, y2, y3, y4⟩ := cp_front (F := F) (a0 := 40) (a1 := 2) (σ := σ) hF (by omega) (fun k h1 h2 => lc_kept h1 h2) (fun k h1 h2 => lc_now h1 h2)
  rw [C_War_copyFrom, show (39 + 1 : Nat) = 40 from rfl, show (1 + 1 : Nat) = 2 from rfl, y1, Option.bind_some, tc_copy 600 hF (by omega) (by omega) rfl rfl (by omega), Option.bind_some, C_Law_copyFrom,
    tc_copy 64 hF (by omega) (by omega) rfl rfl (by omega), Option.bind_some, tc_copy 800 hF (by omega) (by omega) rfl rfl (by omega), Option.bind_some, Option.bind_some,
    tc_copy 64 hF (by omega) (by omega) rfl rfl (by omega), Option.bind_some, tc_copy 64 hF (by omega) (by omega) rfl rfl (by omega), Option.bind_some, tc_copy 64 hF (by omega) (by omega) rfl rfl (by omega), Option.bind_some, tc_copy 24 hF (by omega) (by omega) rfl rfl (by omega), Option.bind_some, tc_copy 12 hF (by omega) (by omega) rfl rfl (by omega), Option.bind_some, tc_copy 4 hF (by omega) (by omega) rfl rfl (by omega), Option.bind_some, tc_copy 16 hF (by omega) (by omega) rfl rfl (by omega), Option.bind_some, tc_copy 14 hF (by omega) (by omega) rfl rfl (by omega), Option.bind_some, tc_copy 16 hF (by omega) (by omega) rfl rfl (by omega), Option.bind_some]
  have o : ∀ c, c < 40 ∨ 40 + 10 < c → σ3 c = σ c := y2
  refine ⟨_, rfl, ?_, ?_, ?_, ?_, ?_, ?_, ?_, ?_, ?_, ?_, ?_, ?_, ?_, ?_, ?_⟩
  · intro c hc
    rw [am_row_ne (by omega), am_up_ne (by omega), am_row_ne (by omega), am_up_ne (by omega), am_row_ne (by omega), am_up_ne (by omega), am_row_ne (by omega), am_up_ne (by omega), am_row_ne (by omega), am_up_ne (by omega), am_row_ne (by omega), am_up_ne (by omega), am_row_ne (by omega), am_up_ne (by omega), am_row_ne (by omega), am_up_ne (by omega), am_row_ne (by omega), am_up_ne (by omega), am_row_ne (by omega), am_up_ne (by omega), am_row_ne (by omega), am_up_ne (by omega), am_row_ne (by omega), am_up_ne (by omega)]
    exact o c (by omega)
  · simpa [am_row_ne, am_up_ne, am_up_ap] using y3
  · intro k h1 h2 j hj
    rw [am_row_ne (by omega), am_up_ne (by omega), am_row_ne (by omega), am_up_ne (by omega), am_row_ne (by omega), am_up_ne (by omega), am_row_ne (by omega), am_up_ne (by omega), am_row_ne (by omega), am_up_ne (by omega), am_row_ne (by omega), am_up_ne (by omega), am_row_ne (by omega), am_up_ne (by omega), am_row_ne (by omega), am_up_ne (by omega), am_row_ne (by omega), am_up_ne (by omega), am_row_ne (by omega), am_up_ne (by omega), am_row_ne (by omega), am_up_ne (by omega), am_row_ne (by omega), am_up_ne (by omega)]
    exact y4 k h1 h2 j hj
  · refine ⟨by simp [am_row_ne, am_up_ne, am_up_ap, o], by simp [am_row_ne, am_up_ne, am_up_ap, o], fun j hj => ?_⟩
    simp [am_row, am_up, cp_r, o, hj]
  · refine ⟨by simp [am_row_ne, am_up_ne, am_up_ap, o], by simp [am_row_ne, am_up_ne, am_up_ap, o], fun j hj => ?_⟩
    simp [am_row, am_up, cp_r, o, hj]
  · refine ⟨by simp [am_row_ne, am_up_ne, am_up_ap, o], by simp [am_row_ne, am_up_ne, am_up_ap, o], fun j hj => ?_⟩
    simp [am_row, am_up, cp_r, o, hj]
  · refine ⟨by simp [am_row_ne, am_up_ne, am_up_ap, o], by simp [am_row_ne, am_up_ne, am_up_ap, o], fun j hj => ?_⟩
    simp [am_row, am_up, cp_r, o, hj]
  · refine ⟨by simp [am_row_ne, am_up_ne, am_up_ap, o], by simp [am_row_ne, am_up_ne, am_up_ap, o], fun j hj => ?_⟩
    simp [am_row, am_up, cp_r, o, hj]
  · refine ⟨by simp [am_row_ne, am_up_ne, am_up_ap, o], by simp [am_row_ne, am_up_ne, am_up_ap, o], fun j hj => ?_⟩
    simp [am_row, am_up, cp_r, o, hj]
  · refine ⟨by simp [am_row_ne, am_up_ne, am_up_ap, o], by simp [am_row_ne, am_up_ne, am_up_ap, o], fun j hj => ?_⟩
    simp [am_row, am_up, cp_r, o, hj]
  · refine ⟨by simp [am_row_ne, am_up_ne, am_up_ap, o], by simp [am_row_ne, am_up_ne, am_up_ap, o], fun j hj => ?_⟩
    simp [am_row, am_up, cp_r, o, hj]
  · refine ⟨by simp [am_row_ne, am_up_ne, am_up_ap, o], by simp [am_row_ne, am_up_ne, am_up_ap, o], fun j hj => ?_⟩
    simp [am_row, am_up, cp_r, o, hj]
  · refine ⟨by simp [am_row_ne, am_up_ne, am_up_ap, o], by simp [am_row_ne, am_up_ne, am_up_ap, o], fun j hj => ?_⟩
    simp [am_row, am_up, cp_r, o, hj]
  · refine ⟨by simp [am_row_ne, am_up_ne, am_up_ap, o], by simp [am_row_ne, am_up_ne, am_up_ap, o], fun j hj => ?_⟩
    simp [am_row, am_up, cp_r, o, hj]
  · refine ⟨by simp [am_row_ne, am_up_ne, am_up_ap, o], by simp [am_row_ne, am_up_ne, am_up_ap, o], fun j hj => ?_⟩
    simp [am_row, am_up, cp_r, o, hj]
theorem wc_1 {F : Nat} {σ : am_SS} (hF : 2000 ≤ F) : ∃ σ', C_War_copyFrom F 1 39 σ = some σ' ∧ (∀ c, c ≤ 1 ∨ 38 < c → σ' c = σ c) ∧
      (σ' 2 0 = σ 40 0 ∧ σ' 2 8 = σ 40 8 ∧ σ' 2 12 = σ 40 12 ∧ σ' 2 13 = σ 40 13 ∧ σ' 2 14 = σ 40 14 ∧ σ' 2 15 = σ 40 15) ∧
      (∀ k, 1 ≤ k → k ≤ 10 → ∀ j, j < 12 → σ' (2 + k) j = σ (40 + k) j) ∧
      (σ' 13 2 = σ 51 2 ∧ σ' 13 0 = σ 13 0 ∧ ∀ j, j < 600 → σ' 14 j = σ 52 j) ∧
      (σ' 16 2 = σ 54 2 ∧ σ' 16 0 = σ 16 0 ∧ ∀ j, j < 64 → σ' 17 j = σ 55 j) ∧
      (σ' 18 2 = σ 56 2 ∧ σ' 18 0 = σ 18 0 ∧ ∀ j, j < 800 → σ' 19 j = σ 57 j) ∧
      (σ' 21 2 = σ 59 2 ∧ σ' 21 0 = σ 21 0 ∧ ∀ j, j < 64 → σ' 22 j = σ 60 j) ∧
      (σ' 23 2 = σ 61 2 ∧ σ' 23 0 = σ 23 0 ∧ ∀ j, j < 64 → σ' 24 j = σ 62 j) ∧
      (σ' 25 2 = σ 63 2 ∧ σ' 25 0 = σ 25 0 ∧ ∀ j, j < 64 → σ' 26 j = σ 64 j) ∧
      (σ' 27 2 = σ 65 2 ∧ σ' 27 0 = σ 27 0 ∧ ∀ j, j < 24 → σ' 28 j = σ 66 j) ∧
      (σ' 29 2 = σ 67 2 ∧ σ' 29 0 = σ 29 0 ∧ ∀ j, j < 12 → σ' 30 j = σ 68 j) ∧
      (σ' 31 2 = σ 69 2 ∧ σ' 31 0 = σ 31 0 ∧ ∀ j, j < 4 → σ' 32 j = σ 70 j) ∧
      (σ' 33 2 = σ 71 2 ∧ σ' 33 0 = σ 33 0 ∧ ∀ j, j < 16 → σ' 34 j = σ 72 j) ∧
      (σ' 35 2 = σ 73 2 ∧ σ' 35 0 = σ 35 0 ∧ ∀ j, j < 14 → σ' 36 j = σ 74 j) ∧
      (σ' 37 2 = σ 75 2 ∧ σ' 37 0 = σ 37 0 ∧ ∀ j, j < 16 → σ' 38 j = σ 76 j) := by
  obtain ⟨σ3, y1, y2, y3, y4⟩ := cp_front (F := F) (a0 := 2) (a1 := 40) (σ := σ) hF (by omega) (fun k h1 h2 => lc_now h1 h2) (fun k h1 h2 => lc_kept h1 h2)
  rw [C_War_copyFrom, show (1 + 1 : Nat) = 2 from rfl, show (39 + 1 : Nat) = 40 from rfl, y1, Option.bind_some, tc_copy 600 hF (by omega) (by omega) rfl rfl (by omega), Option.bind_some, C_Law_copyFrom,
    tc_copy 64 hF (by omega) (by omega) rfl rfl (by omega), Option.bind_some, tc_copy 800 hF (by omega) (by omega) rfl rfl (by omega), Option.bind_some, Option.bind_some,
    tc_copy 64 hF (by omega) (by omega) rfl rfl (by omega), Option.bind_some, tc_copy 64 hF (by omega) (by omega) rfl rfl (by omega), Option.bind_some, tc_copy 64 hF (by omega) (by omega) rfl rfl (by omega), Option.bind_some, tc_copy 24 hF (by omega) (by omega) rfl rfl (by omega), Option.bind_some, tc_copy 12 hF (by omega) (by omega) rfl rfl (by omega), Option.bind_some, tc_copy 4 hF (by omega) (by omega) rfl rfl (by omega), Option.bind_some, tc_copy 16 hF (by omega) (by omega) rfl rfl (by omega), Option.bind_some, tc_copy 14 hF (by omega) (by omega) rfl rfl (by omega), Option.bind_some, tc_copy 16 hF (by omega) (by omega) rfl rfl (by omega), Option.bind_some]
  have o : ∀ c, c < 2 ∨ 2 + 10 < c → σ3 c = σ c := y2
  refine ⟨_, rfl, ?_, ?_, ?_, ?_, ?_, ?_, ?_, ?_, ?_, ?_, ?_, ?_, ?_, ?_, ?_⟩
  · intro c hc
    rw [am_row_ne (by omega), am_up_ne (by omega), am_row_ne (by omega), am_up_ne (by omega), am_row_ne (by omega), am_up_ne (by omega), am_row_ne (by omega), am_up_ne (by omega), am_row_ne (by omega), am_up_ne (by omega), am_row_ne (by omega), am_up_ne (by omega), am_row_ne (by omega), am_up_ne (by omega), am_row_ne (by omega), am_up_ne (by omega), am_row_ne (by omega), am_up_ne (by omega), am_row_ne (by omega), am_up_ne (by omega), am_row_ne (by omega), am_up_ne (by omega), am_row_ne (by omega), am_up_ne (by omega)]
    exact o c (by omega)
  · simpa [am_row_ne, am_up_ne, am_up_ap] using y3
  · intro k h1 h2 j hj
    rw [am_row_ne (by omega), am_up_ne (by omega), am_row_ne (by omega), am_up_ne (by omega), am_row_ne (by omega), am_up_ne (by omega), am_row_ne (by omega), am_up_ne (by omega), am_row_ne (by omega), am_up_ne (by omega), am_row_ne (by omega), am_up_ne (by omega), am_row_ne (by omega), am_up_ne (by omega), am_row_ne (by omega), am_up_ne (by omega), am_row_ne (by omega), am_up_ne (by omega), am_row_ne (by omega), am_up_ne (by omega), am_row_ne (by omega), am_up_ne (by omega), am_row_ne (by omega), am_up_ne (by omega)]
    exact y4 k h1 h2 j hj
  · refine ⟨by simp [am_row_ne, am_up_ne, am_up_ap, o], by simp [am_row_ne, am_up_ne, am_up_ap, o], fun j hj => ?_⟩
    simp [am_row, am_up, cp_r, o, hj]
  · refine ⟨by simp [am_row_ne, am_up_ne, am_up_ap, o], by simp [am_row_ne, am_up_ne, am_up_ap, o], fun j hj => ?_⟩
    simp [am_row, am_up, cp_r, o, hj]
  · refine ⟨by simp [am_row_ne, am_up_ne, am_up_ap, o], by simp [am_row_ne, am_up_ne, am_up_ap, o], fun j hj => ?_⟩
    simp [am_row, am_up, cp_r, o, hj]
  · refine ⟨by simp [am_row_ne, am_up_ne, am_up_ap, o], by simp [am_row_ne, am_up_ne, am_up_ap, o], fun j hj => ?_⟩
    simp [am_row, am_up, cp_r, o, hj]
  · refine ⟨by simp [am_row_ne, am_up_ne, am_up_ap, o], by simp [am_row_ne, am_up_ne, am_up_ap, o], fun j hj => ?_⟩
    simp [am_row, am_up, cp_r, o, hj]
  · refine ⟨by simp [am_row_ne, am_up_ne, am_up_ap, o], by simp [am_row_ne, am_up_ne, am_up_ap, o], fun j hj => ?_⟩
    simp [am_row, am_up, cp_r, o, hj]
  · refine ⟨by simp [am_row_ne, am_up_ne, am_up_ap, o], by simp [am_row_ne, am_up_ne, am_up_ap, o], fun j hj => ?_⟩
    simp [am_row, am_up, cp_r, o, hj]
  · refine ⟨by simp [am_row_ne, am_up_ne, am_up_ap, o], by simp [am_row_ne, am_up_ne, am_up_ap, o], fun j hj => ?_⟩
    simp [am_row, am_up, cp_r, o, hj]
  · refine ⟨by simp [am_row_ne, am_up_ne, am_up_ap, o], by simp [am_row_ne, am_up_ne, am_up_ap, o], fun j hj => ?_⟩
    simp [am_row, am_up, cp_r, o, hj]
  · refine ⟨by simp [am_row_ne, am_up_ne, am_up_ap, o], by simp [am_row_ne, am_up_ne, am_up_ap, o], fun j hj => ?_⟩
    simp [am_row, am_up, cp_r, o, hj]
  · refine ⟨by simp [am_row_ne, am_up_ne, am_up_ap, o], by simp [am_row_ne, am_up_ne, am_up_ap, o], fun j hj => ?_⟩
    simp [am_row, am_up, cp_r, o, hj]
  · refine ⟨by simp [am_row_ne, am_up_ne, am_up_ap, o], by simp [am_row_ne, am_up_ne, am_up_ap, o], fun j hj => ?_⟩
    simp [am_row, am_up, cp_r, o, hj]
