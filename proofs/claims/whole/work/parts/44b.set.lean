/-! L3: set -/
theorem set_M {k w v : Int32} {τ : am_SS} {b : Bool} (h : M_canSet k w v τ = some b) : (M_canSet k w v τ).bind (fun q_2 => if q_2 = true then (if k = 0 then (am_wr τ 5 12 w v).bind (fun σ_5 => M_set_p28 k w v σ_5) else M_set_p28 k w v τ) else some (false, τ)) =
    if b = true then (if k = 0 then (am_wr τ 5 12 w v).bind (fun σ_5 => M_set_p28 k w v σ_5) else M_set_p28 k w v τ) else some (false, τ) := by
  rw [h, Option.bind_some]

theorem set_0 {w v : Int32} {σ τ : am_SS} {n : Nat} (hn : n ≤ 12) (e0 : σ 2 0 = Int32.ofNat n) (e6 : τ 0 6 = Int32.ofNat n) :
    (∃ j, j < n ∧ w = Int32.ofNat j ∧ rl_rg v 0 9 ∧ C_set 0 w v σ = some (true, am_up (am_up σ 4 j v) 88 3 0) ∧
      (M_canSet 0 w v τ).bind (fun q_2 => if q_2 = true then (if (0 : Int32) = 0 then (am_wr τ 5 12 w v).bind (fun σ_5 => M_set_p28 0 w v σ_5) else M_set_p28 0 w v τ) else some (false, τ)) = some (true, am_up (am_up τ 5 j v) 0 3 0)) ∨
    (C_set 0 w v σ = some (false, σ) ∧ M_canSet 0 w v τ = some false) := by
  have i1 : M_isIn 0 0 2 = true := by decide
  by_cases q : ∃ j, j < n ∧ w = Int32.ofNat j
  · by_cases qv : 0 ≤ v ∧ v ≤ 9
    · left
      obtain ⟨j, hj, rfl⟩ := q
      refine ⟨j, hj, rfl, qv, ?_, ?_⟩
      · rw [C_set, if_neg (by decide), if_neg (by decide), C_Front_putOfficer, if_pos ((ho_iff e0 hn).mpr ⟨j, hj, rfl⟩), if_neg (by grind)]
        rw [if_pos rfl, C_Front_putOfficer_p24, if_neg (by grind), if_pos rfl, C_Front_putOfficer_p56, show LC.2.1 (2 + 2) = 12 from rfl, ni_wr (by omega) (by omega), Option.bind_some, Option.bind_some, C_set_p81, if_pos rfl]
        rfl
      · have c : M_canSet 0 (Int32.ofNat j) v τ = some true := by
          rw [M_canSet, if_neg (by decide), if_pos i1, if_pos ((mo_iff e6 hn).mpr ⟨j, hj, rfl⟩)]
          rw [if_pos rfl]
          rw [M_canSet_p62, show am_bI false = 0 from rfl, if_pos (ni_in.mpr qv)]
        rw [set_M c, if_pos rfl]
        rw [if_pos rfl, ni_wr (by omega) (by omega), Option.bind_some, M_set_p28, if_neg (by decide), M_set_p42, if_neg (by decide), M_set_p57, if_neg (by decide), M_set_p69, if_neg (by decide), M_set_p84, if_neg (by decide), M_set_p96]
        rfl
    · right
      obtain ⟨j, hj, rfl⟩ := q
      constructor
      · rw [C_set, if_neg (by decide), if_neg (by decide), C_Front_putOfficer, if_pos ((ho_iff e0 hn).mpr ⟨j, hj, rfl⟩)]
        by_cases q0 : v < 0
        · rw [if_pos q0, Option.bind_some, C_set_p81, if_neg (by simp)]
        · rw [if_neg q0, if_pos rfl, C_Front_putOfficer_p24, if_pos (by grind), Option.bind_some, C_set_p81, if_neg (by simp)]
      · rw [M_canSet, if_neg (by decide), if_pos i1, if_pos ((mo_iff e6 hn).mpr ⟨j, hj, rfl⟩), if_pos rfl, M_canSet_p62, show am_bI false = 0 from rfl, if_neg (fun g => qv (ni_in.mp g))]
  · right
    constructor
    · rw [C_set, if_neg (by decide), if_neg (by decide), C_Front_putOfficer, if_neg (fun g => q ((ho_iff e0 hn).mp g)), Option.bind_some, C_set_p81, if_neg (by simp)]
    · rw [M_canSet, if_neg (by decide), if_pos i1, if_neg (fun g => q ((mo_iff e6 hn).mp g))]
theorem set_1 {w v : Int32} {σ τ : am_SS} {n : Nat} (hn : n ≤ 12) (e0 : σ 2 0 = Int32.ofNat n) (e6 : τ 0 6 = Int32.ofNat n) :
    (∃ j, j < n ∧ w = Int32.ofNat j ∧ rl_rg v 0 99 ∧ C_set 1 w v σ = some (true, am_up (am_up σ 5 j v) 88 3 0) ∧
      (M_canSet 1 w v τ).bind (fun q_2 => if q_2 = true then (if (1 : Int32) = 0 then (am_wr τ 5 12 w v).bind (fun σ_5 => M_set_p28 1 w v σ_5) else M_set_p28 1 w v τ) else some (false, τ)) = some (true, am_up (am_up τ 1 (5 + j) v) 0 3 0)) ∨
    (C_set 1 w v σ = some (false, σ) ∧ M_canSet 1 w v τ = some false) := by
  have i1 : M_isIn 1 0 2 = true := by decide
  by_cases q : ∃ j, j < n ∧ w = Int32.ofNat j
  · by_cases qv : 0 ≤ v ∧ v ≤ 99
    · left
      obtain ⟨j, hj, rfl⟩ := q
      refine ⟨j, hj, rfl, qv, ?_, ?_⟩
      · rw [C_set, if_neg (by decide), if_neg (by decide), C_Front_putOfficer, if_pos ((ho_iff e0 hn).mpr ⟨j, hj, rfl⟩), if_neg (by grind)]
        rw [if_neg (by decide), C_Front_putOfficer_p24, if_neg (by grind), if_neg (by decide), if_pos rfl, C_Front_putOfficer_p56, show LC.2.1 (2 + 3) = 12 from rfl, ni_wr (by omega) (by omega), Option.bind_some, Option.bind_some, C_set_p81, if_pos rfl]
        rfl
      · have c : M_canSet 1 (Int32.ofNat j) v τ = some true := by
          rw [M_canSet, if_neg (by decide), if_pos i1, if_pos ((mo_iff e6 hn).mpr ⟨j, hj, rfl⟩)]
          rw [if_neg (by decide)]
          rw [M_canSet_p62, show am_bI false = 0 from rfl, if_pos (ni_in.mpr qv)]
        rw [set_M c, if_pos rfl]
        rw [if_neg (by decide), M_set_p28, if_pos rfl, show (5 : Int32) + Int32.ofNat j = Int32.ofNat (5 + j) from ni_add 5 j, ni_wr (by omega) (by omega), Option.bind_some, M_set_p42, if_neg (by decide), M_set_p57, if_neg (by decide), M_set_p69, if_neg (by decide), M_set_p84, if_neg (by decide), M_set_p96]
        rfl
    · right
      obtain ⟨j, hj, rfl⟩ := q
      constructor
      · rw [C_set, if_neg (by decide), if_neg (by decide), C_Front_putOfficer, if_pos ((ho_iff e0 hn).mpr ⟨j, hj, rfl⟩)]
        by_cases q0 : v < 0
        · rw [if_pos q0, Option.bind_some, C_set_p81, if_neg (by simp)]
        · rw [if_neg q0, if_neg (by decide), C_Front_putOfficer_p24, if_pos (by grind), Option.bind_some, C_set_p81, if_neg (by simp)]
      · rw [M_canSet, if_neg (by decide), if_pos i1, if_pos ((mo_iff e6 hn).mpr ⟨j, hj, rfl⟩), if_neg (by decide), M_canSet_p62, show am_bI false = 0 from rfl, if_neg (fun g => qv (ni_in.mp g))]
  · right
    constructor
    · rw [C_set, if_neg (by decide), if_neg (by decide), C_Front_putOfficer, if_neg (fun g => q ((ho_iff e0 hn).mp g)), Option.bind_some, C_set_p81, if_neg (by simp)]
    · rw [M_canSet, if_neg (by decide), if_pos i1, if_neg (fun g => q ((mo_iff e6 hn).mp g))]
theorem set_2 {w v : Int32} {σ τ : am_SS} {n : Nat} (hn : n ≤ 12) (e0 : σ 2 0 = Int32.ofNat n) (e6 : τ 0 6 = Int32.ofNat n) :
    (∃ j, j < n ∧ w = Int32.ofNat j ∧ rl_rg v 0 99 ∧ C_set 2 w v σ = some (true, am_up (am_up σ 6 j v) 88 3 0) ∧
      (M_canSet 2 w v τ).bind (fun q_2 => if q_2 = true then (if (2 : Int32) = 0 then (am_wr τ 5 12 w v).bind (fun σ_5 => M_set_p28 2 w v σ_5) else M_set_p28 2 w v τ) else some (false, τ)) = some (true, am_up (am_up τ 1 (17 + j) v) 0 3 0)) ∨
    (C_set 2 w v σ = some (false, σ) ∧ M_canSet 2 w v τ = some false) := by
  have i1 : M_isIn 2 0 2 = true := by decide
  by_cases q : ∃ j, j < n ∧ w = Int32.ofNat j
  · by_cases qv : 0 ≤ v ∧ v ≤ 99
    · left
      obtain ⟨j, hj, rfl⟩ := q
      refine ⟨j, hj, rfl, qv, ?_, ?_⟩
      · rw [C_set, if_neg (by decide), if_neg (by decide), C_Front_putOfficer, if_pos ((ho_iff e0 hn).mpr ⟨j, hj, rfl⟩), if_neg (by grind)]
        rw [if_neg (by decide), C_Front_putOfficer_p24, if_neg (by grind), if_neg (by decide), if_neg (by decide), C_Front_putOfficer_p56, show LC.2.1 (2 + 4) = 12 from rfl, ni_wr (by omega) (by omega), Option.bind_some, Option.bind_some, C_set_p81, if_pos rfl]
        rfl
      · have c : M_canSet 2 (Int32.ofNat j) v τ = some true := by
          rw [M_canSet, if_neg (by decide), if_pos i1, if_pos ((mo_iff e6 hn).mpr ⟨j, hj, rfl⟩)]
          rw [if_neg (by decide)]
          rw [M_canSet_p62, show am_bI false = 0 from rfl, if_pos (ni_in.mpr qv)]
        rw [set_M c, if_pos rfl]
        rw [if_neg (by decide), M_set_p28, if_neg (by decide), M_set_p42, if_pos rfl, show (17 : Int32) + Int32.ofNat j = Int32.ofNat (17 + j) from ni_add 17 j, ni_wr (by omega) (by omega), Option.bind_some, M_set_p57, if_neg (by decide), M_set_p69, if_neg (by decide), M_set_p84, if_neg (by decide), M_set_p96]
        rfl
    · right
      obtain ⟨j, hj, rfl⟩ := q
      constructor
      · rw [C_set, if_neg (by decide), if_neg (by decide), C_Front_putOfficer, if_pos ((ho_iff e0 hn).mpr ⟨j, hj, rfl⟩)]
        by_cases q0 : v < 0
        · rw [if_pos q0, Option.bind_some, C_set_p81, if_neg (by simp)]
        · rw [if_neg q0, if_neg (by decide), C_Front_putOfficer_p24, if_pos (by grind), Option.bind_some, C_set_p81, if_neg (by simp)]
      · rw [M_canSet, if_neg (by decide), if_pos i1, if_pos ((mo_iff e6 hn).mpr ⟨j, hj, rfl⟩), if_neg (by decide), M_canSet_p62, show am_bI false = 0 from rfl, if_neg (fun g => qv (ni_in.mp g))]
  · right
    constructor
    · rw [C_set, if_neg (by decide), if_neg (by decide), C_Front_putOfficer, if_neg (fun g => q ((ho_iff e0 hn).mp g)), Option.bind_some, C_set_p81, if_neg (by simp)]
    · rw [M_canSet, if_neg (by decide), if_pos i1, if_neg (fun g => q ((mo_iff e6 hn).mp g))]
theorem set_3 {w v : Int32} {σ τ : am_SS} {m : Nat} (hm : m ≤ 12) (e0 : σ 2 8 = Int32.ofNat m) (e7 : τ 0 7 = Int32.ofNat m) :
    (∃ j, j < m ∧ w = Int32.ofNat j ∧ rl_rg v 0 9 ∧ C_set 3 w v σ = some (true, am_up (am_up σ 11 j v) 88 3 0) ∧
      (M_canSet 3 w v τ).bind (fun q_2 => if q_2 = true then (if (3 : Int32) = 0 then (am_wr τ 5 12 w v).bind (fun σ_5 => M_set_p28 3 w v σ_5) else M_set_p28 3 w v τ) else some (false, τ)) = some (true, am_up (am_up τ 7 j v) 0 3 0)) ∨
    (C_set 3 w v σ = some (false, σ) ∧ M_canSet 3 w v τ = some false) := by
  have i1 : ¬ M_isIn 3 0 2 = true := by decide
  have i2 : M_isIn 3 3 4 = true := by decide
  have sC : C_set 3 w v σ = C_set_p37 3 w v σ := by
    rw [C_set, if_neg (by decide), if_pos (by decide), C_set_p27]
    rw [if_pos rfl]
  by_cases q : ∃ j, j < m ∧ w = Int32.ofNat j
  · by_cases qv : 0 ≤ v ∧ v ≤ 9
    · left
      obtain ⟨j, hj, rfl⟩ := q
      refine ⟨j, hj, rfl, qv, ?_, ?_⟩
      · rw [sC, C_set_p37, C_Front_putBatman, if_pos ((hb_iff e0 hm).mpr ⟨j, hj, rfl⟩), if_neg (by grind)]
        rw [if_pos rfl, C_Front_putBatman_p25, if_neg (by grind), if_pos rfl, C_Front_putBatman_p46, show LC.2.1 (2 + 9) = 12 from rfl, ni_wr (by omega) (by omega), Option.bind_some, Option.bind_some, C_set_p81, if_pos rfl]
        rfl
      · have c : M_canSet 3 (Int32.ofNat j) v τ = some true := by
          rw [M_canSet, if_neg (by decide), if_neg i1, if_pos i2, if_pos ((mb_iff e7 hm).mpr ⟨j, hj, rfl⟩)]
          rw [if_pos rfl]
          rw [M_canSet_p107, show am_bI false = 0 from rfl, if_pos (ni_in.mpr qv)]
        rw [set_M c, if_pos rfl, if_neg (by decide), M_set_p28, if_neg (by decide), M_set_p42, if_neg (by decide), M_set_p57]
        rw [if_pos rfl, ni_wr (by omega) (by omega), Option.bind_some, M_set_p69, if_neg (by decide), M_set_p84, if_neg (by decide), M_set_p96]
        rfl
    · right
      obtain ⟨j, hj, rfl⟩ := q
      constructor
      · rw [sC, C_set_p37, C_Front_putBatman, if_pos ((hb_iff e0 hm).mpr ⟨j, hj, rfl⟩)]
        by_cases q0 : v < 0
        · rw [if_pos q0, Option.bind_some, C_set_p81, if_neg (by simp)]
        · rw [if_neg q0, if_pos rfl, C_Front_putBatman_p25, if_pos (by grind), Option.bind_some, C_set_p81, if_neg (by simp)]
      · rw [M_canSet, if_neg (by decide), if_neg i1, if_pos i2, if_pos ((mb_iff e7 hm).mpr ⟨j, hj, rfl⟩), if_pos rfl, M_canSet_p107, show am_bI false = 0 from rfl, if_neg (fun g => qv (ni_in.mp g))]
  · right
    constructor
    · rw [sC, C_set_p37, C_Front_putBatman, if_neg (fun g => q ((hb_iff e0 hm).mp g)), Option.bind_some, C_set_p81, if_neg (by simp)]
    · rw [M_canSet, if_neg (by decide), if_neg i1, if_pos i2, if_neg (fun g => q ((mb_iff e7 hm).mp g))]
theorem set_4 {w v : Int32} {σ τ : am_SS} {m : Nat} (hm : m ≤ 12) (e0 : σ 2 8 = Int32.ofNat m) (e7 : τ 0 7 = Int32.ofNat m) :
    (∃ j, j < m ∧ w = Int32.ofNat j ∧ rl_rg v 0 99 ∧ C_set 4 w v σ = some (true, am_up (am_up σ 12 j v) 88 3 0) ∧
      (M_canSet 4 w v τ).bind (fun q_2 => if q_2 = true then (if (4 : Int32) = 0 then (am_wr τ 5 12 w v).bind (fun σ_5 => M_set_p28 4 w v σ_5) else M_set_p28 4 w v τ) else some (false, τ)) = some (true, am_up (am_up τ 1 (65 + j) v) 0 3 0)) ∨
    (C_set 4 w v σ = some (false, σ) ∧ M_canSet 4 w v τ = some false) := by
  have i1 : ¬ M_isIn 4 0 2 = true := by decide
  have i2 : M_isIn 4 3 4 = true := by decide
  have sC : C_set 4 w v σ = C_set_p37 4 w v σ := by
    rw [C_set, if_neg (by decide), if_pos (by decide), C_set_p27]
    rw [if_neg (by decide), if_pos rfl]
  by_cases q : ∃ j, j < m ∧ w = Int32.ofNat j
  · by_cases qv : 0 ≤ v ∧ v ≤ 99
    · left
      obtain ⟨j, hj, rfl⟩ := q
      refine ⟨j, hj, rfl, qv, ?_, ?_⟩
      · rw [sC, C_set_p37, C_Front_putBatman, if_pos ((hb_iff e0 hm).mpr ⟨j, hj, rfl⟩), if_neg (by grind)]
        rw [if_neg (by decide), C_Front_putBatman_p25, if_neg (by grind), if_neg (by decide), C_Front_putBatman_p46, show LC.2.1 (2 + 10) = 12 from rfl, ni_wr (by omega) (by omega), Option.bind_some, Option.bind_some, C_set_p81, if_pos rfl]
        rfl
      · have c : M_canSet 4 (Int32.ofNat j) v τ = some true := by
          rw [M_canSet, if_neg (by decide), if_neg i1, if_pos i2, if_pos ((mb_iff e7 hm).mpr ⟨j, hj, rfl⟩)]
          rw [if_neg (by decide)]
          rw [M_canSet_p107, show am_bI false = 0 from rfl, if_pos (ni_in.mpr qv)]
        rw [set_M c, if_pos rfl, if_neg (by decide), M_set_p28, if_neg (by decide), M_set_p42, if_neg (by decide), M_set_p57]
        rw [if_neg (by decide), M_set_p69, if_pos rfl, show (65 : Int32) + Int32.ofNat j = Int32.ofNat (65 + j) from ni_add 65 j, ni_wr (by omega) (by omega), Option.bind_some, M_set_p84, if_neg (by decide), M_set_p96]
        rfl
    · right
      obtain ⟨j, hj, rfl⟩ := q
      constructor
      · rw [sC, C_set_p37, C_Front_putBatman, if_pos ((hb_iff e0 hm).mpr ⟨j, hj, rfl⟩)]
        by_cases q0 : v < 0
        · rw [if_pos q0, Option.bind_some, C_set_p81, if_neg (by simp)]
        · rw [if_neg q0, if_neg (by decide), C_Front_putBatman_p25, if_pos (by grind), Option.bind_some, C_set_p81, if_neg (by simp)]
      · rw [M_canSet, if_neg (by decide), if_neg i1, if_pos i2, if_pos ((mb_iff e7 hm).mpr ⟨j, hj, rfl⟩), if_neg (by decide), M_canSet_p107, show am_bI false = 0 from rfl, if_neg (fun g => qv (ni_in.mp g))]
  · right
    constructor
    · rw [sC, C_set_p37, C_Front_putBatman, if_neg (fun g => q ((hb_iff e0 hm).mp g)), Option.bind_some, C_set_p81, if_neg (by simp)]
    · rw [M_canSet, if_neg (by decide), if_neg i1, if_pos i2, if_neg (fun g => q ((mb_iff e7 hm).mp g))]
theorem won_0 {x : Int32} (h : ¬ 0 < x) (hr : 0 ≤ x ∧ x ≤ 2) : x - 1 = -1 := by grind
theorem won_1 {x : Int32} (h : 0 < x) (hr : 0 ≤ x ∧ x ≤ 2) : ¬ (x - 1 = -1) := by grind
theorem v98 {v : Int32} : (-98 ≤ v ∧ v ≤ 98) ↔ (-99 < v ∧ v < 99) := by constructor <;> intro h <;> constructor <;> grind
theorem v99 {v : Int32} (h : -98 ≤ v ∧ v ≤ 98) : rl_rg v (-99) 99 := by constructor <;> grind
theorem pl_won {v : Int32} {σ : am_SS} (h : ¬ σ 2 13 = -1) : C_Front_putLine 2 v σ = (false, σ) := by rw [C_Front_putLine, if_neg h]
theorem pl_ok {v : Int32} {σ : am_SS} (h : σ 2 13 = -1) (hv : -98 ≤ v ∧ v ≤ 98) : C_Front_putLine 2 v σ = (true, am_up σ 2 12 v) := by
  rw [C_Front_putLine, if_pos h, if_pos (v98.mp hv).1, if_pos (v98.mp hv).2, am_let]
theorem pl_bad {v : Int32} {σ : am_SS} (hv : ¬ (-98 ≤ v ∧ v ≤ 98)) : C_Front_putLine 2 v σ = (false, σ) := by
  rw [C_Front_putLine]
  by_cases h : σ 2 13 = -1
  · rw [if_pos h]
    by_cases q1 : -99 < v
    · rw [if_pos q1, if_neg (fun g => hv (v98.mpr ⟨q1, g⟩))]
    · rw [if_neg q1]
  · rw [if_neg h]
theorem won_M {τ : am_SS} : M_isWon τ = some (decide (0 < τ 1 4)) := by
  rw [M_isWon, rd_4 (by decide) (by decide), Option.bind_some]
  by_cases q : 0 < τ 1 4 <;> simp [q]
theorem ca_3 (F : Nat) : aj_S3 F rl_R := by
  intro k w v σ τ h
  have h := rl_told h 0
  have hm : M_set k w v τ = (M_canSet k w v (am_up τ 0 0 0)).bind (fun q_2 => if q_2 = true then (if k = 0 then (am_wr (am_up τ 0 0 0) 5 12 w v).bind (fun σ_5 => M_set_p28 k w v σ_5) else M_set_p28 k w v (am_up τ 0 0 0)) else some (false, am_up τ 0 0 0)) := rfl
  rw [hm]
  clear hm
  generalize am_up τ 0 0 0 = τ at h ⊢
  have h' := h
  obtain ⟨hK, ⟨n, m, hFR, hFS, hIR, hIS, hBK, hGU, hLE, hKY, hBI, hQU, hCO, hOR, hSV, hND, hLW⟩, hPS, hTP, hFT, hIM⟩ := h'
  obtain ⟨hn, hm, e6, e7, hI⟩ := id hIS
  have e0 : σ 2 0 = Int32.ofNat n := hFS.1.trans e6
  have e8 : σ 2 8 = Int32.ofNat m := hFS.2.1.trans e7
  by_cases k0 : k = 0
  · subst k0
    rcases set_0 (w := w) (v := v) hn e0 e6 with ⟨j, hj, rfl, hv, c1, c2⟩ | ⟨c1, c2⟩
    case inr => rw [c1, set_M c2]; exact ⟨_, _, rfl, rfl, rfl, h⟩
    rw [c1, c2]
    refine ⟨_, _, rfl, rfl, rfl, ?_⟩
    have hj' : j < 12 := by omega
    have q5 : ¬ (2 = 5 + j) ∧ ¬ (2 = 17 + j) ∧ ¬ (2 = 65 + j) := by omega
    refine ⟨?_, ⟨n, m, ?_, ?_, ?_, ?_, ?_, ?_, ?_, ?_, ?_, ?_, ?_, ?_, ?_, ?_, ?_⟩, ?_, ?_, ?_, ?_⟩
    · simpa [C_Past_forget, am_let, am_up_ap, am_up_ne, am_up_row, rl_pf_up, rl_IM_up] using hK
    · simpa [C_Past_forget, am_let, am_up_ap, am_up_ne, am_up_row, rl_pf_up, rl_IM_up] using hFR
    · refine ⟨by simpa [C_Past_forget, am_let, am_up_ap, am_up_ne] using hFS.1, by simpa [C_Past_forget, am_let, am_up_ap, am_up_ne] using hFS.2.1, fun i hi => ?_⟩
      have g := hFS.2.2 i hi
      by_cases qj : i = j
      · subst qj; simpa [C_Past_forget, am_let, am_up_ap, am_up_ne] using ⟨g.1, g.2.2.1, g.2.2.2⟩
      · simpa [C_Past_forget, am_let, am_up_ap, am_up_ne, qj] using g
    · simpa [C_Past_forget, am_let, am_up_ap, am_up_ne, am_up_row, rl_pf_up, rl_IM_up] using hIR
    · refine ⟨hn, hm, by simpa [C_Past_forget, am_let, am_up_ap, am_up_ne] using e6, by simpa [C_Past_forget, am_let, am_up_ap, am_up_ne] using e7, fun i hi => ?_⟩
      have g := hI i hi
      by_cases qj : i = j
      · subst qj; simpa [C_Past_forget, am_let, am_up_ap, am_up_ne] using ⟨g.1, hv, g.2.2.1, g.2.2.2⟩
      · simpa [C_Past_forget, am_let, am_up_ap, am_up_ne, qj] using g
    · simpa [C_Past_forget, am_let, am_up_ap, am_up_ne, am_up_row, rl_pf_up, rl_IM_up] using hBK
    · simpa [C_Past_forget, am_let, am_up_ap, am_up_ne, am_up_row, rl_pf_up, rl_IM_up] using hGU
    · simpa [C_Past_forget, am_let, am_up_ap, am_up_ne, am_up_row, rl_pf_up, rl_IM_up] using hLE
    · simpa [C_Past_forget, am_let, am_up_ap, am_up_ne, am_up_row, rl_pf_up, rl_IM_up] using hKY
    · simpa [C_Past_forget, am_let, am_up_ap, am_up_ne, am_up_row, rl_pf_up, rl_IM_up] using hBI
    · simpa [C_Past_forget, am_let, am_up_ap, am_up_ne, am_up_row, rl_pf_up, rl_IM_up] using hQU
    · simpa [C_Past_forget, am_let, am_up_ap, am_up_ne, am_up_row, rl_pf_up, rl_IM_up] using hCO
    · simpa [C_Past_forget, am_let, am_up_ap, am_up_ne, am_up_row, rl_pf_up, rl_IM_up] using hOR
    · simpa [C_Past_forget, am_let, am_up_ap, am_up_ne, am_up_row, rl_pf_up, rl_IM_up] using hSV
    · simpa [C_Past_forget, am_let, am_up_ap, am_up_ne, am_up_row, rl_pf_up, rl_IM_up] using hND
    · simpa [C_Past_forget, am_let, am_up_ap, am_up_ne, am_up_row, rl_pf_up, rl_IM_up] using hLW
    · simp [C_Past_forget, am_let, am_up_ap, am_up_ne, am_up_row, rl_pf_up]
      exact rl_PS_forget hPS ⟨_, hBK.choose_spec.1, by simpa [upd] using hBK.choose_spec.2.2.1⟩ ⟨_, hIS.2.2.1⟩ ⟨_, hIS.2.2.2.1⟩
    · simpa [C_Past_forget, am_let, am_up_ap, am_up_ne, am_up_row, rl_pf_up, rl_IM_up] using hTP
    · simpa [C_Past_forget, am_let, am_up_ap, am_up_ne, am_up_row, rl_pf_up, rl_IM_up] using hFT
    · simpa [C_Past_forget, am_let, am_up_ap, am_up_ne, am_up_row, rl_pf_up, rl_IM_up] using hIM
  by_cases k1 : k = 1
  · subst k1
    rcases set_1 (w := w) (v := v) hn e0 e6 with ⟨j, hj, rfl, hv, c1, c2⟩ | ⟨c1, c2⟩
    case inr => rw [c1, set_M c2]; exact ⟨_, _, rfl, rfl, rfl, h⟩
    rw [c1, c2]
    refine ⟨_, _, rfl, rfl, rfl, ?_⟩
    have hj' : j < 12 := by omega
    have q5 : ¬ (2 = 5 + j) ∧ ¬ (2 = 17 + j) ∧ ¬ (2 = 65 + j) := by omega
    refine ⟨?_, ⟨n, m, ?_, ?_, ?_, ?_, ?_, ?_, ?_, ?_, ?_, ?_, ?_, ?_, ?_, ?_, ?_⟩, ?_, ?_, ?_, ?_⟩
    · simpa [C_Past_forget, am_let, am_up_ap, am_up_ne, am_up_row, rl_pf_up, rl_IM_up] using hK
    · simpa [C_Past_forget, am_let, am_up_ap, am_up_ne, am_up_row] using fr_sl hFR hj'
    · simpa [C_Past_forget, am_let, am_up_ap, am_up_ne, am_up_row, rl_pf_up, rl_IM_up] using hFS
    · simpa [C_Past_forget, am_let, am_up_ap, am_up_ne, am_up_row] using ir_sl hIR hj' hv
    · simpa [C_Past_forget, am_let, am_up_ap, am_up_ne, am_up_row, rl_pf_up, rl_IM_up] using hIS
    · simpa [C_Past_forget, am_let, am_up_ap, am_up_ne, q5] using hBK
    · simpa [C_Past_forget, am_let, am_up_ap, am_up_ne, am_up_row, rl_pf_up, rl_IM_up] using hGU
    · simpa [C_Past_forget, am_let, am_up_ap, am_up_ne, am_up_row, rl_pf_up, rl_IM_up] using hLE
    · simpa [C_Past_forget, am_let, am_up_ap, am_up_ne, am_up_row, rl_pf_up, rl_IM_up] using hKY
    · simpa [C_Past_forget, am_let, am_up_ap, am_up_ne, am_up_row, rl_pf_up, rl_IM_up] using hBI
    · simpa [C_Past_forget, am_let, am_up_ap, am_up_ne, am_up_row, rl_pf_up, rl_IM_up] using hQU
    · simpa [C_Past_forget, am_let, am_up_ap, am_up_ne, am_up_row, rl_pf_up, rl_IM_up] using hCO
    · simpa [C_Past_forget, am_let, am_up_ap, am_up_ne, am_up_row, rl_pf_up, rl_IM_up] using hOR
    · simpa [C_Past_forget, am_let, am_up_ap, am_up_ne, am_up_row, rl_pf_up, rl_IM_up] using hSV
    · simpa [C_Past_forget, am_let, am_up_ap, am_up_ne, am_up_row, rl_pf_up, rl_IM_up] using hND
    · simpa [C_Past_forget, am_let, am_up_ap, am_up_ne, am_up_row, rl_pf_up, rl_IM_up] using hLW
    · simp [C_Past_forget, am_let, am_up_ap, am_up_ne, am_up_row, rl_pf_up]
      exact rl_PS_forget hPS ⟨_, hBK.choose_spec.1, by simpa [upd, q5] using hBK.choose_spec.2.2.1⟩ ⟨_, hIS.2.2.1⟩ ⟨_, hIS.2.2.2.1⟩
    · simpa [C_Past_forget, am_let, am_up_ap, am_up_ne, am_up_row, rl_pf_up, rl_IM_up] using hTP
    · simpa [C_Past_forget, am_let, am_up_ap, am_up_ne, am_up_row, rl_pf_up, rl_IM_up] using hFT
    · simpa [C_Past_forget, am_let, am_up_ap, am_up_ne, am_up_row, rl_pf_up, rl_IM_up] using hIM
  by_cases k2 : k = 2
  · subst k2
    rcases set_2 (w := w) (v := v) hn e0 e6 with ⟨j, hj, rfl, hv, c1, c2⟩ | ⟨c1, c2⟩
    case inr => rw [c1, set_M c2]; exact ⟨_, _, rfl, rfl, rfl, h⟩
    rw [c1, c2]
    refine ⟨_, _, rfl, rfl, rfl, ?_⟩
    have hj' : j < 12 := by omega
    have q5 : ¬ (2 = 5 + j) ∧ ¬ (2 = 17 + j) ∧ ¬ (2 = 65 + j) := by omega
    refine ⟨?_, ⟨n, m, ?_, ?_, ?_, ?_, ?_, ?_, ?_, ?_, ?_, ?_, ?_, ?_, ?_, ?_, ?_⟩, ?_, ?_, ?_, ?_⟩
    · simpa [C_Past_forget, am_let, am_up_ap, am_up_ne, am_up_row, rl_pf_up, rl_IM_up] using hK
    · simpa [C_Past_forget, am_let, am_up_ap, am_up_ne, am_up_row] using fr_pl hFR hj'
    · simpa [C_Past_forget, am_let, am_up_ap, am_up_ne, am_up_row, rl_pf_up, rl_IM_up] using hFS
    · simpa [C_Past_forget, am_let, am_up_ap, am_up_ne, am_up_row] using ir_pl hIR hj' (.inl hj) hv
    · simpa [C_Past_forget, am_let, am_up_ap, am_up_ne, am_up_row, rl_pf_up, rl_IM_up] using hIS
    · simpa [C_Past_forget, am_let, am_up_ap, am_up_ne, q5] using hBK
    · simpa [C_Past_forget, am_let, am_up_ap, am_up_ne, am_up_row, rl_pf_up, rl_IM_up] using hGU
    · simpa [C_Past_forget, am_let, am_up_ap, am_up_ne, am_up_row, rl_pf_up, rl_IM_up] using hLE
    · simpa [C_Past_forget, am_let, am_up_ap, am_up_ne, am_up_row, rl_pf_up, rl_IM_up] using hKY
    · simpa [C_Past_forget, am_let, am_up_ap, am_up_ne, am_up_row, rl_pf_up, rl_IM_up] using hBI
    · simpa [C_Past_forget, am_let, am_up_ap, am_up_ne, am_up_row, rl_pf_up, rl_IM_up] using hQU
    · simpa [C_Past_forget, am_let, am_up_ap, am_up_ne, am_up_row, rl_pf_up, rl_IM_up] using hCO
    · simpa [C_Past_forget, am_let, am_up_ap, am_up_ne, am_up_row, rl_pf_up, rl_IM_up] using hOR
    · simpa [C_Past_forget, am_let, am_up_ap, am_up_ne, am_up_row, rl_pf_up, rl_IM_up] using hSV
    · simpa [C_Past_forget, am_let, am_up_ap, am_up_ne, am_up_row, rl_pf_up, rl_IM_up] using hND
    · simpa [C_Past_forget, am_let, am_up_ap, am_up_ne, am_up_row, rl_pf_up, rl_IM_up] using hLW
    · simp [C_Past_forget, am_let, am_up_ap, am_up_ne, am_up_row, rl_pf_up]
      exact rl_PS_forget hPS ⟨_, hBK.choose_spec.1, by simpa [upd, q5] using hBK.choose_spec.2.2.1⟩ ⟨_, hIS.2.2.1⟩ ⟨_, hIS.2.2.2.1⟩
    · simpa [C_Past_forget, am_let, am_up_ap, am_up_ne, am_up_row, rl_pf_up, rl_IM_up] using hTP
    · simpa [C_Past_forget, am_let, am_up_ap, am_up_ne, am_up_row, rl_pf_up, rl_IM_up] using hFT
    · simpa [C_Past_forget, am_let, am_up_ap, am_up_ne, am_up_row, rl_pf_up, rl_IM_up] using hIM
  by_cases k3 : k = 3
  · subst k3
    rcases set_3 (w := w) (v := v) hm e8 e7 with ⟨j, hj, rfl, hv, c1, c2⟩ | ⟨c1, c2⟩
    case inr => rw [c1, set_M c2]; exact ⟨_, _, rfl, rfl, rfl, h⟩
    rw [c1, c2]
    refine ⟨_, _, rfl, rfl, rfl, ?_⟩
    have hj' : j < 12 := by omega
    have q5 : ¬ (2 = 5 + j) ∧ ¬ (2 = 17 + j) ∧ ¬ (2 = 65 + j) := by omega
    refine ⟨?_, ⟨n, m, ?_, ?_, ?_, ?_, ?_, ?_, ?_, ?_, ?_, ?_, ?_, ?_, ?_, ?_, ?_⟩, ?_, ?_, ?_, ?_⟩
    · simpa [C_Past_forget, am_let, am_up_ap, am_up_ne, am_up_row, rl_pf_up, rl_IM_up] using hK
    · simpa [C_Past_forget, am_let, am_up_ap, am_up_ne, am_up_row, rl_pf_up, rl_IM_up] using hFR
    · refine ⟨by simpa [C_Past_forget, am_let, am_up_ap, am_up_ne] using hFS.1, by simpa [C_Past_forget, am_let, am_up_ap, am_up_ne] using hFS.2.1, fun i hi => ?_⟩
      have g := hFS.2.2 i hi
      by_cases qj : i = j
      · subst qj; simpa [C_Past_forget, am_let, am_up_ap, am_up_ne] using ⟨g.1, g.2.1, g.2.2.1⟩
      · simpa [C_Past_forget, am_let, am_up_ap, am_up_ne, qj] using g
    · simpa [C_Past_forget, am_let, am_up_ap, am_up_ne, am_up_row, rl_pf_up, rl_IM_up] using hIR
    · refine ⟨hn, hm, by simpa [C_Past_forget, am_let, am_up_ap, am_up_ne] using e6, by simpa [C_Past_forget, am_let, am_up_ap, am_up_ne] using e7, fun i hi => ?_⟩
      have g := hI i hi
      by_cases qj : i = j
      · subst qj; simpa [C_Past_forget, am_let, am_up_ap, am_up_ne] using ⟨g.1, g.2.1, g.2.2.1, hv⟩
      · simpa [C_Past_forget, am_let, am_up_ap, am_up_ne, qj] using g
    · simpa [C_Past_forget, am_let, am_up_ap, am_up_ne, am_up_row, rl_pf_up, rl_IM_up] using hBK
    · simpa [C_Past_forget, am_let, am_up_ap, am_up_ne, am_up_row, rl_pf_up, rl_IM_up] using hGU
    · simpa [C_Past_forget, am_let, am_up_ap, am_up_ne, am_up_row, rl_pf_up, rl_IM_up] using hLE
    · simpa [C_Past_forget, am_let, am_up_ap, am_up_ne, am_up_row, rl_pf_up, rl_IM_up] using hKY
    · simpa [C_Past_forget, am_let, am_up_ap, am_up_ne, am_up_row, rl_pf_up, rl_IM_up] using hBI
    · simpa [C_Past_forget, am_let, am_up_ap, am_up_ne, am_up_row, rl_pf_up, rl_IM_up] using hQU
    · simpa [C_Past_forget, am_let, am_up_ap, am_up_ne, am_up_row, rl_pf_up, rl_IM_up] using hCO
    · simpa [C_Past_forget, am_let, am_up_ap, am_up_ne, am_up_row, rl_pf_up, rl_IM_up] using hOR
    · simpa [C_Past_forget, am_let, am_up_ap, am_up_ne, am_up_row, rl_pf_up, rl_IM_up] using hSV
    · simpa [C_Past_forget, am_let, am_up_ap, am_up_ne, am_up_row, rl_pf_up, rl_IM_up] using hND
    · simpa [C_Past_forget, am_let, am_up_ap, am_up_ne, am_up_row, rl_pf_up, rl_IM_up] using hLW
    · simp [C_Past_forget, am_let, am_up_ap, am_up_ne, am_up_row, rl_pf_up]
      exact rl_PS_forget hPS ⟨_, hBK.choose_spec.1, by simpa [upd] using hBK.choose_spec.2.2.1⟩ ⟨_, hIS.2.2.1⟩ ⟨_, hIS.2.2.2.1⟩
    · simpa [C_Past_forget, am_let, am_up_ap, am_up_ne, am_up_row, rl_pf_up, rl_IM_up] using hTP
    · simpa [C_Past_forget, am_let, am_up_ap, am_up_ne, am_up_row, rl_pf_up, rl_IM_up] using hFT
    · simpa [C_Past_forget, am_let, am_up_ap, am_up_ne, am_up_row, rl_pf_up, rl_IM_up] using hIM
  by_cases k4 : k = 4
  · subst k4
    rcases set_4 (w := w) (v := v) hm e8 e7 with ⟨j, hj, rfl, hv, c1, c2⟩ | ⟨c1, c2⟩
    case inr => rw [c1, set_M c2]; exact ⟨_, _, rfl, rfl, rfl, h⟩
    rw [c1, c2]
    refine ⟨_, _, rfl, rfl, rfl, ?_⟩
    have hj' : j < 12 := by omega
    have q5 : ¬ (2 = 5 + j) ∧ ¬ (2 = 17 + j) ∧ ¬ (2 = 65 + j) := by omega
    refine ⟨?_, ⟨n, m, ?_, ?_, ?_, ?_, ?_, ?_, ?_, ?_, ?_, ?_, ?_, ?_, ?_, ?_, ?_⟩, ?_, ?_, ?_, ?_⟩
    · simpa [C_Past_forget, am_let, am_up_ap, am_up_ne, am_up_row, rl_pf_up, rl_IM_up] using hK
    · simpa [C_Past_forget, am_let, am_up_ap, am_up_ne, am_up_row] using fr_we hFR hj'
    · simpa [C_Past_forget, am_let, am_up_ap, am_up_ne, am_up_row, rl_pf_up, rl_IM_up] using hFS
    · simpa [C_Past_forget, am_let, am_up_ap, am_up_ne, am_up_row] using ir_we hIR hj' (.inl hj) hv
    · simpa [C_Past_forget, am_let, am_up_ap, am_up_ne, am_up_row, rl_pf_up, rl_IM_up] using hIS
    · simpa [C_Past_forget, am_let, am_up_ap, am_up_ne, q5] using hBK
    · simpa [C_Past_forget, am_let, am_up_ap, am_up_ne, am_up_row, rl_pf_up, rl_IM_up] using hGU
    · simpa [C_Past_forget, am_let, am_up_ap, am_up_ne, am_up_row, rl_pf_up, rl_IM_up] using hLE
    · simpa [C_Past_forget, am_let, am_up_ap, am_up_ne, am_up_row, rl_pf_up, rl_IM_up] using hKY
    · simpa [C_Past_forget, am_let, am_up_ap, am_up_ne, am_up_row, rl_pf_up, rl_IM_up] using hBI
    · simpa [C_Past_forget, am_let, am_up_ap, am_up_ne, am_up_row, rl_pf_up, rl_IM_up] using hQU
    · simpa [C_Past_forget, am_let, am_up_ap, am_up_ne, am_up_row, rl_pf_up, rl_IM_up] using hCO
    · simpa [C_Past_forget, am_let, am_up_ap, am_up_ne, am_up_row, rl_pf_up, rl_IM_up] using hOR
    · simpa [C_Past_forget, am_let, am_up_ap, am_up_ne, am_up_row, rl_pf_up, rl_IM_up] using hSV
    · simpa [C_Past_forget, am_let, am_up_ap, am_up_ne, am_up_row, rl_pf_up, rl_IM_up] using hND
    · simpa [C_Past_forget, am_let, am_up_ap, am_up_ne, am_up_row, rl_pf_up, rl_IM_up] using hLW
    · simp [C_Past_forget, am_let, am_up_ap, am_up_ne, am_up_row, rl_pf_up]
      exact rl_PS_forget hPS ⟨_, hBK.choose_spec.1, by simpa [upd, q5] using hBK.choose_spec.2.2.1⟩ ⟨_, hIS.2.2.1⟩ ⟨_, hIS.2.2.2.1⟩
    · simpa [C_Past_forget, am_let, am_up_ap, am_up_ne, am_up_row, rl_pf_up, rl_IM_up] using hTP
    · simpa [C_Past_forget, am_let, am_up_ap, am_up_ne, am_up_row, rl_pf_up, rl_IM_up] using hFT
    · simpa [C_Past_forget, am_let, am_up_ap, am_up_ne, am_up_row, rl_pf_up, rl_IM_up] using hIM
  by_cases k5 : k = 5
  · subst k5
    have hw := hFR.2.1
    have hr := hIR.2.1
    unfold rl_rg at hr
    have sC : C_set 5 w v σ = (if (C_Front_putLine 2 v σ).1 = true then C_set_p79 true (C_Front_putLine 2 v σ).2 else C_set_p78 (C_Front_putLine 2 v σ).2) := by
      rw [C_set, if_neg (by decide), if_pos (by decide), C_set_p27, if_neg (by decide), if_neg (by decide), if_pos rfl, am_let]
    have cM : ∀ b, b = (if 0 < τ 1 4 then false else if M_isIn v (-98) 98 = true then true else false) → M_canSet 5 w v τ = some b := by
      intro b hb
      rw [M_canSet, if_pos rfl, won_M, Option.bind_some, hb]
      by_cases q : 0 < τ 1 4
      · simp [q]
      · by_cases q' : M_isIn v (-98) 98 = true <;> simp [q, q']
    by_cases qw : 0 < τ 1 4
    · rw [set_M (cM false (by rw [if_pos qw])), if_neg (by decide), sC, pl_won (by rw [hw]; exact won_1 qw hr), if_neg (by simp)]
      exact ⟨_, _, rfl, rfl, rfl, h⟩
    by_cases qv : -98 ≤ v ∧ v ≤ 98
    · rw [set_M (cM true (by rw [if_neg qw, if_pos (ni_in.mpr qv)])), if_pos rfl, if_neg (by decide), sC, pl_ok (by rw [hw]; exact won_0 qw hr) qv, if_pos rfl, C_set_p79, C_set_p81, if_pos rfl, am_let]
      rw [M_set_p28, if_neg (by decide), M_set_p42, if_neg (by decide), M_set_p57, if_neg (by decide), M_set_p69, if_neg (by decide), M_set_p84, if_pos rfl, wr_3 (by decide) (by decide), Option.bind_some, M_set_p96, am_let]
      refine ⟨_, _, rfl, rfl, rfl, ?_⟩
      refine ⟨?_, ⟨n, m, ?_, ?_, ?_, ?_, ?_, ?_, ?_, ?_, ?_, ?_, ?_, ?_, ?_, ?_, ?_⟩, ?_, ?_, ?_, ?_⟩
      · simpa [C_Past_forget, am_let, am_up_ap, am_up_ne, am_up_row, rl_pf_up, rl_IM_up] using hK
      · simpa [C_Past_forget, am_let, am_up_ap, am_up_ne, am_up_row] using fr_ln hFR
      · simpa [C_Past_forget, am_let, am_up_ap, am_up_ne, am_up_row, rl_pf_up, rl_IM_up] using hFS
      · simpa [C_Past_forget, am_let, am_up_ap, am_up_ne, am_up_row] using ir_ln hIR (v99 qv)
      · simpa [C_Past_forget, am_let, am_up_ap, am_up_ne, am_up_row, rl_pf_up, rl_IM_up] using hIS
      · simpa [C_Past_forget, am_let, am_up_ap, am_up_ne, am_up_row, rl_pf_up, rl_IM_up] using hBK
      · simpa [C_Past_forget, am_let, am_up_ap, am_up_ne, am_up_row, rl_pf_up, rl_IM_up] using hGU
      · simpa [C_Past_forget, am_let, am_up_ap, am_up_ne, am_up_row, rl_pf_up, rl_IM_up] using hLE
      · simpa [C_Past_forget, am_let, am_up_ap, am_up_ne, am_up_row, rl_pf_up, rl_IM_up] using hKY
      · simpa [C_Past_forget, am_let, am_up_ap, am_up_ne, am_up_row, rl_pf_up, rl_IM_up] using hBI
      · simpa [C_Past_forget, am_let, am_up_ap, am_up_ne, am_up_row, rl_pf_up, rl_IM_up] using hQU
      · simpa [C_Past_forget, am_let, am_up_ap, am_up_ne, am_up_row, rl_pf_up, rl_IM_up] using hCO
      · simpa [C_Past_forget, am_let, am_up_ap, am_up_ne, am_up_row, rl_pf_up, rl_IM_up] using hOR
      · simpa [C_Past_forget, am_let, am_up_ap, am_up_ne, am_up_row, rl_pf_up, rl_IM_up] using hSV
      · simpa [C_Past_forget, am_let, am_up_ap, am_up_ne, am_up_row, rl_pf_up, rl_IM_up] using hND
      · simpa [C_Past_forget, am_let, am_up_ap, am_up_ne, am_up_row, rl_pf_up, rl_IM_up] using hLW
      · simp [C_Past_forget, am_let, am_up_ap, am_up_ne, am_up_row, rl_pf_up]
        exact rl_PS_forget hPS ⟨_, hBK.choose_spec.1, by simpa [upd] using hBK.choose_spec.2.2.1⟩ ⟨_, hIS.2.2.1⟩ ⟨_, hIS.2.2.2.1⟩
      · simpa [C_Past_forget, am_let, am_up_ap, am_up_ne, am_up_row, rl_pf_up, rl_IM_up] using hTP
      · simpa [C_Past_forget, am_let, am_up_ap, am_up_ne, am_up_row, rl_pf_up, rl_IM_up] using hFT
      · simpa [C_Past_forget, am_let, am_up_ap, am_up_ne, am_up_row, rl_pf_up, rl_IM_up] using hIM
    · rw [set_M (cM false (by rw [if_neg qw, if_neg (fun g => qv (ni_in.mp g))])), if_neg (by decide), sC, pl_bad qv, if_neg (by simp)]
      exact ⟨_, _, rfl, rfl, rfl, h⟩
  have cM : M_canSet k w v τ = some false := by
    rw [M_canSet, if_neg k5, if_neg (fun g => by have := ni_in.mp g; grind), if_neg (fun g => by have := ni_in.mp g; grind)]
  have sC : C_set k w v σ = some (false, σ) := by
    have p27 : C_set_p27 k w v σ = some (false, σ) := by rw [C_set_p27, if_neg k3, if_neg k4, if_neg k5]; rfl
    rw [C_set]
    by_cases q : k < 0
    · rw [if_pos q, p27]
    · rw [if_neg q, if_pos (by grind), p27]
  rw [sC, set_M cM]
  exact ⟨_, _, rfl, rfl, rfl, h⟩
