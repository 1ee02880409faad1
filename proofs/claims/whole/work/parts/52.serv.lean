/-! L3: who serves whom, who needs whom -/
section
variable {F : Nat} {σ : am_SS}
theorem sv_of {cells : Nat → Int32} {c : Nat} (hc : c ≤ 16) (w : σ 23 0 = 4) (e1 : σ 23 2 = Int32.ofNat c) (hs : σ 24 = cells) {o : Nat} (ho : o < 12) : ∀ (k j : Nat), j ≤ c → j < k →
    C_War_batmanOf_l10 F k 1 (Int32.ofNat o) (Int32.ofNat j - 1) σ = some (rl_last cells o j) := by
  intro k
  induction k with
  | zero => intro j _ hk; omega
  | succ k ih =>
    intro j hj hk
    cases j with
    | zero => rw [C_War_batmanOf_l10, if_pos (by decide)]; rfl
    | succ j =>
      have a0 : C_Table_at (1 + 22) (Int32.ofNat j) 0 σ = some (σ 24 (4 * j)) := by
        rw [show (0 : Int32) = Int32.ofNat 0 from rfl, tb_at (w := 4) 64 e1 w rfl (by omega) (by omega) (by omega) (by omega) (by omega) (by omega), Nat.mul_comm j 4]; rfl
      have a1 : C_Table_at (1 + 22) (Int32.ofNat j) 1 σ = some (σ 24 (4 * j + 1)) := by
        rw [show (1 : Int32) = Int32.ofNat 1 from rfl, tb_at (w := 4) 64 e1 w rfl (by omega) (by omega) (by omega) (by omega) (by omega) (by omega), Nat.mul_comm j 4]
      rw [C_War_batmanOf_l10, ni_pred (by omega), show j + 1 - 1 = j from rfl, if_neg (ni_nn (by omega)), a0, Option.bind_some, hs, rl_last]
      by_cases q : cells (4 * j) = Int32.ofNat o
      · rw [if_pos q, if_pos q, a1, Option.bind_some, hs]
      · rw [if_neg q, if_neg q, am_let, show Int32.ofNat j + -1 = Int32.ofNat j - 1 from by grind]
        exact ih j (by omega) (by omega)
theorem sv_batman {mc : Int32} {up : Nat → Int32} {m : Nat} (hF : 2000 ≤ F) (w : σ 23 0 = 4) (h : rl_SV (σ 23 2) (σ 24) mc up m) {o : Nat} (ho : o < 12) : C_War_batmanOf F 1 (Int32.ofNat o) σ = some (up o - 1) := by
  obtain ⟨c, hc, e1, e2, e3⟩ := h
  rw [C_War_batmanOf, am_let, e1, ← (e3 o ho).1]
  exact sv_of hc w e1 rfl ho F c (by omega) (by omega)
theorem nd_set {cells : Nat → Int32} {c : Nat} (hc : c ≤ 16) (w : σ 25 0 = 4) (e1 : σ 25 2 = Int32.ofNat c) (hs : σ 26 = cells) {o : Nat} (ho : o < 12) : ∀ (d j k : Nat), j + d = c → d < k →
    C_War_needed_l4 F k 1 (Int32.ofNat o) (rl_all cells o j) (Int32.ofNat j) σ = some (rl_all cells o c) := by
  intro d
  induction d with
  | zero =>
    intro j k hj hk
    obtain ⟨k, rfl⟩ : ∃ n', k = n' + 1 := ⟨k - 1, by omega⟩
    rw [C_War_needed_l4, e1, if_neg (fun g => absurd ((ni_lt (by omega) (by omega)).mp g) (by omega)), show j = c from by omega]
  | succ d ih =>
    intro j k hj hk
    obtain ⟨k, rfl⟩ : ∃ n', k = n' + 1 := ⟨k - 1, by omega⟩
    have a0 : C_Table_at (1 + 24) (Int32.ofNat j) 0 σ = some (σ 26 (4 * j)) := by
      rw [show (0 : Int32) = Int32.ofNat 0 from rfl, tb_at (w := 4) 64 e1 w rfl (by omega) (by omega) (by omega) (by omega) (by omega) (by omega), Nat.mul_comm j 4]; rfl
    have a1 : C_Table_at (1 + 24) (Int32.ofNat j) 1 σ = some (σ 26 (4 * j + 1)) := by
      rw [show (1 : Int32) = Int32.ofNat 1 from rfl, tb_at (w := 4) 64 e1 w rfl (by omega) (by omega) (by omega) (by omega) (by omega) (by omega), Nat.mul_comm j 4]
    have ih' := ih (j + 1) k (by omega) (by omega)
    rw [rl_all] at ih'
    rw [C_War_needed_l4, e1, if_pos ((ni_lt (by omega) (by omega)).mpr (by omega)), a0, Option.bind_some, hs]
    by_cases q : cells (4 * j) = Int32.ofNat o
    · rw [if_pos q, a1, Option.bind_some, hs, am_let, C_War_needed_p42, am_let, ni_succ]
      rw [if_pos q] at ih'
      exact ih'
    · rw [if_neg q, C_War_needed_p42, am_let, ni_succ]
      rw [if_neg q] at ih'
      exact ih'
theorem nd_needed {mc : Int32} {nd : Nat → Int32} {n : Nat} (hF : 2000 ≤ F) (w : σ 25 0 = 4) (h : rl_ND (σ 25 2) (σ 26) mc nd n) {o : Nat} (ho : o < 12) : C_War_needed F 1 (Int32.ofNat o) σ = some (nd o) := by
  obtain ⟨c, hc, e1, e2, e3, e4⟩ := h
  rw [C_War_needed, ← e3 o ho]
  exact nd_set hc w e1 rfl ho c 0 F (by omega) (by omega)
end
/-- both loops over the officers that are served -/
theorem sv_loop {F n m b : Nat} {σ τ : am_SS} (hF : 2000 ≤ F) (hn : n ≤ 12) (w : σ 23 0 = 4) (e0 : σ 2 0 = Int32.ofNat n) (e6 : τ 0 6 = Int32.ofNat n) (h : rl_SV (σ 23 2) (σ 24) (τ 0 38) (τ 20) m) (hb : b < 12) :
    ∀ (d j k k' : Nat) (acc : Int32), j + d = n → d < k → d < k' → ∃ r, C_War_servedBy_l4 F k 1 (Int32.ofNat b) acc (Int32.ofNat j) σ = some r ∧ M_who_l65 F k' (Int32.ofNat b) acc (Int32.ofNat j) τ = some (r, τ) := by
  intro d
  induction d with
  | zero =>
    intro j k k' acc hj hk hk'
    obtain ⟨k, rfl⟩ : ∃ n', k = n' + 1 := ⟨k - 1, by omega⟩
    obtain ⟨k', rfl⟩ : ∃ n', k' = n' + 1 := ⟨k' - 1, by omega⟩
    rw [C_War_servedBy_l4, M_who_l65, show σ (1 + 1) 0 = Int32.ofNat n from e0, e6, if_neg (fun g => absurd ((ni_lt (by omega) (by omega)).mp g) (by omega)), if_neg (fun g => absurd ((ni_lt (by omega) (by omega)).mp g) (by omega))]
    exact ⟨acc, rfl, rfl⟩
  | succ d ih =>
    intro j k k' acc hj hk hk'
    obtain ⟨k, rfl⟩ : ∃ n', k = n' + 1 := ⟨k - 1, by omega⟩
    obtain ⟨k', rfl⟩ : ∃ n', k' = n' + 1 := ⟨k' - 1, by omega⟩
    rw [C_War_servedBy_l4, M_who_l65, show σ (1 + 1) 0 = Int32.ofNat n from e0, e6, if_pos ((ni_lt (by omega) (by omega)).mpr (by omega)), if_pos ((ni_lt (by omega) (by omega)).mpr (by omega)), sv_batman hF w h (by omega), Option.bind_some, ni_rd (by omega) (by omega), Option.bind_some, am_let, am_let]
    by_cases q : τ 20 j = Int32.ofNat b + 1
    · rw [if_pos q, if_pos (by rw [q]; grind), C_War_servedBy_p30, M_who_p94, am_let, am_let, ni_succ]
      exact ih (j + 1) k k' _ (by omega) (by omega) (by omega)
    · rw [if_neg q, if_neg (by grind), C_War_servedBy_p30, M_who_p94, am_let, am_let, ni_succ]
      exact ih (j + 1) k k' _ (by omega) (by omega) (by omega)
theorem ca_11 (F : Nat) (hF : 2000 ≤ F) : aj_S11 F rl_R := by
  intro x y σ τ h
  have h := rl_told h 0
  simp only [C_who, M_who, am_let]
  generalize am_up τ 0 0 0 = τ at h ⊢
  have h' := h
  obtain ⟨hK, ⟨n, m, hFR, hFS, hIR, hIS, hBK, hGU, hLE, hKY, hBI, hQU, hCO, hOR, hSV, hND, hLW⟩, hPS, hTP, hFT, hIM⟩ := h'
  obtain ⟨hn, hm, e6, e7, hI⟩ := id hIS
  have e0 : σ 2 0 = Int32.ofNat n := hFS.1.trans e6
  have e8 : σ 2 8 = Int32.ofNat m := hFS.2.1.trans e7
  have w : σ 23 0 = 4 := hK.2.2.2.2.1
  by_cases q : ∃ j, j < m ∧ x = Int32.ofNat j
  · simp only [(hb_iff e8 hm).mpr q, (mb_iff e7 hm).mpr q, if_true]
    obtain ⟨j, hj, rfl⟩ := q
    have hj' : j < 12 := by omega
    have g := hFS.2.2 j hj'
    have f := hFR.2.2.2.2 j hj'
    by_cases q0 : y = 0
    · subst q0
      rw [if_pos rfl, if_pos rfl, ni_rd hj' (by omega), ni_rd hj' (by omega), Option.bind_some, Option.bind_some]
      exact ⟨_, _, rfl, rfl, g.2.2.1, h⟩
    by_cases q1 : y = 1
    · subst q1
      rw [if_neg q0, if_neg q0, if_pos rfl, if_pos rfl, ni_rd hj' (by omega), ni_rd hj' (by omega), Option.bind_some, Option.bind_some]
      exact ⟨_, _, rfl, rfl, g.2.2.2, h⟩
    by_cases q2 : y = 2
    · subst q2
      rw [if_neg q0, if_neg q0, if_neg q1, if_neg q1, if_pos rfl, if_pos rfl, ni_rd hj' (by omega), show (65 : Int32) + Int32.ofNat j = Int32.ofNat (65 + j) from ni_add 65 j, ni_rd (by omega) (by omega), Option.bind_some, Option.bind_some]
      exact ⟨_, _, rfl, rfl, f.2.2.2.2.2, h⟩
    by_cases q3 : y = 3
    · subst q3
      rw [if_neg q0, if_neg q0, if_neg q1, if_neg q1, if_neg q2, if_neg q2, if_pos rfl, if_pos rfl]
      obtain ⟨r, r1, r2⟩ := sv_loop (b := j) hF hn w e0 e6 hSV (by omega) n 0 F F 0 (by omega) (by omega) (by omega)
      rw [show Int32.ofNat 0 = 0 from rfl] at r1 r2
      rw [C_War_servedBy, r1, r2]
      exact ⟨_, _, rfl, rfl, rfl, h⟩
    rw [if_neg q0, if_neg q0, if_neg q1, if_neg q1, if_neg q2, if_neg q2, if_neg q3, if_neg q3]
    exact ⟨_, _, rfl, rfl, rfl, h⟩
  · rw [if_neg (fun g => q ((hb_iff e8 hm).mp g)), if_neg (fun g => q ((mb_iff e7 hm).mp g))]
    exact ⟨_, _, rfl, rfl, rfl, h⟩
