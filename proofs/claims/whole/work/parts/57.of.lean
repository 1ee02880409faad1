/-! L3: needs, of -/
theorem and_1 (y : Int32) : y &&& 1 = 0 ∨ y &&& 1 = 1 := by
  have h : (y &&& 1).toBitVec.toNat ≤ 1 := by
    rw [Int32.toBitVec_and, BitVec.toNat_and]
    exact Nat.and_le_right
  have e : y &&& 1 = Int32.ofNat ((y &&& 1).toBitVec.toNat) := by
    apply Int32.toBitVec_inj.mp
    show _ = BitVec.ofNat 32 _
    rw [BitVec.ofNat_toNat, BitVec.setWidth_eq]
  rw [e]
  rcases (by omega : (y &&& 1).toBitVec.toNat = 0 ∨ (y &&& 1).toBitVec.toNat = 1) with q | q
  · rw [q]; exact .inl rfl
  · rw [q]; exact .inr rfl
theorem has_one : ∀ q q' : Fin 12, (((1 : Int32) <<< (Int32.ofNat q'.val &&& 31)) >>> (Int32.ofNat q.val &&& 31)) &&& 1 = if q = q' then 1 else 0 := by decide +kernel
theorem has_iff {x y : Int32} : M_has x y = true ↔ (x >>> (y &&& 31)) &&& 1 = 1 := by
  unfold M_has
  by_cases q : (x >>> (y &&& 31)) &&& 1 = 1 <;> simp [q]
theorem has_or {x : Int32} {q q' : Nat} (hq : q < 12) (hq' : q' < 12) : M_has (x ||| (1 <<< (Int32.ofNat q' &&& 31))) (Int32.ofNat q) = true ↔ M_has x (Int32.ofNat q) = true ∨ q = q' := by
  rw [has_iff, has_iff, Int32.shiftRight_or]
  have d : (x >>> (Int32.ofNat q &&& 31) ||| (1 <<< (Int32.ofNat q' &&& 31)) >>> (Int32.ofNat q &&& 31)) &&& 1 = (x >>> (Int32.ofNat q &&& 31) &&& 1) ||| (((1 : Int32) <<< (Int32.ofNat q' &&& 31)) >>> (Int32.ofNat q &&& 31) &&& 1) := by
    apply Int32.toBitVec_inj.mp
    simp only [Int32.toBitVec_and, Int32.toBitVec_or]
    apply BitVec.eq_of_getLsbD_eq
    intro i hi
    simp only [BitVec.getLsbD_and, BitVec.getLsbD_or, Bool.and_or_distrib_right]
  have o := has_one ⟨q, hq⟩ ⟨q', hq'⟩
  simp only [Fin.mk.injEq] at o
  rw [d, o]
  rcases and_1 (x >>> (Int32.ofNat q &&& 31)) with z | z <;> rw [z] <;> by_cases e : q = q' <;> simp [e]
theorem has_0 {y : Int32} : M_has 0 y = false := by
  unfold M_has; simp
theorem has_all {cells : Nat → Int32} {o : Nat} {q : Nat} (hq : q < 12) : ∀ c, (∀ i, i < c → ∃ w, w < 12 ∧ cells (4 * i + 1) = Int32.ofNat w) →
    (M_has (rl_all cells o c) (Int32.ofNat q) = true ↔ ∃ i, i < c ∧ cells (4 * i) = Int32.ofNat o ∧ cells (4 * i + 1) = Int32.ofNat q) := by
  intro c
  induction c with
  | zero => intro _; rw [rl_all, has_0]; constructor
            · intro g; cases g
            · rintro ⟨i, hi, -⟩; omega
  | succ c ih =>
    intro h
    have ih' := ih (fun i hi => h i (by omega))
    obtain ⟨w, hw, ew⟩ := h c (by omega)
    rw [rl_all]
    by_cases z : cells (4 * c) = Int32.ofNat o
    · rw [if_pos z, ew, has_or hq hw, ih']
      constructor
      · rintro (⟨i, hi, a, b⟩ | e)
        · exact ⟨i, by omega, a, b⟩
        · exact ⟨c, by omega, z, by rw [ew, e]⟩
      · rintro ⟨i, hi, a, b⟩
        by_cases ic : i = c
        · subst ic; exact .inr ((ni_eq (by omega) (by omega)).mp (b.symm.trans ew))
        · exact .inl ⟨i, by omega, a, b⟩
    · rw [if_neg z, ih']
      constructor
      · rintro ⟨i, hi, a, b⟩; exact ⟨i, by omega, a, b⟩
      · rintro ⟨i, hi, a, b⟩
        by_cases ic : i = c
        · subst ic; exact absurd a z
        · exact ⟨i, by omega, a, b⟩
section
variable {F : Nat} {σ τ : am_SS} {a n m o : Nat}
theorem nh_C {c : Nat} (hc : c ≤ 16) (hn : n ≤ 12) (w : σ 25 0 = 4) (e1 : σ 25 2 = Int32.ofNat c) (e0 : σ a 0 = Int32.ofNat n) (hq : ∀ i, i < c → ∃ q, q < n ∧ σ 26 (4 * i + 1) = Int32.ofNat q) : ∀ (d j k : Nat), j + d = c → d < k →
    ∃ r, C_War_hasHisNeeds_l2 F k 1 a (Int32.ofNat o) (Int32.ofNat j) σ = some r ∧ (r = true ↔ ∀ i, j ≤ i → i < c → σ 26 (4 * i) = Int32.ofNat o → ∀ q, q < n → σ 26 (4 * i + 1) = Int32.ofNat q → ¬ σ (a + 4) q < 10) := by
  intro d
  induction d with
  | zero =>
    intro j k hj hk
    obtain ⟨k, rfl⟩ : ∃ n', k = n' + 1 := ⟨k - 1, by omega⟩
    rw [C_War_hasHisNeeds_l2, show σ (1 + 24) 2 = Int32.ofNat c from e1, if_neg (fun g => absurd ((ni_lt (by omega) (by omega)).mp g) (by omega))]
    exact ⟨true, rfl, ⟨fun _ i h1 h2 => absurd h2 (by omega), fun _ => rfl⟩⟩
  | succ d ih =>
    intro j k hj hk
    obtain ⟨k, rfl⟩ : ∃ n', k = n' + 1 := ⟨k - 1, by omega⟩
    have a0 : C_Table_at (1 + 24) (Int32.ofNat j) 0 σ = some (σ 26 (4 * j)) := by
      rw [show (0 : Int32) = Int32.ofNat 0 from rfl, tb_at (w := 4) 64 e1 w rfl (by omega) (by omega) (by omega) (by omega) (by omega) (by omega), Nat.mul_comm j 4]; rfl
    have a1 : C_Table_at (1 + 24) (Int32.ofNat j) 1 σ = some (σ 26 (4 * j + 1)) := by
      rw [show (1 : Int32) = Int32.ofNat 1 from rfl, tb_at (w := 4) 64 e1 w rfl (by omega) (by omega) (by omega) (by omega) (by omega) (by omega), Nat.mul_comm j 4]
    obtain ⟨r, r1, r2⟩ := ih (j + 1) k (by omega) (by omega)
    obtain ⟨q, hqn, eq⟩ := hq j (by omega)
    rw [C_War_hasHisNeeds_l2, show σ (1 + 24) 2 = Int32.ofNat c from e1, if_pos ((ni_lt (by omega) (by omega)).mpr (by omega)), a0, Option.bind_some]
    by_cases z : σ 26 (4 * j) = Int32.ofNat o
    · rw [if_pos z, a1, Option.bind_some, eq, C_Front_hasTen, if_pos ((ho_iff e0 hn).mpr ⟨q, hqn, rfl⟩), ni_rd (by omega) (by omega), Option.bind_some]
      by_cases t : σ (a + 4) q < 10
      · rw [if_pos t, Option.bind_some, if_neg (by simp)]
        exact ⟨false, rfl, ⟨fun g => Bool.noConfusion g, fun h => absurd t (h j (Nat.le_refl j) (by omega) z q hqn eq)⟩⟩
      · rw [if_neg t, Option.bind_some, if_pos rfl, C_War_hasHisNeeds_p44, am_let, ni_succ, r1]
        refine ⟨r, rfl, r2.trans ⟨fun h i h1 h2 h3 q' hq' e' => ?_, fun h i h1 h2 => h i (by omega) h2⟩⟩
        by_cases ij : i = j
        · subst ij
          have := (ni_eq (by omega) (by omega)).mp (e'.symm.trans eq)
          rw [this]; exact t
        · exact h i (by omega) h2 h3 q' hq' e'
    · rw [if_neg z, C_War_hasHisNeeds_p44, am_let, ni_succ, r1]
      refine ⟨r, rfl, r2.trans ⟨fun h i h1 h2 h3 => ?_, fun h i h1 h2 => h i (by omega) h2⟩⟩
      by_cases ij : i = j
      · subst ij; exact absurd h3 z
      · exact h i (by omega) h2 h3
theorem nh_M (hn : n ≤ 12) (ho : o < 12) (e6 : τ 0 6 = Int32.ofNat n) : ∀ (d j k : Nat), j + d = n → d < k →
    ∃ r, M_hasNeeds_l2 F k (Int32.ofNat o) (Int32.ofNat j) τ = some r ∧ (r = true ↔ ∀ q, j ≤ q → q < n → M_has (τ 21 o) (Int32.ofNat q) = true → ¬ τ 1 (17 + q) < 10) := by
  intro d
  induction d with
  | zero =>
    intro j k hj hk
    obtain ⟨k, rfl⟩ : ∃ n', k = n' + 1 := ⟨k - 1, by omega⟩
    rw [M_hasNeeds_l2, e6, if_neg (fun g => absurd ((ni_lt (by omega) (by omega)).mp g) (by omega))]
    exact ⟨true, rfl, ⟨fun _ i h1 h2 => absurd h2 (by omega), fun _ => rfl⟩⟩
  | succ d ih =>
    intro j k hj hk
    obtain ⟨k, rfl⟩ : ∃ n', k = n' + 1 := ⟨k - 1, by omega⟩
    obtain ⟨r, r1, r2⟩ := ih (j + 1) k (by omega) (by omega)
    rw [M_hasNeeds_l2, e6, if_pos ((ni_lt (by omega) (by omega)).mpr (by omega)), ni_rd (by omega) (by omega), Option.bind_some]
    by_cases z : M_has (τ 21 o) (Int32.ofNat j) = true
    · rw [if_pos z, show (17 : Int32) + Int32.ofNat j = Int32.ofNat (17 + j) from ni_add 17 j, ni_rd (by omega) (by omega), Option.bind_some]
      by_cases t : τ 1 (17 + j) < 10
      · rw [if_pos t]
        exact ⟨false, rfl, ⟨fun g => Bool.noConfusion g, fun h => absurd t (h j (Nat.le_refl j) (by omega) z)⟩⟩
      · rw [if_neg t, M_hasNeeds_p40, am_let, ni_succ, r1]
        refine ⟨r, rfl, r2.trans ⟨fun h i h1 h2 h3 => ?_, fun h i h1 h2 => h i (by omega) h2⟩⟩
        by_cases ij : i = j
        · subst ij; exact t
        · exact h i (by omega) h2 h3
    · rw [if_neg z, M_hasNeeds_p40, am_let, ni_succ, r1]
      refine ⟨r, rfl, r2.trans ⟨fun h i h1 h2 h3 => ?_, fun h i h1 h2 => h i (by omega) h2⟩⟩
      by_cases ij : i = j
      · subst ij; exact absurd h3 z
      · exact h i (by omega) h2 h3
theorem nh_eq (hF : 2000 ≤ F) (h : rl_Fr σ a τ n m) (w : σ 25 0 = 4) (hND : rl_ND (σ 25 2) (σ 26) (τ 0 40) (τ 21) n) (ho : o < n) :
    ∃ r, C_War_hasHisNeeds F 1 a (Int32.ofNat o) σ = some r ∧ M_hasNeeds F (Int32.ofNat o) τ = some r := by
  obtain ⟨hFR, hFS, hIR, hIS⟩ := h
  have hn : n ≤ 12 := hIS.1
  have e6 := hIS.2.2.1
  have e0 : σ a 0 = Int32.ofNat n := hFS.1.trans e6
  obtain ⟨c, hc, e1, -, e3, e4⟩ := hND
  obtain ⟨r, r1, r2⟩ := nh_C (F := F) (o := o) hc hn w e1 e0 e4 c 0 F (by omega) (by omega)
  obtain ⟨r', r1', r2'⟩ := nh_M (F := F) (o := o) hn (by omega) e6 n 0 F (by omega) (by omega)
  rw [show Int32.ofNat 0 = 0 from rfl] at r1 r1'
  rw [C_War_hasHisNeeds, M_hasNeeds, r1, r1']
  have : r = r' := by
    rw [Bool.eq_iff_iff, r2, r2']
    have hp : ∀ q, q < 12 → σ (a + 4) q = τ 1 (17 + q) := fun q hq => (hFR.2.2.2.2 q hq).2.1
    have ha := fun q (hq : q < 12) => has_all (cells := σ 26) (o := o) hq c (fun i hi => by
      obtain ⟨w, hw, ew⟩ := e4 i hi; exact ⟨w, by omega, ew⟩)
    constructor
    · intro g q _ hq hh
      rw [← e3 o (by omega)] at hh
      obtain ⟨i, hi, x1, x2⟩ := (ha q (by omega)).mp hh
      rw [← hp q (by omega)]
      exact g i (by omega) hi x1 q hq x2
    · intro g i _ hi x1 q hq x2
      rw [hp q (by omega)]
      refine g q (by omega) hq ?_
      rw [← e3 o (by omega)]
      exact (ha q (by omega)).mpr ⟨i, hi, x1, x2⟩
  exact ⟨r, rfl, by rw [this]⟩
theorem gu_eq (h : rl_Fr σ a τ n m) (ho : o < n) : ∃ r, C_Front_mustGiveUp a (Int32.ofNat o) σ = some r ∧ M_isGivenUp (Int32.ofNat o) τ = some r := by
  obtain ⟨hFR, hFS, hIR, hIS⟩ := h
  have hn : n ≤ 12 := hIS.1
  have e0 : σ a 0 = Int32.ofNat n := hFS.1.trans hIS.2.2.1
  have f := hFR.2.2.2.2 o (by omega)
  rw [C_Front_mustGiveUp, if_pos ((ho_iff e0 hn).mpr ⟨o, ho, rfl⟩), M_isGivenUp, ni_rd (by omega) (by omega), Option.bind_some, ni_rd (by omega) (by omega), Option.bind_some,
    show (41 : Int32) + Int32.ofNat o = Int32.ofNat (41 + o) from ni_add 41 o, ni_rd (by omega) (by omega), Option.bind_some, show (29 : Int32) + Int32.ofNat o = Int32.ofNat (29 + o) from ni_add 29 o, ni_rd (by omega) (by omega), Option.bind_some, f.2.2.2.1, f.2.2.1]
  by_cases q1 : τ 1 (41 + o) = 1
  · rw [if_pos q1, if_pos q1]; exact ⟨true, rfl, rfl⟩
  · by_cases q2 : τ 1 (29 + o) = 1
    · rw [if_neg q1, if_neg q1, if_pos q2, if_pos q2]; exact ⟨true, rfl, rfl⟩
    · rw [if_neg q1, if_neg q1, if_neg q2, if_neg q2]; exact ⟨false, rfl, rfl⟩
end
theorem ca_10 (F : Nat) (hF : 2000 ≤ F) : aj_S10 F rl_R := by
  intro x y σ τ h
  have h := rl_told h 0
  simp only [C_of, M_of, am_let]
  generalize am_up τ 0 0 0 = τ at h ⊢
  have h' := h
  obtain ⟨hK, ⟨n, m, hFR, hFS, hIR, hIS, hBK, hGU, hLE, hKY, hBI, hQU, hCO, hOR, hSV, hND, hLW⟩, hPS, hTP, hFT, hIM⟩ := h'
  obtain ⟨hn, hm, e6, e7, hI⟩ := id hIS
  have e0 : σ 2 0 = Int32.ofNat n := hFS.1.trans e6
  by_cases q : ∃ j, j < n ∧ x = Int32.ofNat j
  case neg =>
    rw [if_neg (fun g => q ((ho_iff e0 hn).mp g)), if_neg (fun g => q ((mo_iff e6 hn).mp g))]
    exact ⟨_, _, rfl, rfl, rfl, h⟩
  simp only [(ho_iff e0 hn).mpr q, (mo_iff e6 hn).mpr q, if_true]
  obtain ⟨j, hj, rfl⟩ := q
  have hj' : j < 12 := by omega
  have g := hFS.2.2 j hj'
  have f := hFR.2.2.2.2 j hj'
  have hFr : rl_Fr σ 2 τ n m := ⟨hFR, hFS, hIR, hIS⟩
  have hTo : rl_To σ τ n m := ⟨hK.2.1, hK.2.2.1, hK.2.2.2.1, hK.2.2.2.2.1, hK.2.2.2.2.2.1, hOR, hSV, hND, hLW⟩
  have rk : ∀ K, K + 12 ≤ 77 → am_rd τ 1 77 (Int32.ofNat (K + j)) = some (τ 1 (K + j)) := fun K hK => by rw [ni_rd (by omega) (by omega)]
  have q0 : ∀ c, c ≠ 20 → ∀ k, c + k < 20 → am_rd σ c 12 (Int32.ofNat j) = some (σ c j) := fun c _ _ _ => ni_rd hj' (by omega)
  have frame : ∀ (g' A h' : Nat → Int32), rl_R (am_row σ 20 g') (am_row (am_row τ 22 A) 23 h') := by
    intro g' A h'
    refine ⟨?_, ⟨n, m, ?_, ?_, ?_, ?_, ?_, ?_, ?_, ?_, ?_, ?_, ?_, ?_, ?_, ?_, ?_⟩, ?_, ?_, ?_, ?_⟩
    · simpa [am_row_ne] using hK
    · simpa [am_row_ne] using hFR
    · simpa [am_row_ne] using hFS
    · simpa [am_row_ne] using hIR
    · simpa [am_row_ne] using hIS
    · simpa [am_row_ne] using hBK
    · simpa [am_row_ne] using hGU
    · simpa [am_row_ne] using hLE
    · simpa [am_row_ne] using hKY
    · simpa [am_row_ne] using hBI
    · simpa [am_row_ne] using hQU
    · simpa [am_row_ne] using hCO
    · simpa [am_row_ne] using hOR
    · simpa [am_row_ne] using hSV
    · simpa [am_row_ne] using hND
    · simpa [am_row_ne] using hLW
    · simpa [am_row_ne, rl_pf_row] using hPS
    · simpa [am_row_ne] using hTP
    · simpa [am_row_ne] using hFT
    · simpa [am_row_ne, rl_IM_row] using hIM
  have asks := as_all hF (by omega) hFr hTo hj
  by_cases y0 : y = 0
  · subst y0
    rw [if_pos rfl, if_pos rfl, ni_rd hj' (by omega), ni_rd hj' (by omega), Option.bind_some, Option.bind_some]
    exact ⟨_, _, rfl, rfl, g.1, h⟩
  rw [if_neg y0, if_neg y0]
  by_cases y1 : y = 1
  · subst y1
    rw [if_pos rfl, if_pos rfl, ni_rd hj' (by omega), ni_rd hj' (by omega), Option.bind_some, Option.bind_some]
    exact ⟨_, _, rfl, rfl, g.2.1, h⟩
  rw [if_neg y1, if_neg y1]
  by_cases y26 : rl_rg y 2 6
  · rw [if_pos (ni_in.mpr y26)]
    have cs : y = 2 ∨ y = 3 ∨ y = 4 ∨ y = 5 ∨ y = 6 := by have := y26.1; have := y26.2; grind
    rcases cs with rfl | rfl | rfl | rfl | rfl
    · rw [if_pos rfl, show (5 : Int32) + 12 * (2 - 2) + Int32.ofNat j = Int32.ofNat (5 + j) from ni_add 5 j, rk 5 (by omega), ni_rd hj' (by omega), Option.bind_some, Option.bind_some]
      exact ⟨_, _, rfl, rfl, f.1, h⟩
    · rw [if_neg (by decide), if_pos rfl, show (5 : Int32) + 12 * (3 - 2) + Int32.ofNat j = Int32.ofNat (17 + j) from ni_add 17 j, rk 17 (by omega), ni_rd hj' (by omega), Option.bind_some, Option.bind_some]
      exact ⟨_, _, rfl, rfl, f.2.1, h⟩
    · rw [if_neg (by decide), if_neg (by decide), if_pos rfl, show (5 : Int32) + 12 * (4 - 2) + Int32.ofNat j = Int32.ofNat (29 + j) from ni_add 29 j, rk 29 (by omega), ni_rd hj' (by omega), Option.bind_some, Option.bind_some]
      exact ⟨_, _, rfl, rfl, f.2.2.1, h⟩
    · rw [if_neg (by decide), if_neg (by decide), if_neg (by decide), if_pos rfl, show (5 : Int32) + 12 * (5 - 2) + Int32.ofNat j = Int32.ofNat (41 + j) from ni_add 41 j, rk 41 (by omega), ni_rd hj' (by omega), Option.bind_some, Option.bind_some]
      exact ⟨_, _, rfl, rfl, f.2.2.2.1, h⟩
    · rw [if_neg (by decide), if_neg (by decide), if_neg (by decide), if_neg (by decide), if_pos rfl, show (5 : Int32) + 12 * (6 - 2) + Int32.ofNat j = Int32.ofNat (53 + j) from ni_add 53 j, rk 53 (by omega), ni_rd hj' (by omega), Option.bind_some, Option.bind_some]
      exact ⟨_, _, rfl, rfl, f.2.2.2.2.1, h⟩
  have n2 : ∀ k : Int32, rl_rg k 2 6 → ¬ y = k := fun k hk e => y26 (e ▸ hk)
  rw [if_neg (n2 2 ⟨by decide, by decide⟩), if_neg (n2 3 ⟨by decide, by decide⟩), if_neg (n2 4 ⟨by decide, by decide⟩), if_neg (n2 5 ⟨by decide, by decide⟩), if_neg (n2 6 ⟨by decide, by decide⟩), if_neg (fun g => y26 (ni_in.mp g))]
  by_cases y7 : y = 7
  · rw [if_pos y7, if_pos y7, sv_batman hF hK.2.2.2.2.1 hSV hj', ni_rd (by omega) (by omega), Option.bind_some, Option.bind_some]
    exact ⟨_, _, rfl, rfl, rfl, h⟩
  rw [if_neg y7, if_neg y7]
  by_cases y8 : y = 8
  · rw [if_pos y8, if_pos y8, nd_needed hF hK.2.2.2.2.2.1 hND hj', ni_rd (by omega) (by omega), Option.bind_some, Option.bind_some]
    exact ⟨_, _, rfl, rfl, rfl, h⟩
  rw [if_neg y8, if_neg y8]
  by_cases y9 : y = 9
  · obtain ⟨v, g', A, h', x1, x2, -⟩ := asks.1
    rw [if_pos y9, if_pos y9, x1, x2, Option.bind_some, Option.bind_some]
    exact ⟨_, _, rfl, rfl, rfl, frame g' A h'⟩
  rw [if_neg y9, if_neg y9]
  by_cases y10 : y = 10
  · obtain ⟨v, g', A, h', x1, x2, -⟩ := asks.2.1
    rw [if_pos y10, if_pos y10, x1, x2, Option.bind_some, Option.bind_some]
    exact ⟨_, _, rfl, rfl, rfl, frame g' A h'⟩
  rw [if_neg y10, if_neg y10]
  by_cases y11 : y = 11
  · obtain ⟨v, g', A, h', x1, x2, -⟩ := asks.2.2
    rw [if_pos y11, if_pos y11, x1, x2, Option.bind_some, Option.bind_some]
    exact ⟨_, _, rfl, rfl, rfl, frame g' A h'⟩
  rw [if_neg y11, if_neg y11]
  by_cases y12 : y = 12
  · obtain ⟨r, r1, r2⟩ := gu_eq hFr hj
    obtain ⟨s, s1, s2⟩ := nh_eq hF hFr hK.2.2.2.2.2.1 hND hj
    rw [if_pos y12, if_pos y12, M_canComeOn, r1, r2, s1, s2, Option.bind_some, Option.bind_some, Option.bind_some, Option.bind_some]
    cases r <;> cases s <;> exact ⟨_, _, rfl, rfl, rfl, h⟩
  rw [if_neg y12, if_neg y12]
  exact ⟨_, _, rfl, rfl, rfl, h⟩
