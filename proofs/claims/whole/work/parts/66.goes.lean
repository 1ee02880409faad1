/-! L3: goes, peace -/
theorem th_loop {F : Nat} {τ : am_SS} : ∀ (k j n : Nat) (ρ : Nat → Int32), j + k = 77 → k < n →
    ∃ ρ', M_thinks_l2 F n (Int32.ofNat j) (am_row τ 3 ρ) = some (am_up (am_row τ 3 ρ') 0 5 1) ∧ (∀ x, x < j → ρ' x = ρ x) ∧ ∀ x, j ≤ x → x < 77 → ρ' x = τ 1 x := by
  intro k
  induction k with
  | zero =>
    intro j n ρ hj hn
    obtain ⟨n, rfl⟩ : ∃ n', n = n' + 1 := ⟨n - 1, by omega⟩
    rw [M_thinks_l2, if_neg (fun g : _ < (77 : Int32) => absurd ((ni_lt (b := 77) (by omega) (by omega)).mp g) (by omega)), am_let]
    exact ⟨ρ, rfl, fun _ _ => rfl, fun x h1 h2 => absurd h2 (by omega)⟩
  | succ k ih =>
    intro j n ρ hj hn
    obtain ⟨n, rfl⟩ : ∃ n', n = n' + 1 := ⟨n - 1, by omega⟩
    obtain ⟨ρ', r1, r2, r3⟩ := ih (j + 1) n (upd ρ j (τ 1 j)) (by omega) (by omega)
    rw [M_thinks_l2, if_pos (show _ < (77 : Int32) from (ni_lt (b := 77) (by omega) (by omega)).mpr (by omega)), ni_rd (by omega) (by omega), Option.bind_some, ni_wr (by omega) (by omega), Option.bind_some, am_row_up, am_let, ni_succ, show am_row τ 3 ρ 1 j = τ 1 j from rfl, r1]
    refine ⟨ρ', rfl, fun x hx => ?_, fun x h1 h2 => ?_⟩
    · rw [r2 x (by omega), upd_ne (by omega)]
    · by_cases q : x = j
      · subst q; rw [r2 _ (by omega), upd_eq]
      · exact r3 x (by omega) h2
theorem et_loop {F : Nat} {τ : am_SS} : ∀ (k j n : Nat) (ρ : Nat → Int32), j + k = 77 → k < n →
    ∃ ρ', M_endsThought_l2 F n (Int32.ofNat j) (am_row τ 1 ρ) = some (am_up (am_row τ 1 ρ') 0 5 0) ∧ (∀ x, x < j → ρ' x = ρ x) ∧ ∀ x, j ≤ x → x < 77 → ρ' x = τ 3 x := by
  intro k
  induction k with
  | zero =>
    intro j n ρ hj hn
    obtain ⟨n, rfl⟩ : ∃ n', n = n' + 1 := ⟨n - 1, by omega⟩
    rw [M_endsThought_l2, if_neg (fun g : _ < (77 : Int32) => absurd ((ni_lt (b := 77) (by omega) (by omega)).mp g) (by omega)), am_let]
    exact ⟨ρ, rfl, fun _ _ => rfl, fun x h1 h2 => absurd h2 (by omega)⟩
  | succ k ih =>
    intro j n ρ hj hn
    obtain ⟨n, rfl⟩ : ∃ n', n = n' + 1 := ⟨n - 1, by omega⟩
    obtain ⟨ρ', r1, r2, r3⟩ := ih (j + 1) n (upd ρ j (τ 3 j)) (by omega) (by omega)
    rw [M_endsThought_l2, if_pos (show _ < (77 : Int32) from (ni_lt (b := 77) (by omega) (by omega)).mpr (by omega)), ni_rd (by omega) (by omega), Option.bind_some, ni_wr (by omega) (by omega), Option.bind_some, am_row_up, am_let, ni_succ, show am_row τ 1 ρ 3 j = τ 3 j from rfl, r1]
    refine ⟨ρ', rfl, fun x hx => ?_, fun x h1 h2 => ?_⟩
    · rw [r2 x (by omega), upd_ne (by omega)]
    · by_cases q : x = j
      · subst q; rw [r2 _ (by omega), upd_eq]
      · exact r3 x (by omega) h2
section
variable {F : Nat} {σ τ : am_SS} {n m : Nat}
/-- both begin to think: below, how a thought ends -/
theorem th_all (hF : 2000 ≤ F) (h : rl_R σ τ) : ∃ n m σ1 τ1, C_Front_copyFrom F 77 2 σ = some σ1 ∧ M_thinks F τ = some τ1 ∧ dy_D σ1 77 true τ1 n m ∧
    ∀ σ2 τ2, (∀ c, c ≠ 20 → (c < 77 ∨ 87 < c) → σ2 c = σ1 c) → (∀ c, c ≠ 1 → c ≠ 22 → c ≠ 23 → τ2 c = τ1 c) → ∃ τ3, M_endsThought F τ2 = some τ3 ∧ rl_R σ2 τ3 := by
  obtain ⟨hK, ⟨n, m, hFR, hFS, hIR, hIS, hBK, hGU, hLE, hKY, hBI, hQU, hCO, hOR, hSV, hND, hLW⟩, hPS, hTP, hFT, hIM⟩ := h
  obtain ⟨k1, k2, k3, k4, k5, k6, k7, k8, k9, k10, k11, k12, k13, k14, k15, k16, k17⟩ := id hK
  obtain ⟨σ1, y1, y2, ⟨z0, z8, z12, z13, z14, z15⟩, y4⟩ := cp_front (F := F) (a0 := 77) (a1 := 2) (σ := σ) hF (.inr (by omega)) (fun k h1 h2 => lc_dream h1 h2) (fun k h1 h2 => lc_now h1 h2)
  obtain ⟨ρ, r1, -, r3⟩ := th_loop (F := F) (τ := τ) 77 0 F (τ 3) (by omega) (by omega)
  rw [am_row_id, show Int32.ofNat 0 = 0 from rfl] at r1
  have hs : ∀ c, c < 77 ∨ 87 < c → σ1 c = σ c := fun c hc => y2 c (by omega)
  have tc : ∀ c, c ≠ 0 → c ≠ 3 → am_up (am_row τ 3 ρ) 0 5 1 c = τ c := fun c h1 h2 => by rw [am_up_ne h1, am_row_ne h2]
  have t0 : ∀ k, k ≠ 5 → am_up (am_row τ 3 ρ) 0 5 1 0 k = τ 0 k := fun k hk => by rw [am_up_ap, if_neg (fun g => hk g.2), am_row_ne (by omega)]
  have t05 : am_up (am_row τ 3 ρ) 0 5 1 0 5 = 1 := by simp [am_up_ap]
  have t3 : ∀ x, x < 77 → am_up (am_row τ 3 ρ) 0 5 1 3 x = τ 1 x := fun x hx => by rw [am_up_ne (by omega), am_row_eq, r3 x (by omega) hx]
  refine ⟨n, m, σ1, am_up (am_row τ 3 ρ) 0 5 1, y1, r1, ?_, ?_⟩
  · generalize am_up (am_row τ 3 ρ) 0 5 1 = τ1 at tc t0 t05 ⊢
    refine ⟨.inr ⟨rfl, rfl⟩, ⟨?_, ?_, ?_, ?_⟩, ⟨?_, ?_, ?_, ?_, ?_, ?_, ?_, ?_, ?_⟩, ?_, ?_, by rw [t05]; simp⟩
    · rw [tc 1 (by omega) (by omega)]
      refine fr_same hFR z12 z13 z14 z15 (fun i hi => ?_) (fun k hk => rfl)
      have g := fun k h1 h2 => y4 k h1 h2 i hi
      exact ⟨g 3 (by omega) (by omega), g 4 (by omega) (by omega), g 5 (by omega) (by omega), g 6 (by omega) (by omega), g 7 (by omega) (by omega), g 10 (by omega) (by omega)⟩
    · rw [t0 6 (by omega), t0 7 (by omega), tc 4 (by omega) (by omega), tc 5 (by omega) (by omega), tc 6 (by omega) (by omega), tc 7 (by omega) (by omega)]
      refine fs_same hFS z0 z8 (fun i hi => ?_)
      have g := fun k h1 h2 => y4 k h1 h2 i hi
      exact ⟨g 1 (by omega) (by omega), g 2 (by omega) (by omega), g 8 (by omega) (by omega), g 9 (by omega) (by omega)⟩
    · rw [tc 1 (by omega) (by omega)]; exact hIR
    · rw [t0 6 (by omega), t0 7 (by omega), tc 4 (by omega) (by omega), tc 5 (by omega) (by omega), tc 6 (by omega) (by omega), tc 7 (by omega) (by omega)]; exact hIS
    · simpa [hs] using k2
    · simpa [hs] using k3
    · simpa [hs] using k4
    · simpa [hs] using k5
    · simpa [hs] using k6
    · simpa [hs, tc, t0] using hOR
    · simpa [hs, tc, t0] using hSV
    · simpa [hs, tc, t0] using hND
    · simpa [hs, tc, t0] using hLW
    · simpa [hs, tc, t0] using hBK
    · simpa [hs] using k1
  · generalize am_up (am_row τ 3 ρ) 0 5 1 = τ1 at tc t0 t05 t3 ⊢
    intro σ2 τ2 h1 h2
    obtain ⟨ρ', s1, -, s3⟩ := et_loop (F := F) (τ := τ2) 77 0 F (τ2 1) (by omega) (by omega)
    rw [am_row_id, show Int32.ofNat 0 = 0 from rfl] at s1
    refine ⟨_, s1, ?_⟩
    have us : ∀ c, c ≠ 20 → (c < 77 ∨ 87 < c) → σ2 c = σ c := fun c a b => (h1 c a b).trans (hs c b)
    have u1 : am_up (am_row τ2 1 ρ') 0 5 0 1 = ρ' := by rw [am_up_ne (by omega), am_row_eq]
    have uc : ∀ c, c ≠ 0 → c ≠ 1 → c ≠ 3 → c ≠ 22 → c ≠ 23 → am_up (am_row τ2 1 ρ') 0 5 0 c = τ c := fun c a b d e f => by rw [am_up_ne a, am_row_ne b, h2 c b e f, tc c a d]
    have u0 : am_up (am_row τ2 1 ρ') 0 5 0 0 = τ 0 := by
      funext k
      rw [am_up_ap]
      by_cases hk : k = 5
      · rw [if_pos ⟨rfl, hk⟩, hk, k16]
      · rw [if_neg (fun g => hk g.2), am_row_ne (by omega), h2 0 (by omega) (by omega) (by omega), t0 k hk]
    have ur : ∀ x, x < 77 → ρ' x = τ 1 x := fun x hx => by rw [s3 x (by omega) hx, h2 3 (by omega) (by omega) (by omega), t3 x hx]
    generalize am_up (am_row τ2 1 ρ') 0 5 0 = τ3 at u1 uc u0 ⊢
    have pfe : rl_pf σ2 = rl_pf σ := by
      funext q c k
      simp only [rl_pf]
      by_cases g : q < 6 ∧ c < 11
      · rw [if_pos g, if_pos g, us _ (by omega) (by omega)]
      · rw [if_neg g, if_neg g]
    refine ⟨?_, ⟨n, m, ?_, ?_, ?_, ?_, ?_, ?_, ?_, ?_, ?_, ?_, ?_, ?_, ?_, ?_, ?_⟩, ?_, ?_, ?_, ?_⟩
    · simpa [us, uc, u0] using hK
    · rw [u1]
      have e : ∀ c, c < 20 → σ2 c = σ c := fun c hc => us c (by omega) (by omega)
      rw [e 2 (by omega), e 5 (by omega), e 6 (by omega), e 7 (by omega), e 8 (by omega), e 9 (by omega), e 12 (by omega)]
      exact fr_same hFR rfl rfl rfl rfl (fun i hi => ⟨rfl, rfl, rfl, rfl, rfl, rfl⟩) ur
    · simpa [us, uc, u0] using hFS
    · rw [u1]; exact ir_same hIR ur
    · simpa [us, uc, u0] using hIS
    · rw [u1, us 13 (by omega) (by omega), us 14 (by omega) (by omega), uc 8 (by omega) (by omega) (by omega) (by omega) (by omega), ur 2 (by omega)]; exact hBK
    · simpa [us, uc, u0] using hGU
    · simpa [us, uc, u0] using hLE
    · simpa [us, uc, u0] using hKY
    · simpa [us, uc, u0] using hBI
    · simpa [us, uc, u0] using hQU
    · simpa [us, uc, u0] using hCO
    · simpa [us, uc, u0] using hOR
    · simpa [us, uc, u0] using hSV
    · simpa [us, uc, u0] using hND
    · simpa [us, uc, u0] using hLW
    · rw [pfe, u1, ur 2 (by omega)]
      simpa [us, uc, u0] using hPS
    · simpa [us, uc, u0] using hTP
    · simpa [us, uc, u0] using hFT
    · rw [rl_IM_cg (fun c h1 h2 => us c (by omega) (by omega))]
      simpa [us, uc, u0] using hIM
theorem to_sum {ac K : Nat} (hn : n ≤ 12) (e0 : σ 77 0 = Int32.ofNat n) (e6 : τ 0 6 = Int32.ofNat n) (hL : LC.2.1 ac = 12) (hK : K ≤ 65) (he : ∀ j, j < 12 → σ ac j = τ 1 (K + j)) : ∀ (d j k k' : Nat) (acc : Int32), j + d = n → d < k → d < k' →
    ∃ r, C_Front_total_l4 F k 77 ac acc (Int32.ofNat j) σ = some r ∧ M_sumOf_l4 F k' (Int32.ofNat K) acc (Int32.ofNat j) τ = some r := by
  intro d
  induction d with
  | zero =>
    intro j k k' acc hj hk hk'
    obtain ⟨k, rfl⟩ : ∃ n', k = n' + 1 := ⟨k - 1, by omega⟩
    obtain ⟨k', rfl⟩ : ∃ n', k' = n' + 1 := ⟨k' - 1, by omega⟩
    rw [C_Front_total_l4, M_sumOf_l4, e0, e6, if_neg (fun g => absurd ((ni_lt (by omega) (by omega)).mp g) (by omega)), if_neg (fun g => absurd ((ni_lt (by omega) (by omega)).mp g) (by omega))]
    exact ⟨_, rfl, rfl⟩
  | succ d ih =>
    intro j k k' acc hj hk hk'
    obtain ⟨k, rfl⟩ : ∃ n', k = n' + 1 := ⟨k - 1, by omega⟩
    obtain ⟨k', rfl⟩ : ∃ n', k' = n' + 1 := ⟨k' - 1, by omega⟩
    have h1 : Int32.ofNat j < Int32.ofNat n := (ni_lt (by omega) (by omega)).mpr (by omega)
    rw [C_Front_total_l4, M_sumOf_l4, e0, e6, if_pos h1, if_pos h1, hL, if_pos ((ni_lt (by omega) (by omega)).mpr (by omega)), ni_rd (by omega) (by omega), Option.bind_some, dy_rM (by omega) K hK, Option.bind_some, am_let, am_let, am_let, am_let, ni_succ, he j (by omega)]
    exact ih (j + 1) k k' _ (by omega) (by omega) (by omega)
/-- the frames of a thought -/
theorem dy_th {σ1 τ1 σ2 τ2 : am_SS} (E : dy_E 77 true n m σ1 τ1 σ2 τ2) : (∀ c, c ≠ 20 → (c < 77 ∨ 87 < c) → σ2 c = σ1 c) ∧ (∀ c, c ≠ 1 → c ≠ 22 → c ≠ 23 → τ2 c = τ1 c) :=
  ⟨fun c a b => E.2.1 c a (by omega) (.inl rfl), fun c a b d => E.2.2.1 c a b d (.inl rfl)⟩
theorem go_loop {N : Nat} (hF : 2000 ≤ F) (hN : N ≤ 60) {y : Int32} (hy : rl_rg y 0 3) : ∀ (d j k k' : Nat) (σ1 τ1 : am_SS), dy_D σ1 77 true τ1 n m → j + d = N → d < k → d < k' →
    ∃ r σ2 τ2, C_goes_l40 F k (Int32.ofNat N) y (Int32.ofNat j) σ1 = some (r, σ2) ∧ M_goes_l36 F k' (Int32.ofNat N) y (Int32.ofNat j) τ1 = M_goes_p98 F r τ2 ∧ dy_E 77 true n m σ1 τ1 σ2 τ2 := by
  intro d
  induction d with
  | zero =>
    intro j k k' σ1 τ1 D hj hk hk'
    obtain ⟨k, rfl⟩ : ∃ n', k = n' + 1 := ⟨k - 1, by omega⟩
    obtain ⟨k', rfl⟩ : ∃ n', k' = n' + 1 := ⟨k' - 1, by omega⟩
    obtain ⟨hn, hm, e0, e8, e6, e7⟩ := dy_n D
    have f := (dy_fr D).1
    rw [C_goes_l40, M_goes_l36, if_neg (fun g => absurd ((ni_lt (by omega) (by omega)).mp g) (by omega)), if_neg (fun g => absurd ((ni_lt (by omega) (by omega)).mp g) (by omega))]
    by_cases y0 : y = 0
    · rw [if_pos y0, if_pos y0, rd_3 (by decide) (by decide), Option.bind_some, f.1]
      exact ⟨_, _, _, rfl, rfl, dy_rfl D⟩
    rw [if_neg y0, if_neg y0]
    by_cases y1 : y = 1
    · rw [if_pos y1, if_pos y1]
      obtain ⟨r, r1, r2⟩ := to_sum (F := F) (ac := 84) (K := 53) hn e0 e6 rfl (by omega) (fun j hj => (f.2.2.2.2 j hj).2.2.2.2.1) n 0 F F 0 (by omega) (by omega) (by omega)
      rw [show Int32.ofNat 0 = 0 from rfl] at r1 r2
      rw [C_Front_total, M_sumOf, r1, show (53 : Int32) = Int32.ofNat 53 from rfl, r2, Option.bind_some, Option.bind_some]
      exact ⟨_, _, _, rfl, rfl, dy_rfl D⟩
    rw [if_neg y1, if_neg y1]
    by_cases y2 : y = 2
    · rw [if_pos y2, if_pos y2]
      obtain ⟨r, r1, r2⟩ := to_sum (F := F) (ac := 82) (K := 29) hn e0 e6 rfl (by omega) (fun j hj => (f.2.2.2.2 j hj).2.2.1) n 0 F F 0 (by omega) (by omega) (by omega)
      rw [show Int32.ofNat 0 = 0 from rfl] at r1 r2
      rw [C_Front_total, M_sumOf, r1, show (29 : Int32) = Int32.ofNat 29 from rfl, r2, Option.bind_some, Option.bind_some]
      exact ⟨_, _, _, rfl, rfl, dy_rfl D⟩
    rw [if_neg y2, if_neg y2]
    obtain ⟨r, r1, r2⟩ := to_sum (F := F) (ac := 80) (K := 5) hn e0 e6 rfl (by omega) (fun j hj => (f.2.2.2.2 j hj).1) n 0 F F 0 (by omega) (by omega) (by omega)
    rw [show Int32.ofNat 0 = 0 from rfl] at r1 r2
    rw [C_Front_total, M_sumOf, r1, show (5 : Int32) = Int32.ofNat 5 from rfl, r2, Option.bind_some, Option.bind_some]
    exact ⟨_, _, _, rfl, rfl, dy_rfl D⟩
  | succ d ih =>
    intro j k k' σ1 τ1 D hj hk hk'
    obtain ⟨k, rfl⟩ : ∃ n', k = n' + 1 := ⟨k - 1, by omega⟩
    obtain ⟨k', rfl⟩ : ∃ n', k' = n' + 1 := ⟨k' - 1, by omega⟩
    have h1 : Int32.ofNat j < Int32.ofNat N := (ni_lt (by omega) (by omega)).mpr (by omega)
    obtain ⟨r, σ2, τ2, d1, d2, E⟩ := dy_day hF D
    obtain ⟨r', σ3, τ3, g1, g2, E'⟩ := ih (j + 1) k k' σ2 τ2 E.1 (by omega) (by omega) (by omega)
    rw [C_goes_l40, M_goes_l36, if_pos h1, if_pos h1, d1, d2, Option.bind_some, Option.bind_some, am_let, am_let, ni_succ]
    exact ⟨r', σ3, τ3, g1, g2, dy_trans E E'⟩
theorem ca_13 (F : Nat) (hF : 2000 ≤ F) : aj_S13 F rl_R := by
  intro x y σ τ h
  have h := rl_told h 0
  simp only [C_goes, M_goes, am_let]
  generalize am_up τ 0 0 0 = τ at h ⊢
  by_cases vx : rl_rg x 1 60
  case neg =>
    rw [if_neg (fun g => vx (ni_in.mp g))]
    by_cases q : x < 1
    · rw [if_pos q]; exact ⟨_, _, rfl, rfl, rfl, h⟩
    · rw [if_neg q, if_pos (Decidable.byContradiction (fun g => vx ⟨Int32.not_lt.mp q, Int32.not_lt.mp g⟩))]
      exact ⟨_, _, rfl, rfl, rfl, h⟩
  rw [if_neg (Int32.not_lt.mpr vx.1), if_neg (Int32.not_lt.mpr vx.2), if_pos (ni_in.mpr vx)]
  by_cases vy : rl_rg y 0 3
  case neg =>
    rw [if_neg (fun g => vy (ni_in.mp g))]
    by_cases q : y < 0
    · rw [if_pos q]; exact ⟨_, _, rfl, rfl, rfl, h⟩
    · rw [if_neg q, if_pos (Decidable.byContradiction (fun g => vy ⟨Int32.not_lt.mp q, Int32.not_lt.mp g⟩))]
      exact ⟨_, _, rfl, rfl, rfl, h⟩
  rw [if_neg (Int32.not_lt.mpr vy.1), if_neg (Int32.not_lt.mpr vy.2), if_pos (ni_in.mpr vy)]
  obtain ⟨n, m, σ1, τ1, c1, c2, D, fin⟩ := th_all hF h
  obtain ⟨N, hN, rfl⟩ := ni_of (x := x) (by have := vx.1; grind)
  have hN60 : N ≤ 60 := (ni_le (b := 60) hN (by omega)).mp vx.2
  obtain ⟨r, σ2, τ2, g1, g2, E⟩ := go_loop hF hN60 vy N 0 F F σ1 τ1 D (by omega) (by omega) (by omega)
  rw [show Int32.ofNat 0 = 0 from rfl] at g1 g2
  obtain ⟨f1, f2⟩ := dy_th E
  obtain ⟨τ3, e1, e2⟩ := fin σ2 τ2 f1 f2
  rw [c1, c2, Option.bind_some, Option.bind_some, g1, g2, M_goes_p98, e1, Option.bind_some]
  exact ⟨_, _, rfl, rfl, rfl, e2⟩
theorem pe_loop (hF : 2000 ≤ F) : ∀ (d j k k' : Nat) (σ1 τ1 : am_SS), dy_D σ1 77 true τ1 n m → j + d = 60 → d + 1 < k → d + 1 < k' →
    ∃ r σ2 τ2 x, C_peace_l16 F k (Int32.ofNat j) σ1 = some (r, σ2) ∧ M_peace_l11 F k' (Int32.ofNat j) τ1 = M_peace_p36 F x τ2 ∧ (if 60 < x then -1 else x) = r ∧
      (∀ c, c ≠ 20 → (c < 77 ∨ 87 < c) → σ2 c = σ1 c) ∧ (∀ c, c ≠ 1 → c ≠ 22 → c ≠ 23 → τ2 c = τ1 c) := by
  intro d
  induction d with
  | zero =>
    intro j k k' σ1 τ1 D hj hk hk'
    obtain ⟨k, rfl⟩ : ∃ n', k = n' + 1 := ⟨k - 1, by omega⟩
    obtain ⟨k', rfl⟩ : ∃ n', k' = n' + 1 + 1 := ⟨k' - 2, by omega⟩
    rw [show j = 60 from by omega, C_peace_l16, if_neg (show ¬ Int32.ofNat 60 < 60 from by decide), M_peace_l11, if_neg (show ¬ (60 : Int32) < Int32.ofNat 60 from by decide), won_M, Option.bind_some]
    by_cases q : 0 < τ1 1 4
    · rw [if_neg (fun g => (dy_won D).mp g q), if_pos (by simp [q])]
      exact ⟨_, _, _, _, rfl, rfl, by decide, fun _ _ _ => rfl, fun _ _ _ _ => rfl⟩
    · rw [if_pos ((dy_won D).mpr q), if_neg (by simp [q])]
      obtain ⟨r, σ2, τ2, d1, d2, E⟩ := dy_day hF D
      rw [d2, Option.bind_some, am_let, M_peace_l11, if_pos (by decide)]
      exact ⟨_, _, _, _, rfl, rfl, by decide, fun _ _ _ => rfl, (dy_th E).2⟩
  | succ d ih =>
    intro j k k' σ1 τ1 D hj hk hk'
    obtain ⟨k, rfl⟩ : ∃ n', k = n' + 1 := ⟨k - 1, by omega⟩
    obtain ⟨k', rfl⟩ : ∃ n', k' = n' + 1 := ⟨k' - 1, by omega⟩
    have n60 : ¬ (60 : Int32) < Int32.ofNat j := fun g => absurd ((ni_lt (a := 60) (by omega) (by omega)).mp g) (by omega)
    rw [C_peace_l16, if_pos (show _ < (60 : Int32) from (ni_lt (b := 60) (by omega) (by omega)).mpr (by omega)), M_peace_l11, if_neg n60, won_M, Option.bind_some]
    by_cases q : 0 < τ1 1 4
    · rw [if_neg (fun g => (dy_won D).mp g q), if_pos (by simp [q])]
      exact ⟨_, _, _, _, rfl, rfl, by rw [if_neg n60], fun _ _ _ => rfl, fun _ _ _ _ => rfl⟩
    · rw [if_pos ((dy_won D).mpr q), if_neg (by simp [q])]
      obtain ⟨r, σ2, τ2, d1, d2, E⟩ := dy_day hF D
      obtain ⟨f1, f2⟩ := dy_th E
      obtain ⟨r', σ3, τ3, x, g1, g2, g3, g4, g5⟩ := ih (j + 1) k k' σ2 τ2 E.1 (by omega) (by omega) (by omega)
      rw [d1, d2, Option.bind_some, Option.bind_some, am_let, am_let, ni_succ]
      exact ⟨r', σ3, τ3, x, g1, g2, g3, fun c a b => (g4 c a b).trans (f1 c a b), fun c a b d => (g5 c a b d).trans (f2 c a b d)⟩
theorem ca_14 (F : Nat) (hF : 2000 ≤ F) : aj_S14 F rl_R := by
  intro σ τ h
  have h := rl_told h 0
  simp only [C_peace, M_peace, am_let]
  generalize am_up τ 0 0 0 = τ at h ⊢
  obtain ⟨n, m, σ1, τ1, c1, c2, D, fin⟩ := th_all hF h
  obtain ⟨r, σ2, τ2, x, g1, g2, g3, g4, g5⟩ := pe_loop hF 60 0 F F σ1 τ1 D (by omega) (by omega) (by omega)
  rw [show Int32.ofNat 0 = 0 from rfl] at g1 g2
  obtain ⟨τ3, e1, e2⟩ := fin σ2 τ2 g4 g5
  rw [c1, c2, Option.bind_some, Option.bind_some, g1, g2, M_peace_p36, e1, Option.bind_some]
  by_cases q : 60 < x
  · rw [if_pos q] at g3 ⊢
    exact ⟨_, _, rfl, rfl, g3.symm, e2⟩
  · rw [if_neg q] at g3 ⊢
    exact ⟨_, _, rfl, rfl, g3.symm, e2⟩
end
