/-! L3: message -/
theorem fm_a : ∀ a : Fin 26, ∀ b : Fin 26, J_floorMod (Int32.ofNat a.val + Int32.ofNat b.val) 26 = some ((Int32.ofNat a.val + Int32.ofNat b.val) % 26) := by decide +kernel
theorem fm_s : ∀ a : Fin 26, ∀ b : Fin 26, J_floorMod (Int32.ofNat a.val - Int32.ofNat b.val) 26 = some ((Int32.ofNat a.val + (26 - Int32.ofNat b.val)) % 26) := by decide +kernel
theorem fm_d : ∀ a : Fin 26, ∀ b : Fin 26, (Int32.ofNat a.val + (26 - Int32.ofNat b.val)) % 26 = (Int32.ofNat a.val - Int32.ofNat b.val + 26) % 26 := by decide +kernel
theorem rg_25 {x : Int32} (h : rl_rg x 0 25) : ∃ a : Fin 26, x = Int32.ofNat a.val := by
  obtain ⟨j, hj, rfl⟩ := ni_of (x := x) (by unfold rl_rg at h; grind)
  exact ⟨⟨j, by have := (ni_le (b := 25) hj (by omega)).mp h.2; omega⟩, rfl⟩
theorem fm_add {x y : Int32} (hx : rl_rg x 0 25) (hy : rl_rg y 0 25) : J_floorMod (x + y) 26 = some ((x + y) % 26) := by
  obtain ⟨a, rfl⟩ := rg_25 hx; obtain ⟨b, rfl⟩ := rg_25 hy; exact fm_a a b
theorem fm_sub {x y : Int32} (hx : rl_rg x 0 25) (hy : rl_rg y 0 25) : J_floorMod (x - y) 26 = some ((x + (26 - y)) % 26) := by
  obtain ⟨a, rfl⟩ := rg_25 hx; obtain ⟨b, rfl⟩ := rg_25 hy; exact fm_s a b
theorem fm_sub2 {x y : Int32} (hx : rl_rg x 0 25) (hy : rl_rg y 0 25) : J_floorMod (x - y) 26 = some ((x - y + 26) % 26) := by
  rw [fm_sub hx hy]
  obtain ⟨a, rfl⟩ := rg_25 hx; obtain ⟨b, rfl⟩ := rg_25 hy; rw [fm_d a b]
theorem rl_same {j k : Nat} (hk : 1 ≤ k) (hk6 : k ≤ 6) (hj : j < 12) : C_Nights_rail (Int32.ofNat j) (Int32.ofNat k) = M_railOf (Int32.ofNat j) (Int32.ofNat k) := by
  have key : ∀ j : Fin 12, ∀ k : Fin 7, 1 ≤ k.val → C_Nights_rail (Int32.ofNat j.val) (Int32.ofNat k.val) = M_railOf (Int32.ofNat j.val) (Int32.ofNat k.val) := by decide +kernel
  exact key ⟨j, hj⟩ ⟨k, by omega⟩ hk
theorem rl_some {j k : Nat} (hk : 1 ≤ k) (hk6 : k ≤ 6) (hj : j < 12) : ∃ v, M_railOf (Int32.ofNat j) (Int32.ofNat k) = some v := by
  have key : ∀ j : Fin 12, ∀ k : Fin 7, 1 ≤ k.val → (M_railOf (Int32.ofNat j.val) (Int32.ofNat k.val)).isSome = true := by decide +kernel
  exact Option.isSome_iff_exists.mp (key ⟨j, hj⟩ ⟨k, by omega⟩ hk)
section
variable {F c kk : Nat} {σ τ : am_SS}
theorem le_at (hc : c ≤ 12) (w : σ 29 0 = 1) (e1 : σ 29 2 = Int32.ofNat c) {j : Nat} (hj : j < c) : C_Table_at 29 (Int32.ofNat j) 0 σ = some (σ 30 j) := by
  rw [show (0 : Int32) = Int32.ofNat 0 from rfl, tb_at (w := 1) 12 e1 w rfl hj (by omega) (by omega) (by omega) (by omega) (by omega)]; simp
/-- both end alike -/
def ra_ok (σ τ : am_SS) (a b : Option Int32) : Prop := ∃ v w, a = some v ∧ C_Table_at 29 v 0 σ = some w ∧ b = some w
theorem ra_in (hc : c ≤ 12) (h1 : 1 ≤ kk) (h6 : kk ≤ 6) (w : σ 29 0 = 1) (e1 : σ 29 2 = Int32.ofNat c) (e2 : τ 30 0 = Int32.ofNat c) (e3 : ∀ k, k < 12 → σ 30 k = τ 31 k) {i r : Int32}
    {recC : Int32 → Int32 → Int32 → Int32 → Int32 → Option Int32} {recM : Int32 → Int32 → Int32 → Int32 → am_SS → Option Int32}
    (hrec : ∀ x3, ra_ok σ τ (recC (Int32.ofNat c) (Int32.ofNat kk) i x3 (r + 1)) (recM (Int32.ofNat kk) i x3 (r + 1) τ)) :
    ∀ (d j k k' : Nat) (x3 : Int32), j + d = c → d < k → d < k' →
    ra_ok σ τ (C_Nights_byRails_l14 recC F k (Int32.ofNat c) (Int32.ofNat kk) i x3 r (Int32.ofNat j)) (M_byRails_l14 recM F k' (Int32.ofNat kk) i x3 r (Int32.ofNat j) τ) := by
  intro d
  induction d with
  | zero =>
    intro j k k' x3 hj hk hk'
    obtain ⟨k, rfl⟩ : ∃ n', k = n' + 1 := ⟨k - 1, by omega⟩
    obtain ⟨k', rfl⟩ : ∃ n', k' = n' + 1 := ⟨k' - 1, by omega⟩
    rw [C_Nights_byRails_l14, M_byRails_l14, rd_0 (by decide) (by decide), Option.bind_some, e2, if_neg (fun g => absurd ((ni_lt (by omega) (by omega)).mp g) (by omega)), if_neg (fun g => absurd ((ni_lt (by omega) (by omega)).mp g) (by omega))]
    exact hrec x3
  | succ d ih =>
    intro j k k' x3 hj hk hk'
    obtain ⟨k, rfl⟩ : ∃ n', k = n' + 1 := ⟨k - 1, by omega⟩
    obtain ⟨k', rfl⟩ : ∃ n', k' = n' + 1 := ⟨k' - 1, by omega⟩
    have hj' : j < c := by omega
    rw [C_Nights_byRails_l14, M_byRails_l14, rd_0 (by decide) (by decide), Option.bind_some, e2, if_pos ((ni_lt (by omega) (by omega)).mpr hj'), if_pos ((ni_lt (by omega) (by omega)).mpr hj'), rl_same h1 h6 (by omega)]
    obtain ⟨v, hv⟩ := rl_some (j := j) h1 h6 (by omega)
    rw [hv, Option.bind_some, Option.bind_some]
    by_cases q : v = r
    · rw [if_pos q, if_pos q]
      by_cases q' : x3 = i
      · rw [if_pos q', if_pos q', ni_rd (by omega) (by omega)]
        exact ⟨_, _, rfl, le_at hc w e1 hj', by rw [Option.bind_some, e3 j (by omega)]⟩
      · rw [if_neg q', if_neg q', am_let, am_let, C_Nights_byRails_p42, M_byRails_p57, am_let, am_let, ni_succ]
        exact ih (j + 1) k k' _ (by omega) (by omega) (by omega)
    · rw [if_neg q, if_neg q, C_Nights_byRails_p42, M_byRails_p57, am_let, am_let, ni_succ]
      exact ih (j + 1) k k' _ (by omega) (by omega) (by omega)
theorem ra_out (hF : 2000 ≤ F) (hc : c ≤ 12) (h1 : 1 ≤ kk) (h6 : kk ≤ 6) (w : σ 29 0 = 1) (e1 : σ 29 2 = Int32.ofNat c) (e2 : τ 30 0 = Int32.ofNat c) (e3 : ∀ k, k < 12 → σ 30 k = τ 31 k) {i : Int32} :
    ∀ (d r k k' : Nat) (x3 : Int32), r + d = kk → d < k → d < k' →
    ra_ok σ τ (C_Nights_byRails_l5 F k (Int32.ofNat c) (Int32.ofNat kk) i x3 (Int32.ofNat r)) (M_byRails_l5 F k' (Int32.ofNat kk) i x3 (Int32.ofNat r) τ) := by
  intro d
  induction d with
  | zero =>
    intro r k k' x3 hr hk hk'
    obtain ⟨k, rfl⟩ : ∃ n', k = n' + 1 := ⟨k - 1, by omega⟩
    obtain ⟨k', rfl⟩ : ∃ n', k' = n' + 1 := ⟨k' - 1, by omega⟩
    rw [C_Nights_byRails_l5, M_byRails_l5, if_neg (fun g => absurd ((ni_lt (by omega) (by omega)).mp g) (by omega)), if_neg (fun g => absurd ((ni_lt (by omega) (by omega)).mp g) (by omega))]
    exact ⟨_, _, rfl, tb_at_no (.inl (by decide)), rfl⟩
  | succ d ih =>
    intro r k k' x3 hr hk hk'
    obtain ⟨k, rfl⟩ : ∃ n', k = n' + 1 := ⟨k - 1, by omega⟩
    obtain ⟨k', rfl⟩ : ∃ n', k' = n' + 1 := ⟨k' - 1, by omega⟩
    rw [C_Nights_byRails_l5, M_byRails_l5, if_pos ((ni_lt (by omega) (by omega)).mpr (by omega)), if_pos ((ni_lt (by omega) (by omega)).mpr (by omega))]
    refine ra_in hc h1 h6 w e1 e2 e3 (fun x3 => ?_) c 0 F F x3 (by omega) (by omega) (by omega)
    rw [ni_succ]
    exact ih (r + 1) k k' x3 (by omega) (by omega) (by omega)
end
theorem ca_25 (F : Nat) (hF : 2000 ≤ F) : aj_S25 F rl_R := by
  intro x y σ τ h
  have h := rl_told h 0
  simp only [C_message, M_message, am_let]
  generalize am_up τ 0 0 0 = τ at h ⊢
  have h' := h
  obtain ⟨hK, ⟨n, m, hFR, hFS, hIR, hIS, hBK, hGU, hLE, hKY, hBI, hQU, hCO, hOR, hSV, hND, hLW⟩, hPS, hTP, hFT, hIM⟩ := h'
  obtain ⟨c, hc, e1, e2, e3⟩ := hLE
  obtain ⟨d, hd, d1, d2, d3⟩ := hKY
  have w29 : σ 29 0 = 1 := hK.2.2.2.2.2.2.2.1
  have w31 : σ 31 0 = 1 := hK.2.2.2.2.2.2.2.2.1
  rw [rd_0 (by decide) (by decide), Option.bind_some, e1, e2, rd_1 (by decide) (by decide), d2]
  by_cases q2 : x = 2
  · rw [if_pos q2, if_pos q2]
    by_cases q0 : c = 0
    · subst q0
      rw [tb_at_no (.inl (by decide)), Option.bind_some, tb_at_no (.inr (by rw [e1]; decide)), Option.bind_some]
      simp only [show (Int32.ofNat 0 = 0) = True from eq_true rfl, if_true]
      exact ⟨_, _, rfl, rfl, rfl, h⟩
    · simp only [ni_neL (c := c) (x := 0) 0 rfl (by omega) (by omega) q0, if_false]
      rw [ni_pred (by omega), le_at hc w29 e1 (by omega), Option.bind_some,
        show C_Table_at 29 0 0 σ = some (σ 30 0) from le_at (j := 0) hc w29 e1 (by omega), Option.bind_some, ni_rd (by omega) (by omega), Option.bind_some, rd_0 (by decide) (by decide), Option.bind_some]
      rw [(e3 _ (by omega)).1, (e3 0 (by omega)).1, fm_sub2 (e3 _ (by omega)).2 (e3 0 (by omega)).2, Option.bind_some]
      exact ⟨_, _, rfl, rfl, rfl, h⟩
  rw [if_neg q2, if_neg q2]
  by_cases v : ¬ y < 0 ∧ y < Int32.ofNat c
  · rw [if_neg v.1, if_pos v.2, if_pos ((isin_pred (Int32.not_lt.mp (ni_nn (by omega)))).mpr v)]
    obtain ⟨j, hj, rfl⟩ := (ni_iff (by omega)).mp v
    by_cases k01 : x = 0 ∨ x = 1
    · have eC : (if x = 0 then C_message_p81 F x (Int32.ofNat j) σ else if x = 1 then C_message_p81 F x (Int32.ofNat j) σ else if x < 11 then some (-1) else if 16 < x then some (-1) else
          (C_Nights_byRails F (Int32.ofNat c) (x - 10) (Int32.ofNat j)).bind fun q_9 => (C_Table_at 29 q_9 0 σ).bind fun q_10 => some q_10) = C_message_p81 F x (Int32.ofNat j) σ := by
        rcases k01 with k | k
        · rw [if_pos k]
        · rw [if_neg (by rw [k]; decide), if_pos k]
      rw [eC, if_neg (by rcases k01 with k | k <;> subst k <;> decide), if_pos (by rcases k01 with k | k <;> subst k <;> decide), Option.bind_some, C_message_p81, d1]
      have fin : ∀ s, rl_rg s 0 25 → ∃ (qC : Int32) (qM : Int32 × am_SS), C_message_p121 F x (Int32.ofNat j) s σ = some qC ∧ M_message_p124 F x (Int32.ofNat j) s τ = some qM ∧ qC = qM.1 ∧ rl_R σ qM.2 := by
        intro s hs
        rw [C_message_p121, M_message_p124, le_at hc w29 e1 hj, Option.bind_some, ni_rd (by omega) (by omega), Option.bind_some, (e3 j (by omega)).1]
        by_cases k : x = 0
        · rw [if_pos k, if_pos k, C_message_p154, M_message_p146, fm_add (e3 j (by omega)).2 hs]
          exact ⟨_, _, rfl, rfl, rfl, h⟩
        · rw [if_neg k, if_neg k, C_message_p154, M_message_p146, fm_sub (e3 j (by omega)).2 hs]
          exact ⟨_, _, rfl, rfl, rfl, h⟩
      by_cases k0 : d = 0
      · subst k0
        simp only [show (Int32.ofNat 0 = 0) = True from eq_true rfl, if_true]
        exact fin 0 ⟨by decide, by decide⟩
      · have nz : ¬ Int32.ofNat d = 0 := fun g => k0 ((ni_eq (b := 0) (by omega) (by omega)).mp g)
        have hm : j % d < d := Nat.mod_lt _ (by omega)
        rw [if_neg nz, if_neg nz, if_neg nz, Option.bind_some, if_neg nz, ni_mod (by omega) (by omega)]
        rw [show (0 : Int32) = Int32.ofNat 0 from rfl, tb_at (w := 1) 4 d1 w31 rfl hm (by omega) (by omega) (by omega) (by omega) (by omega), Option.bind_some]
        rw [show (12 : Int32) + Int32.ofNat (j % d) = Int32.ofNat (12 + j % d) from ni_add 12 _, ni_rd (by omega) (by omega), Option.bind_some]
        rw [show j % d * 1 + 0 = j % d from by omega, (d3 _ (by omega)).1]
        exact fin _ (d3 _ (by omega)).2
    · rw [if_neg (fun g => k01 (.inl g)), if_neg (fun g => k01 (.inr g))]
      by_cases k16 : rl_rg x 11 16
      · rw [if_neg (by have := k16.1; grind), if_neg (by have := k16.2; grind), if_pos (ni_in.mpr k16)]
        obtain ⟨kk, hkk, ek⟩ := ni_of (x := x - 10) (by have := k16.1; have := k16.2; grind)
        have hk1 : 1 ≤ kk := (ni_le (a := 1) (by omega) hkk).mp (by rw [← ek]; have := k16.1; have := k16.2; grind)
        have hk6 : kk ≤ 6 := (ni_le (b := 6) hkk (by omega)).mp (by rw [← ek]; have := k16.1; have := k16.2; grind)
        rw [ek]
        obtain ⟨v1, w1, r1, r2, r3⟩ := ra_out (i := Int32.ofNat j) hF hc hk1 hk6 w29 e1 e2 (fun k hk => (e3 k hk).1) kk 0 F F 0 (by omega) (by omega) (by omega)
        rw [show Int32.ofNat 0 = 0 from rfl] at r1 r3
        rw [C_Nights_byRails, M_byRails, r1, Option.bind_some, r2, Option.bind_some, r3, Option.bind_some]
        exact ⟨_, _, rfl, rfl, rfl, h⟩
      · have k01' : ¬ rl_rg x 0 1 := fun g => k01 (by have := g.1; have := g.2; grind)
        simp only [rg_ni k16, rg_ni k01', if_false]
        by_cases k11 : x < 11
        · rw [if_pos k11]; exact ⟨_, _, rfl, rfl, rfl, h⟩
        · rw [if_neg k11, if_pos (by unfold rl_rg at k16; grind)]; exact ⟨_, _, rfl, rfl, rfl, h⟩
  · rw [if_neg (fun g => v ((isin_pred (Int32.not_lt.mp (ni_nn (by omega)))).mp g))]
    by_cases y0 : y < 0
    · rw [if_pos y0]; exact ⟨_, _, rfl, rfl, rfl, h⟩
    · rw [if_neg y0, if_neg (fun g => v ⟨y0, g⟩)]; exact ⟨_, _, rfl, rfl, rfl, h⟩
