/-! L3: undo, goes, peace -/
theorem un_loop {F u : Nat} {τ : am_SS} (hu : u ≤ 5) (e3 : τ 0 3 = Int32.ofNat u) : ∀ (k j n : Nat) (ρ : Nat → Int32), j + k = 77 → k < n →
    ∃ ρ', M_undo_l26 F n (Int32.ofNat j) (am_row τ 1 ρ) = some (true, am_row τ 1 ρ') ∧ (∀ x, x < j → ρ' x = ρ x) ∧ ∀ x, j ≤ x → x < 77 → ρ' x = τ 2 (77 * u + x) := by
  intro k
  induction k with
  | zero =>
    intro j n ρ hj hn
    obtain ⟨n, rfl⟩ : ∃ n', n = n' + 1 := ⟨n - 1, by omega⟩
    rw [M_undo_l26, if_neg (fun g : _ < (77 : Int32) => absurd ((ni_lt (b := 77) (by omega) (by omega)).mp g) (by omega))]
    exact ⟨ρ, rfl, fun _ _ => rfl, fun x h1 h2 => absurd h2 (by omega)⟩
  | succ k ih =>
    intro j n ρ hj hn
    obtain ⟨n, rfl⟩ : ∃ n', n = n' + 1 := ⟨n - 1, by omega⟩
    obtain ⟨ρ', r1, r2, r3⟩ := ih (j + 1) n (upd ρ j (τ 2 (77 * u + j))) (by omega) (by omega)
    rw [M_undo_l26, if_pos (show _ < (77 : Int32) from (ni_lt (b := 77) (by omega) (by omega)).mpr (by omega)), show am_row τ 1 ρ 0 3 = Int32.ofNat u from e3, show (77 : Int32) * Int32.ofNat u = Int32.ofNat (77 * u) from ni_mul 77 u,
      ni_add, ni_rd (by omega) (by omega), Option.bind_some, ni_wr (by omega) (by omega), Option.bind_some, am_row_up, am_let, ni_succ, show am_row τ 1 ρ 2 (77 * u + j) = τ 2 (77 * u + j) from rfl, r1]
    refine ⟨ρ', rfl, fun x hx => ?_, fun x h1 h2 => ?_⟩
    · rw [r2 x (by omega), upd_ne (by omega)]
    · by_cases q : x = j
      · subst q; rw [r2 _ (by omega), upd_eq]
      · exact r3 x (by omega) h2
theorem mm_0 {b c : Nat} (hb : b ≤ c) (hc : c ≤ 150) : J_max 0 (J_min (Int32.ofNat c) (Int32.ofNat b)) = Int32.ofNat b := by
  have h1 : ¬ Int32.ofNat b < 0 := ni_nn (by omega)
  have e : J_min (Int32.ofNat c) (Int32.ofNat b) = Int32.ofNat b := by
    unfold J_min
    by_cases q : b < c
    · rw [if_pos ((ni_lt (by omega) (by omega)).mpr q)]
    · rw [if_neg (fun g => q ((ni_lt (by omega) (by omega)).mp g)), show c = b from by omega]
  rw [e]
  unfold J_max
  by_cases q : (0 : Int32) < Int32.ofNat b
  · rw [if_pos q]
  · rw [if_neg q]; grind
theorem ca_36 (F : Nat) (hF : 2000 ≤ F) : aj_S36 F rl_R := by
  intro σ τ h
  have h := rl_told h 0
  have hM : M_undo F τ = (if am_up τ 0 0 0 0 3 = 0 then some (false, am_up τ 0 0 0) else am_let (am_up (am_up τ 0 0 0) 0 3 ((am_up τ 0 0 0 0 3) - 1)) (fun σ_3 => M_undo_l26 F F 0 σ_3)) := rfl
  rw [hM]
  clear hM
  generalize am_up τ 0 0 0 = τ at h ⊢
  have h' := h
  obtain ⟨hK, ⟨n, m, hFR, hFS, hIR, hIS, hBK, hGU, hLE, hKY, hBI, hQU, hCO, hOR, hSV, hND, hLW⟩, hPS, hTP, hFT, hIM⟩ := h'
  obtain ⟨p, u, b, hp, hu, hb, x1, x2, x3, x4, ⟨pp, hpp⟩, hrows⟩ := hPS
  rw [C_undo, C_Past_goBack, x1, x2, x3, if_neg (by rw [ni_tn (by omega)]; exact fun g => g.elim (ni_nn (by omega)) (fun g => absurd g (by omega))), ni_tn (by omega)]
  by_cases q : u = 0
  · subst q
    rw [if_pos (show Int32.ofNat 0 = 0 from rfl), if_pos (show Int32.ofNat 0 = 0 from rfl), Option.bind_some]
    exact ⟨_, _, rfl, rfl, rfl, h⟩
  have nz : ¬ Int32.ofNat u = 0 := fun g => q ((ni_eq (b := 0) (by omega) (by omega)).mp g)
  rw [if_neg nz, if_neg nz, am_let, ni_pred (by omega)]
  obtain ⟨p', hp', a1, a2, a3, a4, a5⟩ := hrows (u - 1) (by omega)
  have epp : p' = p := by omega
  subst epp
  obtain ⟨b1, b2, b3⟩ := hpp (u - 1) (by omega)
  rw [b2] at a2
  obtain ⟨σ3, y1, y2, ⟨z0, z8, z12, z13, z14, z15⟩, y4⟩ := cp_front (F := F) (a0 := 2) (a1 := 91 + 11 * p') (σ := σ) hF (.inl (by omega)) (fun k h1 h2 => lc_now h1 h2) (fun k h1 h2 => lc_pastk hp h1 h2)
  have g88 : σ3 88 = σ 88 := y2 88 (.inr (by omega))
  have g13 : σ3 13 = σ 13 := y2 13 (.inr (by omega))
  have g90 : σ3 90 = σ 90 := y2 90 (.inr (by omega))
  have ebk : σ 13 2 = Int32.ofNat b := by obtain ⟨c, _, a, b', _⟩ := hBK; rw [a, ← b', x4]
  rw [show (1 + 1 : Nat) = 2 from rfl, show (88 + 1 + 2 + 11 * p' : Nat) = 91 + 11 * p' from by omega, y1, Option.bind_some, show σ3 88 2 = Int32.ofNat p' from by rw [g88]; exact x1, ni_rd hp (by omega), Option.bind_some, g90, a2, am_let, C_Table_keepFirst, am_let, am_let, am_let,
    show σ3 (1 + 12) 2 = Int32.ofNat b from by rw [show (1 + 12 : Nat) = 13 from rfl, g13]; exact ebk, mm_0 b1 hb, show (1 + 12 : Nat) = 13 from rfl]
  have h882 : am_up σ3 13 2 (Int32.ofNat (pp (u - 1))) 88 2 = Int32.ofNat p' := by rw [am_up_ne (by omega), g88]; exact x1
  have c2 : (Int32.ofNat p' + 6 - 1) % 6 = Int32.ofNat ((p' + 5) % 6) := by
    rw [show Int32.ofNat p' + 6 = Int32.ofNat (p' + 6) from ni_add p' 6, ni_pred (by omega)]
    exact ni_mod (b := 6) (by omega) (by omega)
  have hP : (p' + 5) % 6 < 6 := Nat.mod_lt _ (by omega)
  rw [h882, c2]
  have h883 : am_up (am_up σ3 13 2 (Int32.ofNat (pp (u - 1)))) 88 2 (Int32.ofNat ((p' + 5) % 6)) 88 3 = Int32.ofNat u := by
    rw [am_up_ap, if_neg (by omega), am_up_ne (by omega), g88]; exact x2
  rw [h883, ni_pred (by omega), Option.bind_some]
  have e3' : am_up τ 0 3 (Int32.ofNat (u - 1)) 0 3 = Int32.ofNat (u - 1) := by simp [am_up_ap]
  obtain ⟨ρ, r1, -, r3⟩ := un_loop (F := F) (u := u - 1) (by omega) e3' 77 0 F (τ 1) (by omega) (by omega)
  rw [show am_row (am_up τ 0 3 (Int32.ofNat (u - 1))) 1 (τ 1) = am_up τ 0 3 (Int32.ofNat (u - 1)) from by
    have : τ 1 = am_up τ 0 3 (Int32.ofNat (u - 1)) 1 := (am_up_ne (by omega)).symm
    rw [this, am_row_id], show Int32.ofNat 0 = 0 from rfl] at r1
  rw [r1]
  have r3' : ∀ x, x < 77 → ρ x = τ 2 (77 * (u - 1) + x) := fun x hx => by rw [r3 x (by omega) hx, am_up_ne (by omega)]
  refine ⟨_, _, rfl, rfl, rfl, ?_⟩
  dsimp only
  generalize hPe : (p' + 5) % 6 = P at hP c2 ⊢
  have hs : ∀ c, (c < 2 ∨ 12 < c) → c ≠ 13 → c ≠ 88 → am_up (am_up (am_up σ3 13 2 (Int32.ofNat (pp (u - 1)))) 88 2 (Int32.ofNat P)) 88 3 (Int32.ofNat (u - 1)) c = σ c := fun c h1 h2 h3 => by
    rw [am_up_ne h3, am_up_ne h3, am_up_ne h2, y2 c (by omega)]
  have hf : ∀ c, 2 ≤ c → c ≤ 12 → am_up (am_up (am_up σ3 13 2 (Int32.ofNat (pp (u - 1)))) 88 2 (Int32.ofNat P)) 88 3 (Int32.ofNat (u - 1)) c = σ3 c := fun c h1 h2 => by
    rw [am_up_ne (by omega), am_up_ne (by omega), am_up_ne (by omega)]
  have w0 : am_up (am_up (am_up σ3 13 2 (Int32.ofNat (pp (u - 1)))) 88 2 (Int32.ofNat P)) 88 3 (Int32.ofNat (u - 1)) 13 0 = σ 13 0 := by rw [am_up_ne (by omega), am_up_ne (by omega), am_up_ap, if_neg (by omega), g13]
  have w2 : am_up (am_up (am_up σ3 13 2 (Int32.ofNat (pp (u - 1)))) 88 2 (Int32.ofNat P)) 88 3 (Int32.ofNat (u - 1)) 13 2 = Int32.ofNat (pp (u - 1)) := by rw [am_up_ne (by omega), am_up_ne (by omega), am_up_ap, if_pos ⟨rfl, rfl⟩]
  have v2 : am_up (am_up (am_up σ3 13 2 (Int32.ofNat (pp (u - 1)))) 88 2 (Int32.ofNat P)) 88 3 (Int32.ofNat (u - 1)) 88 2 = Int32.ofNat P := by simp [am_up_ap]
  have v3 : am_up (am_up (am_up σ3 13 2 (Int32.ofNat (pp (u - 1)))) 88 2 (Int32.ofNat P)) 88 3 (Int32.ofNat (u - 1)) 88 3 = Int32.ofNat (u - 1) := by simp [am_up_ap]
  generalize am_up (am_up (am_up σ3 13 2 (Int32.ofNat (pp (u - 1)))) 88 2 (Int32.ofNat P)) 88 3 (Int32.ofNat (u - 1)) = σ4 at hs hf w0 w2 v2 v3 ⊢
  have pfe : rl_pf σ4 = rl_pf σ := by
    funext q c k
    simp only [rl_pf]
    by_cases g : q < 6 ∧ c < 11
    · rw [if_pos g, if_pos g, hs _ (by omega) (by omega) (by omega)]
    · rw [if_neg g, if_neg g]
  have t1 : am_row (am_up τ 0 3 (Int32.ofNat (u - 1))) 1 ρ 1 = ρ := am_row_eq
  have tc : ∀ c, c ≠ 0 → c ≠ 1 → am_row (am_up τ 0 3 (Int32.ofNat (u - 1))) 1 ρ c = τ c := fun c h1 h2 => by rw [am_row_ne h2, am_up_ne h1]
  have t0 : ∀ k, k ≠ 3 → am_row (am_up τ 0 3 (Int32.ofNat (u - 1))) 1 ρ 0 k = τ 0 k := fun k hk => by rw [am_row_ne (by omega), am_up_ap, if_neg (fun g => hk g.2)]
  have t03 : am_row (am_up τ 0 3 (Int32.ofNat (u - 1))) 1 ρ 0 3 = Int32.ofNat (u - 1) := by rw [am_row_ne (by omega)]; exact e3'
  generalize am_row (am_up τ 0 3 (Int32.ofNat (u - 1))) 1 ρ = τ4 at t1 tc t0 t03 ⊢
  have f0 : rl_pf σ p' 0 = σ (91 + 11 * p') := rl_pf_at hp (by omega)
  refine ⟨?_, ⟨n, m, ?_, ?_, ?_, ?_, ?_, ?_, ?_, ?_, ?_, ?_, ?_, ?_, ?_, ?_, ?_⟩, ?_, ?_, ?_, ?_⟩
  · have k13 := hK.1
    rw [w0, tc 10 (by omega) (by omega), t0 5 (by omega)]
    simpa [hs] using hK
  · rw [t1, hf 2 (by omega) (by omega), hf 5 (by omega) (by omega), hf 6 (by omega) (by omega), hf 7 (by omega) (by omega), hf 8 (by omega) (by omega), hf 9 (by omega) (by omega), hf 12 (by omega) (by omega)]
    refine fr_same a3 (by rw [f0]; exact z12) (by rw [f0]; exact z13) (by rw [f0]; exact z14) (by rw [f0]; exact z15) (fun i hi => ?_) (fun k hk => r3' k hk)
    have g := fun k h1 h2 => y4 k h1 h2 i hi
    rw [rl_pf_at hp (show 3 < 11 by omega), rl_pf_at hp (show 4 < 11 by omega), rl_pf_at hp (show 5 < 11 by omega), rl_pf_at hp (show 6 < 11 by omega), rl_pf_at hp (show 7 < 11 by omega), rl_pf_at hp (show 10 < 11 by omega)]
    exact ⟨g 3 (by omega) (by omega), g 4 (by omega) (by omega), g 5 (by omega) (by omega), g 6 (by omega) (by omega), g 7 (by omega) (by omega), g 10 (by omega) (by omega)⟩
  · rw [t0 6 (by omega), t0 7 (by omega), tc 4 (by omega) (by omega), tc 5 (by omega) (by omega), tc 6 (by omega) (by omega), tc 7 (by omega) (by omega), hf 2 (by omega) (by omega), hf 3 (by omega) (by omega), hf 4 (by omega) (by omega), hf 10 (by omega) (by omega), hf 11 (by omega) (by omega)]
    refine fs_same a4 (by rw [f0]; exact z0) (by rw [f0]; exact z8) (fun i hi => ?_)
    have g := fun k h1 h2 => y4 k h1 h2 i hi
    rw [rl_pf_at hp (show 1 < 11 by omega), rl_pf_at hp (show 2 < 11 by omega), rl_pf_at hp (show 8 < 11 by omega), rl_pf_at hp (show 9 < 11 by omega)]
    exact ⟨g 1 (by omega) (by omega), g 2 (by omega) (by omega), g 8 (by omega) (by omega), g 9 (by omega) (by omega)⟩
  · rw [t1]; exact ir_same (a5 n m hIS.1 hIS.2.1 hIS.2.2.1 hIS.2.2.2.1) (fun k hk => r3' k hk)
  · rw [t0 6 (by omega), t0 7 (by omega), tc 4 (by omega) (by omega), tc 5 (by omega) (by omega), tc 6 (by omega) (by omega), tc 7 (by omega) (by omega)]; exact hIS
  · rw [w2, hs 14 (by omega) (by omega) (by omega), t1, tc 8 (by omega) (by omega)]
    obtain ⟨c, hc, e1, e2, e3⟩ := hBK
    exact ⟨pp (u - 1), by omega, rfl, by rw [r3' 2 (by omega)]; exact b2, e3⟩
  · simpa [hs, tc, t0] using hGU
  · simpa [hs, tc, t0] using hLE
  · simpa [hs, tc, t0] using hKY
  · simpa [hs, tc, t0] using hBI
  · simpa [hs, tc, t0] using hQU
  · simpa [hs, tc, t0] using hCO
  · simpa [hs, tc, t0] using hOR
  · simpa [hs, tc, t0] using hSV
  · simpa [hs, tc, t0] using hND
  · simpa [hs, tc, t0] using hLW
  · rw [v2, v3, hs 90 (by omega) (by omega) (by omega), pfe, t03, tc 2 (by omega) (by omega), t1, t0 6 (by omega), t0 7 (by omega), tc 4 (by omega) (by omega), tc 5 (by omega) (by omega), tc 6 (by omega) (by omega), tc 7 (by omega) (by omega)]
    refine ⟨P, u - 1, pp (u - 1), hP, by omega, by omega, rfl, rfl, rfl, by rw [r3' 2 (by omega)]; exact b2, ⟨pp, fun j hj => ⟨b3 j hj, (hpp j (by omega)).2⟩⟩, fun j hj => ?_⟩
    obtain ⟨q, hq, d1, d2⟩ := hrows j (by omega)
    exact ⟨q, hq, by omega, d2⟩
  · simpa [hs, tc, t0] using hTP
  · simpa [hs, tc, t0] using hFT
  · rw [rl_IM_cg (fun c h1 h2 => hs c (by omega) (by omega) (by omega))]
    simpa [hs, tc, t0] using hIM
