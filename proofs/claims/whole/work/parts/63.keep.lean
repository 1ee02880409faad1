/-! L3: keeping -/
theorem rl_W_cg {σ σ' τ : am_SS} (h : ∀ c, 39 ≤ c → c ≤ 76 → σ' c = σ c) : rl_W σ' 39 τ ↔ rl_W σ 39 τ := by
  have e : ∀ c, c < 38 → σ' (39 + c) = σ (39 + c) := fun c hc => h _ (by omega) (by omega)
  simp only [rl_W, e 1 (by omega), e 2 (by omega), e 3 (by omega), e 4 (by omega), e 5 (by omega), e 6 (by omega), e 7 (by omega), e 8 (by omega), e 9 (by omega), e 10 (by omega), e 11 (by omega), e 12 (by omega), e 13 (by omega), e 15 (by omega), e 16 (by omega), e 17 (by omega), e 18 (by omega), e 20 (by omega), e 21 (by omega), e 22 (by omega), e 23 (by omega), e 24 (by omega), e 25 (by omega), e 26 (by omega), e 27 (by omega), e 28 (by omega), e 29 (by omega), e 30 (by omega), e 31 (by omega), e 32 (by omega), e 33 (by omega), e 34 (by omega), e 35 (by omega), e 36 (by omega), e 37 (by omega)]
theorem rl_IM_cg {has mh : Int32} {σ σ' : am_SS} {im : Nat → Int32} (h : ∀ c, 39 ≤ c → c ≤ 76 → σ' c = σ c) : rl_IM has mh σ' im ↔ rl_IM has mh σ im := by
  simp only [rl_IM, rl_W_cg h]
theorem rl_pf_at {σ : am_SS} {q c : Nat} (hq : q < 6) (hc : c < 11) : rl_pf σ q c = σ (91 + 11 * q + c) := by
  funext k; simp only [rl_pf]; rw [if_pos ⟨hq, hc⟩]
section
variable {F : Nat} {σ τ : am_SS}
/-- both keep what is -/
theorem kp_all (hF : 2000 ≤ F) (h : rl_R σ τ) : ∃ σ' τ', C_Past_keep F 88 2 (σ 13 2) σ = some σ' ∧ M_keepsAhead F τ = some τ' ∧ rl_R σ' τ' ∧ (∀ c, c ≠ 88 → c ≠ 90 → (c < 91 ∨ 156 < c) → σ' c = σ c) ∧ (∀ c, c ≠ 0 → c ≠ 2 → τ' c = τ c) ∧ ∀ k, k ≠ 3 → τ' 0 k = τ 0 k := by
  obtain ⟨hK, ⟨n, m, hFR, hFS, hIR, hIS, hBK, hGU, hLE, hKY, hBI, hQU, hCO, hOR, hSV, hND, hLW⟩, hPS, hTP, hFT, hIM⟩ := h
  obtain ⟨p, u, b, hp, hu, hb, x1, x2, x3, x4, ⟨pp, hpp⟩, hrows⟩ := hPS
  obtain ⟨ρ, w, k1, hw, k2, k3⟩ := mk_keep (F := F) hF hu x3
  have k2' : ∃ s, (s = 0 ∨ u = 6 ∧ s = 1) ∧ w + s = u ∧ ∀ x, x < 77 * w → ρ x = τ 2 (x + 77 * s) := by
    rcases k2 with ⟨a, b⟩ | ⟨a, c6, b⟩
    · exact ⟨0, .inl rfl, by omega, b⟩
    · exact ⟨1, .inr ⟨c6, rfl⟩, by omega, b⟩
  clear k2
  obtain ⟨s, hs1, hsu, k2⟩ := k2'
  have hP : (p + 1) % 6 < 6 := Nat.mod_lt _ (by omega)
  have c2 : (Int32.ofNat p + 1) % 6 = Int32.ofNat ((p + 1) % 6) := by rw [ni_succ]; exact ni_mod (b := 6) (by omega) (by omega)
  have c3 : J_min 6 (Int32.ofNat u + 1) = Int32.ofNat (w + 1) := by
    rw [ni_succ, J_min]
    by_cases q : u + 1 < 6
    · rw [if_pos (show _ < (6 : Int32) from (ni_lt (b := 6) (by omega) (by omega)).mpr q)]
      congr 1; omega
    · rw [if_neg (fun g : _ < (6 : Int32) => q ((ni_lt (b := 6) (by omega) (by omega)).mp g)), show w + 1 = 6 from by omega]; rfl
  generalize hPe : (p + 1) % 6 = P at hP c2
  have s88 : ∀ v, am_up σ 88 2 v 88 3 = σ 88 3 := fun v => by simp [am_up_ap]
  have t88 : ∀ v v', am_up (am_up σ 88 2 v) 88 3 v' 88 2 = v := fun v v' => by simp [am_up_ap]
  obtain ⟨σ3, y1, y2, ⟨z0, z8, z12, z13, z14, z15⟩, y4⟩ := cp_front (F := F) (a0 := 91 + 11 * P) (a1 := 2) (σ := am_up (am_up σ 88 2 (Int32.ofNat P)) 88 3 (Int32.ofNat (w + 1))) hF (.inr (by omega)) (fun k h1 h2 => lc_pastk hP h1 h2) (fun k h1 h2 => lc_now h1 h2)
  have e88 : σ3 88 2 = Int32.ofNat P := by rw [y2 88 (.inl (by omega))]; simp [am_up_ap]
  have e88c : σ3 88 3 = Int32.ofNat (w + 1) := by rw [y2 88 (.inl (by omega))]; simp [am_up_ap]
  have hC : C_Past_keep F 88 2 (σ 13 2) σ = some (am_up σ3 90 P (σ 13 2)) := by
    rw [C_Past_keep, am_let, am_let, x1, s88, x2, c2, c3, t88, if_neg (by rw [ni_tn (by omega)]; exact fun g => g.elim (ni_nn (by omega)) (fun g => absurd g (by omega))), ni_tn (by omega)]
    rw [show (88 + 1 + 2 + 11 * P : Nat) = 91 + 11 * P from by omega, y1, Option.bind_some, C_Past_keep_p47, e88, ni_wr hP (by omega), Option.bind_some]
  rw [hC, k1]
  refine ⟨_, _, rfl, rfl, ?_, ?_, fun c h1 h2 => by rw [am_up_ne h1, am_row_ne h2], fun k hk => by rw [am_up_ap, if_neg (fun g => hk g.2), am_row_ne (by omega)]⟩
  rotate_left
  · exact fun c h1 h2 h3 => by rw [am_up_ne h2, y2 c (by omega), am_up_ne h1, am_up_ne h1]
  have hs : ∀ c, c ≠ 88 → c ≠ 90 → (c < 91 ∨ 156 < c) → am_up σ3 90 P (σ 13 2) c = σ c := fun c h1 h2 h3 => by
    rw [am_up_ne h2, y2 c (by omega), am_up_ne h1, am_up_ne h1]
  have g88 : am_up σ3 90 P (σ 13 2) 88 2 = Int32.ofNat P := by rw [am_up_ne (by omega)]; exact e88
  have g88c : am_up σ3 90 P (σ 13 2) 88 3 = Int32.ofNat (w + 1) := by rw [am_up_ne (by omega)]; exact e88c
  have g90 : am_up σ3 90 P (σ 13 2) 90 = upd (σ 90) P (σ 13 2) := by rw [am_up_row, y2 90 (.inl (by omega)), am_up_ne (by omega), am_up_ne (by omega)]
  have pfP : ∀ k, k < 11 → rl_pf (am_up σ3 90 P (σ 13 2)) P k = σ3 (91 + 11 * P + k) := fun k hk => by rw [rl_pf_at hP hk, am_up_ne (by omega)]
  have pfq : ∀ q k, q < 6 → q ≠ P → k < 11 → rl_pf (am_up σ3 90 P (σ 13 2)) q k = rl_pf σ q k := fun q k hq hne hk => by
    rw [rl_pf_at hq hk, rl_pf_at hq hk, am_up_ne (by omega), y2 _ (by omega), am_up_ne (by omega), am_up_ne (by omega)]
  have now : ∀ k, k ≤ 10 → am_up (am_up σ 88 2 (Int32.ofNat P)) 88 3 (Int32.ofNat (w + 1)) (2 + k) = σ (2 + k) := fun k hk => by rw [am_up_ne (by omega), am_up_ne (by omega)]
  generalize am_up σ3 90 P (σ 13 2) = σ4 at hs g88 g88c g90 pfP pfq ⊢
  refine ⟨?_, ⟨n, m, ?_, ?_, ?_, ?_, ?_, ?_, ?_, ?_, ?_, ?_, ?_, ?_, ?_, ?_, ?_⟩, ?_, ?_, ?_, ?_⟩
  · simpa [hs, am_up_ap, am_up_ne, am_row_ne] using hK
  · simpa [hs, am_up_ap, am_up_ne, am_row_ne] using hFR
  · simpa [hs, am_up_ap, am_up_ne, am_row_ne] using hFS
  · simpa [hs, am_up_ap, am_up_ne, am_row_ne] using hIR
  · simpa [hs, am_up_ap, am_up_ne, am_row_ne] using hIS
  · simpa [hs, am_up_ap, am_up_ne, am_row_ne] using hBK
  · simpa [hs, am_up_ap, am_up_ne, am_row_ne] using hGU
  · simpa [hs, am_up_ap, am_up_ne, am_row_ne] using hLE
  · simpa [hs, am_up_ap, am_up_ne, am_row_ne] using hKY
  · simpa [hs, am_up_ap, am_up_ne, am_row_ne] using hBI
  · simpa [hs, am_up_ap, am_up_ne, am_row_ne] using hQU
  · simpa [hs, am_up_ap, am_up_ne, am_row_ne] using hCO
  · simpa [hs, am_up_ap, am_up_ne, am_row_ne] using hOR
  · simpa [hs, am_up_ap, am_up_ne, am_row_ne] using hSV
  · simpa [hs, am_up_ap, am_up_ne, am_row_ne] using hND
  · simpa [hs, am_up_ap, am_up_ne, am_row_ne] using hLW
  · have r2 : am_up (am_row τ 2 ρ) 0 3 (Int32.ofNat (w + 1)) 2 = ρ := by rw [am_up_ne (by omega), am_row_eq]
    have r0 : am_up (am_row τ 2 ρ) 0 3 (Int32.ofNat (w + 1)) 0 3 = Int32.ofNat (w + 1) := by simp [am_up_ap]
    have rr : ∀ c k, c ≠ 2 → ¬ (c = 0 ∧ k = 3) → am_up (am_row τ 2 ρ) 0 3 (Int32.ofNat (w + 1)) c k = τ c k := fun c k h1 h2 => by rw [am_up_ap, if_neg h2, am_row_ne h1]
    have rc : ∀ c, c ≠ 2 → c ≠ 0 → am_up (am_row τ 2 ρ) 0 3 (Int32.ofNat (w + 1)) c = τ c := fun c h1 h2 => by rw [am_up_ne h2, am_row_ne h1]
    rw [g88, g88c, g90, r2, r0, rr 1 2 (by omega) (by omega), rr 0 6 (by omega) (by omega), rr 0 7 (by omega) (by omega), rc 4 (by omega) (by omega), rc 5 (by omega) (by omega), rc 6 (by omega) (by omega), rc 7 (by omega) (by omega)]
    have ebk : σ 13 2 = τ 1 2 := by obtain ⟨c, _, a, b, _⟩ := hBK; rw [a, b]
    have row2 : ∀ j x, j < w → x < 77 → ρ (77 * j + x) = τ 2 (77 * (j + s) + x) := fun j x hj hx => by
      rw [k2 _ (by omega), show 77 * j + x + 77 * s = 77 * (j + s) + x from by omega]
    refine ⟨P, w + 1, b, hP, by omega, hb, rfl, rfl, rfl, x4, ⟨fun j => if j = w then b else pp (j + s), fun j hj => ?_⟩, fun j hj => ?_⟩
    · by_cases jw : j = w
      · subst jw
        refine ⟨by simp, by simp [k3 2 (by omega), x4], fun i hi => ?_⟩
        simp only [if_true]
        rw [if_neg (by omega)]
        exact (hpp (i + s) (by omega)).1
      · obtain ⟨a1, a2, a3⟩ := hpp (j + s) (by omega)
        refine ⟨by simp only [jw, if_false]; exact a1, by simp only [jw, if_false]; rw [row2 j 2 (by omega) (by omega)]; exact a2, fun i hi => ?_⟩
        simp only [jw, if_false]
        rw [if_neg (by omega)]
        exact a3 (i + s) (by omega)
    · by_cases jw : j = w
      · subst jw
        refine ⟨P, hP, by omega, ?_, ?_, ?_, ?_⟩
        · rw [upd_eq, k3 2 (by omega), ebk]
        · rw [pfP 0 (by omega), pfP 3 (by omega), pfP 4 (by omega), pfP 5 (by omega), pfP 6 (by omega), pfP 7 (by omega), pfP 10 (by omega)]
          refine fr_same hFR z12 z13 z14 z15 (fun i hi => ?_) (fun k hk => k3 k hk)
          have q := fun k h1 h2 => y4 k h1 h2 i hi
          exact ⟨by rw [q 3 (by omega) (by omega), now 3 (by omega)], by rw [q 4 (by omega) (by omega), now 4 (by omega)], by rw [q 5 (by omega) (by omega), now 5 (by omega)], by rw [q 6 (by omega) (by omega), now 6 (by omega)], by rw [q 7 (by omega) (by omega), now 7 (by omega)], by rw [q 10 (by omega) (by omega), now 10 (by omega)]⟩
        · rw [pfP 0 (by omega), pfP 1 (by omega), pfP 2 (by omega), pfP 8 (by omega), pfP 9 (by omega)]
          refine fs_same hFS z0 z8 (fun i hi => ?_)
          have q := fun k h1 h2 => y4 k h1 h2 i hi
          exact ⟨by rw [q 1 (by omega) (by omega), now 1 (by omega)], by rw [q 2 (by omega) (by omega), now 2 (by omega)], by rw [q 8 (by omega) (by omega), now 8 (by omega)], by rw [q 9 (by omega) (by omega), now 9 (by omega)]⟩
        · intro n1 m1 hn1 hm1 en em
          have en : n1 = n := (ni_eq (by omega) (by have := hIS.1; omega)).mp (en.symm.trans hIS.2.2.1)
          have em : m1 = m := (ni_eq (by omega) (by have := hIS.2.1; omega)).mp (em.symm.trans hIS.2.2.2.1)
          rw [en, em]
          exact ir_same hIR (fun k hk => k3 k hk)
      · obtain ⟨q, hq, a1, a2, a3, a4, a5⟩ := hrows (j + s) (by omega)
        have hne : q ≠ P := by omega
        refine ⟨q, hq, by omega, ?_, ?_, ?_, ?_⟩
        · rw [upd_ne hne, a2, row2 j 2 (by omega) (by omega)]
        · rw [pfq q 0 hq hne (by omega), pfq q 3 hq hne (by omega), pfq q 4 hq hne (by omega), pfq q 5 hq hne (by omega), pfq q 6 hq hne (by omega), pfq q 7 hq hne (by omega), pfq q 10 hq hne (by omega)]
          exact fr_same a3 rfl rfl rfl rfl (fun i hi => ⟨rfl, rfl, rfl, rfl, rfl, rfl⟩) (fun k hk => row2 j k (by omega) hk)
        · rw [pfq q 0 hq hne (by omega), pfq q 1 hq hne (by omega), pfq q 2 hq hne (by omega), pfq q 8 hq hne (by omega), pfq q 9 hq hne (by omega)]
          exact a4
        · exact fun n1 m1 q1 q2 q3 q4 => ir_same (a5 n1 m1 q1 q2 q3 q4) (fun k hk => row2 j k (by omega) hk)
  · simpa [hs, am_up_ap, am_up_ne, am_row_ne] using hTP
  · simpa [hs, am_up_ap, am_up_ne, am_row_ne] using hFT
  · rw [rl_IM_cg (fun c h1 h2 => hs c (by omega) (by omega) (.inl (by omega)))]
    simpa [hs, am_up_ap, am_up_ne, am_row_ne] using hIM
end
