/-! L3: officer, batman, set -/
theorem ni_m1 {a : Nat} (h : a < 2147483648) : ¬ Int32.ofNat a = -1 := fun g => ni_nn h (by rw [g]; decide)
theorem upd_id {f : Nat → Int32} {k : Nat} {v : Int32} (h : f k = v) : upd f k v = f := by
  funext j; simp only [upd]; split
  · next q => rw [q, h]
  · rfl
theorem ir_mono {r : Nat → Int32} {n m n' m' : Nat} (h : rl_IR r n m) (hn : n ≤ n') (hm : m ≤ m') : rl_IR r n' m' := by
  obtain ⟨h1, h2, h3⟩ := h
  refine ⟨h1, h2, fun j hj => ?_⟩
  obtain ⟨a1, a2, a3, a4, a5, a6, a7⟩ := h3 j hj
  exact ⟨a1, a2, a3, a4, a5, fun q => a6 (by omega), fun q => a7 (by omega)⟩
theorem or_mono {cc mc : Int32} {cells arr : Nat → Int32} {n m n' m' : Nat} (h : rl_OR cc cells mc arr n m) (hn : n ≤ n') (hm : m ≤ m') : rl_OR cc cells mc arr n' m' := by
  obtain ⟨c, h1, h2, h3, h4⟩ := h
  refine ⟨c, h1, h2, h3, fun i hi => ?_⟩
  obtain ⟨a0, a1, a2⟩ := h4 i hi
  refine ⟨a0, a1, ?_⟩
  rcases a2 with ⟨b1, b2, ⟨w, hw, b3⟩, b4⟩ | ⟨b1, b2, ⟨w, hw, b3⟩⟩ | ⟨b1, b2, ⟨w, hw, b3⟩⟩ | ⟨b1, b2, ⟨w, hw, b3⟩⟩ | b
  · exact .inl ⟨b1, b2, ⟨w, by omega, b3⟩, b4⟩
  · exact .inr (.inl ⟨b1, b2, ⟨w, by omega, b3⟩⟩)
  · exact .inr (.inr (.inl ⟨b1, b2, ⟨w, by omega, b3⟩⟩))
  · exact .inr (.inr (.inr (.inl ⟨b1, b2, ⟨w, by omega, b3⟩⟩)))
  · exact .inr (.inr (.inr (.inr b)))
theorem sv_mono {cc mc : Int32} {cells up : Nat → Int32} {m m' : Nat} (h : rl_SV cc cells mc up m) (hm : m ≤ m') : rl_SV cc cells mc up m' := by
  obtain ⟨c, h1, h2, h3, h4⟩ := h
  refine ⟨c, h1, h2, h3, fun o ho => ⟨(h4 o ho).1, ?_⟩⟩
  rcases (h4 o ho).2 with q | ⟨b, hb, q⟩
  · exact .inl q
  · exact .inr ⟨b, by omega, q⟩
theorem nd_mono {cc mc : Int32} {cells nd : Nat → Int32} {n n' : Nat} (h : rl_ND cc cells mc nd n) (hn : n ≤ n') : rl_ND cc cells mc nd n' := by
  obtain ⟨c, h1, h2, h3, h4, h5⟩ := h
  refine ⟨c, h1, h2, h3, h4, fun i hi => ?_⟩
  obtain ⟨q, hq, e⟩ := h5 i hi
  exact ⟨q, by omega, e⟩
theorem ni_iff {x : Int32} {n : Nat} (hn : n < 2147483648) : (¬ x < 0 ∧ x < Int32.ofNat n) ↔ ∃ j, j < n ∧ x = Int32.ofNat j := by
  constructor
  · rintro ⟨h1, h2⟩; exact ni_ofl h1 hn h2
  · rintro ⟨j, hj, rfl⟩; exact ⟨ni_nn (by omega), (ni_lt (by omega) hn).mpr hj⟩
theorem ho_iff {a n : Nat} {σ : am_SS} {x : Int32} (h : σ a 0 = Int32.ofNat n) (hn : n ≤ 12) : C_Front_hasOfficer a x σ = true ↔ ∃ j, j < n ∧ x = Int32.ofNat j := by
  rw [← ni_iff (by omega), C_Front_hasOfficer, h]
  have e : x < Int32.ofNat n → x < 12 := by
    intro q
    have : Int32.ofNat n ≤ 12 := (ni_le (b := 12) (by omega) (by omega)).mpr hn
    grind
  by_cases q1 : x < 0
  · simp [q1]
  by_cases q2 : x < Int32.ofNat n
  · simp [q1, q2, e q2]
  · simp [q1, q2]
theorem hb_iff {a n : Nat} {σ : am_SS} {x : Int32} (h : σ a 8 = Int32.ofNat n) (hn : n ≤ 12) : C_Front_hasBatman a x σ = true ↔ ∃ j, j < n ∧ x = Int32.ofNat j := by
  rw [← ni_iff (by omega), C_Front_hasBatman, h]
  have e : x < Int32.ofNat n → x < 12 := by
    intro q
    have : Int32.ofNat n ≤ 12 := (ni_le (b := 12) (by omega) (by omega)).mpr hn
    grind
  by_cases q1 : x < 0
  · simp [q1]
  by_cases q2 : x < Int32.ofNat n
  · simp [q1, q2, e q2]
  · simp [q1, q2]
theorem mo_iff {n : Nat} {τ : am_SS} {x : Int32} (h : τ 0 6 = Int32.ofNat n) (hn : n ≤ 12) : M_isOfficer x τ = true ↔ ∃ j, j < n ∧ x = Int32.ofNat j := by
  rw [← ni_iff (by omega), M_isOfficer, h]
  by_cases q1 : x < 0
  · simp [q1]
  by_cases q2 : x < Int32.ofNat n
  · simp [q1, q2]
  · simp [q1, q2]
theorem mb_iff {n : Nat} {τ : am_SS} {x : Int32} (h : τ 0 7 = Int32.ofNat n) (hn : n ≤ 12) : M_isBatman x τ = true ↔ ∃ j, j < n ∧ x = Int32.ofNat j := by
  rw [← ni_iff (by omega), M_isBatman, h]
  by_cases q1 : x < 0
  · simp [q1]
  by_cases q2 : x < Int32.ofNat n
  · simp [q1, q2]
  · simp [q1, q2]
theorem mo_step {F k c n : Nat} {σ : am_SS} (hc : c ≤ 64) (h : σ 0 6 = Int32.ofNat n) (hn : n < 12) :
    M_officer_l59 F (k + 1) (Int32.ofNat c) σ = M_officer_l59 F k (Int32.ofNat (c + 12)) (am_up σ 1 (c + n) (if c = 5 then 50 else 0)) := by
  have go : ∀ v : Int32, M_officer_p86 (M_officer_l59 F k) F (Int32.ofNat c) (Int32.ofNat c + Int32.ofNat n) v σ = M_officer_l59 F k (Int32.ofNat (c + 12)) (am_up σ 1 (c + n) v) := by
    intro v
    rw [M_officer_p86, ni_add, ni_wr (by omega) (by omega), Option.bind_some, am_let]
    rw [show Int32.ofNat c + 12 = Int32.ofNat (c + 12) from ni_add c 12]
  rw [M_officer_l59, if_pos (show _ < (65 : Int32) from (ni_lt (b := 65) (by omega) (by omega)).mpr (by omega)), h, go, go]
  by_cases q : c = 5
  · rw [if_pos (show _ = (5 : Int32) from (ni_eq (b := 5) (by omega) (by omega)).mpr q), if_pos q]
  · rw [if_neg (fun g : _ = (5 : Int32) => q ((ni_eq (b := 5) (by omega) (by omega)).mp g)), if_neg q]
theorem am_up_id {σ : am_SS} {a k : Nat} {v : Int32} (h : σ a k = v) : am_up σ a k v = σ := by
  funext b j; rw [am_up_ap]; split
  · next q => rw [q.1, q.2, h]
  · rfl
theorem mo_loop {F n : Nat} {σ : am_SS} (hF : 2000 ≤ F) (h : σ 0 6 = Int32.ofNat n) (hn : n < 12) (z : σ 1 (17 + n) = 0 ∧ σ 1 (29 + n) = 0 ∧ σ 1 (41 + n) = 0 ∧ σ 1 (53 + n) = 0) :
    M_officer_l59 F F 5 σ = some (Int32.ofNat n, am_up (am_up (am_up σ 1 (5 + n) 50) 0 6 (Int32.ofNat (n + 1))) 0 3 0) := by
  obtain ⟨k, rfl⟩ : ∃ k, F = k + 6 := ⟨F - 6, by omega⟩
  have e : ∀ (σ : am_SS) (a : Nat) (v : Int32), σ 0 6 = Int32.ofNat n → am_up σ 1 a v 0 6 = Int32.ofNat n := fun σ a v hh => by rw [am_up_ne (by omega)]; exact hh
  rw [show (5 : Int32) = Int32.ofNat 5 from rfl, mo_step (by omega) h hn, mo_step (by omega) (e _ _ _ h) hn, mo_step (by omega) (e _ _ _ (e _ _ _ h)) hn,
    mo_step (by omega) (e _ _ _ (e _ _ _ (e _ _ _ h))) hn, mo_step (by omega) (e _ _ _ (e _ _ _ (e _ _ _ (e _ _ _ h)))) hn]
  have u : ∀ k, k ≠ 5 + n → am_up σ 1 (5 + n) 50 1 k = σ 1 k := fun k hk => by rw [am_up_ap, if_neg (fun g => hk g.2)]
  rw [if_pos rfl, if_neg (by decide), if_neg (by decide), if_neg (by decide), if_neg (by decide)]
  rw [am_up_id (show am_up σ 1 (5 + n) 50 1 (5 + 12 + n) = 0 from by rw [u _ (by omega)]; exact z.1), am_up_id (show am_up σ 1 (5 + n) 50 1 (5 + 12 + 12 + n) = 0 from by rw [u _ (by omega)]; exact z.2.1),
    am_up_id (show am_up σ 1 (5 + n) 50 1 (5 + 12 + 12 + 12 + n) = 0 from by rw [u _ (by omega)]; exact z.2.2.1), am_up_id (show am_up σ 1 (5 + n) 50 1 (5 + 12 + 12 + 12 + 12 + n) = 0 from by rw [u _ (by omega)]; exact z.2.2.2)]
  rw [M_officer_l59, if_neg (by decide), am_let, am_let]
  simp [am_up_ap, h]

theorem ca_1 (F : Nat) (hF : 2000 ≤ F) : aj_S1 F rl_R := by
  intro x y σ τ h
  have h := rl_told h 0
  have hm : M_officer F x y τ = (if M_isIn x 0 1 = true then (if M_isIn y 0 9 = true then (if am_up τ 0 0 0 0 6 = 12 then some (-1, am_up τ 0 0 0) else
      (am_wr (am_up τ 0 0 0) 4 12 (am_up τ 0 0 0 0 6) x).bind (fun σ_7 => (am_wr σ_7 5 12 (σ_7 0 6) y).bind (fun σ_8 => M_officer_l59 F F 5 σ_8)))
      else some (-1, am_up τ 0 0 0)) else some (-1, am_up τ 0 0 0)) := rfl
  rw [hm]
  clear hm
  generalize am_up τ 0 0 0 = τ at h ⊢
  by_cases v : (0 ≤ x ∧ x ≤ 1) ∧ (0 ≤ y ∧ y ≤ 9)
  · rw [if_pos (ni_in.mpr v.1), if_pos (ni_in.mpr v.2), C_officer, if_neg (by grind), if_neg (by grind), if_neg (by grind), if_neg (by grind)]
    obtain ⟨hK, ⟨n, m, hFR, hFS, hIR, hIS, hBK, hGU, hLE, hKY, hBI, hQU, hCO, hOR, hSV, hND, hLW⟩, hPS, hTP, hFT, hIM⟩ := h
    obtain ⟨hn, hm, e6, e7, hI⟩ := id hIS
    have e0 := hFS.1
    have e8 := hFS.2.1
    rw [C_Front_addOfficer, am_let, e0, e6, if_neg (ni_nn (by omega))]
    by_cases q : n = 12
    · subst q
      simp only [show (Int32.ofNat 12) = 12 from rfl, show ¬ ((12 : Int32) < 12) from by decide, if_false, if_true, Option.bind_some]
      exact ⟨_, _, rfl, rfl, rfl, hK, ⟨12, m, hFR, hFS, hIR, hIS, hBK, hGU, hLE, hKY, hBI, hQU, hCO, hOR, hSV, hND, hLW⟩, hPS, hTP, hFT, hIM⟩
    have hn' : n < 12 := by omega
    rw [if_pos (show _ < (12 : Int32) from (ni_lt (b := 12) (by omega) (by omega)).mpr hn'), if_neg (fun q' : _ = (12 : Int32) => q ((ni_eq (b := 12) (by omega) (by omega)).mp q'))]
    rw [ni_wr hn' (by omega), Option.bind_some, ni_wr hn' (by omega), Option.bind_some, ni_wr hn' (by omega), Option.bind_some, am_let, Option.bind_some, ni_succ]
    rw [ni_wr hn' (by omega), Option.bind_some, show am_up τ 4 n x 0 6 = Int32.ofNat n from e6, ni_wr hn' (by omega), Option.bind_some, mo_loop (σ := am_up (am_up τ 4 n x) 5 n y) hF e6 hn' ((hIR.2.2 n hn').2.2.2.2.2.1 (Nat.le_refl n))]
    rw [if_neg (ni_m1 (by omega))]
    refine ⟨_, _, rfl, rfl, rfl, ?_⟩
    have q5 : ¬ (2 = 5 + n) := by omega
    refine ⟨?_, ⟨n + 1, m, ?_, ?_, ?_, ?_, ?_, ?_, ?_, ?_, ?_, ?_, ?_, ?_, ?_, ?_, ?_⟩, ?_, ?_, ?_, ?_⟩
    · simpa [C_Past_forget, am_let, am_up_ap, am_up_ne, am_up_row, rl_pf_up, rl_IM_up] using hK
    · simpa [C_Past_forget, am_let, am_up_ap, am_up_ne, am_up_row] using fr_sl hFR hn'
    · refine ⟨by simp [C_Past_forget, am_let, am_up_ap, am_up_ne], by simpa [C_Past_forget, am_let, am_up_ap, am_up_ne] using e8, fun j hj => ?_⟩
      have g := hFS.2.2 j hj
      by_cases qj : j = n
      · subst qj; simpa [C_Past_forget, am_let, am_up_ap, am_up_ne] using ⟨g.2.2.1, g.2.2.2⟩
      · simpa [C_Past_forget, am_let, am_up_ap, am_up_ne, qj] using g
    · simpa [C_Past_forget, am_let, am_up_ap, am_up_ne, am_up_row] using ir_sl (ir_mono hIR (Nat.le_succ n) (Nat.le_refl m)) hn' ⟨by decide, by decide⟩
    · refine ⟨by omega, hm, by simp [am_up_ap], by simpa [C_Past_forget, am_let, am_up_ap, am_up_ne] using e7, fun j hj => ?_⟩
      have g := hI j hj
      by_cases qj : j = n
      · subst qj; simpa [C_Past_forget, am_let, am_up_ap, am_up_ne] using ⟨v.1, v.2, g.2.2.1, g.2.2.2⟩
      · simpa [C_Past_forget, am_let, am_up_ap, am_up_ne, qj] using g
    · simpa [C_Past_forget, am_let, am_up_ap, am_up_ne, q5] using hBK
    · simpa [C_Past_forget, am_let, am_up_ap, am_up_ne, am_up_row, rl_pf_up, rl_IM_up] using hGU
    · simpa [C_Past_forget, am_let, am_up_ap, am_up_ne, am_up_row, rl_pf_up, rl_IM_up] using hLE
    · simpa [C_Past_forget, am_let, am_up_ap, am_up_ne, am_up_row, rl_pf_up, rl_IM_up] using hKY
    · simpa [C_Past_forget, am_let, am_up_ap, am_up_ne, am_up_row, rl_pf_up, rl_IM_up] using hBI
    · simpa [C_Past_forget, am_let, am_up_ap, am_up_ne, am_up_row, rl_pf_up, rl_IM_up] using hQU
    · simpa [C_Past_forget, am_let, am_up_ap, am_up_ne, am_up_row, rl_pf_up, rl_IM_up] using hCO
    · simpa [C_Past_forget, am_let, am_up_ap, am_up_ne, am_up_row] using or_mono hOR (by omega) (by omega)
    · simpa [C_Past_forget, am_let, am_up_ap, am_up_ne, am_up_row, rl_pf_up, rl_IM_up] using hSV
    · simpa [C_Past_forget, am_let, am_up_ap, am_up_ne, am_up_row] using nd_mono hND (by omega)
    · simpa [C_Past_forget, am_let, am_up_ap, am_up_ne, am_up_row, rl_pf_up, rl_IM_up] using hLW
    · simp [C_Past_forget, am_let, am_up_ap, am_up_ne, am_up_row, rl_pf_up]
      exact rl_PS_forget hPS ⟨_, hBK.choose_spec.1, by simpa [upd, q5] using hBK.choose_spec.2.2.1⟩ ⟨n + 1, by simp⟩ ⟨_, hIS.2.2.2.1⟩
    · simpa [C_Past_forget, am_let, am_up_ap, am_up_ne, am_up_row, rl_pf_up, rl_IM_up] using hTP
    · simpa [C_Past_forget, am_let, am_up_ap, am_up_ne, am_up_row, rl_pf_up, rl_IM_up] using hFT
    · simpa [C_Past_forget, am_let, am_up_ap, am_up_ne, am_up_row, rl_pf_up, rl_IM_up] using hIM
  · have e1 : C_officer x y σ = some (-1, σ) := by
      unfold C_officer
      repeat' split
      all_goals first | rfl | (exfalso; grind)
    have e2 : ∀ z : Option (Int32 × am_SS), (if M_isIn x 0 1 = true then (if M_isIn y 0 9 = true then z else some (-1, τ)) else some (-1, τ)) = some (-1, τ) := by
      intro z
      by_cases q1 : M_isIn x 0 1 = true
      · rw [if_pos q1]
        by_cases q2 : M_isIn y 0 9 = true
        · exact absurd ⟨ni_in.mp q1, ni_in.mp q2⟩ v
        · rw [if_neg q2]
      · rw [if_neg q1]
    rw [e1, e2]
    exact ⟨_, _, rfl, rfl, rfl, h⟩

theorem ca_2 (F : Nat) : aj_S2 F rl_R := by
  intro x y σ τ h
  have h := rl_told h 0
  have hm : M_batman x y τ = (if M_isIn x 0 1 = true then (if M_isIn y 0 9 = true then (if am_up τ 0 0 0 0 7 = 12 then some (-1, am_up τ 0 0 0) else
      (am_wr (am_up τ 0 0 0) 6 12 (am_up τ 0 0 0 0 7) x).bind (fun σ_7 => (am_wr σ_7 7 12 (σ_7 0 7) y).bind (fun σ_8 => (am_wr σ_8 1 77 (65 + (σ_8 0 7)) 0).bind (fun σ_9 =>
        am_let (am_up σ_9 0 7 ((σ_9 0 7) + 1)) (fun σ_10 => am_let (am_up σ_10 0 3 0) (fun σ_11 => some (((σ_11 0 7) - 1), σ_11)))))))
      else some (-1, am_up τ 0 0 0)) else some (-1, am_up τ 0 0 0)) := rfl
  rw [hm]
  clear hm
  generalize am_up τ 0 0 0 = τ at h ⊢
  by_cases v : (0 ≤ x ∧ x ≤ 1) ∧ (0 ≤ y ∧ y ≤ 9)
  · rw [if_pos (ni_in.mpr v.1), if_pos (ni_in.mpr v.2), C_batman, if_neg (by grind), if_neg (by grind), if_neg (by grind), if_neg (by grind)]
    obtain ⟨hK, ⟨n, m, hFR, hFS, hIR, hIS, hBK, hGU, hLE, hKY, hBI, hQU, hCO, hOR, hSV, hND, hLW⟩, hPS, hTP, hFT, hIM⟩ := h
    obtain ⟨hn, hm, e6, e7, hI⟩ := id hIS
    have e0 := hFS.1
    have e8 := hFS.2.1
    rw [C_Front_addBatman, am_let, e8, e7, if_neg (ni_nn (by omega))]
    by_cases q : m = 12
    · subst q
      simp only [show (Int32.ofNat 12) = 12 from rfl, show ¬ ((12 : Int32) < 12) from by decide, if_false, if_true, Option.bind_some]
      exact ⟨_, _, rfl, rfl, rfl, hK, ⟨n, 12, hFR, hFS, hIR, hIS, hBK, hGU, hLE, hKY, hBI, hQU, hCO, hOR, hSV, hND, hLW⟩, hPS, hTP, hFT, hIM⟩
    have hm' : m < 12 := by omega
    rw [if_pos (show _ < (12 : Int32) from (ni_lt (b := 12) (by omega) (by omega)).mpr hm'), if_neg (fun q' : _ = (12 : Int32) => q ((ni_eq (b := 12) (by omega) (by omega)).mp q'))]
    rw [ni_wr hm' (by omega), Option.bind_some, ni_wr hm' (by omega), Option.bind_some, am_let, Option.bind_some, ni_succ]
    rw [ni_wr hm' (by omega), Option.bind_some, show am_up τ 6 m x 0 7 = Int32.ofNat m from e7, ni_wr hm' (by omega), Option.bind_some, show am_up (am_up τ 6 m x) 7 m y 0 7 = Int32.ofNat m from e7,
      show (65 : Int32) + Int32.ofNat m = Int32.ofNat (65 + m) from ni_add 65 m, ni_wr (by omega) (by omega), Option.bind_some, am_let, am_let]
    rw [am_up_id (show am_up (am_up τ 6 m x) 7 m y 1 (65 + m) = 0 from (hIR.2.2 m hm').2.2.2.2.2.2 (Nat.le_refl m)), show am_up (am_up τ 6 m x) 7 m y 0 7 = Int32.ofNat m from e7, ni_succ]
    rw [if_neg (ni_m1 (by omega))]
    refine ⟨_, _, rfl, rfl, ?_, ?_⟩
    · simp [am_up_ap]
    refine ⟨?_, ⟨n, m + 1, ?_, ?_, ?_, ?_, ?_, ?_, ?_, ?_, ?_, ?_, ?_, ?_, ?_, ?_, ?_⟩, ?_, ?_, ?_, ?_⟩
    · simpa [C_Past_forget, am_let, am_up_ap, am_up_ne, am_up_row, rl_pf_up, rl_IM_up] using hK
    · simpa [C_Past_forget, am_let, am_up_ap, am_up_ne, am_up_row, rl_pf_up, rl_IM_up] using hFR
    · refine ⟨by simpa [C_Past_forget, am_let, am_up_ap, am_up_ne] using e0, by simp [C_Past_forget, am_let, am_up_ap, am_up_ne], fun j hj => ?_⟩
      have g := hFS.2.2 j hj
      by_cases qj : j = m
      · subst qj; simpa [C_Past_forget, am_let, am_up_ap, am_up_ne] using ⟨g.1, g.2.1⟩
      · simpa [C_Past_forget, am_let, am_up_ap, am_up_ne, qj] using g
    · simpa [C_Past_forget, am_let, am_up_ap, am_up_ne, am_up_row] using ir_mono hIR (Nat.le_refl n) (Nat.le_succ m)
    · refine ⟨hn, by omega, by simpa [am_up_ap, am_up_ne] using e6, by simp [am_up_ap], fun j hj => ?_⟩
      have g := hI j hj
      by_cases qj : j = m
      · subst qj; simpa [C_Past_forget, am_let, am_up_ap, am_up_ne] using ⟨g.1, g.2.1, v.1, v.2⟩
      · simpa [C_Past_forget, am_let, am_up_ap, am_up_ne, qj] using g
    · simpa [C_Past_forget, am_let, am_up_ap, am_up_ne, am_up_row, rl_pf_up, rl_IM_up] using hBK
    · simpa [C_Past_forget, am_let, am_up_ap, am_up_ne, am_up_row, rl_pf_up, rl_IM_up] using hGU
    · simpa [C_Past_forget, am_let, am_up_ap, am_up_ne, am_up_row, rl_pf_up, rl_IM_up] using hLE
    · simpa [C_Past_forget, am_let, am_up_ap, am_up_ne, am_up_row, rl_pf_up, rl_IM_up] using hKY
    · simpa [C_Past_forget, am_let, am_up_ap, am_up_ne, am_up_row, rl_pf_up, rl_IM_up] using hBI
    · simpa [C_Past_forget, am_let, am_up_ap, am_up_ne, am_up_row, rl_pf_up, rl_IM_up] using hQU
    · simpa [C_Past_forget, am_let, am_up_ap, am_up_ne, am_up_row, rl_pf_up, rl_IM_up] using hCO
    · simpa [C_Past_forget, am_let, am_up_ap, am_up_ne, am_up_row] using or_mono hOR (by omega) (by omega)
    · simpa [C_Past_forget, am_let, am_up_ap, am_up_ne, am_up_row] using sv_mono hSV (by omega)
    · simpa [C_Past_forget, am_let, am_up_ap, am_up_ne, am_up_row, rl_pf_up, rl_IM_up] using hND
    · simpa [C_Past_forget, am_let, am_up_ap, am_up_ne, am_up_row, rl_pf_up, rl_IM_up] using hLW
    · simp [C_Past_forget, am_let, am_up_ap, am_up_ne, am_up_row, rl_pf_up]
      exact rl_PS_forget hPS ⟨_, hBK.choose_spec.1, by simpa [upd] using hBK.choose_spec.2.2.1⟩ ⟨_, hIS.2.2.1⟩ ⟨m + 1, by simp⟩
    · simpa [C_Past_forget, am_let, am_up_ap, am_up_ne, am_up_row, rl_pf_up, rl_IM_up] using hTP
    · simpa [C_Past_forget, am_let, am_up_ap, am_up_ne, am_up_row, rl_pf_up, rl_IM_up] using hFT
    · simpa [C_Past_forget, am_let, am_up_ap, am_up_ne, am_up_row, rl_pf_up, rl_IM_up] using hIM
  · have e1 : C_batman x y σ = some (-1, σ) := by
      unfold C_batman
      repeat' split
      all_goals first | rfl | (exfalso; grind)
    have e2 : ∀ z : Option (Int32 × am_SS), (if M_isIn x 0 1 = true then (if M_isIn y 0 9 = true then z else some (-1, τ)) else some (-1, τ)) = some (-1, τ) := by
      intro z
      by_cases q1 : M_isIn x 0 1 = true
      · rw [if_pos q1]
        by_cases q2 : M_isIn y 0 9 = true
        · exact absurd ⟨ni_in.mp q1, ni_in.mp q2⟩ v
        · rw [if_neg q2]
      · rw [if_neg q1]
    rw [e1, e2]
    exact ⟨_, _, rfl, rfl, rfl, h⟩
