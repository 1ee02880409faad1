/-! L3: letter, bit, corner -/
theorem le_push {c : Nat} {cells arr : Nat → Int32} {v : Int32} {cc mc : Int32} (hc : c < 12) (h : ∀ k, k < 12 → cells k = arr k ∧ rl_rg (arr k) 0 25) (hv : rl_rg v 0 25) : rl_LE (Int32.ofNat (c + 1)) (upd cells c v) (Int32.ofNat (c + 1)) (upd arr c v) := by
  refine ⟨c + 1, by omega, rfl, rfl, fun k hk => ?_⟩
  simp only [upd]
  by_cases q : k = c
  · rw [if_pos q, if_pos q]; exact ⟨rfl, hv⟩
  · rw [if_neg q, if_neg q]; exact h k hk
theorem ky_push {c : Nat} {cells arr : Nat → Int32} {v : Int32} (hc : c < 4) (h : ∀ k, k < 4 → cells k = arr (12 + k) ∧ rl_rg (arr (12 + k)) 0 25) (hv : rl_rg v 0 25) : rl_KY (Int32.ofNat (c + 1)) (upd cells c v) (Int32.ofNat (c + 1)) (upd arr (12 + c) v) := by
  refine ⟨c + 1, by omega, rfl, rfl, fun k hk => ?_⟩
  simp only [upd]
  by_cases q : k = c
  · rw [if_pos q, if_pos (by omega)]; exact ⟨rfl, hv⟩
  · rw [if_neg q, if_neg (by omega)]; exact h k hk
theorem bi_push {c : Nat} {cells arr : Nat → Int32} {v : Int32} (hc : c < 16) (h : ∀ k, k < 16 → cells k = arr k ∧ rl_rg (arr k) 0 1) (hv : rl_rg v 0 1) : rl_BI (Int32.ofNat (c + 1)) (upd cells c v) (Int32.ofNat (c + 1)) (upd arr c v) := by
  refine ⟨c + 1, by omega, rfl, rfl, fun k hk => ?_⟩
  simp only [upd]
  by_cases q : k = c
  · rw [if_pos q, if_pos q]; exact ⟨rfl, hv⟩
  · rw [if_neg q, if_neg q]; exact h k hk
theorem le_far {cc mc : Int32} {cells arr : Nat → Int32} {k : Nat} {v : Int32} (h : rl_LE cc cells mc arr) (hk : 12 ≤ k) : rl_LE cc cells mc (upd arr k v) := by
  obtain ⟨c, hc, e1, e2, e3⟩ := h
  refine ⟨c, hc, e1, e2, fun j hj => ?_⟩
  rw [upd_ne (by omega)]; exact e3 j hj
theorem ky_far {cc mc : Int32} {cells arr : Nat → Int32} {k : Nat} {v : Int32} (h : rl_KY cc cells mc arr) (hk : k < 12) : rl_KY cc cells mc (upd arr k v) := by
  obtain ⟨c, hc, e1, e2, e3⟩ := h
  refine ⟨c, hc, e1, e2, fun j hj => ?_⟩
  rw [upd_ne (by omega)]; exact e3 j hj
theorem add_1 {F a c : Nat} (L : Nat) {x : Int32} {σ : am_SS} (hF : 2000 ≤ F) (h2 : σ a 2 = Int32.ofNat c) (h0 : σ a 0 = 1) (hL : LC.2.1 (a + 1) = L) (hs : c < L) (hL9 : L ≤ 1000) :
    C_Table_add F a x 0 0 0 σ = some (Int32.ofNat (c + 1), am_up (am_up σ (a + 1) c x) a 2 (Int32.ofNat (c + 1))) := by
  rw [tb_add (w := 1) L hF h2 h0 hL (by omega) (by omega) (by omega) hL9]
  simp [tb_wr, tb_pick]
theorem add_2 {F a c : Nat} (L : Nat) {x y : Int32} {σ : am_SS} (hF : 2000 ≤ F) (h2 : σ a 2 = Int32.ofNat c) (h0 : σ a 0 = 2) (hL : LC.2.1 (a + 1) = L) (hs : (c + 1) * 2 ≤ L) (hL9 : L ≤ 1000) :
    C_Table_add F a x y 0 0 σ = some (Int32.ofNat (c + 1), am_up (am_up (am_up σ (a + 1) (2 * c) x) (a + 1) (2 * c + 1) y) a 2 (Int32.ofNat (c + 1))) := by
  rw [tb_add (w := 2) L hF h2 h0 hL (by omega) (by omega) (by omega) hL9]
  simp [tb_wr, tb_pick, Nat.mul_comm c 2]
theorem add_3 {F a c : Nat} (L : Nat) {x y z : Int32} {σ : am_SS} (hF : 2000 ≤ F) (h2 : σ a 2 = Int32.ofNat c) (h0 : σ a 0 = 3) (hL : LC.2.1 (a + 1) = L) (hs : (c + 1) * 3 ≤ L) (hL9 : L ≤ 1000) :
    C_Table_add F a x y z 0 σ = some (Int32.ofNat (c + 1), am_up (am_up (am_up (am_up σ (a + 1) (3 * c) x) (a + 1) (3 * c + 1) y) (a + 1) (3 * c + 2) z) a 2 (Int32.ofNat (c + 1))) := by
  rw [tb_add (w := 3) L hF h2 h0 hL (by omega) (by omega) (by omega) hL9]
  simp [tb_wr, tb_pick, Nat.mul_comm c 3]
theorem add_4 {F a c : Nat} (L : Nat) {x y z w : Int32} {σ : am_SS} (hF : 2000 ≤ F) (h2 : σ a 2 = Int32.ofNat c) (h0 : σ a 0 = 4) (hL : LC.2.1 (a + 1) = L) (hs : (c + 1) * 4 ≤ L) (hL9 : L ≤ 1000) :
    C_Table_add F a x y z w σ = some (Int32.ofNat (c + 1), am_up (am_up (am_up (am_up (am_up σ (a + 1) (4 * c) x) (a + 1) (4 * c + 1) y) (a + 1) (4 * c + 2) z) (a + 1) (4 * c + 3) w) a 2 (Int32.ofNat (c + 1))) := by
  rw [tb_add (w := 4) L hF h2 h0 hL (by omega) (by omega) (by omega) hL9]
  simp [tb_wr, tb_pick, Nat.mul_comm c 4]
theorem ca_26 (F : Nat) (hF : 2000 ≤ F) : aj_S26 F rl_R := by
  intro y σ τ h
  have h := rl_told h 0
  simp only [C_bit, M_bit, am_let, C_Table_clear, C_bit_p25]
  generalize am_up τ 0 0 0 = τ at h ⊢
  have h' := h
  obtain ⟨hK, ⟨n, m, hFR, hFS, hIR, hIS, hBK, hGU, hLE, hKY, hBI, hQU, hCO, hOR, hSV, hND, hLW⟩, hPS, hTP, hFT, hIM⟩ := h'
  obtain ⟨c, hc, e1, e2, e3⟩ := hBI
  have w : σ 33 0 = 1 := hK.2.2.2.2.2.2.2.2.2.1
  by_cases q : y = -1
  · rw [if_pos q, if_pos q]
    refine ⟨_, _, rfl, rfl, rfl, ?_⟩
    refine ⟨?_, ⟨n, m, ?_, ?_, ?_, ?_, ?_, ?_, ?_, ?_, ?_, ?_, ?_, ?_, ?_, ?_, ?_⟩, ?_, ?_, ?_, ?_⟩
    · simpa [am_up_ap, am_up_ne, am_up_row, rl_pf_up, rl_IM_up] using hK
    · simpa [am_up_ap, am_up_ne, am_up_row, rl_pf_up, rl_IM_up] using hFR
    · simpa [am_up_ap, am_up_ne, am_up_row, rl_pf_up, rl_IM_up] using hFS
    · simpa [am_up_ap, am_up_ne, am_up_row, rl_pf_up, rl_IM_up] using hIR
    · simpa [am_up_ap, am_up_ne, am_up_row, rl_pf_up, rl_IM_up] using hIS
    · simpa [am_up_ap, am_up_ne, am_up_row, rl_pf_up, rl_IM_up] using hBK
    · simpa [am_up_ap, am_up_ne, am_up_row, rl_pf_up, rl_IM_up] using hGU
    · simpa [am_up_ap, am_up_ne, am_up_row, rl_pf_up, rl_IM_up] using hLE
    · simpa [am_up_ap, am_up_ne, am_up_row, rl_pf_up, rl_IM_up] using hKY
    · simpa [am_up_ap, am_up_ne, am_up_row] using ⟨0, by omega, rfl, rfl, e3⟩
    · simpa [am_up_ap, am_up_ne, am_up_row, rl_pf_up, rl_IM_up] using hQU
    · simpa [am_up_ap, am_up_ne, am_up_row, rl_pf_up, rl_IM_up] using hCO
    · simpa [am_up_ap, am_up_ne, am_up_row, rl_pf_up, rl_IM_up] using hOR
    · simpa [am_up_ap, am_up_ne, am_up_row, rl_pf_up, rl_IM_up] using hSV
    · simpa [am_up_ap, am_up_ne, am_up_row, rl_pf_up, rl_IM_up] using hND
    · simpa [am_up_ap, am_up_ne, am_up_row, rl_pf_up, rl_IM_up] using hLW
    · simpa [am_up_ap, am_up_ne, am_up_row, rl_pf_up, rl_IM_up] using hPS
    · simpa [am_up_ap, am_up_ne, am_up_row, rl_pf_up, rl_IM_up] using hTP
    · simpa [am_up_ap, am_up_ne, am_up_row, rl_pf_up, rl_IM_up] using hFT
    · simpa [am_up_ap, am_up_ne, am_up_row, rl_pf_up, rl_IM_up] using hIM
  rw [if_neg q, if_neg q, e2]
  by_cases v : y = 0 ∨ y = 1
  · rw [if_pos (ni_in.mpr (by rcases v with v | v <;> subst v <;> decide))]
    have e4 : (if y = 0 then (C_Table_add F 33 y 0 0 0 σ).bind (fun q_1 => some (q_1.1, q_1.2)) else if y = 1 then (C_Table_add F 33 y 0 0 0 σ).bind (fun q_1 => some (q_1.1, q_1.2)) else some (-1, σ)) = C_Table_add F 33 y 0 0 0 σ := by
      have e5 : (C_Table_add F 33 y 0 0 0 σ).bind (fun q_1 => some (q_1.1, q_1.2)) = C_Table_add F 33 y 0 0 0 σ := by cases C_Table_add F 33 y 0 0 0 σ <;> rfl
      rcases v with v | v
      · rw [if_pos v, e5]
      · rw [if_neg (by subst v; decide), if_pos v, e5]
    rw [e4]
    by_cases q16 : c = 16
    · subst q16
      rw [if_pos rfl, tb_full (w := 1) 16 e1 w rfl (by omega) (by omega) (by omega)]
      exact ⟨_, _, rfl, rfl, rfl, h⟩
    · rw [if_neg (fun g => q16 ((ni_eq (b := 16) (by omega) (by omega)).mp g)), ni_wr (by omega) (by omega), Option.bind_some, add_1 16 hF e1 w rfl (by omega) (by omega)]
      refine ⟨_, _, rfl, rfl, ?_, ?_⟩
      · simp [am_up_ap, e2, ni_succ]
      have hv : rl_rg y 0 1 := by rcases v with v | v <;> subst v <;> decide
      refine ⟨?_, ⟨n, m, ?_, ?_, ?_, ?_, ?_, ?_, ?_, ?_, ?_, ?_, ?_, ?_, ?_, ?_, ?_⟩, ?_, ?_, ?_, ?_⟩
      · simpa [am_up_ap, am_up_ne, am_up_row, rl_pf_up, rl_IM_up] using hK
      · simpa [am_up_ap, am_up_ne, am_up_row, rl_pf_up, rl_IM_up] using hFR
      · simpa [am_up_ap, am_up_ne, am_up_row, rl_pf_up, rl_IM_up] using hFS
      · simpa [am_up_ap, am_up_ne, am_up_row, rl_pf_up, rl_IM_up] using hIR
      · simpa [am_up_ap, am_up_ne, am_up_row, rl_pf_up, rl_IM_up] using hIS
      · simpa [am_up_ap, am_up_ne, am_up_row, rl_pf_up, rl_IM_up] using hBK
      · simpa [am_up_ap, am_up_ne, am_up_row, rl_pf_up, rl_IM_up] using hGU
      · simpa [am_up_ap, am_up_ne, am_up_row, rl_pf_up, rl_IM_up] using hLE
      · simpa [am_up_ap, am_up_ne, am_up_row, rl_pf_up, rl_IM_up] using hKY
      · simpa [am_up_ap, am_up_ne, am_up_row, e2, ni_succ] using bi_push (by omega) e3 hv
      · simpa [am_up_ap, am_up_ne, am_up_row, rl_pf_up, rl_IM_up] using hQU
      · simpa [am_up_ap, am_up_ne, am_up_row, rl_pf_up, rl_IM_up] using hCO
      · simpa [am_up_ap, am_up_ne, am_up_row, rl_pf_up, rl_IM_up] using hOR
      · simpa [am_up_ap, am_up_ne, am_up_row, rl_pf_up, rl_IM_up] using hSV
      · simpa [am_up_ap, am_up_ne, am_up_row, rl_pf_up, rl_IM_up] using hND
      · simpa [am_up_ap, am_up_ne, am_up_row, rl_pf_up, rl_IM_up] using hLW
      · simpa [am_up_ap, am_up_ne, am_up_row, rl_pf_up, rl_IM_up] using hPS
      · simpa [am_up_ap, am_up_ne, am_up_row, rl_pf_up, rl_IM_up] using hTP
      · simpa [am_up_ap, am_up_ne, am_up_row, rl_pf_up, rl_IM_up] using hFT
      · simpa [am_up_ap, am_up_ne, am_up_row, rl_pf_up, rl_IM_up] using hIM
  · rw [if_neg (fun g => v (by have := ni_in.mp g; grind)), if_neg (fun g => v (.inl g)), if_neg (fun g => v (.inr g))]
    exact ⟨_, _, rfl, rfl, rfl, h⟩
theorem ca_24 (F : Nat) (hF : 2000 ≤ F) : aj_S24 F rl_R := by
  intro x y σ τ h
  have h := rl_told h 0
  simp only [C_letter, M_letter, am_let, C_Table_clear, C_letter_p11, C_letter_p32, M_letter_p58]
  generalize am_up τ 0 0 0 = τ at h ⊢
  have h' := h
  obtain ⟨hK, ⟨n, m, hFR, hFS, hIR, hIS, hBK, hGU, hLE, hKY, hBI, hQU, hCO, hOR, hSV, hND, hLW⟩, hPS, hTP, hFT, hIM⟩ := h'
  obtain ⟨c, hc, e1, e2, e3⟩ := hLE
  obtain ⟨d, hd, d1, d2, d3⟩ := hKY
  have w29 : σ 29 0 = 1 := hK.2.2.2.2.2.2.2.1
  have w31 : σ 31 0 = 1 := hK.2.2.2.2.2.2.2.2.1
  by_cases x0 : x = 0
  · subst x0
    rw [if_pos rfl, if_pos (by decide), if_pos rfl, rd_0 (by decide) (by decide), Option.bind_some, wr_0 (by decide) (by decide), Option.bind_some]
    by_cases q : y = -1
    · rw [if_pos q, if_pos q]
      refine ⟨_, _, rfl, rfl, rfl, ?_⟩
      refine ⟨?_, ⟨n, m, ?_, ?_, ?_, ?_, ?_, ?_, ?_, ?_, ?_, ?_, ?_, ?_, ?_, ?_, ?_⟩, ?_, ?_, ?_, ?_⟩
      · simpa [am_up_ap, am_up_ne, am_up_row, rl_pf_up, rl_IM_up] using hK
      · simpa [am_up_ap, am_up_ne, am_up_row, rl_pf_up, rl_IM_up] using hFR
      · simpa [am_up_ap, am_up_ne, am_up_row, rl_pf_up, rl_IM_up] using hFS
      · simpa [am_up_ap, am_up_ne, am_up_row, rl_pf_up, rl_IM_up] using hIR
      · simpa [am_up_ap, am_up_ne, am_up_row, rl_pf_up, rl_IM_up] using hIS
      · simpa [am_up_ap, am_up_ne, am_up_row, rl_pf_up, rl_IM_up] using hBK
      · simpa [am_up_ap, am_up_ne, am_up_row, rl_pf_up, rl_IM_up] using hGU
      · simpa [am_up_ap, am_up_ne, am_up_row] using ⟨0, by omega, rfl, rfl, e3⟩
      · simpa [am_up_ap, am_up_ne, am_up_row] using ⟨d, hd, d1, d2, d3⟩
      · simpa [am_up_ap, am_up_ne, am_up_row, rl_pf_up, rl_IM_up] using hBI
      · simpa [am_up_ap, am_up_ne, am_up_row, rl_pf_up, rl_IM_up] using hQU
      · simpa [am_up_ap, am_up_ne, am_up_row, rl_pf_up, rl_IM_up] using hCO
      · simpa [am_up_ap, am_up_ne, am_up_row, rl_pf_up, rl_IM_up] using hOR
      · simpa [am_up_ap, am_up_ne, am_up_row, rl_pf_up, rl_IM_up] using hSV
      · simpa [am_up_ap, am_up_ne, am_up_row, rl_pf_up, rl_IM_up] using hND
      · simpa [am_up_ap, am_up_ne, am_up_row, rl_pf_up, rl_IM_up] using hLW
      · simpa [am_up_ap, am_up_ne, am_up_row, rl_pf_up, rl_IM_up] using hPS
      · simpa [am_up_ap, am_up_ne, am_up_row, rl_pf_up, rl_IM_up] using hTP
      · simpa [am_up_ap, am_up_ne, am_up_row, rl_pf_up, rl_IM_up] using hFT
      · simpa [am_up_ap, am_up_ne, am_up_row, rl_pf_up, rl_IM_up] using hIM
    rw [if_neg q, if_neg q]
    by_cases v : 0 ≤ y ∧ y ≤ 25
    · rw [if_neg (by grind), if_pos (by grind), if_pos (ni_in.mpr v), if_pos rfl, e2]
      by_cases q12 : c = 12
      · subst q12
        rw [if_pos rfl, tb_full (w := 1) 12 e1 w29 rfl (by omega) (by omega) (by omega)]
        exact ⟨_, _, rfl, rfl, rfl, h⟩
      · rw [if_neg (fun g => q12 ((ni_eq (b := 12) (by omega) (by omega)).mp g)), add_1 12 hF e1 w29 rfl (by omega) (by omega)]
        rw [show (12 : Int32) * 0 + Int32.ofNat c = Int32.ofNat c from by simp, ni_wr (by omega) (by omega), Option.bind_some, rd_0 (by decide) (by decide), Option.bind_some, wr_0 (by decide) (by decide), Option.bind_some, rd_0 (by decide) (by decide), Option.bind_some, Option.bind_some]
        refine ⟨_, _, rfl, rfl, ?_, ?_⟩
        · simp [am_up_ap, e2, ni_succ]
        refine ⟨?_, ⟨n, m, ?_, ?_, ?_, ?_, ?_, ?_, ?_, ?_, ?_, ?_, ?_, ?_, ?_, ?_, ?_⟩, ?_, ?_, ?_, ?_⟩
        · simpa [am_up_ap, am_up_ne, am_up_row, rl_pf_up, rl_IM_up] using hK
        · simpa [am_up_ap, am_up_ne, am_up_row, rl_pf_up, rl_IM_up] using hFR
        · simpa [am_up_ap, am_up_ne, am_up_row, rl_pf_up, rl_IM_up] using hFS
        · simpa [am_up_ap, am_up_ne, am_up_row, rl_pf_up, rl_IM_up] using hIR
        · simpa [am_up_ap, am_up_ne, am_up_row, rl_pf_up, rl_IM_up] using hIS
        · simpa [am_up_ap, am_up_ne, am_up_row, rl_pf_up, rl_IM_up] using hBK
        · simpa [am_up_ap, am_up_ne, am_up_row, rl_pf_up, rl_IM_up] using hGU
        · simpa [am_up_ap, am_up_ne, am_up_row, e2, ni_succ] using le_push (cc := 0) (mc := 0) (by omega) e3 v
        · simpa [am_up_ap, am_up_ne, am_up_row] using ky_far ⟨d, hd, d1, d2, d3⟩ (by omega)
        · simpa [am_up_ap, am_up_ne, am_up_row, rl_pf_up, rl_IM_up] using hBI
        · simpa [am_up_ap, am_up_ne, am_up_row, rl_pf_up, rl_IM_up] using hQU
        · simpa [am_up_ap, am_up_ne, am_up_row, rl_pf_up, rl_IM_up] using hCO
        · simpa [am_up_ap, am_up_ne, am_up_row, rl_pf_up, rl_IM_up] using hOR
        · simpa [am_up_ap, am_up_ne, am_up_row, rl_pf_up, rl_IM_up] using hSV
        · simpa [am_up_ap, am_up_ne, am_up_row, rl_pf_up, rl_IM_up] using hND
        · simpa [am_up_ap, am_up_ne, am_up_row, rl_pf_up, rl_IM_up] using hLW
        · simpa [am_up_ap, am_up_ne, am_up_row, rl_pf_up, rl_IM_up] using hPS
        · simpa [am_up_ap, am_up_ne, am_up_row, rl_pf_up, rl_IM_up] using hTP
        · simpa [am_up_ap, am_up_ne, am_up_row, rl_pf_up, rl_IM_up] using hFT
        · simpa [am_up_ap, am_up_ne, am_up_row, rl_pf_up, rl_IM_up] using hIM
    · rw [if_neg (fun g => v (ni_in.mp g))]
      by_cases q1 : y < 0
      · rw [if_pos q1]; exact ⟨_, _, rfl, rfl, rfl, h⟩
      · rw [if_neg q1, if_neg (by grind)]; exact ⟨_, _, rfl, rfl, rfl, h⟩
  by_cases x1 : x = 1
  · subst x1
    rw [if_neg x0, if_pos rfl, if_neg x0, if_pos (by decide), rd_1 (by decide) (by decide), Option.bind_some, wr_1 (by decide) (by decide), Option.bind_some]
    by_cases q : y = -1
    · rw [if_pos q, if_pos q]
      refine ⟨_, _, rfl, rfl, rfl, ?_⟩
      refine ⟨?_, ⟨n, m, ?_, ?_, ?_, ?_, ?_, ?_, ?_, ?_, ?_, ?_, ?_, ?_, ?_, ?_, ?_⟩, ?_, ?_, ?_, ?_⟩
      · simpa [am_up_ap, am_up_ne, am_up_row, rl_pf_up, rl_IM_up] using hK
      · simpa [am_up_ap, am_up_ne, am_up_row, rl_pf_up, rl_IM_up] using hFR
      · simpa [am_up_ap, am_up_ne, am_up_row, rl_pf_up, rl_IM_up] using hFS
      · simpa [am_up_ap, am_up_ne, am_up_row, rl_pf_up, rl_IM_up] using hIR
      · simpa [am_up_ap, am_up_ne, am_up_row, rl_pf_up, rl_IM_up] using hIS
      · simpa [am_up_ap, am_up_ne, am_up_row, rl_pf_up, rl_IM_up] using hBK
      · simpa [am_up_ap, am_up_ne, am_up_row, rl_pf_up, rl_IM_up] using hGU
      · simpa [am_up_ap, am_up_ne, am_up_row] using ⟨c, hc, e1, e2, e3⟩
      · simpa [am_up_ap, am_up_ne, am_up_row] using ⟨0, by omega, rfl, rfl, d3⟩
      · simpa [am_up_ap, am_up_ne, am_up_row, rl_pf_up, rl_IM_up] using hBI
      · simpa [am_up_ap, am_up_ne, am_up_row, rl_pf_up, rl_IM_up] using hQU
      · simpa [am_up_ap, am_up_ne, am_up_row, rl_pf_up, rl_IM_up] using hCO
      · simpa [am_up_ap, am_up_ne, am_up_row, rl_pf_up, rl_IM_up] using hOR
      · simpa [am_up_ap, am_up_ne, am_up_row, rl_pf_up, rl_IM_up] using hSV
      · simpa [am_up_ap, am_up_ne, am_up_row, rl_pf_up, rl_IM_up] using hND
      · simpa [am_up_ap, am_up_ne, am_up_row, rl_pf_up, rl_IM_up] using hLW
      · simpa [am_up_ap, am_up_ne, am_up_row, rl_pf_up, rl_IM_up] using hPS
      · simpa [am_up_ap, am_up_ne, am_up_row, rl_pf_up, rl_IM_up] using hTP
      · simpa [am_up_ap, am_up_ne, am_up_row, rl_pf_up, rl_IM_up] using hFT
      · simpa [am_up_ap, am_up_ne, am_up_row, rl_pf_up, rl_IM_up] using hIM
    rw [if_neg q, if_neg q]
    by_cases v : 0 ≤ y ∧ y ≤ 25
    · rw [if_neg (by grind), if_pos (by grind), if_pos (ni_in.mpr v), if_neg x0, d2]
      by_cases q12 : d = 4
      · subst q12
        rw [if_pos rfl, tb_full (w := 1) 4 d1 w31 rfl (by omega) (by omega) (by omega)]
        exact ⟨_, _, rfl, rfl, rfl, h⟩
      · rw [if_neg (fun g => q12 ((ni_eq (b := 4) (by omega) (by omega)).mp g)), add_1 4 hF d1 w31 rfl (by omega) (by omega)]
        rw [show (12 : Int32) * 1 + Int32.ofNat d = Int32.ofNat (12 + d) from ni_add 12 d, ni_wr (by omega) (by omega), Option.bind_some, rd_1 (by decide) (by decide), Option.bind_some, wr_1 (by decide) (by decide), Option.bind_some, rd_1 (by decide) (by decide), Option.bind_some, Option.bind_some]
        refine ⟨_, _, rfl, rfl, ?_, ?_⟩
        · simp [am_up_ap, d2, ni_succ]
        refine ⟨?_, ⟨n, m, ?_, ?_, ?_, ?_, ?_, ?_, ?_, ?_, ?_, ?_, ?_, ?_, ?_, ?_, ?_⟩, ?_, ?_, ?_, ?_⟩
        · simpa [am_up_ap, am_up_ne, am_up_row, rl_pf_up, rl_IM_up] using hK
        · simpa [am_up_ap, am_up_ne, am_up_row, rl_pf_up, rl_IM_up] using hFR
        · simpa [am_up_ap, am_up_ne, am_up_row, rl_pf_up, rl_IM_up] using hFS
        · simpa [am_up_ap, am_up_ne, am_up_row, rl_pf_up, rl_IM_up] using hIR
        · simpa [am_up_ap, am_up_ne, am_up_row, rl_pf_up, rl_IM_up] using hIS
        · simpa [am_up_ap, am_up_ne, am_up_row, rl_pf_up, rl_IM_up] using hBK
        · simpa [am_up_ap, am_up_ne, am_up_row, rl_pf_up, rl_IM_up] using hGU
        · simpa [am_up_ap, am_up_ne, am_up_row] using le_far ⟨c, hc, e1, e2, e3⟩ (by omega)
        · simpa [am_up_ap, am_up_ne, am_up_row, d2, ni_succ] using ky_push (by omega) d3 v
        · simpa [am_up_ap, am_up_ne, am_up_row, rl_pf_up, rl_IM_up] using hBI
        · simpa [am_up_ap, am_up_ne, am_up_row, rl_pf_up, rl_IM_up] using hQU
        · simpa [am_up_ap, am_up_ne, am_up_row, rl_pf_up, rl_IM_up] using hCO
        · simpa [am_up_ap, am_up_ne, am_up_row, rl_pf_up, rl_IM_up] using hOR
        · simpa [am_up_ap, am_up_ne, am_up_row, rl_pf_up, rl_IM_up] using hSV
        · simpa [am_up_ap, am_up_ne, am_up_row, rl_pf_up, rl_IM_up] using hND
        · simpa [am_up_ap, am_up_ne, am_up_row, rl_pf_up, rl_IM_up] using hLW
        · simpa [am_up_ap, am_up_ne, am_up_row, rl_pf_up, rl_IM_up] using hPS
        · simpa [am_up_ap, am_up_ne, am_up_row, rl_pf_up, rl_IM_up] using hTP
        · simpa [am_up_ap, am_up_ne, am_up_row, rl_pf_up, rl_IM_up] using hFT
        · simpa [am_up_ap, am_up_ne, am_up_row, rl_pf_up, rl_IM_up] using hIM
    · rw [if_neg (fun g => v (ni_in.mp g))]
      by_cases q1 : y < 0
      · rw [if_pos q1]; exact ⟨_, _, rfl, rfl, rfl, h⟩
      · rw [if_neg q1, if_neg (by grind)]; exact ⟨_, _, rfl, rfl, rfl, h⟩
  rw [if_neg x0, if_neg x1, if_neg (fun g => by have := ni_in.mp g; grind)]
  exact ⟨_, _, rfl, rfl, rfl, h⟩
theorem ca_30 (F : Nat) (hF : 2000 ≤ F) : aj_S30 F rl_R := by
  intro x y σ τ h
  have h := rl_told h 0
  simp only [C_corner, M_corner, am_let, C_Table_clear]
  generalize am_up τ 0 0 0 = τ at h ⊢
  have h' := h
  obtain ⟨hK, ⟨n, m, hFR, hFS, hIR, hIS, hBK, hGU, hLE, hKY, hBI, hQU, hCO, hOR, hSV, hND, hLW⟩, hPS, hTP, hFT, hIM⟩ := h'
  obtain ⟨c, hc, e1, e2, e3⟩ := hCO
  have w : σ 37 0 = 2 := hK.2.2.2.2.2.2.2.2.2.2.2.1
  by_cases q : x = -100
  · rw [if_pos q, if_pos q]
    refine ⟨_, _, rfl, rfl, rfl, ?_⟩
    refine ⟨?_, ⟨n, m, ?_, ?_, ?_, ?_, ?_, ?_, ?_, ?_, ?_, ?_, ?_, ?_, ?_, ?_, ?_⟩, ?_, ?_, ?_, ?_⟩
    · simpa [am_up_ap, am_up_ne, am_up_row, rl_pf_up, rl_IM_up] using hK
    · simpa [am_up_ap, am_up_ne, am_up_row, rl_pf_up, rl_IM_up] using hFR
    · simpa [am_up_ap, am_up_ne, am_up_row, rl_pf_up, rl_IM_up] using hFS
    · simpa [am_up_ap, am_up_ne, am_up_row, rl_pf_up, rl_IM_up] using hIR
    · simpa [am_up_ap, am_up_ne, am_up_row, rl_pf_up, rl_IM_up] using hIS
    · simpa [am_up_ap, am_up_ne, am_up_row, rl_pf_up, rl_IM_up] using hBK
    · simpa [am_up_ap, am_up_ne, am_up_row, rl_pf_up, rl_IM_up] using hGU
    · simpa [am_up_ap, am_up_ne, am_up_row, rl_pf_up, rl_IM_up] using hLE
    · simpa [am_up_ap, am_up_ne, am_up_row, rl_pf_up, rl_IM_up] using hKY
    · simpa [am_up_ap, am_up_ne, am_up_row, rl_pf_up, rl_IM_up] using hBI
    · simpa [am_up_ap, am_up_ne, am_up_row, rl_pf_up, rl_IM_up] using hQU
    · simpa [am_up_ap, am_up_ne, am_up_row] using ⟨0, by omega, rfl, rfl, e3⟩
    · simpa [am_up_ap, am_up_ne, am_up_row, rl_pf_up, rl_IM_up] using hOR
    · simpa [am_up_ap, am_up_ne, am_up_row, rl_pf_up, rl_IM_up] using hSV
    · simpa [am_up_ap, am_up_ne, am_up_row, rl_pf_up, rl_IM_up] using hND
    · simpa [am_up_ap, am_up_ne, am_up_row, rl_pf_up, rl_IM_up] using hLW
    · simpa [am_up_ap, am_up_ne, am_up_row, rl_pf_up, rl_IM_up] using hPS
    · simpa [am_up_ap, am_up_ne, am_up_row, rl_pf_up, rl_IM_up] using hTP
    · simpa [am_up_ap, am_up_ne, am_up_row, rl_pf_up, rl_IM_up] using hFT
    · simpa [am_up_ap, am_up_ne, am_up_row, rl_pf_up, rl_IM_up] using hIM
  rw [if_neg q, if_neg q]
  by_cases v : (-50 ≤ x ∧ x ≤ 50) ∧ (-50 ≤ y ∧ y ≤ 50)
  · rw [if_pos (ni_in.mpr v.1), if_pos (ni_in.mpr v.2), if_pos (by unfold C_Ways_isPoint; rw [if_neg (by grind), if_neg (by grind), if_neg (by grind), if_neg (by grind)]), e2]
    by_cases q8 : c = 8
    · subst q8
      rw [if_pos rfl, tb_full (w := 2) 16 e1 w rfl (by omega) (by omega) (by omega)]
      exact ⟨_, _, rfl, rfl, rfl, h⟩
    · rw [if_neg (fun g => q8 ((ni_eq (b := 8) (by omega) (by omega)).mp g)), add_2 16 hF e1 w rfl (by omega) (by omega), ni_wr (by omega) (by omega), Option.bind_some, show am_up τ 36 c x 0 59 = Int32.ofNat c from e2, ni_wr (by omega) (by omega), Option.bind_some, Option.bind_some]
      refine ⟨_, _, rfl, rfl, ?_, ?_⟩
      · simp [am_up_ap, e2, ni_succ]
      refine ⟨?_, ⟨n, m, ?_, ?_, ?_, ?_, ?_, ?_, ?_, ?_, ?_, ?_, ?_, ?_, ?_, ?_, ?_⟩, ?_, ?_, ?_, ?_⟩
      · simpa [am_up_ap, am_up_ne, am_up_row, rl_pf_up, rl_IM_up] using hK
      · simpa [am_up_ap, am_up_ne, am_up_row, rl_pf_up, rl_IM_up] using hFR
      · simpa [am_up_ap, am_up_ne, am_up_row, rl_pf_up, rl_IM_up] using hFS
      · simpa [am_up_ap, am_up_ne, am_up_row, rl_pf_up, rl_IM_up] using hIR
      · simpa [am_up_ap, am_up_ne, am_up_row, rl_pf_up, rl_IM_up] using hIS
      · simpa [am_up_ap, am_up_ne, am_up_row, rl_pf_up, rl_IM_up] using hBK
      · simpa [am_up_ap, am_up_ne, am_up_row, rl_pf_up, rl_IM_up] using hGU
      · simpa [am_up_ap, am_up_ne, am_up_row, rl_pf_up, rl_IM_up] using hLE
      · simpa [am_up_ap, am_up_ne, am_up_row, rl_pf_up, rl_IM_up] using hKY
      · simpa [am_up_ap, am_up_ne, am_up_row, rl_pf_up, rl_IM_up] using hBI
      · simpa [am_up_ap, am_up_ne, am_up_row, rl_pf_up, rl_IM_up] using hQU
      · simp only [am_up_ap, am_up_ne, am_up_row]
        refine ⟨c + 1, by omega, by simp, by simp [e2, ni_succ], fun k hk => ?_⟩
        have h3 := e3 k hk
        by_cases qk : k = c
        · subst qk; simpa [upd, am_up_ap, am_up_ne, am_up_row] using v
        · have : 2 * k ≠ 2 * c + 1 := by omega
          have : 2 * k + 1 ≠ 2 * c := by omega
          simpa [upd, qk, this, am_up_ap, am_up_ne, am_up_row] using h3
      · simpa [am_up_ap, am_up_ne, am_up_row, rl_pf_up, rl_IM_up] using hOR
      · simpa [am_up_ap, am_up_ne, am_up_row, rl_pf_up, rl_IM_up] using hSV
      · simpa [am_up_ap, am_up_ne, am_up_row, rl_pf_up, rl_IM_up] using hND
      · simpa [am_up_ap, am_up_ne, am_up_row, rl_pf_up, rl_IM_up] using hLW
      · simpa [am_up_ap, am_up_ne, am_up_row, rl_pf_up, rl_IM_up] using hPS
      · simpa [am_up_ap, am_up_ne, am_up_row, rl_pf_up, rl_IM_up] using hTP
      · simpa [am_up_ap, am_up_ne, am_up_row, rl_pf_up, rl_IM_up] using hFT
      · simpa [am_up_ap, am_up_ne, am_up_row, rl_pf_up, rl_IM_up] using hIM
  · have e4 : C_Ways_isPoint x y = false := by
      unfold C_Ways_isPoint
      repeat' split
      all_goals first | rfl | (exfalso; grind)
    rw [e4, if_neg (by simp)]
    by_cases q1 : M_isIn x (-50) 50 = true
    · rw [if_pos q1, if_neg (fun g => v ⟨ni_in.mp q1, ni_in.mp g⟩)]
      exact ⟨_, _, rfl, rfl, rfl, h⟩
    · rw [if_neg q1]
      exact ⟨_, _, rfl, rfl, rfl, h⟩
