/-! L3: letter, bit, corner -/
theorem le_push {c : Nat} {cells arr : Nat → Int32} {v : Int32} (hc : c < 12) (h : ∀ k, k < 12 → cells k = arr k ∧ rl_rg (arr k) 0 25) (hv : rl_rg v 0 25) : rl_LE (Int32.ofNat (c + 1)) (upd cells c v) (Int32.ofNat (c + 1)) (upd arr c v) := by
  refine ⟨c + 1, by omega, rfl, rfl, fun k hk => ?_⟩
  simp only [upd]
  by_cases q : k = c
  · rw [if_pos q, if_pos q]; exact ⟨rfl, hv⟩
  · rw [if_neg q, if_neg q]; exact h k hk
theorem ky_push {c : Nat} {cells arr : Nat → Int32} {v : Int32} (hc : c < 4) (h : ∀ k, k < 4 → cells k = arr (12 + k) ∧ rl_rg (arr (12 + k)) 0 25) (hv : rl_rg v 0 25) : rl_KY (Int32.ofNat (c + 1)) (upd cells c v) (Int32.ofNat (c + 1)) (upd arr (12 + c) v) := by
  refine ⟨c + 1, by omega, rfl, rfl, fun k hk => ?_⟩
  simp only [upd]
  by_cases q : k = c
  · rw [if_pos q, if_pos (by omega)]; exact ⟨rfl, hv⟩
  · rw [if_neg q, if_neg (by omega)]; exact h k hk
theorem bi_push {c : Nat} {cells arr : Nat → Int32} {v : Int32} (hc : c < 16) (h : ∀ k, k < 16 → cells k = arr k ∧ rl_rg (arr k) 0 1) (hv : rl_rg v 0 1) : rl_BI (Int32.ofNat (c + 1)) (upd cells c v) (Int32.ofNat (c + 1)) (upd arr c v) := by
  refine ⟨c + 1, by omega, rfl, rfl, fun k hk => ?_⟩
  simp only [upd]
  by_cases q : k = c
  · rw [if_pos q, if_pos q]; exact ⟨rfl, hv⟩
  · rw [if_neg q, if_neg q]; exact h k hk
theorem le_far {cc mc : Int32} {cells arr : Nat → Int32} {k : Nat} {v : Int32} (h : rl_LE cc cells mc arr) (hk : 12 ≤ k) : rl_LE cc cells mc (upd arr k v) := by
  obtain ⟨c, hc, e1, e2, e3⟩ := h
  refine ⟨c, hc, e1, e2, fun j hj => ?_⟩
  rw [upd_ne (by omega)]; exact e3 j hj
theorem ky_far {cc mc : Int32} {cells arr : Nat → Int32} {k : Nat} {v : Int32} (h : rl_KY cc cells mc arr) (hk : k < 12) : rl_KY cc cells mc (upd arr k v) := by
  obtain ⟨c, hc, e1, e2, e3⟩ := h
  refine ⟨c, hc, e1, e2, fun j hj => ?_⟩
  rw [upd_ne (by omega)]; exact e3 j hj
theorem add_1 {F a c : Nat} (L : Nat) {x : Int32} {σ : am_SS} (hF : 2000 ≤ F) (h2 : σ a 2 = Int32.ofNat c) (h0 : σ a 0 = 1) (hL : LC.2.1 (a + 1) = L) (hs : c < L) (hL9 : L ≤ 1000) :
    C_Table_add F a x 0 0 0 σ = some (Int32.ofNat (c + 1), am_up (am_up σ (a + 1) c x) a 2 (Int32.ofNat (c + 1))) := by
  rw [tb_add (w := 1) L hF h2 h0 hL (by omega) (by omega) (by omega) hL9]
  simp [tb_wr, tb_pick]
theorem add_2 {F a c : Nat} (L : Nat) {x y : Int32} {σ : am_SS} (hF : 2000 ≤ F) (h2 : σ a 2 = Int32.ofNat c) (h0 : σ a 0 = 2) (hL : LC.2.1 (a + 1) = L) (hs : (c + 1) * 2 ≤ L) (hL9 : L ≤ 1000) :
    C_Table_add F a x y 0 0 σ = some (Int32.ofNat (c + 1), am_up (am_up (am_up σ (a + 1) (2 * c) x) (a + 1) (2 * c + 1) y) a 2 (Int32.ofNat (c + 1))) := by
  rw [tb_add (w := 2) L hF h2 h0 hL (by omega) (by omega) (by omega) hL9]
  simp [tb_wr, tb_pick, Nat.mul_comm c 2]
theorem add_3 {F a c : Nat} (L : Nat) {x y z : Int32} {σ : am_SS} (hF : 2000 ≤ F) (h2 : σ a 2 = Int32.ofNat c) (h0 : σ a 0 = 3) (hL : LC.2.1 (a + 1) = L) (hs : (c + 1) * 3 ≤ L) (hL9 : L ≤ 1000) :
    C_Table_add F a x y z 0 σ = some (Int32.ofNat (c + 1), am_up (am_up (am_up (am_up σ (a + 1) (3 * c) x) (a + 1) (3 * c + 1) y) (a + 1) (3 * c + 2) z) a 2 (Int32.ofNat (c + 1))) := by
  rw [tb_add (w := 3) L hF h2 h0 hL (by omega) (by omega) (by omega) hL9]
  simp [tb_wr, tb_pick, Nat.mul_comm c 3]
theorem add_4 {F a c : Nat} (L : Nat) {x y z w : Int32} {σ : am_SS} (hF : 2000 ≤ F) (h2 : σ a 2 = Int32.ofNat c) (h0 : σ a 0 = 4) (hL : LC.2.1 (a + 1) = L) (hs : (c + 1) * 4 ≤ L) (hL9 : L ≤ 1000) :
    C_Table_add F a x y z w σ = some (Int32.ofNat (c + 1), am_up (am_up (am_up (am_up (am_up σ (a + 1) (4 * c) x) (a + 1) (4 * c + 1) y) (a + 1) (4 * c + 2) z) (a + 1) (4 * c + 3) w) a 2 (Int32.ofNat (c + 1))) := by
  rw [tb_add (w := 4) L hF h2 h0 hL (by omega) (by omega) (by omega) hL9]
  simp [tb_wr, tb_pick, Nat.mul_comm c 4]
theorem ni_neL {c : Nat} (k : Nat) {x : Int32} (hx : x = Int32.ofNat k) (hc : c < 2147483648) (hk : k < 2147483648) (h : c ≠ k) : (Int32.ofNat c = x) = False := by
  rw [hx]; exact eq_false (fun g => h ((ni_eq hc hk).mp g))
theorem bi_E {α : Type} {o : Option (α × am_SS)} : o.bind (fun q => some (q.1, q.2)) = o := by cases o <;> rfl
theorem rg_i {x lo hi : Int32} (h : rl_rg x lo hi) : (M_isIn x lo hi = true) = True := eq_true (ni_in.mpr h)
theorem rg_ni {x lo hi : Int32} (h : ¬ rl_rg x lo hi) : (M_isIn x lo hi = true) = False := eq_false (fun g => h (ni_in.mp g))
theorem ca_26 (F : Nat) (hF : 2000 ≤ F) : aj_S26 F rl_R := by
  intro y σ τ h
  have h := rl_told h 0
  simp only [C_bit, M_bit, am_let, C_Table_clear, C_bit_p25, bi_E]
  generalize am_up τ 0 0 0 = τ at h ⊢
  have h' := h
  obtain ⟨hK, ⟨n, m, hFR, hFS, hIR, hIS, hBK, hGU, hLE, hKY, hBI, hQU, hCO, hOR, hSV, hND, hLW⟩, hPS, hTP, hFT, hIM⟩ := h'
  obtain ⟨c, hc, e1, e2, e3⟩ := hBI
  have w : σ 33 0 = 1 := hK.2.2.2.2.2.2.2.2.2.1
  by_cases q : y = -1
  · simp only [q, if_true]
    refine ⟨_, _, rfl, rfl, rfl, ?_⟩
    refine ⟨?_, ⟨n, m, ?_, ?_, ?_, ?_, ?_, ?_, ?_, ?_, ?_, ?_, ?_, ?_, ?_, ?_, ?_⟩, ?_, ?_, ?_, ?_⟩
    · simpa [C_Past_forget, am_let, am_up_ap, am_up_ne, am_up_row, rl_pf_up, rl_IM_up] using hK
    · simpa [C_Past_forget, am_let, am_up_ap, am_up_ne, am_up_row, rl_pf_up, rl_IM_up] using hFR
    · simpa [C_Past_forget, am_let, am_up_ap, am_up_ne, am_up_row, rl_pf_up, rl_IM_up] using hFS
    · simpa [C_Past_forget, am_let, am_up_ap, am_up_ne, am_up_row, rl_pf_up, rl_IM_up] using hIR
    · simpa [C_Past_forget, am_let, am_up_ap, am_up_ne, am_up_row, rl_pf_up, rl_IM_up] using hIS
    · simpa [C_Past_forget, am_let, am_up_ap, am_up_ne, am_up_row, rl_pf_up, rl_IM_up] using hBK
    · simpa [C_Past_forget, am_let, am_up_ap, am_up_ne, am_up_row, rl_pf_up, rl_IM_up] using hGU
    · simpa [C_Past_forget, am_let, am_up_ap, am_up_ne, am_up_row, rl_pf_up, rl_IM_up] using hLE
    · simpa [C_Past_forget, am_let, am_up_ap, am_up_ne, am_up_row, rl_pf_up, rl_IM_up] using hKY
    · simpa [am_up_ap, am_up_ne, am_up_row] using ⟨0, by omega, rfl, rfl, e3⟩
    · simpa [C_Past_forget, am_let, am_up_ap, am_up_ne, am_up_row, rl_pf_up, rl_IM_up] using hQU
    · simpa [C_Past_forget, am_let, am_up_ap, am_up_ne, am_up_row, rl_pf_up, rl_IM_up] using hCO
    · simpa [C_Past_forget, am_let, am_up_ap, am_up_ne, am_up_row, rl_pf_up, rl_IM_up] using hOR
    · simpa [C_Past_forget, am_let, am_up_ap, am_up_ne, am_up_row, rl_pf_up, rl_IM_up] using hSV
    · simpa [C_Past_forget, am_let, am_up_ap, am_up_ne, am_up_row, rl_pf_up, rl_IM_up] using hND
    · simpa [C_Past_forget, am_let, am_up_ap, am_up_ne, am_up_row, rl_pf_up, rl_IM_up] using hLW
    · simpa [C_Past_forget, am_let, am_up_ap, am_up_ne, am_up_row, rl_pf_up, rl_IM_up] using hPS
    · simpa [C_Past_forget, am_let, am_up_ap, am_up_ne, am_up_row, rl_pf_up, rl_IM_up] using hTP
    · simpa [C_Past_forget, am_let, am_up_ap, am_up_ne, am_up_row, rl_pf_up, rl_IM_up] using hFT
    · simpa [C_Past_forget, am_let, am_up_ap, am_up_ne, am_up_row, rl_pf_up, rl_IM_up] using hIM
  by_cases v : y = 0 ∨ y = 1
  · have hv : rl_rg y 0 1 := by rcases v with rfl | rfl <;> exact ⟨by decide, by decide⟩
    have e4 : (if y = 0 then C_Table_add F 33 y 0 0 0 σ else if y = 1 then C_Table_add F 33 y 0 0 0 σ else some (-1, σ)) = C_Table_add F 33 y 0 0 0 σ := by
      rcases v with v | v
      · rw [if_pos v]
      · rw [if_neg (by subst v; decide), if_pos v]
    simp only [q, if_false, e4, rg_i hv, if_true, e2]
    by_cases q16 : c = 16
    · subst q16
      rw [tb_full (w := 1) 16 e1 w rfl (by omega) (by omega) (by omega), if_pos (show Int32.ofNat 16 = 16 from rfl)]
      exact ⟨_, _, rfl, rfl, rfl, h⟩
    · simp only [ni_neL (c := c) (x := 16) 16 rfl (by omega) (by omega) q16, if_false]
      rw [ni_wr (by omega) (by omega), Option.bind_some, add_1 16 hF e1 w rfl (by omega) (by omega)]
      refine ⟨_, _, rfl, rfl, ?_, ?_⟩
      · simp [am_up_ap, e2]
      refine ⟨?_, ⟨n, m, ?_, ?_, ?_, ?_, ?_, ?_, ?_, ?_, ?_, ?_, ?_, ?_, ?_, ?_, ?_⟩, ?_, ?_, ?_, ?_⟩
      · simpa [C_Past_forget, am_let, am_up_ap, am_up_ne, am_up_row, rl_pf_up, rl_IM_up] using hK
      · simpa [C_Past_forget, am_let, am_up_ap, am_up_ne, am_up_row, rl_pf_up, rl_IM_up] using hFR
      · simpa [C_Past_forget, am_let, am_up_ap, am_up_ne, am_up_row, rl_pf_up, rl_IM_up] using hFS
      · simpa [C_Past_forget, am_let, am_up_ap, am_up_ne, am_up_row, rl_pf_up, rl_IM_up] using hIR
      · simpa [C_Past_forget, am_let, am_up_ap, am_up_ne, am_up_row, rl_pf_up, rl_IM_up] using hIS
      · simpa [C_Past_forget, am_let, am_up_ap, am_up_ne, am_up_row, rl_pf_up, rl_IM_up] using hBK
      · simpa [C_Past_forget, am_let, am_up_ap, am_up_ne, am_up_row, rl_pf_up, rl_IM_up] using hGU
      · simpa [C_Past_forget, am_let, am_up_ap, am_up_ne, am_up_row, rl_pf_up, rl_IM_up] using hLE
      · simpa [C_Past_forget, am_let, am_up_ap, am_up_ne, am_up_row, rl_pf_up, rl_IM_up] using hKY
      · simpa [am_up_ap, am_up_ne, am_up_row, e2] using bi_push (by omega) e3 hv
      · simpa [C_Past_forget, am_let, am_up_ap, am_up_ne, am_up_row, rl_pf_up, rl_IM_up] using hQU
      · simpa [C_Past_forget, am_let, am_up_ap, am_up_ne, am_up_row, rl_pf_up, rl_IM_up] using hCO
      · simpa [C_Past_forget, am_let, am_up_ap, am_up_ne, am_up_row, rl_pf_up, rl_IM_up] using hOR
      · simpa [C_Past_forget, am_let, am_up_ap, am_up_ne, am_up_row, rl_pf_up, rl_IM_up] using hSV
      · simpa [C_Past_forget, am_let, am_up_ap, am_up_ne, am_up_row, rl_pf_up, rl_IM_up] using hND
      · simpa [C_Past_forget, am_let, am_up_ap, am_up_ne, am_up_row, rl_pf_up, rl_IM_up] using hLW
      · simpa [C_Past_forget, am_let, am_up_ap, am_up_ne, am_up_row, rl_pf_up, rl_IM_up] using hPS
      · simpa [C_Past_forget, am_let, am_up_ap, am_up_ne, am_up_row, rl_pf_up, rl_IM_up] using hTP
      · simpa [C_Past_forget, am_let, am_up_ap, am_up_ne, am_up_row, rl_pf_up, rl_IM_up] using hFT
      · simpa [C_Past_forget, am_let, am_up_ap, am_up_ne, am_up_row, rl_pf_up, rl_IM_up] using hIM
  · have v' : ¬ y = 0 ∧ ¬ y = 1 := by constructor <;> (intro g; exact v (by simp [g]))
    have hv : ¬ rl_rg y 0 1 := fun g => v (by have := g.1; have := g.2; grind)
    simp only [q, if_false, v'.1, v'.2, rg_ni hv]
    exact ⟨_, _, rfl, rfl, rfl, h⟩
theorem ca_24 (F : Nat) (hF : 2000 ≤ F) : aj_S24 F rl_R := by
  intro x y σ τ h
  have h := rl_told h 0
  simp only [C_letter, M_letter, am_let, C_Table_clear, C_letter_p11, C_letter_p32, M_letter_p58, bi_E]
  generalize am_up τ 0 0 0 = τ at h ⊢
  have h' := h
  obtain ⟨hK, ⟨n, m, hFR, hFS, hIR, hIS, hBK, hGU, hLE, hKY, hBI, hQU, hCO, hOR, hSV, hND, hLW⟩, hPS, hTP, hFT, hIM⟩ := h'
  obtain ⟨c, hc, e1, e2, e3⟩ := hLE
  obtain ⟨d, hd, d1, d2, d3⟩ := hKY
  have w29 : σ 29 0 = 1 := hK.2.2.2.2.2.2.2.1
  have w31 : σ 31 0 = 1 := hK.2.2.2.2.2.2.2.2.1
  by_cases x01 : rl_rg x 0 1
  case neg =>
    have x0 : ¬ x = 0 := fun g => x01 (by subst g; exact ⟨by decide, by decide⟩)
    have x1 : ¬ x = 1 := fun g => x01 (by subst g; exact ⟨by decide, by decide⟩)
    simp only [rg_ni x01, x0, x1, if_false]
    exact ⟨_, _, rfl, rfl, rfl, h⟩
  by_cases v : rl_rg y 0 25
  case neg =>
    by_cases x0 : x = 0
    · subst x0
      by_cases q : y = -1
      · simp only [q, if_true, rg_i x01, wr_0 (n := 2) (by decide) (by decide), Option.bind_some]
        refine ⟨_, _, rfl, rfl, rfl, ?_⟩
        refine ⟨?_, ⟨n, m, ?_, ?_, ?_, ?_, ?_, ?_, ?_, ?_, ?_, ?_, ?_, ?_, ?_, ?_, ?_⟩, ?_, ?_, ?_, ?_⟩
        · simpa [C_Past_forget, am_let, am_up_ap, am_up_ne, am_up_row, rl_pf_up, rl_IM_up] using hK
        · simpa [C_Past_forget, am_let, am_up_ap, am_up_ne, am_up_row, rl_pf_up, rl_IM_up] using hFR
        · simpa [C_Past_forget, am_let, am_up_ap, am_up_ne, am_up_row, rl_pf_up, rl_IM_up] using hFS
        · simpa [C_Past_forget, am_let, am_up_ap, am_up_ne, am_up_row, rl_pf_up, rl_IM_up] using hIR
        · simpa [C_Past_forget, am_let, am_up_ap, am_up_ne, am_up_row, rl_pf_up, rl_IM_up] using hIS
        · simpa [C_Past_forget, am_let, am_up_ap, am_up_ne, am_up_row, rl_pf_up, rl_IM_up] using hBK
        · simpa [C_Past_forget, am_let, am_up_ap, am_up_ne, am_up_row, rl_pf_up, rl_IM_up] using hGU
        · simpa [am_up_ap, am_up_ne, am_up_row] using ⟨0, by omega, rfl, rfl, e3⟩
        · simpa [am_up_ap, am_up_ne, am_up_row] using ⟨d, hd, d1, d2, d3⟩
        · simpa [C_Past_forget, am_let, am_up_ap, am_up_ne, am_up_row, rl_pf_up, rl_IM_up] using hBI
        · simpa [C_Past_forget, am_let, am_up_ap, am_up_ne, am_up_row, rl_pf_up, rl_IM_up] using hQU
        · simpa [C_Past_forget, am_let, am_up_ap, am_up_ne, am_up_row, rl_pf_up, rl_IM_up] using hCO
        · simpa [C_Past_forget, am_let, am_up_ap, am_up_ne, am_up_row, rl_pf_up, rl_IM_up] using hOR
        · simpa [C_Past_forget, am_let, am_up_ap, am_up_ne, am_up_row, rl_pf_up, rl_IM_up] using hSV
        · simpa [C_Past_forget, am_let, am_up_ap, am_up_ne, am_up_row, rl_pf_up, rl_IM_up] using hND
        · simpa [C_Past_forget, am_let, am_up_ap, am_up_ne, am_up_row, rl_pf_up, rl_IM_up] using hLW
        · simpa [C_Past_forget, am_let, am_up_ap, am_up_ne, am_up_row, rl_pf_up, rl_IM_up] using hPS
        · simpa [C_Past_forget, am_let, am_up_ap, am_up_ne, am_up_row, rl_pf_up, rl_IM_up] using hTP
        · simpa [C_Past_forget, am_let, am_up_ap, am_up_ne, am_up_row, rl_pf_up, rl_IM_up] using hFT
        · simpa [C_Past_forget, am_let, am_up_ap, am_up_ne, am_up_row, rl_pf_up, rl_IM_up] using hIM
      · have e : (if y < 0 then some (-1, σ) else if y < 26 then C_Table_add F 29 y 0 0 0 σ else some (-1, σ)) = some (-1, σ) := by
          by_cases q1 : y < 0
          · rw [if_pos q1]
          · rw [if_neg q1, if_neg (fun g => v ⟨by grind, by grind⟩)]
        simp only [q, if_false, if_true, rg_i x01, rg_ni v, e]
        exact ⟨_, _, rfl, rfl, rfl, h⟩
    · have x1 : x = 1 := by have := x01.1; have := x01.2; grind
      subst x1
      by_cases q : y = -1
      · simp only [q, if_true, if_false, x0, rg_i x01, wr_1 (n := 2) (by decide) (by decide), Option.bind_some]
        refine ⟨_, _, rfl, rfl, rfl, ?_⟩
        refine ⟨?_, ⟨n, m, ?_, ?_, ?_, ?_, ?_, ?_, ?_, ?_, ?_, ?_, ?_, ?_, ?_, ?_, ?_⟩, ?_, ?_, ?_, ?_⟩
        · simpa [C_Past_forget, am_let, am_up_ap, am_up_ne, am_up_row, rl_pf_up, rl_IM_up] using hK
        · simpa [C_Past_forget, am_let, am_up_ap, am_up_ne, am_up_row, rl_pf_up, rl_IM_up] using hFR
        · simpa [C_Past_forget, am_let, am_up_ap, am_up_ne, am_up_row, rl_pf_up, rl_IM_up] using hFS
        · simpa [C_Past_forget, am_let, am_up_ap, am_up_ne, am_up_row, rl_pf_up, rl_IM_up] using hIR
        · simpa [C_Past_forget, am_let, am_up_ap, am_up_ne, am_up_row, rl_pf_up, rl_IM_up] using hIS
        · simpa [C_Past_forget, am_let, am_up_ap, am_up_ne, am_up_row, rl_pf_up, rl_IM_up] using hBK
        · simpa [C_Past_forget, am_let, am_up_ap, am_up_ne, am_up_row, rl_pf_up, rl_IM_up] using hGU
        · simpa [am_up_ap, am_up_ne, am_up_row] using ⟨c, hc, e1, e2, e3⟩
        · simpa [am_up_ap, am_up_ne, am_up_row] using ⟨0, by omega, rfl, rfl, d3⟩
        · simpa [C_Past_forget, am_let, am_up_ap, am_up_ne, am_up_row, rl_pf_up, rl_IM_up] using hBI
        · simpa [C_Past_forget, am_let, am_up_ap, am_up_ne, am_up_row, rl_pf_up, rl_IM_up] using hQU
        · simpa [C_Past_forget, am_let, am_up_ap, am_up_ne, am_up_row, rl_pf_up, rl_IM_up] using hCO
        · simpa [C_Past_forget, am_let, am_up_ap, am_up_ne, am_up_row, rl_pf_up, rl_IM_up] using hOR
        · simpa [C_Past_forget, am_let, am_up_ap, am_up_ne, am_up_row, rl_pf_up, rl_IM_up] using hSV
        · simpa [C_Past_forget, am_let, am_up_ap, am_up_ne, am_up_row, rl_pf_up, rl_IM_up] using hND
        · simpa [C_Past_forget, am_let, am_up_ap, am_up_ne, am_up_row, rl_pf_up, rl_IM_up] using hLW
        · simpa [C_Past_forget, am_let, am_up_ap, am_up_ne, am_up_row, rl_pf_up, rl_IM_up] using hPS
        · simpa [C_Past_forget, am_let, am_up_ap, am_up_ne, am_up_row, rl_pf_up, rl_IM_up] using hTP
        · simpa [C_Past_forget, am_let, am_up_ap, am_up_ne, am_up_row, rl_pf_up, rl_IM_up] using hFT
        · simpa [C_Past_forget, am_let, am_up_ap, am_up_ne, am_up_row, rl_pf_up, rl_IM_up] using hIM
      · have e : (if y < 0 then some (-1, σ) else if y < 26 then C_Table_add F 31 y 0 0 0 σ else some (-1, σ)) = some (-1, σ) := by
          by_cases q1 : y < 0
          · rw [if_pos q1]
          · rw [if_neg q1, if_neg (fun g => v ⟨by grind, by grind⟩)]
        simp only [q, x0, if_false, if_true, rg_i x01, rg_ni v, e]
        exact ⟨_, _, rfl, rfl, rfl, h⟩
  have q : ¬ y = -1 := fun g => by subst g; exact absurd v.1 (by decide)
  have y0 : ¬ y < 0 := Int32.not_lt.mpr v.1
  have y26 : y < 26 := by have := v.2; grind
  by_cases x0 : x = 0
  · subst x0
    simp only [q, if_false, if_true, rg_i x01, rg_i v, y0, y26, rd_0 (n := 2) (by decide) (by decide), Option.bind_some, e2]
    by_cases q12 : c = 12
    · subst q12
      rw [tb_full (w := 1) 12 e1 w29 rfl (by omega) (by omega) (by omega), if_pos (show Int32.ofNat 12 = 12 from rfl)]
      exact ⟨_, _, rfl, rfl, rfl, h⟩
    · simp only [ni_neL (c := c) (x := 12) 12 rfl (by omega) (by omega) q12, if_false]
      rw [show (12 : Int32) * 0 + Int32.ofNat c = Int32.ofNat c from by simp, add_1 12 hF e1 w29 rfl (by omega) (by omega), ni_wr (by omega) (by omega)]
      simp only [Option.bind_some, wr_0 (n := 2) (by decide) (by decide)]
      refine ⟨_, _, rfl, rfl, ?_, ?_⟩
      · simp [am_up_ap, e2]
      refine ⟨?_, ⟨n, m, ?_, ?_, ?_, ?_, ?_, ?_, ?_, ?_, ?_, ?_, ?_, ?_, ?_, ?_, ?_⟩, ?_, ?_, ?_, ?_⟩
      · simpa [C_Past_forget, am_let, am_up_ap, am_up_ne, am_up_row, rl_pf_up, rl_IM_up] using hK
      · simpa [C_Past_forget, am_let, am_up_ap, am_up_ne, am_up_row, rl_pf_up, rl_IM_up] using hFR
      · simpa [C_Past_forget, am_let, am_up_ap, am_up_ne, am_up_row, rl_pf_up, rl_IM_up] using hFS
      · simpa [C_Past_forget, am_let, am_up_ap, am_up_ne, am_up_row, rl_pf_up, rl_IM_up] using hIR
      · simpa [C_Past_forget, am_let, am_up_ap, am_up_ne, am_up_row, rl_pf_up, rl_IM_up] using hIS
      · simpa [C_Past_forget, am_let, am_up_ap, am_up_ne, am_up_row, rl_pf_up, rl_IM_up] using hBK
      · simpa [C_Past_forget, am_let, am_up_ap, am_up_ne, am_up_row, rl_pf_up, rl_IM_up] using hGU
      · simpa [am_up_ap, am_up_ne, am_up_row, e2] using le_push (by omega) e3 v
      · simpa [am_up_ap, am_up_ne, am_up_row] using ky_far ⟨d, hd, d1, d2, d3⟩ (by omega)
      · simpa [C_Past_forget, am_let, am_up_ap, am_up_ne, am_up_row, rl_pf_up, rl_IM_up] using hBI
      · simpa [C_Past_forget, am_let, am_up_ap, am_up_ne, am_up_row, rl_pf_up, rl_IM_up] using hQU
      · simpa [C_Past_forget, am_let, am_up_ap, am_up_ne, am_up_row, rl_pf_up, rl_IM_up] using hCO
      · simpa [C_Past_forget, am_let, am_up_ap, am_up_ne, am_up_row, rl_pf_up, rl_IM_up] using hOR
      · simpa [C_Past_forget, am_let, am_up_ap, am_up_ne, am_up_row, rl_pf_up, rl_IM_up] using hSV
      · simpa [C_Past_forget, am_let, am_up_ap, am_up_ne, am_up_row, rl_pf_up, rl_IM_up] using hND
      · simpa [C_Past_forget, am_let, am_up_ap, am_up_ne, am_up_row, rl_pf_up, rl_IM_up] using hLW
      · simpa [C_Past_forget, am_let, am_up_ap, am_up_ne, am_up_row, rl_pf_up, rl_IM_up] using hPS
      · simpa [C_Past_forget, am_let, am_up_ap, am_up_ne, am_up_row, rl_pf_up, rl_IM_up] using hTP
      · simpa [C_Past_forget, am_let, am_up_ap, am_up_ne, am_up_row, rl_pf_up, rl_IM_up] using hFT
      · simpa [C_Past_forget, am_let, am_up_ap, am_up_ne, am_up_row, rl_pf_up, rl_IM_up] using hIM
  · have x1 : x = 1 := by have := x01.1; have := x01.2; grind
    subst x1
    simp only [q, x0, if_false, if_true, rg_i x01, rg_i v, y0, y26, rd_1 (n := 2) (by decide) (by decide), Option.bind_some, d2]
    by_cases q12 : d = 4
    · subst q12
      rw [tb_full (w := 1) 4 d1 w31 rfl (by omega) (by omega) (by omega), if_pos (show Int32.ofNat 4 = 4 from rfl)]
      exact ⟨_, _, rfl, rfl, rfl, h⟩
    · simp only [ni_neL (c := d) (x := 4) 4 rfl (by omega) (by omega) q12, if_false]
      rw [show (12 : Int32) * 1 + Int32.ofNat d = Int32.ofNat (12 + d) from ni_add 12 d, add_1 4 hF d1 w31 rfl (by omega) (by omega), ni_wr (by omega) (by omega)]
      simp only [Option.bind_some, wr_1 (n := 2) (by decide) (by decide)]
      refine ⟨_, _, rfl, rfl, ?_, ?_⟩
      · simp [am_up_ap, d2]
      refine ⟨?_, ⟨n, m, ?_, ?_, ?_, ?_, ?_, ?_, ?_, ?_, ?_, ?_, ?_, ?_, ?_, ?_, ?_⟩, ?_, ?_, ?_, ?_⟩
      · simpa [C_Past_forget, am_let, am_up_ap, am_up_ne, am_up_row, rl_pf_up, rl_IM_up] using hK
      · simpa [C_Past_forget, am_let, am_up_ap, am_up_ne, am_up_row, rl_pf_up, rl_IM_up] using hFR
      · simpa [C_Past_forget, am_let, am_up_ap, am_up_ne, am_up_row, rl_pf_up, rl_IM_up] using hFS
      · simpa [C_Past_forget, am_let, am_up_ap, am_up_ne, am_up_row, rl_pf_up, rl_IM_up] using hIR
      · simpa [C_Past_forget, am_let, am_up_ap, am_up_ne, am_up_row, rl_pf_up, rl_IM_up] using hIS
      · simpa [C_Past_forget, am_let, am_up_ap, am_up_ne, am_up_row, rl_pf_up, rl_IM_up] using hBK
      · simpa [C_Past_forget, am_let, am_up_ap, am_up_ne, am_up_row, rl_pf_up, rl_IM_up] using hGU
      · simpa [am_up_ap, am_up_ne, am_up_row] using le_far ⟨c, hc, e1, e2, e3⟩ (by omega)
      · simpa [am_up_ap, am_up_ne, am_up_row, d2] using ky_push (by omega) d3 v
      · simpa [C_Past_forget, am_let, am_up_ap, am_up_ne, am_up_row, rl_pf_up, rl_IM_up] using hBI
      · simpa [C_Past_forget, am_let, am_up_ap, am_up_ne, am_up_row, rl_pf_up, rl_IM_up] using hQU
      · simpa [C_Past_forget, am_let, am_up_ap, am_up_ne, am_up_row, rl_pf_up, rl_IM_up] using hCO
      · simpa [C_Past_forget, am_let, am_up_ap, am_up_ne, am_up_row, rl_pf_up, rl_IM_up] using hOR
      · simpa [C_Past_forget, am_let, am_up_ap, am_up_ne, am_up_row, rl_pf_up, rl_IM_up] using hSV
      · simpa [C_Past_forget, am_let, am_up_ap, am_up_ne, am_up_row, rl_pf_up, rl_IM_up] using hND
      · simpa [C_Past_forget, am_let, am_up_ap, am_up_ne, am_up_row, rl_pf_up, rl_IM_up] using hLW
      · simpa [C_Past_forget, am_let, am_up_ap, am_up_ne, am_up_row, rl_pf_up, rl_IM_up] using hPS
      · simpa [C_Past_forget, am_let, am_up_ap, am_up_ne, am_up_row, rl_pf_up, rl_IM_up] using hTP
      · simpa [C_Past_forget, am_let, am_up_ap, am_up_ne, am_up_row, rl_pf_up, rl_IM_up] using hFT
      · simpa [C_Past_forget, am_let, am_up_ap, am_up_ne, am_up_row, rl_pf_up, rl_IM_up] using hIM
theorem ca_30 (F : Nat) (hF : 2000 ≤ F) : aj_S30 F rl_R := by
  intro x y σ τ h
  have h := rl_told h 0
  simp only [C_corner, M_corner, am_let, C_Table_clear, bi_E]
  generalize am_up τ 0 0 0 = τ at h ⊢
  have h' := h
  obtain ⟨hK, ⟨n, m, hFR, hFS, hIR, hIS, hBK, hGU, hLE, hKY, hBI, hQU, hCO, hOR, hSV, hND, hLW⟩, hPS, hTP, hFT, hIM⟩ := h'
  obtain ⟨c, hc, e1, e2, e3⟩ := hCO
  have w : σ 37 0 = 2 := hK.2.2.2.2.2.2.2.2.2.2.2.1
  by_cases q : x = -100
  · simp only [q, if_true]
    refine ⟨_, _, rfl, rfl, rfl, ?_⟩
    refine ⟨?_, ⟨n, m, ?_, ?_, ?_, ?_, ?_, ?_, ?_, ?_, ?_, ?_, ?_, ?_, ?_, ?_, ?_⟩, ?_, ?_, ?_, ?_⟩
    · simpa [C_Past_forget, am_let, am_up_ap, am_up_ne, am_up_row, rl_pf_up, rl_IM_up] using hK
    · simpa [C_Past_forget, am_let, am_up_ap, am_up_ne, am_up_row, rl_pf_up, rl_IM_up] using hFR
    · simpa [C_Past_forget, am_let, am_up_ap, am_up_ne, am_up_row, rl_pf_up, rl_IM_up] using hFS
    · simpa [C_Past_forget, am_let, am_up_ap, am_up_ne, am_up_row, rl_pf_up, rl_IM_up] using hIR
    · simpa [C_Past_forget, am_let, am_up_ap, am_up_ne, am_up_row, rl_pf_up, rl_IM_up] using hIS
    · simpa [C_Past_forget, am_let, am_up_ap, am_up_ne, am_up_row, rl_pf_up, rl_IM_up] using hBK
    · simpa [C_Past_forget, am_let, am_up_ap, am_up_ne, am_up_row, rl_pf_up, rl_IM_up] using hGU
    · simpa [C_Past_forget, am_let, am_up_ap, am_up_ne, am_up_row, rl_pf_up, rl_IM_up] using hLE
    · simpa [C_Past_forget, am_let, am_up_ap, am_up_ne, am_up_row, rl_pf_up, rl_IM_up] using hKY
    · simpa [C_Past_forget, am_let, am_up_ap, am_up_ne, am_up_row, rl_pf_up, rl_IM_up] using hBI
    · simpa [C_Past_forget, am_let, am_up_ap, am_up_ne, am_up_row, rl_pf_up, rl_IM_up] using hQU
    · simpa [am_up_ap, am_up_ne, am_up_row] using ⟨0, by omega, rfl, rfl, e3⟩
    · simpa [C_Past_forget, am_let, am_up_ap, am_up_ne, am_up_row, rl_pf_up, rl_IM_up] using hOR
    · simpa [C_Past_forget, am_let, am_up_ap, am_up_ne, am_up_row, rl_pf_up, rl_IM_up] using hSV
    · simpa [C_Past_forget, am_let, am_up_ap, am_up_ne, am_up_row, rl_pf_up, rl_IM_up] using hND
    · simpa [C_Past_forget, am_let, am_up_ap, am_up_ne, am_up_row, rl_pf_up, rl_IM_up] using hLW
    · simpa [C_Past_forget, am_let, am_up_ap, am_up_ne, am_up_row, rl_pf_up, rl_IM_up] using hPS
    · simpa [C_Past_forget, am_let, am_up_ap, am_up_ne, am_up_row, rl_pf_up, rl_IM_up] using hTP
    · simpa [C_Past_forget, am_let, am_up_ap, am_up_ne, am_up_row, rl_pf_up, rl_IM_up] using hFT
    · simpa [C_Past_forget, am_let, am_up_ap, am_up_ne, am_up_row, rl_pf_up, rl_IM_up] using hIM
  by_cases v : rl_rg x (-50) 50 ∧ rl_rg y (-50) 50
  · have ip : C_Ways_isPoint x y = true := by
      unfold rl_rg at v
      unfold C_Ways_isPoint
      rw [if_neg (by grind), if_neg (by grind), if_neg (by grind), if_neg (by grind)]
    simp only [q, if_false, rg_i v.1, rg_i v.2, if_true, ip, e2]
    by_cases q8 : c = 8
    · subst q8
      rw [tb_full (w := 2) 16 e1 w rfl (by omega) (by omega) (by omega), if_pos (show Int32.ofNat 8 = 8 from rfl)]
      exact ⟨_, _, rfl, rfl, rfl, h⟩
    · simp only [ni_neL (c := c) (x := 8) 8 rfl (by omega) (by omega) q8, if_false]
      rw [add_2 16 hF e1 w rfl (by omega) (by omega), ni_wr (by omega) (by omega), Option.bind_some]
      simp only [show am_up τ 36 c x 0 59 = Int32.ofNat c from e2]
      rw [ni_wr (by omega) (by omega), Option.bind_some]
      refine ⟨_, _, rfl, rfl, ?_, ?_⟩
      · simp [am_up_ap, e2]
      refine ⟨?_, ⟨n, m, ?_, ?_, ?_, ?_, ?_, ?_, ?_, ?_, ?_, ?_, ?_, ?_, ?_, ?_, ?_⟩, ?_, ?_, ?_, ?_⟩
      · simpa [C_Past_forget, am_let, am_up_ap, am_up_ne, am_up_row, rl_pf_up, rl_IM_up] using hK
      · simpa [C_Past_forget, am_let, am_up_ap, am_up_ne, am_up_row, rl_pf_up, rl_IM_up] using hFR
      · simpa [C_Past_forget, am_let, am_up_ap, am_up_ne, am_up_row, rl_pf_up, rl_IM_up] using hFS
      · simpa [C_Past_forget, am_let, am_up_ap, am_up_ne, am_up_row, rl_pf_up, rl_IM_up] using hIR
      · simpa [C_Past_forget, am_let, am_up_ap, am_up_ne, am_up_row, rl_pf_up, rl_IM_up] using hIS
      · simpa [C_Past_forget, am_let, am_up_ap, am_up_ne, am_up_row, rl_pf_up, rl_IM_up] using hBK
      · simpa [C_Past_forget, am_let, am_up_ap, am_up_ne, am_up_row, rl_pf_up, rl_IM_up] using hGU
      · simpa [C_Past_forget, am_let, am_up_ap, am_up_ne, am_up_row, rl_pf_up, rl_IM_up] using hLE
      · simpa [C_Past_forget, am_let, am_up_ap, am_up_ne, am_up_row, rl_pf_up, rl_IM_up] using hKY
      · simpa [C_Past_forget, am_let, am_up_ap, am_up_ne, am_up_row, rl_pf_up, rl_IM_up] using hBI
      · simpa [C_Past_forget, am_let, am_up_ap, am_up_ne, am_up_row, rl_pf_up, rl_IM_up] using hQU
      · refine ⟨c + 1, by omega, by simp [am_up_ap], by simp [am_up_ap, e2], fun k hk => ?_⟩
        have h3 := e3 k hk
        by_cases qk : k = c
        · subst qk; simpa [upd, am_up_ap, am_up_ne, am_up_row] using v
        · have a1 : ¬ 2 * k = 2 * c + 1 := by omega
          have a2 : ¬ 2 * k + 1 = 2 * c := by omega
          have a3 : ¬ 2 * k = 2 * c := by omega
          simpa [upd, qk, a1, a2, a3, am_up_ap, am_up_ne, am_up_row] using h3
      · simpa [C_Past_forget, am_let, am_up_ap, am_up_ne, am_up_row, rl_pf_up, rl_IM_up] using hOR
      · simpa [C_Past_forget, am_let, am_up_ap, am_up_ne, am_up_row, rl_pf_up, rl_IM_up] using hSV
      · simpa [C_Past_forget, am_let, am_up_ap, am_up_ne, am_up_row, rl_pf_up, rl_IM_up] using hND
      · simpa [C_Past_forget, am_let, am_up_ap, am_up_ne, am_up_row, rl_pf_up, rl_IM_up] using hLW
      · simpa [C_Past_forget, am_let, am_up_ap, am_up_ne, am_up_row, rl_pf_up, rl_IM_up] using hPS
      · simpa [C_Past_forget, am_let, am_up_ap, am_up_ne, am_up_row, rl_pf_up, rl_IM_up] using hTP
      · simpa [C_Past_forget, am_let, am_up_ap, am_up_ne, am_up_row, rl_pf_up, rl_IM_up] using hFT
      · simpa [C_Past_forget, am_let, am_up_ap, am_up_ne, am_up_row, rl_pf_up, rl_IM_up] using hIM
  · have e4 : C_Ways_isPoint x y = false := by
      unfold rl_rg at v
      unfold C_Ways_isPoint
      repeat' split
      all_goals first | rfl | (exfalso; grind)
    by_cases q1 : rl_rg x (-50) 50
    · simp only [q, if_false, rg_i q1, rg_ni (fun g => v ⟨q1, g⟩), if_true, e4, Bool.false_eq_true]
      exact ⟨_, _, rfl, rfl, rfl, h⟩
    · simp only [q, if_false, rg_ni q1, e4, Bool.false_eq_true]
      exact ⟨_, _, rfl, rfl, rfl, h⟩
