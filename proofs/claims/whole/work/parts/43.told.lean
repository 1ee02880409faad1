/-! L3: what is told: state, officer, batman, set, end, fault, book, look -/
theorem rd_0 {σ : am_SS} {a n : Nat} (h : 0 < n) (hn : n ≤ 2147483648) : am_rd σ a n 0 = some (σ a 0) := am_rd_lit 0 rfl h hn
theorem rd_1 {σ : am_SS} {a n : Nat} (h : 1 < n) (hn : n ≤ 2147483648) : am_rd σ a n 1 = some (σ a 1) := am_rd_lit 1 rfl h hn
theorem rd_2 {σ : am_SS} {a n : Nat} (h : 2 < n) (hn : n ≤ 2147483648) : am_rd σ a n 2 = some (σ a 2) := am_rd_lit 2 rfl h hn
theorem rd_3 {σ : am_SS} {a n : Nat} (h : 3 < n) (hn : n ≤ 2147483648) : am_rd σ a n 3 = some (σ a 3) := am_rd_lit 3 rfl h hn
theorem rd_4 {σ : am_SS} {a n : Nat} (h : 4 < n) (hn : n ≤ 2147483648) : am_rd σ a n 4 = some (σ a 4) := am_rd_lit 4 rfl h hn
theorem wr_0 {σ : am_SS} {a n : Nat} {v : Int32} (h : 0 < n) (hn : n ≤ 2147483648) : am_wr σ a n 0 v = some (am_up σ a 0 v) := am_wr_lit 0 rfl h hn
theorem wr_1 {σ : am_SS} {a n : Nat} {v : Int32} (h : 1 < n) (hn : n ≤ 2147483648) : am_wr σ a n 1 v = some (am_up σ a 1 v) := am_wr_lit 1 rfl h hn
theorem wr_2 {σ : am_SS} {a n : Nat} {v : Int32} (h : 2 < n) (hn : n ≤ 2147483648) : am_wr σ a n 2 v = some (am_up σ a 2 v) := am_wr_lit 2 rfl h hn
theorem wr_3 {σ : am_SS} {a n : Nat} {v : Int32} (h : 3 < n) (hn : n ≤ 2147483648) : am_wr σ a n 3 v = some (am_up σ a 3 v) := am_wr_lit 3 rfl h hn
theorem wr_4 {σ : am_SS} {a n : Nat} {v : Int32} (h : 4 < n) (hn : n ≤ 2147483648) : am_wr σ a n 4 v = some (am_up σ a 4 v) := am_wr_lit 4 rfl h hn
theorem upd_eq {f : Nat → Int32} {k : Nat} {v : Int32} : upd f k v k = v := by simp [upd]
theorem upd_ne {f : Nat → Int32} {k j : Nat} {v : Int32} (h : j ≠ k) : upd f k v j = f j := by simp [upd, h]
section
variable {ln wn dy dr v : Int32} {sl pl rd ho dn we r : Nat → Int32} {n m j : Nat}
theorem fr_st (h : rl_FR ln wn dy dr sl pl rd ho dn we r) : rl_FR ln wn dy v sl pl rd ho dn we (upd r 1 v) := by unfold rl_FR at *; grind [upd]
theorem fr_ln (h : rl_FR ln wn dy dr sl pl rd ho dn we r) : rl_FR v wn dy dr sl pl rd ho dn we (upd r 3 v) := by unfold rl_FR at *; grind [upd]
theorem fr_dy (h : rl_FR ln wn dy dr sl pl rd ho dn we r) : rl_FR ln wn v dr sl pl rd ho dn we (upd r 0 v) := by unfold rl_FR at *; grind [upd]
theorem fr_wn (h : rl_FR ln wn dy dr sl pl rd ho dn we r) : rl_FR ln (v - 1) dy dr sl pl rd ho dn we (upd r 4 v) := by unfold rl_FR at *; grind [upd]
theorem fr_bk (h : rl_FR ln wn dy dr sl pl rd ho dn we r) : rl_FR ln wn dy dr sl pl rd ho dn we (upd r 2 v) := by unfold rl_FR at *; grind [upd]
theorem fr_sl (h : rl_FR ln wn dy dr sl pl rd ho dn we r) (hj : j < 12) : rl_FR ln wn dy dr (upd sl j v) pl rd ho dn we (upd r (5 + j) v) := by unfold rl_FR at *; grind [upd]
theorem fr_pl (h : rl_FR ln wn dy dr sl pl rd ho dn we r) (hj : j < 12) : rl_FR ln wn dy dr sl (upd pl j v) rd ho dn we (upd r (17 + j) v) := by unfold rl_FR at *; grind [upd]
theorem fr_rd (h : rl_FR ln wn dy dr sl pl rd ho dn we r) (hj : j < 12) : rl_FR ln wn dy dr sl pl (upd rd j v) ho dn we (upd r (29 + j) v) := by unfold rl_FR at *; grind [upd]
theorem fr_ho (h : rl_FR ln wn dy dr sl pl rd ho dn we r) (hj : j < 12) : rl_FR ln wn dy dr sl pl rd (upd ho j v) dn we (upd r (41 + j) v) := by unfold rl_FR at *; grind [upd]
theorem fr_dn (h : rl_FR ln wn dy dr sl pl rd ho dn we r) (hj : j < 12) : rl_FR ln wn dy dr sl pl rd ho (upd dn j v) we (upd r (53 + j) v) := by unfold rl_FR at *; grind [upd]
theorem fr_we (h : rl_FR ln wn dy dr sl pl rd ho dn we r) (hj : j < 12) : rl_FR ln wn dy dr sl pl rd ho dn (upd we j v) (upd r (65 + j) v) := by unfold rl_FR at *; grind [upd]
theorem ir_st (h : rl_IR r n m) : rl_IR (upd r 1 v) n m := by unfold rl_IR at *; grind [upd]
theorem ir_dy (h : rl_IR r n m) : rl_IR (upd r 0 v) n m := by unfold rl_IR at *; grind [upd]
theorem ir_bk (h : rl_IR r n m) : rl_IR (upd r 2 v) n m := by unfold rl_IR at *; grind [upd]
theorem ir_ln (h : rl_IR r n m) (hv : rl_rg v (-99) 99) : rl_IR (upd r 3 v) n m := by unfold rl_IR at *; grind [upd]
theorem ir_wn (h : rl_IR r n m) (hv : rl_rg v 0 2) : rl_IR (upd r 4 v) n m := by unfold rl_IR at *; grind [upd]
theorem ir_sl (h : rl_IR r n m) (hj : j < 12) (hv : rl_rg v 0 99) : rl_IR (upd r (5 + j) v) n m := by
  obtain ⟨h1, h2, h3⟩ := h
  refine ⟨by simpa only [upd, show ¬ ((3 : Nat) = 5 + j) from by omega, if_false] using h1, by simpa only [upd, show ¬ ((4 : Nat) = 5 + j) from by omega, if_false] using h2, fun i hi => ?_⟩
  obtain ⟨g1, g2, g3, g4, g5, g6, g7⟩ := h3 i hi
  by_cases q : i = j
  · subst q
    simp only [upd, show ¬ (17 + i = 5 + i) from by omega, show ¬ (29 + i = 5 + i) from by omega, show ¬ (41 + i = 5 + i) from by omega, show ¬ (53 + i = 5 + i) from by omega, show ¬ (65 + i = 5 + i) from by omega, if_false, if_true]
    exact ⟨hv, g2, g3, g4, g5, g6, g7⟩
  · simp only [upd, show ¬ (17 + i = 5 + j) from by omega, show ¬ (29 + i = 5 + j) from by omega, show ¬ (41 + i = 5 + j) from by omega, show ¬ (53 + i = 5 + j) from by omega, show ¬ (65 + i = 5 + j) from by omega, show ¬ (5 + i = 5 + j) from by omega, if_false]
    exact ⟨g1, g2, g3, g4, g5, g6, g7⟩
theorem ir_pl (h : rl_IR r n m) (hj : j < 12) (hn : j < n ∨ v = 0) (hv : rl_rg v 0 99) : rl_IR (upd r (17 + j) v) n m := by
  obtain ⟨h1, h2, h3⟩ := h
  refine ⟨by simpa only [upd, show ¬ ((3 : Nat) = 17 + j) from by omega, if_false] using h1, by simpa only [upd, show ¬ ((4 : Nat) = 17 + j) from by omega, if_false] using h2, fun i hi => ?_⟩
  obtain ⟨g1, g2, g3, g4, g5, g6, g7⟩ := h3 i hi
  by_cases q : i = j
  · subst q
    simp only [upd, show ¬ (5 + i = 17 + i) from by omega, show ¬ (29 + i = 17 + i) from by omega, show ¬ (41 + i = 17 + i) from by omega, show ¬ (53 + i = 17 + i) from by omega, show ¬ (65 + i = 17 + i) from by omega, if_false, if_true]
    exact ⟨g1, hv, g3, g4, g5, fun q => ⟨hn.resolve_left (by omega), (g6 q).2⟩, g7⟩
  · simp only [upd, show ¬ (5 + i = 17 + j) from by omega, show ¬ (29 + i = 17 + j) from by omega, show ¬ (41 + i = 17 + j) from by omega, show ¬ (53 + i = 17 + j) from by omega, show ¬ (65 + i = 17 + j) from by omega, show ¬ (17 + i = 17 + j) from by omega, if_false]
    exact ⟨g1, g2, g3, g4, g5, g6, g7⟩
theorem ir_rd (h : rl_IR r n m) (hj : j < 12) (hn : j < n ∨ v = 0) (hv : rl_rg v 0 1) : rl_IR (upd r (29 + j) v) n m := by
  obtain ⟨h1, h2, h3⟩ := h
  refine ⟨by simpa only [upd, show ¬ ((3 : Nat) = 29 + j) from by omega, if_false] using h1, by simpa only [upd, show ¬ ((4 : Nat) = 29 + j) from by omega, if_false] using h2, fun i hi => ?_⟩
  obtain ⟨g1, g2, g3, g4, g5, g6, g7⟩ := h3 i hi
  by_cases q : i = j
  · subst q
    simp only [upd, show ¬ (5 + i = 29 + i) from by omega, show ¬ (17 + i = 29 + i) from by omega, show ¬ (41 + i = 29 + i) from by omega, show ¬ (53 + i = 29 + i) from by omega, show ¬ (65 + i = 29 + i) from by omega, if_false, if_true]
    exact ⟨g1, g2, hv, g4, g5, fun q => ⟨(g6 q).1, hn.resolve_left (by omega), (g6 q).2.2⟩, g7⟩
  · simp only [upd, show ¬ (5 + i = 29 + j) from by omega, show ¬ (17 + i = 29 + j) from by omega, show ¬ (41 + i = 29 + j) from by omega, show ¬ (53 + i = 29 + j) from by omega, show ¬ (65 + i = 29 + j) from by omega, show ¬ (29 + i = 29 + j) from by omega, if_false]
    exact ⟨g1, g2, g3, g4, g5, g6, g7⟩
theorem ir_ho (h : rl_IR r n m) (hj : j < 12) (hn : j < n ∨ v = 0) (hv : rl_rg v 0 1) : rl_IR (upd r (41 + j) v) n m := by
  obtain ⟨h1, h2, h3⟩ := h
  refine ⟨by simpa only [upd, show ¬ ((3 : Nat) = 41 + j) from by omega, if_false] using h1, by simpa only [upd, show ¬ ((4 : Nat) = 41 + j) from by omega, if_false] using h2, fun i hi => ?_⟩
  obtain ⟨g1, g2, g3, g4, g5, g6, g7⟩ := h3 i hi
  by_cases q : i = j
  · subst q
    simp only [upd, show ¬ (5 + i = 41 + i) from by omega, show ¬ (17 + i = 41 + i) from by omega, show ¬ (29 + i = 41 + i) from by omega, show ¬ (53 + i = 41 + i) from by omega, show ¬ (65 + i = 41 + i) from by omega, if_false, if_true]
    exact ⟨g1, g2, g3, hv, g5, fun q => ⟨(g6 q).1, (g6 q).2.1, hn.resolve_left (by omega), (g6 q).2.2.2⟩, g7⟩
  · simp only [upd, show ¬ (5 + i = 41 + j) from by omega, show ¬ (17 + i = 41 + j) from by omega, show ¬ (29 + i = 41 + j) from by omega, show ¬ (53 + i = 41 + j) from by omega, show ¬ (65 + i = 41 + j) from by omega, show ¬ (41 + i = 41 + j) from by omega, if_false]
    exact ⟨g1, g2, g3, g4, g5, g6, g7⟩
theorem ir_dn (h : rl_IR r n m) (hj : j < 12) (hn : j < n ∨ v = 0) : rl_IR (upd r (53 + j) v) n m := by
  obtain ⟨h1, h2, h3⟩ := h
  refine ⟨by simpa only [upd, show ¬ ((3 : Nat) = 53 + j) from by omega, if_false] using h1, by simpa only [upd, show ¬ ((4 : Nat) = 53 + j) from by omega, if_false] using h2, fun i hi => ?_⟩
  obtain ⟨g1, g2, g3, g4, g5, g6, g7⟩ := h3 i hi
  by_cases q : i = j
  · subst q
    simp only [upd, show ¬ (5 + i = 53 + i) from by omega, show ¬ (17 + i = 53 + i) from by omega, show ¬ (29 + i = 53 + i) from by omega, show ¬ (41 + i = 53 + i) from by omega, show ¬ (65 + i = 53 + i) from by omega, if_false, if_true]
    exact ⟨g1, g2, g3, g4, g5, fun q => ⟨(g6 q).1, (g6 q).2.1, (g6 q).2.2.1, hn.resolve_left (by omega)⟩, g7⟩
  · simp only [upd, show ¬ (5 + i = 53 + j) from by omega, show ¬ (17 + i = 53 + j) from by omega, show ¬ (29 + i = 53 + j) from by omega, show ¬ (41 + i = 53 + j) from by omega, show ¬ (65 + i = 53 + j) from by omega, show ¬ (53 + i = 53 + j) from by omega, if_false]
    exact ⟨g1, g2, g3, g4, g5, g6, g7⟩
theorem ir_we (h : rl_IR r n m) (hj : j < 12) (hm : j < m ∨ v = 0) (hv : rl_rg v 0 99) : rl_IR (upd r (65 + j) v) n m := by
  obtain ⟨h1, h2, h3⟩ := h
  refine ⟨by simpa only [upd, show ¬ ((3 : Nat) = 65 + j) from by omega, if_false] using h1, by simpa only [upd, show ¬ ((4 : Nat) = 65 + j) from by omega, if_false] using h2, fun i hi => ?_⟩
  obtain ⟨g1, g2, g3, g4, g5, g6, g7⟩ := h3 i hi
  by_cases q : i = j
  · subst q
    simp only [upd, show ¬ (5 + i = 65 + i) from by omega, show ¬ (17 + i = 65 + i) from by omega, show ¬ (29 + i = 65 + i) from by omega, show ¬ (41 + i = 65 + i) from by omega, show ¬ (53 + i = 65 + i) from by omega, if_false, if_true]
    exact ⟨g1, g2, g3, g4, hv, g6, fun q => hm.resolve_left (by omega)⟩
  · simp only [upd, show ¬ (5 + i = 65 + j) from by omega, show ¬ (17 + i = 65 + j) from by omega, show ¬ (29 + i = 65 + j) from by omega, show ¬ (41 + i = 65 + j) from by omega, show ¬ (53 + i = 65 + j) from by omega, show ¬ (65 + i = 65 + j) from by omega, if_false]
    exact ⟨g1, g2, g3, g4, g5, g6, g7⟩
end
theorem ca_0 (F : Nat) : aj_S0 F rl_R := by
  intro y σ τ h
  have h := rl_told h 0
  simp only [C_state, M_state, am_let, C_Past_forget]
  generalize am_up τ 0 0 0 = τ at h ⊢
  simp only [rd_1 (n := 77) (by decide) (by decide), wr_1 (n := 77) (by decide) (by decide), Option.bind_some]
  obtain ⟨hK, ⟨n, m, hFR, hFS, hIR, hIS, hBK, hGU, hLE, hKY, hBI, hQU, hCO, hOR, hSV, hND, hLW⟩, hPS, hTP, hFT, hIM⟩ := h
  refine ⟨_, _, rfl, rfl, hFR.2.2.2.1, ?_⟩
  refine ⟨?_, ⟨n, m, ?_, ?_, ?_, ?_, ?_, ?_, ?_, ?_, ?_, ?_, ?_, ?_, ?_, ?_, ?_⟩, ?_, ?_, ?_, ?_⟩
  · simpa [C_Past_forget, am_let, am_up_ap, am_up_ne, am_up_row, rl_pf_up, rl_IM_up] using hK
  · simpa [am_up_ap, am_up_ne, am_up_row] using fr_st hFR
  · simpa [C_Past_forget, am_let, am_up_ap, am_up_ne, am_up_row, rl_pf_up, rl_IM_up] using hFS
  · simpa [am_up_ap, am_up_ne, am_up_row] using ir_st hIR
  · simpa [C_Past_forget, am_let, am_up_ap, am_up_ne, am_up_row, rl_pf_up, rl_IM_up] using hIS
  · simpa [C_Past_forget, am_let, am_up_ap, am_up_ne, am_up_row, rl_pf_up, rl_IM_up] using hBK
  · simpa [C_Past_forget, am_let, am_up_ap, am_up_ne, am_up_row, rl_pf_up, rl_IM_up] using hGU
  · simpa [C_Past_forget, am_let, am_up_ap, am_up_ne, am_up_row, rl_pf_up, rl_IM_up] using hLE
  · simpa [C_Past_forget, am_let, am_up_ap, am_up_ne, am_up_row, rl_pf_up, rl_IM_up] using hKY
  · simpa [C_Past_forget, am_let, am_up_ap, am_up_ne, am_up_row, rl_pf_up, rl_IM_up] using hBI
  · simpa [C_Past_forget, am_let, am_up_ap, am_up_ne, am_up_row, rl_pf_up, rl_IM_up] using hQU
  · simpa [C_Past_forget, am_let, am_up_ap, am_up_ne, am_up_row, rl_pf_up, rl_IM_up] using hCO
  · simpa [C_Past_forget, am_let, am_up_ap, am_up_ne, am_up_row, rl_pf_up, rl_IM_up] using hOR
  · simpa [C_Past_forget, am_let, am_up_ap, am_up_ne, am_up_row, rl_pf_up, rl_IM_up] using hSV
  · simpa [C_Past_forget, am_let, am_up_ap, am_up_ne, am_up_row, rl_pf_up, rl_IM_up] using hND
  · simpa [C_Past_forget, am_let, am_up_ap, am_up_ne, am_up_row, rl_pf_up, rl_IM_up] using hLW
  · simp [am_up_ap, am_up_ne, am_up_row, rl_pf_up]
    exact rl_PS_forget hPS ⟨_, hBK.choose_spec.1, by simpa [upd] using hBK.choose_spec.2.2.1⟩ ⟨_, hIS.2.2.1⟩ ⟨_, hIS.2.2.2.1⟩
  · simpa [C_Past_forget, am_let, am_up_ap, am_up_ne, am_up_row, rl_pf_up, rl_IM_up] using hTP
  · simpa [C_Past_forget, am_let, am_up_ap, am_up_ne, am_up_row, rl_pf_up, rl_IM_up] using hFT
  · simpa [C_Past_forget, am_let, am_up_ap, am_up_ne, am_up_row, rl_pf_up, rl_IM_up] using hIM
theorem ca_9 (F : Nat) : aj_S9 F rl_R := by
  intro y σ τ h
  have h := rl_told h 0
  simp only [C_fault, M_fault, am_let]
  generalize am_up τ 0 0 0 = τ at h ⊢
  have e := h.2.2.2.2.1
  refine ⟨_, _, rfl, rfl, ?_, ?_⟩
  · by_cases q : y = 0
    · simp [q, e.1]
    · by_cases q' : y = 1 <;> simp [q, q', e.2]
  · by_cases q : y = 0
    · simpa [q] using h
    · by_cases q' : y = 1 <;> simpa [q, q'] using h
theorem ca_7 (F : Nat) : aj_S7 F rl_R := by
  intro y σ τ h
  have h := rl_told h 0
  simp only [C_end, M_end, am_let]
  generalize am_up τ 0 0 0 = τ at h ⊢
  obtain ⟨hK, ⟨n, m, hFR, hFS, hIR, hIS, hBK, hGU, hLE, hKY, hBI, hQU, hCO, hOR, hSV, hND, hLW⟩, hPS, hTP, hFT, hIM⟩ := h
  obtain ⟨c, hc, e1, e2, e3⟩ := hTP
  by_cases q : y < 0
  · rw [if_pos q, if_neg (by rw [ni_in]; grind)]
    exact ⟨_, _, rfl, rfl, rfl, hK, ⟨n, m, hFR, hFS, hIR, hIS, hBK, hGU, hLE, hKY, hBI, hQU, hCO, hOR, hSV, hND, hLW⟩, hPS, ⟨c, hc, e1, e2, e3⟩, hFT, hIM⟩
  by_cases q' : σ 157 1 < y
  · rw [if_neg q, if_pos q', if_neg (by rw [ni_in]; grind)]
    exact ⟨_, _, rfl, rfl, rfl, hK, ⟨n, m, hFR, hFS, hIR, hIS, hBK, hGU, hLE, hKY, hBI, hQU, hCO, hOR, hSV, hND, hLW⟩, hPS, ⟨c, hc, e1, e2, e3⟩, hFT, hIM⟩
  · rw [if_neg q, if_neg q', if_pos (by rw [ni_in]; grind)]
    obtain ⟨j, hj, rfl⟩ := ni_of q
    have hjc : j ≤ c := by
      rw [e1] at q'
      exact Nat.le_of_not_lt (fun g => q' ((ni_lt (by omega) hj).mpr g))
    refine ⟨_, _, rfl, rfl, rfl, ?_⟩
    refine ⟨?_, ⟨n, m, ?_, ?_, ?_, ?_, ?_, ?_, ?_, ?_, ?_, ?_, ?_, ?_, ?_, ?_, ?_⟩, ?_, ?_, ?_, ?_⟩
    · simpa [C_Past_forget, am_let, am_up_ap, am_up_ne, am_up_row, rl_pf_up, rl_IM_up] using hK
    · simpa [C_Past_forget, am_let, am_up_ap, am_up_ne, am_up_row, rl_pf_up, rl_IM_up] using hFR
    · simpa [C_Past_forget, am_let, am_up_ap, am_up_ne, am_up_row, rl_pf_up, rl_IM_up] using hFS
    · simpa [C_Past_forget, am_let, am_up_ap, am_up_ne, am_up_row, rl_pf_up, rl_IM_up] using hIR
    · simpa [C_Past_forget, am_let, am_up_ap, am_up_ne, am_up_row, rl_pf_up, rl_IM_up] using hIS
    · simpa [C_Past_forget, am_let, am_up_ap, am_up_ne, am_up_row, rl_pf_up, rl_IM_up] using hBK
    · simpa [C_Past_forget, am_let, am_up_ap, am_up_ne, am_up_row, rl_pf_up, rl_IM_up] using hGU
    · simpa [C_Past_forget, am_let, am_up_ap, am_up_ne, am_up_row, rl_pf_up, rl_IM_up] using hLE
    · simpa [C_Past_forget, am_let, am_up_ap, am_up_ne, am_up_row, rl_pf_up, rl_IM_up] using hKY
    · simpa [C_Past_forget, am_let, am_up_ap, am_up_ne, am_up_row, rl_pf_up, rl_IM_up] using hBI
    · simpa [C_Past_forget, am_let, am_up_ap, am_up_ne, am_up_row, rl_pf_up, rl_IM_up] using hQU
    · simpa [C_Past_forget, am_let, am_up_ap, am_up_ne, am_up_row, rl_pf_up, rl_IM_up] using hCO
    · simpa [C_Past_forget, am_let, am_up_ap, am_up_ne, am_up_row, rl_pf_up, rl_IM_up] using hOR
    · simpa [C_Past_forget, am_let, am_up_ap, am_up_ne, am_up_row, rl_pf_up, rl_IM_up] using hSV
    · simpa [C_Past_forget, am_let, am_up_ap, am_up_ne, am_up_row, rl_pf_up, rl_IM_up] using hND
    · simpa [C_Past_forget, am_let, am_up_ap, am_up_ne, am_up_row, rl_pf_up, rl_IM_up] using hLW
    · simpa [C_Past_forget, am_let, am_up_ap, am_up_ne, am_up_row, rl_pf_up, rl_IM_up] using hPS
    · simp [am_up_ap, am_up_ne, am_up_row]
      exact ⟨j, by omega, by simp, by simp, by simpa [am_up_ne] using e3⟩
    · simpa [C_Past_forget, am_let, am_up_ap, am_up_ne, am_up_row, rl_pf_up, rl_IM_up] using hFT
    · simpa [C_Past_forget, am_let, am_up_ap, am_up_ne, am_up_row, rl_pf_up, rl_IM_up] using hIM
