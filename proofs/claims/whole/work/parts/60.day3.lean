/-! L3: pressing, sleeping, a day -/
theorem hd_up {l x : Int32} (hl : rl_rg l (-99) 99) (hx : rl_rg x 0 30) : J_min 99 (l + x) = M_held (l + x) (-99) 99 := by
  unfold rl_rg at *
  unfold J_min M_held
  by_cases h : l + x < 99
  · rw [if_pos h, if_neg (by grind), if_neg (by grind)]
  · rw [if_neg h, if_neg (by grind)]
    by_cases h' : 99 < l + x
    · rw [if_pos h']
    · rw [if_neg h']; grind
theorem hd_dn {l x : Int32} (hl : rl_rg l (-99) 99) (hx : rl_rg x 0 30) : J_max (-99) (l - x) = M_held (l + -x) (-99) 99 := by
  have e : l + -x = l - x := by grind
  rw [e]
  unfold rl_rg at *
  unfold J_max M_held
  by_cases h : -99 < l - x
  · rw [if_pos h, if_neg (by grind), if_neg (by grind)]
  · rw [if_neg h]
    by_cases h' : l - x < -99
    · rw [if_pos h']
    · rw [if_neg h', if_neg (by grind)]; grind
theorem hd_rg {y : Int32} : rl_rg (M_held y (-99) 99) (-99) 99 := by
  unfold M_held rl_rg
  repeat' split
  all_goals constructor <;> grind
theorem sl_dv {t : Int32} (h : rl_rg t 0 99) (h' : t < 50) : rl_rg ((50 - t) / 10) 0 5 := by
  obtain ⟨k, hk, rfl⟩ := ni_of (x := t) (by unfold rl_rg at h; grind)
  have hk50 : k < 50 := (ni_lt (b := 50) hk (by omega)).mp h'
  rw [show (50 : Int32) - Int32.ofNat k = Int32.ofNat (50 - k) from ni_sub (a := 50) (by omega), show Int32.ofNat (50 - k) / 10 = Int32.ofNat ((50 - k) / 10) from ni_div (b := 10) (by omega) (by omega)]
  exact ⟨Int32.not_lt.mp (ni_nn (by omega)), (ni_le (b := 5) (by omega) (by omega)).mpr (by omega)⟩
theorem sl_x {v d : Int32} (hv : rl_rg v 0 20) (hd : rl_rg d 0 5) : rl_rg (M_greater 0 (v - d)) 0 20 := by
  unfold rl_rg at *; unfold M_greater
  split <;> constructor <;> grind
section
variable {F : Nat} {σ τ : am_SS} {a n m o : Nat} {th : Bool}
theorem dy_won (h : dy_D σ a th τ n m) : (σ a 13 = -1) ↔ ¬ 0 < τ 1 4 := by
  have e := (dy_fr h).1.2.1
  have r := (dy_fr h).2.2.1.2.1
  rw [e]
  constructor
  · intro g q; exact won_1 q r g
  · intro g; exact won_0 g r
/-- the line has been pressed -/
theorem dy_line (hF : 2000 ≤ F) (h : dy_D σ a th τ n m) (ho : o < n) {x : Int32} (hx : rl_rg x 0 30) (b : Bool) :
    ∃ σ' τ', C_War_press_p104 F 1 a th (Int32.ofNat o) x b σ = some ((if b = true then 1 else 0), σ') ∧
      M_presses_p147 F (Int32.ofNat o) b (am_up τ 1 3 (if τ 4 o = 0 then M_held (τ 1 3 + x) (-99) 99 else M_held (τ 1 3 + -x) (-99) 99)) = some (b, τ') ∧ dy_E a th n m σ τ σ' τ' := by
  obtain ⟨hn, hm, e0, e8, e6, e7⟩ := dy_n h
  have ho' : o < 12 := by omega
  have el := (dy_fr h).1.1
  have rl := (dy_fr h).2.2.1.1
  have es := ((dy_fr h).2.1.2.2 o ho').1
  have go : ∀ L, rl_rg L (-99) 99 → ∃ σ' τ', C_War_press_p141 F 1 a th (Int32.ofNat o) b a L σ = some ((if b = true then 1 else 0), σ') ∧ M_presses_p147 F (Int32.ofNat o) b (am_up τ 1 3 L) = some (b, τ') ∧ dy_E a th n m σ τ σ' τ' := by
    intro L hL
    have E1 := dy_ln h hL
    have p192 : ∀ σ, C_War_press_p192 F b σ = some ((if b = true then 1 else 0), σ) := fun σ => by cases b <;> rfl
    have c12 : am_up σ a 12 L a 12 = L := by simp [am_up_ap]
    have m3 : am_up τ 1 3 L 1 3 = L := by simp [am_up_ap]
    rw [C_War_press_p141, am_let, c12, M_presses_p147, rd_3 (by decide) (by decide)]
    simp only [Option.bind_some, m3]
    have fin : ∀ (w : Int32) (bb : Bool), rl_rg w 0 2 → am_bI bb = w - 1 → ∃ σ' τ', C_War_press_p177 F 1 a th (Int32.ofNat o) b a bb (am_up σ a 12 L) = some ((if b = true then 1 else 0), σ') ∧
        M_presses_p190 F (Int32.ofNat o) b 4 w (am_up τ 1 3 L) = some (b, τ') ∧ dy_E a th n m σ τ σ' τ' := by
      intro w bb hw hb
      have E2 := dy_wn E1.1 hw
      obtain ⟨σ1, τ1, n1, n2, E3, -⟩ := dy_note (cd := 5) (w := Int32.ofNat o) (v := w - 1) hF E2.1
      rw [C_War_press_p177, am_let, hb, show am_up (am_up σ a 12 L) a 13 (w - 1) a 13 = w - 1 from by simp [am_up_ap], n1, Option.bind_some, p192]
      rw [M_presses_p190, wr_4 (by decide) (by decide), Option.bind_some, rd_4 (by decide) (by decide), Option.bind_some, show am_up (am_up τ 1 3 L) 1 4 w 1 4 = w from by simp [am_up_ap], n2, Option.bind_some]
      exact ⟨_, _, rfl, rfl, dy_trans E1 (dy_trans E2 E3)⟩
    by_cases q : L = 99
    · rw [if_pos q, if_pos q, C_War_press_p162, c12, if_pos q, M_presses_p169, rd_3 (by decide) (by decide), Option.bind_some, m3, if_pos q]
      exact fin 1 false ⟨by decide, by decide⟩ rfl
    · by_cases q' : L = -99
      · rw [if_neg q, if_pos q', if_neg q, if_pos q', C_War_press_p162, c12, if_neg q, M_presses_p169, rd_3 (by decide) (by decide), Option.bind_some, m3, if_neg q]
        exact fin 2 true ⟨by decide, by decide⟩ rfl
      · rw [if_neg q, if_neg q', if_neg q, if_neg q', p192]
        exact ⟨_, _, rfl, rfl, E1⟩
  rw [C_War_press_p104, dy_rC ho', Option.bind_some, es, el]
  by_cases q : τ 4 o = 0
  · rw [if_pos q, if_pos q, hd_up rl hx]
    exact go _ hd_rg
  · rw [if_neg q, if_neg q, hd_dn rl hx]
    exact go _ hd_rg
theorem dy_press (hF : 2000 ≤ F) (h : dy_D σ a th τ n m) (ho : o < n) :
    ∃ b σ' τ', C_War_press F 1 a th (Int32.ofNat o) σ = some ((if b = true then 1 else 0), σ') ∧ M_presses F (Int32.ofNat o) τ = some (b, τ') ∧ dy_E a th n m σ τ σ' τ' := by
  obtain ⟨hn, hm, e0, e8, e6, e7⟩ := dy_n h
  have ho' : o < 12 := by omega
  have ha : a + 10 < 20 ∨ 20 < a := by rcases h.1 with ⟨-, rfl⟩ | ⟨-, rfl⟩ <;> omega
  obtain ⟨⟨v, g, A, h', x1, x2, hv⟩, -⟩ := as_all hF ha (dy_fr h) h.2.2.1 ho
  have E0 := dy_ask (g := g) (A := A) (h' := h') h
  rw [C_War_press, if_pos ((ho_iff e0 hn).mpr ⟨o, ho, rfl⟩), x1, Option.bind_some, M_presses, x2, Option.bind_some]
  generalize am_row σ 20 g = σ1 at E0 ⊢
  generalize am_row (am_row τ 22 A) 23 h' = τ1 at E0 ⊢
  have D1 := E0.1
  have f := (dy_fr D1).1.2.2.2.2 o ho'
  have ir := (dy_fr D1).2.2.1.2.2 o ho'
  rw [dy_rC ho', show (5 : Int32) = Int32.ofNat 5 from rfl, dy_rM ho' 5 (by omega)]
  simp only [Option.bind_some, am_let]
  rw [f.1]
  have main : ∀ x, rl_rg x 0 20 → ∃ b σ' τ', C_War_press_p51 F 1 a th (Int32.ofNat o) x σ1 = some ((if b = true then 1 else 0), σ') ∧ M_presses_p41 F (Int32.ofNat o) x τ1 = some (b, τ') ∧ dy_E a th n m σ1 τ1 σ' τ' := by
    intro x hx
    have hx30 : rl_rg x 0 30 := ⟨hx.1, by have := hx.2; grind⟩
    rw [C_War_press_p51, dy_rC ho', Option.bind_some, M_presses_p41, show (17 : Int32) = Int32.ofNat 17 from rfl, dy_rM ho' 17 (by omega), Option.bind_some, f.2.1]
    by_cases q : τ1 1 (17 + o) = 99
    · rw [if_pos q, if_pos q, C_War_press_p67, if_pos rfl, M_presses_p60, if_pos rfl, am_let, am_let]
      rw [dy_rC ho', Option.bind_some, ni_wr ho' (by omega), Option.bind_some, ni_wr ho' (by omega), Option.bind_some, show (53 : Int32) = Int32.ofNat 53 from rfl, dy_rM ho' 53 (by omega), Option.bind_some, dy_wM ho' 53 (by omega), Option.bind_some,
        show (17 : Int32) = Int32.ofNat 17 from rfl, dy_wM ho' 17 (by omega), Option.bind_some, f.2.2.2.2.1]
      have E1 := dy_dn (v := τ1 1 (53 + o) + 1) D1 ho' (.inl ho)
      have E2 := dy_pl (v := 0) E1.1 ho' (.inr rfl) ⟨by decide, by decide⟩
      have E12 := dy_trans E1 E2
      generalize am_up (am_up σ1 (a + 7) o (τ1 1 (53 + o) + 1)) (a + 4) o 0 = σ2 at E12 ⊢
      generalize am_up (am_up τ1 1 (53 + o) (τ1 1 (53 + o) + 1)) 1 (17 + o) 0 = τ2 at E12 ⊢
      have hx2 : rl_rg (x + 10) 0 30 := by unfold rl_rg at hx ⊢; constructor <;> grind
      obtain ⟨σ3, τ3, n1, n2, E3, fr3⟩ := dy_note (cd := 3) (w := Int32.ofNat o) (v := x + 10) hF E12.1
      obtain ⟨σ4, τ4, l1, l2, E4⟩ := dy_line hF E3.1 ho hx2 true
      rw [n1, Option.bind_some, l1]
      have ha2 : a ≠ 13 ∧ a ≠ 14 := by rcases h.1 with ⟨-, rfl⟩ | ⟨-, rfl⟩ <;> omega
      have c3 : τ3 1 3 = τ2 1 3 := by rw [← (dy_fr E3.1).1.1, ← (dy_fr E12.1).1.1, fr3 a ha2.1 ha2.2]
      have c4 : τ3 4 o = τ2 4 o := by rw [E3.2.2.1 4 (by omega) (by omega) (by omega) (.inr (by omega))]
      rw [c3, c4] at l2
      have tail : ∀ L, (M_notes 3 (Int32.ofNat o) (x + 10) (am_up τ2 1 3 L)).bind (fun q_4 => M_presses_p147 F (Int32.ofNat o) true q_4) = M_presses_p147 F (Int32.ofNat o) true (am_up τ3 1 3 L) := by
        intro L
        rw [nt_swap (by omega) (by omega), n2]
        rfl
      have pM : M_presses_p100 F (Int32.ofNat o) (x + 10) true τ2 = some (true, τ4) := by
        rw [M_presses_p100, rd_3 (by decide) (by decide), Option.bind_some, ni_rd ho' (by omega), Option.bind_some]
        by_cases q' : τ2 4 o = 0
        · rw [if_pos q'] at l2 ⊢
          rw [M_presses_p127, wr_3 (by decide) (by decide), Option.bind_some, if_pos rfl, tail, l2]
        · rw [if_neg q'] at l2 ⊢
          rw [M_presses_p127, wr_3 (by decide) (by decide), Option.bind_some, if_pos rfl, tail, l2]
      rw [pM]
      exact ⟨true, _, _, rfl, rfl, dy_trans E12 (dy_trans E3 E4)⟩
    · rw [if_neg q, if_neg q, C_War_press_p67, if_neg (by simp), M_presses_p60, if_neg (by simp)]
      obtain ⟨σ4, τ4, l1, l2, E4⟩ := dy_line hF D1 ho hx30 false
      rw [l1]
      have pM : M_presses_p100 F (Int32.ofNat o) x false τ1 = some (false, τ4) := by
        rw [M_presses_p100, rd_3 (by decide) (by decide), Option.bind_some, ni_rd ho' (by omega), Option.bind_some]
        by_cases q' : τ1 4 o = 0
        · rw [if_pos q'] at l2 ⊢
          rw [M_presses_p127, wr_3 (by decide) (by decide), Option.bind_some, if_neg (by simp), l2]
        · rw [if_neg q'] at l2 ⊢
          rw [M_presses_p127, wr_3 (by decide) (by decide), Option.bind_some, if_neg (by simp), l2]
      rw [pM]
      exact ⟨false, _, _, rfl, rfl, E4⟩
  by_cases q : τ1 1 (5 + o) < 50
  · rw [if_pos q, if_pos q, jm_max]
    obtain ⟨b, σ', τ', y1, y2, y3⟩ := main _ (sl_x hv (sl_dv ir.1 q))
    exact ⟨b, σ', τ', y1, y2, dy_trans E0 y3⟩
  · rw [if_neg q, if_neg q]
    obtain ⟨b, σ', τ', y1, y2, y3⟩ := main _ hv
    exact ⟨b, σ', τ', y1, y2, dy_trans E0 y3⟩
end
