/-! L3: an evening, a day -/
theorem dy_gr0 {t : Int32} (h : rl_rg t 0 99) : rl_rg (M_greater 0 (t - 10)) 0 99 := by
  unfold rl_rg at *; unfold M_greater
  split <;> constructor <;> grind
section
variable {F : Nat} {σ τ : am_SS} {a n m o : Nat} {th : Bool}
theorem dy_draw (h : dy_D σ a th τ n m) : ∃ r σ' τ', C_Front_draw a 1000 σ = some (r, σ') ∧ M_draw 1000 τ = some (r, τ') ∧ dy_E a th n m σ τ σ' τ' := by
  have e := (dy_fr h).1.2.2.2.1
  have E := dy_st (v := 1664525 * τ 1 1 + 1013904223) h
  rw [C_Front_draw, am_let, if_neg (by decide), if_neg (by decide), M_draw, rd_1 (by decide) (by decide), Option.bind_some, wr_1 (by decide) (by decide), Option.bind_some, rd_1 (by decide) (by decide), Option.bind_some, if_neg (by decide), e, Int32.mul_comm]
  rw [show am_up σ a 15 (1664525 * τ 1 1 + 1013904223) a 15 = 1664525 * τ 1 1 + 1013904223 from by simp [am_up_ap], show am_up τ 1 1 (1664525 * τ 1 1 + 1013904223) 1 1 = 1664525 * τ 1 1 + 1013904223 from by simp [am_up_ap]]
  exact ⟨_, _, _, rfl, rfl, E⟩
/-- his mind is read, or not -/
theorem dy_read (hF : 2000 ≤ F) (h : dy_D σ a th τ n m) (ho : o < n) (b : Bool) :
    ∃ σ' τ', C_War_spendEvening_p142 F 1 a th (Int32.ofNat o) b σ = some σ' ∧
      (if b = true then (am_rd τ 1 77 (Int32.ofNat 29 + Int32.ofNat o)).bind (fun t_17 => if t_17 = 0 then (am_rd τ 1 77 (Int32.ofNat 5 + Int32.ofNat o)).bind (fun t_19 => (M_notes 4 (Int32.ofNat o) t_19 τ).bind (fun q_20 => M_sleeps_p132 F (Int32.ofNat o) q_20)) else M_sleeps_p132 F (Int32.ofNat o) τ) else some τ) = some τ' ∧ dy_E a th n m σ τ σ' τ' := by
  obtain ⟨hn, hm, e0, e8, e6, e7⟩ := dy_n h
  have ho' : o < 12 := by omega
  have f := (dy_fr h).1.2.2.2.2 o ho'
  have ir := (dy_fr h).2.2.1.2.2 o ho'
  cases b with
  | false => rw [C_War_spendEvening_p142, if_neg (by simp), if_neg (by simp)]; exact ⟨_, _, rfl, rfl, dy_rfl h⟩
  | true =>
    rw [C_War_spendEvening_p142, if_pos rfl, if_pos rfl, dy_rC ho', Option.bind_some, dy_rM ho' 29 (by omega), Option.bind_some, f.2.2.1]
    by_cases q : τ 1 (29 + o) = 0
    · rw [if_pos q, if_pos q, ni_wr ho' (by omega), Option.bind_some, dy_rC ho', Option.bind_some, dy_rM ho' 5 (by omega), Option.bind_some]
      have E1 := dy_rd (v := 1) h ho' (.inl ho) ⟨by decide, by decide⟩
      have e3 : am_up σ (a + 5) o 1 (a + 3) o = τ 1 (5 + o) := by rw [am_up_ne (by omega)]; exact f.1
      obtain ⟨σ1, τ1, n1, n2, E2, -⟩ := dy_note (cd := 4) (w := Int32.ofNat o) (v := τ 1 (5 + o)) hF E1.1
      rw [e3, n1, Option.bind_some]
      rw [nt_swap (by omega) (by omega)] at n2
      have p : ∀ t, M_sleeps_p132 F (Int32.ofNat o) t = some (am_up t 1 (29 + o) 1) := fun t => by
        rw [M_sleeps_p132, show (29 : Int32) = Int32.ofNat 29 from rfl, dy_wM ho' 29 (by omega), Option.bind_some]
      cases hn' : M_notes 4 (Int32.ofNat o) (τ 1 (5 + o)) τ with
      | none => rw [hn'] at n2; cases n2
      | some t =>
        rw [hn'] at n2
        rw [Option.bind_some, p]
        exact ⟨σ1, τ1, rfl, n2, dy_trans E1 E2⟩
    · rw [if_neg q, if_neg q, M_sleeps_p132, show (29 : Int32) = Int32.ofNat 29 from rfl, dy_wM ho' 29 (by omega), Option.bind_some]
      have q1 : τ 1 (29 + o) = 1 := by have := ir.2.2.1; unfold rl_rg at this; grind
      rw [am_up_id q1]
      exact ⟨_, _, rfl, rfl, dy_rfl h⟩
theorem dy_sleep (hF : 2000 ≤ F) (h : dy_D σ a th τ n m) (ho : o < n) :
    ∃ σ' τ', C_War_spendEvening F 1 a th (Int32.ofNat o) σ = some σ' ∧ M_sleeps F (Int32.ofNat o) τ = some τ' ∧ dy_E a th n m σ τ σ' τ' := by
  obtain ⟨hn, hm, e0, e8, e6, e7⟩ := dy_n h
  have ho' : o < 12 := by omega
  have ha : a + 10 < 20 ∨ 20 < a := by rcases h.1 with ⟨-, rfl⟩ | ⟨-, rfl⟩ <;> omega
  have f := (dy_fr h).1.2.2.2.2 o ho'
  have ir := (dy_fr h).2.2.1.2.2 o ho'
  have x5 : (5 : Int32) = Int32.ofNat 5 := rfl
  rw [C_War_spendEvening, if_pos ((ho_iff e0 hn).mpr ⟨o, ho, rfl⟩), M_sleeps, show am_rd τ 20 24 (Int32.ofNat o) = some (τ 20 o) from ni_rd (by omega) (by omega), Option.bind_some, am_let, dy_rC ho', x5, dy_rM ho' 5 (by omega)]
  simp only [Option.bind_some]
  rw [f.1, ni_wr ho' (by omega), Option.bind_some, dy_wM ho' 5 (by omega), Option.bind_some, jm_max]
  have E1 := dy_sl (v := M_greater 0 (τ 1 (5 + o) - 10)) h ho' (dy_gr0 ir.1)
  have hup : am_up τ 1 (5 + o) (M_greater 0 (τ 1 (5 + o) - 10)) 20 o = τ 20 o := rfl
  generalize am_up σ (a + 3) o (M_greater 0 (τ 1 (5 + o) - 10)) = σ1 at E1 ⊢
  generalize am_up τ 1 (5 + o) (M_greater 0 (τ 1 (5 + o) - 10)) = τ1 at E1 hup ⊢
  have D1 := E1.1
  obtain ⟨hn1, hm1, e01, e81, e61, e71⟩ := dy_n D1
  have hSV := D1.2.2.1.2.2.2.2.2.2.1
  have hs : τ1 20 o = 0 ∨ ∃ b, b < m ∧ τ1 20 o = Int32.ofNat (b + 1) := by
    obtain ⟨_, _, _, _, e⟩ := hSV; exact (e o ho').2
  rw [sv_batman hF D1.2.2.1.2.2.2.1 hSV ho', Option.bind_some, ← hup]
  have f1 := (dy_fr D1).1.2.2.2.2 o ho'
  have ir1 := (dy_fr D1).2.2.1.2.2 o ho'
  rcases hs with z | ⟨b, hb, z⟩
  · have nb : ¬ C_Front_hasBatman a (0 - 1) σ1 = true := fun g => by
      obtain ⟨j, hj, e⟩ := (hb_iff e81 hm1).mp g
      exact ni_m1 (a := j) (by omega) (e.symm.trans (by decide))
    rw [z, if_neg nb, if_pos (show (0 : Int32) - 1 = -1 from by decide)]
    exact ⟨_, _, rfl, rfl, E1⟩
  · have zb : τ1 20 o - 1 = Int32.ofNat b := by rw [z, ni_pred (by omega)]; rfl
    have hb' : b < 12 := by omega
    rw [zb, if_pos ((hb_iff e81 hm1).mpr ⟨b, hb, rfl⟩), if_neg (ni_m1 (by omega)), dy_rC ho', Option.bind_some, dy_rM ho' 5 (by omega), Option.bind_some, f1.1]
    obtain ⟨-, ⟨v, g, A, h', x1, x2, hv⟩, -⟩ := as_all hF ha (dy_fr D1) D1.2.2.1 ho
    have E2 := dy_ask (g := g) (A := A) (h' := h') D1
    rw [x1, x2, Option.bind_some, Option.bind_some]
    generalize am_row σ1 20 g = σ2 at E2 ⊢
    generalize am_row (am_row τ1 22 A) 23 h' = τ2 at E2 ⊢
    dsimp only
    rw [ni_wr ho' (by omega), Option.bind_some, dy_wM ho' 5 (by omega), Option.bind_some, jm_min]
    have E3 := dy_sl (v := M_lesser 99 (τ1 1 (5 + o) + v)) E2.1 ho' (ls_99 ir1.1 hv)
    generalize am_up σ2 (a + 3) o (M_lesser 99 (τ1 1 (5 + o) + v)) = σ3 at E3 ⊢
    generalize am_up τ2 1 (5 + o) (M_lesser 99 (τ1 1 (5 + o) + v)) = τ3 at E3 ⊢
    have f3 := (dy_fr E3.1).1.2.2.2.2 b hb'
    have ir3 := (dy_fr E3.1).2.2.1.2.2 b hb'
    rw [dy_rC hb', Option.bind_some, show (65 : Int32) = Int32.ofNat 65 from rfl, dy_rM hb' 65 (by omega), Option.bind_some, f3.2.2.2.2.2, ni_wr hb' (by omega), Option.bind_some, dy_wM hb' 65 (by omega), Option.bind_some, jm_min]
    have E4 := dy_we (v := M_lesser 99 (τ3 1 (65 + b) + 1)) E3.1 hb' (.inl hb) (ls_99 ir3.2.2.2.2.1 ⟨by decide, by decide⟩)
    generalize am_up σ3 (a + 10) b (M_lesser 99 (τ3 1 (65 + b) + 1)) = σ4 at E4 ⊢
    generalize am_up τ3 1 (65 + b) (M_lesser 99 (τ3 1 (65 + b) + 1)) = τ4 at E4 ⊢
    obtain ⟨-, -, v5, g5, A5, h5, y1, y2, hv5⟩ := as_all hF ha (dy_fr E4.1) E4.1.2.2.1 ho
    have E5 := dy_ask (g := g5) (A := A5) (h' := h5) E4.1
    rw [y1, y2, Option.bind_some, Option.bind_some]
    generalize am_row σ4 20 g5 = σ5 at E5 ⊢
    generalize am_row (am_row τ4 22 A5) 23 h5 = τ5 at E5 ⊢
    dsimp only
    have pre := dy_trans E1 (dy_trans E2 (dy_trans E3 (dy_trans E4 E5)))
    have x29 : (29 : Int32) = Int32.ofNat 29 := rfl
    have fin : ∀ (b : Bool) (σ6 τ6 : am_SS), dy_E a th n m σ5 τ5 σ6 τ6 → ∃ σ' τ', C_War_spendEvening_p142 F 1 a th (Int32.ofNat o) b σ6 = some σ' ∧
        (some (b, τ6)).bind (fun q_15 : Bool × am_SS => if q_15.1 = true then (am_rd q_15.2 1 77 (29 + Int32.ofNat o)).bind (fun t_17 => if t_17 = 0 then (am_rd q_15.2 1 77 (Int32.ofNat 5 + Int32.ofNat o)).bind (fun t_19 => (M_notes 4 (Int32.ofNat o) t_19 q_15.2).bind (fun q_20 => M_sleeps_p132 F (Int32.ofNat o) q_20)) else M_sleeps_p132 F (Int32.ofNat o) q_15.2) else some q_15.2) = some τ' ∧ dy_E a th n m σ τ σ' τ' := by
      intro b σ6 τ6 E6
      obtain ⟨σ7, τ7, z1, z2, E7⟩ := dy_read hF E6.1 ho b
      exact ⟨σ7, τ7, z1, z2, dy_trans pre (dy_trans E6 E7)⟩
    cases th with
    | true =>
      have hth : τ5 0 5 = 1 := by have := E5.1.2.2.2.2.2; simpa using this
      rw [if_pos rfl, M_happens, if_neg (show ¬ τ5 0 5 = 0 from by rw [hth]; decide)]
      by_cases q : v5 < 500
      · rw [if_pos q, if_pos (show 2 * v5 < 1000 from by unfold rl_rg at hv5; grind)]
        exact fin false _ _ (dy_rfl E5.1)
      · rw [if_neg q, if_neg (show ¬ 2 * v5 < 1000 from by unfold rl_rg at hv5; grind)]
        exact fin true _ _ (dy_rfl E5.1)
    | false =>
      have hth : τ5 0 5 = 0 := by have := E5.1.2.2.2.2.2; simpa using this
      rw [if_neg (by simp), M_happens, if_pos hth]
      by_cases q : 0 < v5
      · rw [if_pos q, if_pos q]
        obtain ⟨r, σ6, τ6, d1, d2, E6⟩ := dy_draw E5.1
        rw [d1, d2, Option.bind_some, Option.bind_some]
        dsimp only
        by_cases q' : r < v5
        · rw [if_pos q', if_pos q']
          exact fin true _ _ E6
        · rw [if_neg q', if_neg q', C_War_spendEvening_p141]
          exact fin false _ _ E6
      · rw [if_neg q, if_neg q, C_War_spendEvening_p141]
        exact fin false _ _ (dy_rfl E5.1)
theorem dy_end (h : dy_D σ a th τ n m) (x : Int32) : ∃ σ' τ', C_War_passDay_p94 F a x σ = some (x, σ') ∧ M_goesBy_p142 F x τ = some (x, τ') ∧ dy_E a th n m σ τ σ' τ' := by
  have e := (dy_fr h).1.2.2.1
  rw [C_War_passDay_p94, am_let, M_goesBy_p142, rd_0 (by decide) (by decide), Option.bind_some, wr_0 (by decide) (by decide), Option.bind_some, e]
  exact ⟨_, _, rfl, rfl, dy_dy h⟩
theorem dy_eve (hF : 2000 ≤ F) (x : Int32) : ∀ (d j k k' : Nat) (σ τ : am_SS), dy_D σ a th τ n m → j + d = n → d < k → d < k' →
    ∃ σ' τ', C_War_passDay_l63 F k 1 a th x (Int32.ofNat j) σ = some (x, σ') ∧ M_goesBy_l116 F k' x (Int32.ofNat j) τ = some (x, τ') ∧ dy_E a th n m σ τ σ' τ' := by
  intro d
  induction d with
  | zero =>
    intro j k k' σ τ h hj hk hk'
    obtain ⟨k, rfl⟩ : ∃ n', k = n' + 1 := ⟨k - 1, by omega⟩
    obtain ⟨k', rfl⟩ : ∃ n', k' = n' + 1 := ⟨k' - 1, by omega⟩
    obtain ⟨hn, hm, e0, e8, e6, e7⟩ := dy_n h
    rw [C_War_passDay_l63, M_goesBy_l116, e0, e6, if_neg (fun g => absurd ((ni_lt (by omega) (by omega)).mp g) (by omega)), if_neg (fun g => absurd ((ni_lt (by omega) (by omega)).mp g) (by omega))]
    exact dy_end h x
  | succ d ih =>
    intro j k k' σ τ h hj hk hk'
    obtain ⟨k, rfl⟩ : ∃ n', k = n' + 1 := ⟨k - 1, by omega⟩
    obtain ⟨k', rfl⟩ : ∃ n', k' = n' + 1 := ⟨k' - 1, by omega⟩
    obtain ⟨hn, hm, e0, e8, e6, e7⟩ := dy_n h
    rw [C_War_passDay_l63, M_goesBy_l116, e0, e6, if_pos ((ni_lt (by omega) (by omega)).mpr (by omega)), if_pos ((ni_lt (by omega) (by omega)).mpr (by omega)), won_M, Option.bind_some]
    by_cases q : 0 < τ 1 4
    · rw [if_neg (fun g => (dy_won h).mp g q), if_pos (by simp [q])]
      exact dy_end h x
    · rw [if_pos ((dy_won h).mpr q), if_neg (by simp [q])]
      obtain ⟨σ1, τ1, s1, s2, E1⟩ := dy_sleep hF h (show j < n by omega)
      rw [s1, s2, Option.bind_some, Option.bind_some, am_let, am_let, ni_succ]
      obtain ⟨σ2, τ2, t1, t2, E2⟩ := ih (j + 1) k k' σ1 τ1 E1.1 (by omega) (by omega) (by omega)
      exact ⟨σ2, τ2, t1, t2, dy_trans E1 E2⟩
theorem dy_noon (hF : 2000 ≤ F) (tr : Bool) : ∀ (d j k k' : Nat) (x : Int32) (σ τ : am_SS), dy_D σ a th τ n m → j + d = n → d < k → d < k' →
    ∃ r σ' τ', C_War_passDay_l21 F k 1 a th x tr (Int32.ofNat j) σ = some (r, σ') ∧ M_goesBy_l77 F k' x tr (Int32.ofNat j) τ = some (r, τ') ∧ dy_E a th n m σ τ σ' τ' := by
  intro d
  induction d with
  | zero =>
    intro j k k' x σ τ h hj hk hk'
    obtain ⟨k, rfl⟩ : ∃ n', k = n' + 1 := ⟨k - 1, by omega⟩
    obtain ⟨k', rfl⟩ : ∃ n', k' = n' + 1 := ⟨k' - 1, by omega⟩
    obtain ⟨hn, hm, e0, e8, e6, e7⟩ := dy_n h
    rw [C_War_passDay_l21, M_goesBy_l77, e0, e6, if_neg (fun g => absurd ((ni_lt (by omega) (by omega)).mp g) (by omega)), if_neg (fun g => absurd ((ni_lt (by omega) (by omega)).mp g) (by omega))]
    obtain ⟨σ', τ', y⟩ := dy_eve (F := F) hF x n 0 F F σ τ h (by omega) (by omega) (by omega)
    exact ⟨x, σ', τ', y⟩
  | succ d ih =>
    intro j k k' x σ τ h hj hk hk'
    obtain ⟨k, rfl⟩ : ∃ n', k = n' + 1 := ⟨k - 1, by omega⟩
    obtain ⟨k', rfl⟩ : ∃ n', k' = n' + 1 := ⟨k' - 1, by omega⟩
    obtain ⟨hn, hm, e0, e8, e6, e7⟩ := dy_n h
    have eve : ∃ r σ' τ', C_War_passDay_p60 F 1 a th x σ = some (r, σ') ∧ M_goesBy_p114 F x τ = some (r, τ') ∧ dy_E a th n m σ τ σ' τ' := by
      obtain ⟨σ', τ', y⟩ := dy_eve (F := F) hF x n 0 F F σ τ h (by omega) (by omega) (by omega)
      exact ⟨x, σ', τ', y⟩
    rw [C_War_passDay_l21, M_goesBy_l77, e0, e6, if_pos ((ni_lt (by omega) (by omega)).mpr (by omega)), if_pos ((ni_lt (by omega) (by omega)).mpr (by omega)), won_M, Option.bind_some]
    by_cases qt : tr = true
    · rw [if_pos qt, if_pos qt]; exact eve
    rw [if_neg qt, if_neg qt]
    by_cases q : 0 < τ 1 4
    · rw [if_neg (fun g => (dy_won h).mp g q), if_pos (by simp [q])]
      exact eve
    · rw [if_pos ((dy_won h).mpr q), if_neg (by simp [q])]
      obtain ⟨b, σ1, τ1, s1, s2, E1⟩ := dy_press hF h (show j < n by omega)
      rw [s1, s2, Option.bind_some, Option.bind_some, am_let, am_let, ni_succ]
      cases b with
      | true =>
        obtain ⟨r, σ2, τ2, t1, t2, E2⟩ := ih (j + 1) k k' (x + 1) σ1 τ1 E1.1 (by omega) (by omega) (by omega)
        rw [if_pos rfl, am_let, M_goesBy_p108, am_let, ni_succ]
        exact ⟨r, σ2, τ2, t1, t2, dy_trans E1 E2⟩
      | false =>
        obtain ⟨r, σ2, τ2, t1, t2, E2⟩ := ih (j + 1) k k' x σ1 τ1 E1.1 (by omega) (by omega) (by omega)
        rw [if_neg (by simp), M_goesBy_p108, am_let, ni_succ]
        refine ⟨r, σ2, τ2, ?_, t2, dy_trans E1 E2⟩
        rw [← t1]
        simp
theorem dy_morn {c : Nat} (hF : 2000 ≤ F) (hc : c ≤ 16) : ∀ (d j k k' : Nat) (tr : Bool) (σ τ : am_SS), dy_D σ a th τ n m → σ 21 2 = Int32.ofNat c → j + d = c → d < k → d < k' →
    ∃ b σ' τ', C_War_follow_l5 F k 1 a th tr (Int32.ofNat j) σ = some (b, σ') ∧ M_goesBy_l13 F k' false tr (Int32.ofNat (4 * j)) τ = M_goesBy_l77 F F (am_bI false) b 0 τ' ∧ dy_E a th n m σ τ σ' τ' := by
  intro d
  induction d with
  | zero =>
    intro j k k' tr σ τ h ec hj hk hk'
    obtain ⟨k, rfl⟩ : ∃ n', k = n' + 1 := ⟨k - 1, by omega⟩
    obtain ⟨k', rfl⟩ : ∃ n', k' = n' + 1 := ⟨k' - 1, by omega⟩
    have e36 : τ 0 36 = Int32.ofNat c := by
      obtain ⟨c', _, x1, x2, _⟩ := h.2.2.1.2.2.2.2.2.1
      rw [x2, ← x1, ec]
    rw [C_War_follow_l5, M_goesBy_l13, show σ (1 + 20) 2 = Int32.ofNat c from ec, e36, show (4 : Int32) * Int32.ofNat c = Int32.ofNat (4 * c) from ni_mul 4 c, if_neg (fun g => absurd ((ni_lt (by omega) (by omega)).mp g) (by omega)), if_neg (fun g => absurd ((ni_lt (by omega) (by omega)).mp g) (by omega))]
    exact ⟨tr, σ, τ, rfl, rfl, dy_rfl h⟩
  | succ d ih =>
    intro j k k' tr σ τ h ec hj hk hk'
    obtain ⟨k, rfl⟩ : ∃ n', k = n' + 1 := ⟨k - 1, by omega⟩
    obtain ⟨k', rfl⟩ : ∃ n', k' = n' + 1 := ⟨k' - 1, by omega⟩
    obtain ⟨c', hc', x1, x2, hor⟩ := h.2.2.1.2.2.2.2.2.1
    have cc : c' = c := (ni_eq (by omega) (by omega)).mp (x1.symm.trans ec)
    subst cc
    have w21 : σ 21 0 = 4 := h.2.2.1.2.2.1
    have row : ∀ i, i < 4 → C_Table_at (1 + 20) (Int32.ofNat j) (Int32.ofNat i) σ = some (σ 22 (4 * j + i)) := fun i hi => by
      rw [tb_at (w := 4) (r := c') 64 ec w21 rfl (by omega) hi (by omega) (by omega) (by omega) (by omega), Nat.mul_comm j 4]
    have row0 : C_Table_at (1 + 20) (Int32.ofNat j) 0 σ = some (σ 22 (4 * j)) := row 0 (by omega)
    have row1 : C_Table_at (1 + 20) (Int32.ofNat j) 1 σ = some (σ 22 (4 * j + 1)) := row 1 (by omega)
    have row2 : C_Table_at (1 + 20) (Int32.ofNat j) 2 σ = some (σ 22 (4 * j + 2)) := row 2 (by omega)
    have row3 : C_Table_at (1 + 20) (Int32.ofNat j) 3 σ = some (σ 22 (4 * j + 3)) := row 3 (by omega)
    have hr := hor j (by omega)
    have ed := (dy_fr h).1.2.2.1
    have e36 : τ 0 36 = Int32.ofNat c' := x2
    have n4 : Int32.ofNat (4 * j) + 4 = Int32.ofNat (4 * (j + 1)) := ni_add (4 * j) 4
    rw [C_War_follow_l5, M_goesBy_l13, show σ (1 + 20) 2 = Int32.ofNat c' from ec, e36, show (4 : Int32) * Int32.ofNat c' = Int32.ofNat (4 * c') from ni_mul 4 c', if_pos ((ni_lt (by omega) (by omega)).mpr (by omega)), if_pos ((ni_lt (by omega) (by omega)).mpr (by omega)),
      row0, Option.bind_some, ni_rd (by omega) (by omega), Option.bind_some, rd_0 (by decide) (by decide), Option.bind_some, ed, hr.1]
    by_cases q : τ 19 (4 * j) = τ 1 0
    · rw [if_pos q, if_pos q, row1, Option.bind_some]
      obtain ⟨σ1, τ1, o1, o2, E1⟩ := dy_obey hF h (show j < 16 by omega) hr
      rw [o2, Option.bind_some]
      have ec1 : σ1 21 2 = Int32.ofNat c' := by
        have : σ1 21 = σ 21 := E1.2.1 21 (by omega) (by rcases h.1 with ⟨-, rfl⟩ | ⟨-, rfl⟩ <;> omega) (.inr (by omega))
        rw [this]; exact ec
      have r19 : am_rd τ1 19 128 (Int32.ofNat (4 * j) + 1) = some (τ 19 (4 * j + 1)) := by
        rw [ni_succ, ni_rd (by omega) (by omega), E1.2.2.1 19 (by omega) (by omega) (by omega) (.inr (by omega))]
      have kind : (σ 22 (4 * j + 1) = 21) ↔ (τ 19 (4 * j + 1) = 4) := by
        rcases hr.2.2 with ⟨y1, y2, -⟩ | ⟨y1, y2, -⟩ | ⟨y1, y2, -⟩ | ⟨y1, y2, -⟩ | ⟨y1, y2, -⟩ <;> rw [y1, y2] <;> decide
      have go : ∀ bt, ∃ b σ' τ', C_War_follow_p62 (C_War_follow_l5 F k) F 1 a th (Int32.ofNat j) (σ 22 (4 * j + 1)) bt σ = some (b, σ') ∧ M_goesBy_p67 (M_goesBy_l13 F k') F false (Int32.ofNat (4 * j)) bt τ1 = M_goesBy_l77 F F (am_bI false) b 0 τ' ∧ dy_E a th n m σ τ σ' τ' := by
        intro bt
        obtain ⟨b, σ2, τ2, s1, s2, E2⟩ := ih (j + 1) k k' bt σ1 τ1 E1.1 ec1 (by omega) (by omega) (by omega)
        rw [C_War_follow_p62, row2, Option.bind_some, row3, Option.bind_some, o1, Option.bind_some, C_War_follow_p91, am_let, ni_succ, M_goesBy_p67, M_goesBy_p68, am_let, n4]
        exact ⟨b, σ2, τ2, s1, s2, dy_trans E1 E2⟩
      by_cases qt : tr = true
      · rw [if_pos qt, if_pos qt, C_War_follow_p57, M_goesBy_p62]
        exact go true
      · rw [if_neg qt, if_neg qt, r19, Option.bind_some]
        by_cases q4 : τ 19 (4 * j + 1) = 4
        · rw [if_pos (kind.mpr q4), if_pos q4, C_War_follow_p57, M_goesBy_p62]
          exact go true
        · rw [if_neg (fun g => q4 (kind.mp g)), if_neg q4]
          exact go false
    · rw [if_neg q, if_neg q, C_War_follow_p91, am_let, ni_succ, M_goesBy_p68, am_let, n4]
      exact ih (j + 1) k k' tr σ τ h ec (by omega) (by omega) (by omega)
/-- a day goes by -/
theorem dy_day (hF : 2000 ≤ F) (h : dy_D σ a th τ n m) : ∃ r σ' τ', C_War_passDay F 1 a th σ = some (r, σ') ∧ M_goesBy F τ = some (r, τ') ∧ dy_E a th n m σ τ σ' τ' := by
  obtain ⟨hn, hm, e0, e8, e6, e7⟩ := dy_n h
  rw [C_War_passDay, M_goesBy, won_M, Option.bind_some]
  by_cases q : 0 < τ 1 4
  · rw [if_neg (fun g => (dy_won h).mp g q), if_pos (by simp [q])]
    obtain ⟨σ', τ', y⟩ := dy_end (F := F) h 0
    exact ⟨0, σ', τ', y⟩
  · rw [if_pos ((dy_won h).mpr q), if_neg (by simp [q])]
    obtain ⟨c, hc, x1, x2, -⟩ := h.2.2.1.2.2.2.2.2.1
    obtain ⟨b, σ1, τ1, s1, s2, E1⟩ := dy_morn hF hc c 0 F F false σ τ h x1 (by omega) (by omega) (by omega)
    obtain ⟨r, σ2, τ2, t1, t2, E2⟩ := dy_noon hF b n 0 F F 0 σ1 τ1 E1.1 (by omega) (by omega) (by omega)
    rw [show Int32.ofNat 0 = 0 from rfl] at s1 t1 t2
    rw [show Int32.ofNat (4 * 0) = 0 from rfl] at s2
    rw [C_War_follow, s1, Option.bind_some, s2]
    exact ⟨r, σ2, τ2, t1, t2, dy_trans E1 E2⟩
end
