/-! L3: marches, orders -/
theorem jm_min {x y : Int32} : J_min x y = M_lesser x y := by
  unfold J_min M_lesser
  by_cases h : y < x
  · rw [if_pos h, if_neg (by grind)]
  · by_cases h' : x < y
    · rw [if_neg h, if_pos h']
    · rw [if_neg h, if_neg h']; grind
theorem jm_max {x y : Int32} : J_max x y = M_greater x y := by
  unfold J_max M_greater
  by_cases h : y < x
  · rw [if_neg (by grind), if_pos h]
  · by_cases h' : x < y
    · rw [if_pos h', if_neg h]
    · rw [if_neg h', if_neg h]; grind
theorem ls_99 {x y : Int32} (hx : rl_rg x 0 99) (hy : rl_rg y 0 99) : rl_rg (M_lesser 99 (x + y)) 0 99 := by
  unfold rl_rg at *; unfold M_lesser
  split <;> constructor <;> grind
section
variable {F : Nat} {σ τ : am_SS} {a n m o : Nat} {th : Bool} {v : Int32}
theorem dy_fr (h : dy_D σ a th τ n m) : rl_Fr σ a τ n m := h.2.1
theorem dy_n (h : dy_D σ a th τ n m) : n ≤ 12 ∧ m ≤ 12 ∧ σ a 0 = Int32.ofNat n ∧ σ a 8 = Int32.ofNat m ∧ τ 0 6 = Int32.ofNat n ∧ τ 0 7 = Int32.ofNat m := by
  obtain ⟨hFR, hFS, hIR, hIS⟩ := h.2.1
  exact ⟨hIS.1, hIS.2.1, hFS.1.trans hIS.2.2.1, hFS.2.1.trans hIS.2.2.2.1, hIS.2.2.1, hIS.2.2.2.1⟩
theorem dy_rC (ho : o < 12) (K : Nat) : am_rd σ K 12 (Int32.ofNat o) = some (σ K o) := ni_rd ho (by omega)
theorem dy_rM (ho : o < 12) (K : Nat) (hK : K ≤ 65) : am_rd τ 1 77 (Int32.ofNat K + Int32.ofNat o) = some (τ 1 (K + o)) := by rw [ni_add, ni_rd (by omega) (by omega)]
theorem dy_wM (ho : o < 12) (K : Nat) (hK : K ≤ 65) (v : Int32) : am_wr τ 1 77 (Int32.ofNat K + Int32.ofNat o) v = some (am_up τ 1 (K + o) v) := by rw [ni_add, ni_wr (by omega) (by omega)]
theorem dy_march (hF : 2000 ≤ F) (h : dy_D σ a th τ n m) (ho : o < n) (hv : rl_rg v 0 99) :
    ∃ σ' τ', C_War_march F 1 a th (Int32.ofNat o) v σ = some σ' ∧ M_marches F (Int32.ofNat o) v τ = some τ' ∧ dy_E a th n m σ τ σ' τ' := by
  obtain ⟨hn, hm, e0, e8, e6, e7⟩ := dy_n h
  have ho' : o < 12 := by omega
  obtain ⟨r, r1, r2⟩ := gu_eq (dy_fr h) ho
  obtain ⟨s, s1, s2⟩ := nh_eq hF (dy_fr h) h.2.2.1.2.2.2.2.1 h.2.2.1.2.2.2.2.2.2.2.1 ho
  have f := (dy_fr h).1.2.2.2.2 o ho'
  have ir := ((dy_fr h).2.2.1).2.2 o ho'
  rw [C_War_march, if_pos ((ho_iff e0 hn).mpr ⟨o, ho, rfl⟩), M_marches, r1, r2, Option.bind_some, Option.bind_some, dy_rC ho', show (17 : Int32) = Int32.ofNat 17 from rfl, dy_rM ho' 17 (by omega)]
  simp only [Option.bind_some]
  by_cases q : r = true
  · rw [if_pos q, if_pos q, f.2.1]
    obtain ⟨σ1, τ1, n1, n2, E1, -⟩ := dy_note (cd := 1) (w := Int32.ofNat o) (v := τ 1 (17 + o)) hF h
    rw [n1, n2]
    simp only [Option.bind_some]
    rw [ni_wr ho' (by omega), Option.bind_some, ni_wr ho' (by omega), Option.bind_some, dy_wM ho' 17 (by omega), Option.bind_some, show (29 : Int32) = Int32.ofNat 29 from rfl, dy_wM ho' 29 (by omega), Option.bind_some]
    have E2 := dy_pl (v := 0) E1.1 ho' (.inr rfl) ⟨by decide, by decide⟩
    have E3 := dy_rd (v := 0) E2.1 ho' (.inr rfl) ⟨by decide, by decide⟩
    exact ⟨_, _, rfl, rfl, dy_trans E1 (dy_trans E2 E3)⟩
  · rw [if_neg q, if_neg q, s1, s2]
    simp only [Option.bind_some]
    rw [f.2.1]
    by_cases q' : s = true
    · rw [if_pos q', if_pos q', ni_wr ho' (by omega), Option.bind_some, dy_wM ho' 17 (by omega), Option.bind_some, dy_rC ho', Option.bind_some, dy_rM ho' 17 (by omega), Option.bind_some]
      have E1 := dy_pl (v := M_lesser 99 (τ 1 (17 + o) + v)) h ho' (.inl ho) (ls_99 ir.2.1 hv)
      rw [jm_min, show am_up σ (a + 4) o (M_lesser 99 (τ 1 (17 + o) + v)) (a + 4) o = M_lesser 99 (τ 1 (17 + o) + v) from by simp [am_up_ap], show am_up τ 1 (17 + o) (M_lesser 99 (τ 1 (17 + o) + v)) 1 (17 + o) = M_lesser 99 (τ 1 (17 + o) + v) from by simp [am_up_ap]]
      obtain ⟨σ1, τ1, n1, n2, E2, -⟩ := dy_note (cd := 0) (w := Int32.ofNat o) (v := M_lesser 99 (τ 1 (17 + o) + v)) hF E1.1
      rw [n1, n2, Option.bind_some, Option.bind_some]
      exact ⟨_, _, rfl, rfl, dy_trans E1 E2⟩
    · rw [if_neg q', if_neg q']
      obtain ⟨σ1, τ1, n1, n2, E1, -⟩ := dy_note (cd := 2) (w := Int32.ofNat o) (v := τ 1 (17 + o)) hF h
      rw [n1, n2, Option.bind_some, Option.bind_some]
      exact ⟨_, _, rfl, rfl, E1⟩
theorem dy_hole (h : dy_D σ a th τ n m) (ho : o < n) (b : Bool) {cd : Int32} (hcd : (cd = 10 ∧ b = true) ∨ (cd = 19 ∧ b = false)) {y : Int32} :
    ∃ σ' τ', C_War_obey F 1 a th cd (Int32.ofNat o) y σ = some σ' ∧ am_wr τ 1 77 (Int32.ofNat 41 + Int32.ofNat o) (am_bI b) = some τ' ∧ dy_E a th n m σ τ σ' τ' := by
  obtain ⟨hn, hm, e0, e8, e6, e7⟩ := dy_n h
  have ho' : o < 12 := by omega
  have hO := (ho_iff e0 hn).mpr ⟨o, ho, rfl⟩
  have lc : LC.2.1 (a + 6) = 12 := by rcases h.1 with ⟨-, rfl⟩ | ⟨-, rfl⟩ <;> rfl
  rw [dy_wM ho' 41 (by omega)]
  rcases hcd with ⟨rfl, rfl⟩ | ⟨rfl, rfl⟩
  · have E := dy_ho (v := 1) h ho' (.inl ho) ⟨by decide, by decide⟩
    rw [C_War_obey, if_neg (by decide), if_pos hO, if_neg (by decide), if_pos rfl, C_War_obey_p66, if_pos rfl, C_War_obey_p83, lc, ni_wr ho' (by omega), Option.bind_some]
    exact ⟨_, _, rfl, rfl, E⟩
  · have E := dy_ho (v := 0) h ho' (.inl ho) ⟨by decide, by decide⟩
    rw [C_War_obey, if_neg (by decide), if_pos hO, if_neg (by decide), if_neg (by decide), if_pos rfl, C_War_obey_p66, if_neg (by decide), C_War_obey_p83, lc, ni_wr ho' (by omega), Option.bind_some]
    exact ⟨_, _, rfl, rfl, E⟩
theorem dy_new (h : dy_D σ a th τ n m) {b : Nat} (hb : b < m) {y : Int32} :
    ∃ σ' τ', C_War_obey F 1 a th 20 (Int32.ofNat b) y σ = some σ' ∧ am_wr τ 1 77 (Int32.ofNat 65 + Int32.ofNat b) 0 = some τ' ∧ dy_E a th n m σ τ σ' τ' := by
  obtain ⟨hn, hm, e0, e8, e6, e7⟩ := dy_n h
  have hb' : b < 12 := by omega
  rw [dy_wM hb' 65 (by omega), C_War_obey, if_pos rfl, if_pos ((hb_iff e8 hm).mpr ⟨b, hb, rfl⟩), ni_wr hb' (by omega), Option.bind_some]
  exact ⟨_, _, rfl, rfl, dy_we (v := 0) h hb' (.inl hb) ⟨by decide, by decide⟩⟩
/-- one order, done by both -/
theorem dy_obey (hF : 2000 ≤ F) (h : dy_D σ a th τ n m) {i : Nat} (hi : i < 16) (hr : rl_or1 (σ 22) (τ 19) n m i) :
    ∃ σ' τ', C_War_obey F 1 a th (σ 22 (4 * i + 1)) (σ 22 (4 * i + 2)) (σ 22 (4 * i + 3)) σ = some σ' ∧ M_does F (Int32.ofNat (4 * i)) τ = some τ' ∧ dy_E a th n m σ τ σ' τ' := by
  obtain ⟨hn, hm, e0, e8, e6, e7⟩ := dy_n h
  have r1 : am_rd τ 19 128 (Int32.ofNat (4 * i) + 1) = some (τ 19 (4 * i + 1)) := by rw [ni_succ, ni_rd (by omega) (by omega)]
  have r2 : am_rd τ 19 128 (Int32.ofNat (4 * i) + 2) = some (τ 19 (4 * i + 2)) := by rw [show Int32.ofNat (4 * i) + 2 = Int32.ofNat (4 * i + 2) from ni_add _ 2, ni_rd (by omega) (by omega)]
  have r3 : am_rd τ 19 128 (Int32.ofNat (4 * i) + 3) = some (τ 19 (4 * i + 3)) := by rw [show Int32.ofNat (4 * i) + 3 = Int32.ofNat (4 * i + 3) from ni_add _ 3, ni_rd (by omega) (by omega)]
  rw [M_does, r1, Option.bind_some, r2, Option.bind_some]
  obtain ⟨-, -, hr⟩ := hr
  rcases hr with ⟨c1, c2, ⟨w, hw, c3, c4⟩, c5, c6⟩ | ⟨c1, c2, ⟨w, hw, c3, c4⟩⟩ | ⟨c1, c2, ⟨w, hw, c3, c4⟩⟩ | ⟨c1, c2, ⟨w, hw, c3, c4⟩⟩ | ⟨c1, c2, c3⟩
  · rw [c1, c2, c3, c4, c5, if_pos rfl, r3, Option.bind_some, C_War_obey, if_neg (by decide), if_pos ((ho_iff e0 hn).mpr ⟨w, hw, rfl⟩), if_pos rfl]
    obtain ⟨σ1, τ1, n1, n2, E1⟩ := dy_march hF h hw (v := τ 19 (4 * i + 3)) ⟨by have := c6.1; grind, c6.2⟩
    rw [n1, n2, Option.bind_some, Option.bind_some, M_does_p35, if_neg (by decide), if_neg (by decide), M_does_p64, if_neg (by decide)]
    exact ⟨_, _, rfl, rfl, E1⟩
  · rw [c1, c2, c3, c4, if_neg (by decide), M_does_p35, if_pos rfl, M_does_p45, if_pos rfl, M_does_p63]
    obtain ⟨σ1, τ1, n1, n2, E1⟩ := dy_hole (F := F) h hw true (cd := 10) (y := σ 22 (4 * i + 3)) (.inl ⟨rfl, rfl⟩)
    rw [n1, show (41 : Int32) = Int32.ofNat 41 from rfl, n2, Option.bind_some, M_does_p64, if_neg (by decide)]
    exact ⟨_, _, rfl, rfl, E1⟩
  · rw [c1, c2, c3, c4, if_neg (by decide), M_does_p35, if_neg (by decide), if_pos rfl, M_does_p45, if_neg (by decide), M_does_p63]
    obtain ⟨σ1, τ1, n1, n2, E1⟩ := dy_hole (F := F) h hw false (cd := 19) (y := σ 22 (4 * i + 3)) (.inr ⟨rfl, rfl⟩)
    rw [n1, show (41 : Int32) = Int32.ofNat 41 from rfl, n2, Option.bind_some, M_does_p64, if_neg (by decide)]
    exact ⟨_, _, rfl, rfl, E1⟩
  · rw [c1, c2, c3, c4, if_neg (by decide), M_does_p35, if_neg (by decide), if_neg (by decide), M_does_p64, if_pos rfl]
    obtain ⟨σ1, τ1, n1, n2, E1⟩ := dy_new (F := F) h hw (y := σ 22 (4 * i + 3))
    rw [n1, show (65 : Int32) = Int32.ofNat 65 from rfl, n2, Option.bind_some]
    exact ⟨_, _, rfl, rfl, E1⟩
  · rw [c1, c2, c3, if_neg (by decide), M_does_p35, if_neg (by decide), if_neg (by decide), M_does_p64, if_neg (by decide), C_War_obey, if_neg (by decide), if_neg (fun g => by
      obtain ⟨j, hj, e⟩ := (ho_iff e0 hn).mp g
      exact ni_m1 (a := j) (by omega) e.symm)]
    exact ⟨_, _, rfl, rfl, dy_rfl h⟩
end
