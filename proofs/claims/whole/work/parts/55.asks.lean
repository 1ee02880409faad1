/-! L3: what the law tells -/
theorem am_up_row1 {τ : am_SS} {a k : Nat} {v : Int32} : am_up τ a k v = am_row τ a (upd (τ a) k v) := by
  have h := am_row_up (τ := τ) (a := a) (k := k) (v := v) (g := τ a)
  rw [am_row_id] at h
  exact h
/-- the front of the class at a against the reference's now -/
def rl_Fr (σ : am_SS) (a : Nat) (τ : am_SS) (n m : Nat) : Prop :=
  rl_FR (σ a 12) (σ a 13) (σ a 14) (σ a 15) (σ (a + 3)) (σ (a + 4)) (σ (a + 5)) (σ (a + 6)) (σ (a + 7)) (σ (a + 10)) (τ 1) ∧
  rl_FS (σ a 0) (σ a 8) (σ (a + 1)) (σ (a + 2)) (σ (a + 8)) (σ (a + 9)) (τ 0 6) (τ 0 7) (τ 4) (τ 5) (τ 6) (τ 7) ∧
  rl_IR (τ 1) n m ∧ rl_IS (τ 0 6) (τ 0 7) (τ 4) (τ 5) (τ 6) (τ 7) n m
/-- what is told for days -/
def rl_To (σ τ : am_SS) (n m : Nat) : Prop :=
  σ 16 0 = 4 ∧ σ 18 0 = 2 ∧ σ 21 0 = 4 ∧ σ 23 0 = 4 ∧ σ 25 0 = 4 ∧
  rl_OR (σ 21 2) (σ 22) (τ 0 36) (τ 19) n m ∧ rl_SV (σ 23 2) (σ 24) (τ 0 38) (τ 20) m ∧ rl_ND (σ 25 2) (σ 26) (τ 0 40) (τ 21) n ∧
  rl_LW (σ 16 2) (σ 17) (σ 18 2) (σ 19) (τ 11 0) (τ 12) (τ 13) (τ 14) (τ 15) (τ 16) (τ 17)
def lw_V (σ : am_SS) (a o : Nat) (xb : Int32) : Int32 → Int32 := fun w =>
  if w = 7 then σ (a + 2) o else if w = 8 then σ (a + 3) o else if w = 9 then σ (a + 4) o else if w = 10 then σ (a + 6) o
  else if w = 11 then (if C_Front_hasBatman a xb σ = true then σ (a + 9) xb.toNatClampNeg else 0)
  else if w = 12 then (if C_Front_hasBatman a xb σ = true then σ (a + 10) xb.toNatClampNeg else 0)
  else if w = 13 then σ a 12 else if w = 14 then σ (a + 1) o else if w = 15 then σ (a + 7) o else if w = 16 then σ a 14 else 0
section
variable {F : Nat} {σ τ : am_SS} {a n m o : Nat}
theorem as_val (ha : a + 10 < 20 ∨ 20 < a) (h : rl_Fr σ a τ n m) (ho : o < n) {xb : Int32} (g : Nat → Int32) (w : Int32) : C_Front_value a w (Int32.ofNat o) xb (am_row σ 20 g) = some (lw_V σ a o xb w) := by
  obtain ⟨hFR, hFS, hIR, hIS⟩ := h
  have hn : n ≤ 12 := hIS.1
  have hm : m ≤ 12 := hIS.2.1
  have e0 : σ a 0 = Int32.ofNat n := hFS.1.trans hIS.2.2.1
  have e8 : σ a 8 = Int32.ofNat m := hFS.2.1.trans hIS.2.2.2.1
  have r0 : am_row σ 20 g a = σ a := am_row_ne (by omega)
  have rr : ∀ k, k ≤ 10 → am_row σ 20 g (a + k) = σ (a + k) := fun k hk => am_row_ne (by omega)
  have hO : C_Front_hasOfficer a (Int32.ofNat o) (am_row σ 20 g) = true := (ho_iff (by rw [r0]; exact e0) hn).mpr ⟨o, ho, rfl⟩
  have hB : C_Front_hasBatman a xb (am_row σ 20 g) = C_Front_hasBatman a xb σ := by
    unfold C_Front_hasBatman; rw [r0]
  have rd : ∀ k, k ≤ 10 → am_rd (am_row σ 20 g) (a + k) 12 (Int32.ofNat o) = some (σ (a + k) o) := fun k hk => by rw [ni_rd (by omega) (by omega), rr k hk]
  have rb : ∀ k, k ≤ 10 → C_Front_hasBatman a xb σ = true → am_rd (am_row σ 20 g) (a + k) 12 xb = some (σ (a + k) xb.toNatClampNeg) := fun k hk hb => by
    obtain ⟨b, hb, rfl⟩ := (hb_iff e8 hm).mp hb
    rw [ni_rd (by omega) (by omega), rr k hk, ni_tn (by omega)]
  rw [C_Front_value, if_pos hO, hB, r0]
  unfold lw_V
  by_cases q7 : w = 7
  · rw [if_pos q7, if_pos q7, rd 2 (by omega), Option.bind_some]
  rw [if_neg q7, if_neg q7]
  by_cases q8 : w = 8
  · rw [if_pos q8, if_pos q8, rd 3 (by omega), Option.bind_some]
  rw [if_neg q8, if_neg q8]
  by_cases q9 : w = 9
  · rw [if_pos q9, if_pos q9, rd 4 (by omega), Option.bind_some]
  rw [if_neg q9, if_neg q9]
  by_cases q10 : w = 10
  · rw [if_pos q10, if_pos q10, rd 6 (by omega), Option.bind_some]
  rw [if_neg q10, if_neg q10]
  by_cases q11 : w = 11
  · rw [if_pos q11, if_pos q11]
    by_cases hb : C_Front_hasBatman a xb σ = true
    · rw [if_pos hb, if_pos hb, rb 9 (by omega) hb, Option.bind_some]
    · rw [if_neg hb, if_neg hb]
  rw [if_neg q11, if_neg q11]
  by_cases q12 : w = 12
  · rw [if_pos q12, if_pos q12]
    by_cases hb : C_Front_hasBatman a xb σ = true
    · rw [if_pos hb, if_pos hb, rb 10 (by omega) hb, Option.bind_some]
    · rw [if_neg hb, if_neg hb]
  rw [if_neg q12, if_neg q12]
  by_cases q13 : w = 13
  · rw [if_pos q13, if_pos q13]
  rw [if_neg q13, if_neg q13]
  by_cases q14 : w = 14
  · rw [if_pos q14, if_pos q14, rd 1 (by omega), Option.bind_some]
  rw [if_neg q14, if_neg q14]
  by_cases q15 : w = 15
  · rw [if_pos q15, if_pos q15, rd 7 (by omega), Option.bind_some]
  rw [if_neg q15, if_neg q15]
  by_cases q16 : w = 16
  · rw [if_pos q16, if_pos q16]
  rw [if_neg q16, if_neg q16]
theorem as_M (h : rl_Fr σ a τ n m) (ho : o < n) (hs : τ 20 o = 0 ∨ ∃ b, b < m ∧ τ 20 o = Int32.ofNat (b + 1)) :
    ∃ A, M_asks (Int32.ofNat o) τ = some (am_row τ 22 A) ∧ ∀ i, i < 10 → A i = lw_V σ a o (τ 20 o - 1) (Int32.ofNat (7 + i)) := by
  obtain ⟨hFR, hFS, hIR, hIS⟩ := h
  have hn : n ≤ 12 := hIS.1
  have hm : m ≤ 12 := hIS.2.1
  have ho' : o < 12 := by omega
  have e8 : σ a 8 = Int32.ofNat m := hFS.2.1.trans hIS.2.2.2.1
  have f := hFR.2.2.2.2 o ho'
  have s := hFS.2.2 o ho'
  have x5 : (5 : Int32) + Int32.ofNat o = Int32.ofNat (5 + o) := ni_add 5 o
  have x17 : (17 : Int32) + Int32.ofNat o = Int32.ofNat (17 + o) := ni_add 17 o
  have x41 : (41 : Int32) + Int32.ofNat o = Int32.ofNat (41 + o) := ni_add 41 o
  have x53 : (53 : Int32) + Int32.ofNat o = Int32.ofNat (53 + o) := ni_add 53 o
  have w : ∀ (τ : am_SS) (k : Nat) (x v : Int32), x = Int32.ofNat k → k < 10 → am_wr τ 22 10 x v = some (am_row τ 22 (upd (τ 22) k v)) := fun τ k x v hx hk => by
    rw [hx, ni_wr hk (by omega), am_up_row1]
  have w' : ∀ (g : Nat → Int32) (k : Nat) (x v : Int32), x = Int32.ofNat k → k < 10 → am_wr (am_row τ 22 g) 22 10 x v = some (am_row τ 22 (upd g k v)) := fun g k x v hx hk => by
    rw [hx, ni_wr hk (by omega), am_row_up]
  have rr : ∀ (g : Nat → Int32) (c k N : Nat), c ≠ 22 → k < N → N ≤ 100 → am_rd (am_row τ 22 g) c N (Int32.ofNat k) = some (τ c k) := fun g c k N hc hk hN => by
    rw [ni_rd hk (by omega), am_row_ne hc]
  have r3 : ∀ (g : Nat → Int32), am_rd (am_row τ 22 g) 1 77 3 = some (τ 1 3) := fun g => rr g 1 3 77 (by omega) (by omega) (by omega)
  have r0 : ∀ (g : Nat → Int32), am_rd (am_row τ 22 g) 1 77 0 = some (τ 1 0) := fun g => rr g 1 0 77 (by omega) (by omega) (by omega)
  rw [M_asks, ni_rd (by omega) (by omega), Option.bind_some, am_let, ni_rd (by omega) (by omega), Option.bind_some, w τ 0 0 _ rfl (by omega), Option.bind_some, x5, rr _ 1 (5 + o) 77 (by omega) (by omega) (by omega), Option.bind_some, w' _ 1 1 _ rfl (by omega), Option.bind_some,
    x17, rr _ 1 (17 + o) 77 (by omega) (by omega) (by omega), Option.bind_some, w' _ 2 2 _ rfl (by omega), Option.bind_some, x41, rr _ 1 (41 + o) 77 (by omega) (by omega) (by omega), Option.bind_some, w' _ 3 3 _ rfl (by omega), Option.bind_some]
  have tail : ∀ (g : Nat → Int32) (v : Int32), M_asks_p109 (Int32.ofNat o) 5 v (am_row τ 22 g) = some (am_row τ 22 (upd (upd (upd (upd (upd g 5 v) 6 (τ 1 3)) 7 (τ 4 o)) 8 (τ 1 (53 + o))) 9 (τ 1 0))) := by
    intro g v
    rw [M_asks_p109, w' _ 5 5 _ rfl (by omega), Option.bind_some, r3, Option.bind_some, w' _ 6 6 _ rfl (by omega), Option.bind_some, rr _ 4 o 12 (by omega) (by omega) (by omega), Option.bind_some, w' _ 7 7 _ rfl (by omega), Option.bind_some,
      x53, rr _ 1 (53 + o) 77 (by omega) (by omega) (by omega), Option.bind_some, w' _ 8 8 _ rfl (by omega), Option.bind_some, r0, Option.bind_some, w' _ 9 9 _ rfl (by omega), Option.bind_some]
  rcases hs with z | ⟨b, hb, z⟩
  · have nb : ¬ C_Front_hasBatman a (0 - 1) σ = true := fun g => by
      obtain ⟨j, hj, e⟩ := (hb_iff e8 hm).mp g
      exact ni_m1 (a := j) (by omega) (e.symm.trans (by decide))
    rw [z, if_pos (by decide), M_asks_p85, w' _ 4 4 _ rfl (by omega), Option.bind_some, if_pos (by decide), tail]
    refine ⟨_, rfl, fun i hi => ?_⟩
    rcases (by omega : i = 0 ∨ i = 1 ∨ i = 2 ∨ i = 3 ∨ i = 4 ∨ i = 5 ∨ i = 6 ∨ i = 7 ∨ i = 8 ∨ i = 9) with rfl | rfl | rfl | rfl | rfl | rfl | rfl | rfl | rfl | rfl
    · simpa [upd, lw_V] using s.2.1.symm
    · simpa [upd, lw_V] using f.1.symm
    · simpa [upd, lw_V] using f.2.1.symm
    · simpa [upd, lw_V] using f.2.2.2.1.symm
    · simp only [upd, lw_V, nb]; simp
    · simp only [upd, lw_V, nb]; simp
    · simpa [upd, lw_V] using hFR.1.symm
    · simpa [upd, lw_V] using s.1.symm
    · simpa [upd, lw_V] using f.2.2.2.2.1.symm
    · simpa [upd, lw_V] using hFR.2.2.1.symm
  · have zb : τ 20 o - 1 = Int32.ofNat b := by rw [z, ni_pred (by omega)]; rfl
    have hb' : C_Front_hasBatman a (Int32.ofNat b) σ = true := (hb_iff e8 hm).mpr ⟨b, hb, rfl⟩
    have sb := hFS.2.2 b (by omega)
    have fb := hFR.2.2.2.2 b (by omega)
    have n1 : ¬ Int32.ofNat b = -1 := ni_m1 (by omega)
    rw [zb, if_neg n1, rr _ 7 b 12 (by omega) (by omega) (by omega), Option.bind_some, M_asks_p85, w' _ 4 4 _ rfl (by omega), Option.bind_some, if_neg n1, show (65 : Int32) + Int32.ofNat b = Int32.ofNat (65 + b) from ni_add 65 b,
      rr _ 1 (65 + b) 77 (by omega) (by omega) (by omega), Option.bind_some, tail]
    refine ⟨_, rfl, fun i hi => ?_⟩
    rcases (by omega : i = 0 ∨ i = 1 ∨ i = 2 ∨ i = 3 ∨ i = 4 ∨ i = 5 ∨ i = 6 ∨ i = 7 ∨ i = 8 ∨ i = 9) with rfl | rfl | rfl | rfl | rfl | rfl | rfl | rfl | rfl | rfl
    · simpa [upd, lw_V] using s.2.1.symm
    · simpa [upd, lw_V] using f.1.symm
    · simpa [upd, lw_V] using f.2.1.symm
    · simpa [upd, lw_V] using f.2.2.2.1.symm
    · simp only [upd, lw_V, hb', ni_tn (show b < 2147483648 by omega)]; simpa using sb.2.2.2.symm
    · simp only [upd, lw_V, hb', ni_tn (show b < 2147483648 by omega)]; simpa using fb.2.2.2.2.2.symm
    · simpa [upd, lw_V] using hFR.1.symm
    · simpa [upd, lw_V] using s.1.symm
    · simpa [upd, lw_V] using f.2.2.2.2.1.symm
    · simpa [upd, lw_V] using hFR.2.2.1.symm
end
