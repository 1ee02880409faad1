/-! L3: rows are copied, fronts are copied -/
def cp_r (f g : Nat → Int32) (L : Nat) : Nat → Int32 := fun j => if j < L then f j else g j
theorem cp_s {f g : Nat → Int32} {j : Nat} : upd (cp_r f g j) j (f j) = cp_r f g (j + 1) := by
  funext i
  simp only [upd, cp_r]
  by_cases h : i = j
  · subst h; simp
  · by_cases h' : i < j
    · rw [if_neg h, if_pos h', if_pos (by omega)]
    · rw [if_neg h, if_neg h', if_neg (by omega)]
theorem cp_loop {F s d L : Nat} {σ : am_SS} (hsd : s ≠ d) (hs : LC.2.1 s = L) (hd : LC.2.1 d = L) (hL : L ≤ 1000) : ∀ (k j n : Nat), j + k = L → k < n →
    C_copyRow_l2 F n s d (Int32.ofNat j) (am_row σ d (cp_r (σ s) (σ d) j)) = some (am_row σ d (cp_r (σ s) (σ d) L)) := by
  intro k
  induction k with
  | zero =>
    intro j n hj hn
    obtain ⟨n, rfl⟩ : ∃ n', n = n' + 1 := ⟨n - 1, by omega⟩
    rw [C_copyRow_l2, hs, if_neg (fun g => absurd ((ni_lt (by omega) (by omega)).mp g) (by omega)), show j = L from by omega]
  | succ k ih =>
    intro j n hj hn
    obtain ⟨n, rfl⟩ : ∃ n', n = n' + 1 := ⟨n - 1, by omega⟩
    have h1 : Int32.ofNat j < Int32.ofNat L := (ni_lt (by omega) (by omega)).mpr (by omega)
    rw [C_copyRow_l2, hs, hd, if_pos h1, if_pos h1, ni_rd (by omega) (by omega), Option.bind_some, ni_wr (by omega) (by omega), Option.bind_some, am_let, ni_succ, am_row_ne hsd, am_row_up, cp_s]
    exact ih (j + 1) n (by omega) (by omega)
theorem cp_row {F s d : Nat} (L : Nat) {σ : am_SS} (hF : 2000 ≤ F) (hsd : s ≠ d) (hs : LC.2.1 s = L) (hd : LC.2.1 d = L) (hL : L ≤ 1000) : C_copyRow F s d σ = some (am_row σ d (cp_r (σ s) (σ d) L)) := by
  have h := cp_loop (F := F) (σ := σ) hsd hs hd hL L 0 F (by omega) (by omega)
  rw [show cp_r (σ s) (σ d) 0 = σ d from by funext j; simp [cp_r], am_row_id] at h
  rw [C_copyRow]
  exact h
theorem cp_front {F a0 a1 : Nat} {σ : am_SS} (hF : 2000 ≤ F) (hd : a0 + 10 < a1 ∨ a1 + 10 < a0) (h0 : ∀ k, 1 ≤ k → k ≤ 10 → LC.2.1 (a0 + k) = 12) (h1 : ∀ k, 1 ≤ k → k ≤ 10 → LC.2.1 (a1 + k) = 12) :
    ∃ σ', C_Front_copyFrom F a0 a1 σ = some σ' ∧ (∀ c, c < a0 ∨ a0 + 10 < c → σ' c = σ c) ∧
      (σ' a0 0 = σ a1 0 ∧ σ' a0 8 = σ a1 8 ∧ σ' a0 12 = σ a1 12 ∧ σ' a0 13 = σ a1 13 ∧ σ' a0 14 = σ a1 14 ∧ σ' a0 15 = σ a1 15) ∧
      ∀ k, 1 ≤ k → k ≤ 10 → ∀ j, j < 12 → σ' (a0 + k) j = σ (a1 + k) j := by
  have step : ∀ k, 1 ≤ k → k ≤ 10 → ∀ σ : am_SS, C_copyRow F (a1 + k) (a0 + k) σ = some (am_row σ (a0 + k) (cp_r (σ (a1 + k)) (σ (a0 + k)) 12)) := fun k x y σ => cp_row 12 hF (by omega) (h1 k x y) (h0 k x y) (by omega)
  rw [C_Front_copyFrom, am_let, step 1 (by omega) (by omega), Option.bind_some, step 2 (by omega) (by omega), Option.bind_some, step 3 (by omega) (by omega), Option.bind_some, step 4 (by omega) (by omega), Option.bind_some, step 5 (by omega) (by omega), Option.bind_some,
    step 6 (by omega) (by omega), Option.bind_some, step 7 (by omega) (by omega), Option.bind_some, am_let, step 8 (by omega) (by omega), Option.bind_some, step 9 (by omega) (by omega), Option.bind_some, step 10 (by omega) (by omega), Option.bind_some, am_let, am_let, am_let, am_let]
  refine ⟨_, rfl, ?_, ?_, ?_⟩
  · intro c hc
    rw [am_up_ne (by omega), am_up_ne (by omega), am_up_ne (by omega), am_up_ne (by omega), am_row_ne (by omega), am_row_ne (by omega), am_row_ne (by omega), am_up_ne (by omega), am_row_ne (by omega), am_row_ne (by omega), am_row_ne (by omega), am_row_ne (by omega), am_row_ne (by omega), am_row_ne (by omega), am_row_ne (by omega), am_up_ne (by omega)]
  · have n1 : a1 ≠ a0 := by omega
    have n2 : ∀ k, k ≤ 10 → ¬ a1 = a0 + k := fun k hk => by omega
    refine ⟨?_, ?_, ?_, ?_, ?_, ?_⟩ <;>
      simp [am_up_ap, am_row_ne, n1, n2]
  · intro k x y j hj
    have n3 : ∀ i, i ≤ 10 → ¬ a1 + k = a0 + i := fun i hi => by omega
    have n4 : ¬ a1 + k = a0 := by omega
    rcases (by omega : k = 1 ∨ k = 2 ∨ k = 3 ∨ k = 4 ∨ k = 5 ∨ k = 6 ∨ k = 7 ∨ k = 8 ∨ k = 9 ∨ k = 10) with rfl | rfl | rfl | rfl | rfl | rfl | rfl | rfl | rfl | rfl <;>
      simp [am_up_ap, am_up_ne, am_row, cp_r, hj, n3, n4]
theorem fr_same {ln wn dy dr ln' wn' dy' dr' : Int32} {sl pl rd ho dn we sl' pl' rd' ho' dn' we' r r' : Nat → Int32} (h : rl_FR ln wn dy dr sl pl rd ho dn we r) (e1 : ln' = ln) (e2 : wn' = wn) (e3 : dy' = dy) (e4 : dr' = dr)
    (e5 : ∀ j, j < 12 → sl' j = sl j ∧ pl' j = pl j ∧ rd' j = rd j ∧ ho' j = ho j ∧ dn' j = dn j ∧ we' j = we j) (e6 : ∀ k, k < 77 → r' k = r k) : rl_FR ln' wn' dy' dr' sl' pl' rd' ho' dn' we' r' := by
  obtain ⟨h1, h2, h3, h4, h5⟩ := h
  refine ⟨by rw [e1, h1, e6 3 (by omega)], by rw [e2, h2, e6 4 (by omega)], by rw [e3, h3, e6 0 (by omega)], by rw [e4, h4, e6 1 (by omega)], fun j hj => ?_⟩
  obtain ⟨a1, a2, a3, a4, a5, a6⟩ := e5 j hj
  obtain ⟨b1, b2, b3, b4, b5, b6⟩ := h5 j hj
  exact ⟨by rw [a1, b1, e6 _ (by omega)], by rw [a2, b2, e6 _ (by omega)], by rw [a3, b3, e6 _ (by omega)], by rw [a4, b4, e6 _ (by omega)], by rw [a5, b5, e6 _ (by omega)], by rw [a6, b6, e6 _ (by omega)]⟩
theorem fs_same {on bn on' bn' o b : Int32} {sd sk bs ca sd' sk' bs' ca' s k t c : Nat → Int32} (h : rl_FS on bn sd sk bs ca o b s k t c) (e1 : on' = on) (e2 : bn' = bn)
    (e5 : ∀ j, j < 12 → sd' j = sd j ∧ sk' j = sk j ∧ bs' j = bs j ∧ ca' j = ca j) : rl_FS on' bn' sd' sk' bs' ca' o b s k t c := by
  obtain ⟨h1, h2, h5⟩ := h
  refine ⟨by rw [e1, h1], by rw [e2, h2], fun j hj => ?_⟩
  obtain ⟨a1, a2, a3, a4⟩ := e5 j hj
  obtain ⟨b1, b2, b3, b4⟩ := h5 j hj
  exact ⟨by rw [a1, b1], by rw [a2, b2], by rw [a3, b3], by rw [a4, b4]⟩
theorem ir_same {r r' : Nat → Int32} {n m : Nat} (h : rl_IR r n m) (e : ∀ k, k < 77 → r' k = r k) : rl_IR r' n m := by
  obtain ⟨h1, h2, h3⟩ := h
  refine ⟨by rw [e 3 (by omega)]; exact h1, by rw [e 4 (by omega)]; exact h2, fun j hj => ?_⟩
  have h := h3 j hj
  rw [e (5 + j) (by omega), e (17 + j) (by omega), e (29 + j) (by omega), e (41 + j) (by omega), e (53 + j) (by omega), e (65 + j) (by omega)]
  exact h
theorem lc_past : ∀ p : Fin 6, ∀ k : Fin 10, LC.2.1 (91 + 11 * p.val + (k.val + 1)) = 12 := by decide +kernel
theorem lc_pastk {p k : Nat} (hp : p < 6) (h1 : 1 ≤ k) (h2 : k ≤ 10) : LC.2.1 (91 + 11 * p + k) = 12 := by
  have := lc_past ⟨p, hp⟩ ⟨k - 1, by omega⟩
  simp only at this
  rw [show k - 1 + 1 = k from by omega] at this
  exact this
theorem lc_now {k : Nat} (h1 : 1 ≤ k) (h2 : k ≤ 10) : LC.2.1 (2 + k) = 12 := by
  rcases (by omega : k = 1 ∨ k = 2 ∨ k = 3 ∨ k = 4 ∨ k = 5 ∨ k = 6 ∨ k = 7 ∨ k = 8 ∨ k = 9 ∨ k = 10) with rfl | rfl | rfl | rfl | rfl | rfl | rfl | rfl | rfl | rfl <;> rfl
theorem lc_dream {k : Nat} (h1 : 1 ≤ k) (h2 : k ≤ 10) : LC.2.1 (77 + k) = 12 := by
  rcases (by omega : k = 1 ∨ k = 2 ∨ k = 3 ∨ k = 4 ∨ k = 5 ∨ k = 6 ∨ k = 7 ∨ k = 8 ∨ k = 9 ∨ k = 10) with rfl | rfl | rfl | rfl | rfl | rfl | rfl | rfl | rfl | rfl <;> rfl
/-! the reference's rows -/
theorem mk_loop {F u : Nat} {τ : am_SS} (hu : u ≤ 5) (e3 : τ 0 3 = Int32.ofNat u) : ∀ (k j n : Nat) (ρ : Nat → Int32), j + k = 77 → k < n →
    ∃ ρ', M_keepsAhead_l55 F n (Int32.ofNat j) (am_row τ 2 ρ) = some (am_up (am_row τ 2 ρ') 0 3 (Int32.ofNat (u + 1))) ∧ (∀ x, x < 77 * u + j → ρ' x = ρ x) ∧ ∀ x, j ≤ x → x < 77 → ρ' (77 * u + x) = τ 1 x := by
  intro k
  induction k with
  | zero =>
    intro j n ρ hj hn
    obtain ⟨n, rfl⟩ : ∃ n', n = n' + 1 := ⟨n - 1, by omega⟩
    rw [M_keepsAhead_l55, if_neg (fun g : _ < (77 : Int32) => absurd ((ni_lt (b := 77) (by omega) (by omega)).mp g) (by omega)), am_let, show am_row τ 2 ρ 0 3 = Int32.ofNat u from e3, ni_succ]
    exact ⟨ρ, rfl, fun _ _ => rfl, fun x h1 h2 => absurd h2 (by omega)⟩
  | succ k ih =>
    intro j n ρ hj hn
    obtain ⟨n, rfl⟩ : ∃ n', n = n' + 1 := ⟨n - 1, by omega⟩
    obtain ⟨ρ', r1, r2, r3⟩ := ih (j + 1) n (upd ρ (77 * u + j) (τ 1 j)) (by omega) (by omega)
    rw [M_keepsAhead_l55, if_pos (show _ < (77 : Int32) from (ni_lt (b := 77) (by omega) (by omega)).mpr (by omega)), ni_rd (by omega) (by omega), Option.bind_some, show am_row τ 2 ρ 0 3 = Int32.ofNat u from e3, show (77 : Int32) * Int32.ofNat u = Int32.ofNat (77 * u) from ni_mul 77 u,
      ni_add, ni_wr (by omega) (by omega), Option.bind_some, am_row_up, am_let, ni_succ, show am_row τ 2 ρ 1 j = τ 1 j from rfl, r1]
    refine ⟨ρ', rfl, fun x hx => ?_, fun x h1 h2 => ?_⟩
    · rw [r2 x (by omega), upd_ne (by omega)]
    · by_cases q : x = j
      · subst q; rw [r2 _ (by omega), upd_eq]
      · exact r3 x (by omega) h2
theorem mk_shift {F : Nat} {τ : am_SS} (e3 : τ 0 3 = Int32.ofNat 5) : ∀ (k j n : Nat) (ρ : Nat → Int32), j + k = 385 → k < n →
    ∃ ρ', M_keepsAhead_l21 F n (Int32.ofNat j) (am_row τ 2 ρ) = M_keepsAhead_p53 F (am_row τ 2 ρ') ∧ (∀ x, x < j → ρ' x = ρ x) ∧ ∀ x, j ≤ x → x < 385 → ρ' x = ρ (x + 77) := by
  intro k
  induction k with
  | zero =>
    intro j n ρ hj hn
    obtain ⟨n, rfl⟩ : ∃ n', n = n' + 1 := ⟨n - 1, by omega⟩
    rw [M_keepsAhead_l21, show am_row τ 2 ρ 0 3 = Int32.ofNat 5 from e3, show (77 : Int32) * Int32.ofNat 5 = Int32.ofNat 385 from ni_mul 77 5, if_neg (fun g => absurd ((ni_lt (by omega) (by omega)).mp g) (by omega))]
    exact ⟨ρ, rfl, fun _ _ => rfl, fun x h1 h2 => absurd h2 (by omega)⟩
  | succ k ih =>
    intro j n ρ hj hn
    obtain ⟨n, rfl⟩ : ∃ n', n = n' + 1 := ⟨n - 1, by omega⟩
    obtain ⟨ρ', r1, r2, r3⟩ := ih (j + 1) n (upd ρ j (ρ (j + 77))) (by omega) (by omega)
    rw [M_keepsAhead_l21, show am_row τ 2 ρ 0 3 = Int32.ofNat 5 from e3, show (77 : Int32) * Int32.ofNat 5 = Int32.ofNat 385 from ni_mul 77 5, if_pos ((ni_lt (by omega) (by omega)).mpr (by omega)),
      show Int32.ofNat j + 77 = Int32.ofNat (j + 77) from ni_add j 77, ni_rd (by omega) (by omega), Option.bind_some, am_row_eq, ni_wr (by omega) (by omega), Option.bind_some, am_row_up, am_let, ni_succ, r1]
    refine ⟨ρ', rfl, fun x hx => ?_, fun x h1 h2 => ?_⟩
    · rw [r2 x (by omega), upd_ne (by omega)]
    · by_cases q : x = j
      · subst q; rw [r2 _ (by omega), upd_eq]
      · rw [r3 x (by omega) h2, upd_ne (by omega)]
/-- now is kept: below, the rows that stay -/
theorem mk_keep {F u : Nat} {τ : am_SS} (hF : 2000 ≤ F) (hu : u ≤ 6) (e3 : τ 0 3 = Int32.ofNat u) :
    ∃ ρ w, M_keepsAhead F τ = some (am_up (am_row τ 2 ρ) 0 3 (Int32.ofNat (w + 1))) ∧ w ≤ 5 ∧ ((w = u ∧ ∀ x, x < 77 * w → ρ x = τ 2 x) ∨ (w + 1 = u ∧ u = 6 ∧ ∀ x, x < 77 * w → ρ x = τ 2 (x + 77))) ∧ ∀ x, x < 77 → ρ (77 * w + x) = τ 1 x := by
  rw [M_keepsAhead, e3]
  by_cases q : u = 6
  · subst q
    have e3' : am_up τ 0 3 (Int32.ofNat 5) 0 3 = Int32.ofNat 5 := by simp [am_up_ap]
    rw [if_pos (show Int32.ofNat 6 = 6 from rfl), am_let, show Int32.ofNat 6 - 1 = Int32.ofNat 5 from rfl]
    obtain ⟨ρ1, r1, -, r3⟩ := mk_shift (F := F) e3' 385 0 F (τ 2) (by omega) (by omega)
    rw [show am_row (am_up τ 0 3 (Int32.ofNat 5)) 2 (τ 2) = am_up τ 0 3 (Int32.ofNat 5) from by
      have : τ 2 = am_up τ 0 3 (Int32.ofNat 5) 2 := (am_up_ne (by omega)).symm
      rw [this, am_row_id], show Int32.ofNat 0 = 0 from rfl] at r1
    rw [r1, M_keepsAhead_p53]
    obtain ⟨ρ, s1, s2, s3⟩ := mk_loop (F := F) (u := 5) (by omega) e3' 77 0 F ρ1 (by omega) (by omega)
    rw [show Int32.ofNat 0 = 0 from rfl] at s1
    rw [s1]
    refine ⟨ρ, 5, ?_, by omega, .inr ⟨by omega, rfl, fun x hx => ?_⟩, fun x hx => ?_⟩
    · congr 1
      funext b j
      simp only [am_up_ap, am_row]
      by_cases hb : b = 0 ∧ j = 3
      · rw [if_pos hb, if_pos hb]
      · rw [if_neg hb, if_neg hb]
        by_cases h2 : b = 2
        · rw [if_pos h2, if_pos h2]
        · rw [if_neg h2, if_neg h2, am_up_ap, if_neg hb]
    · rw [s2 x (by omega), r3 x (by omega) (by omega)]
    · rw [s3 x (by omega) hx]; rfl
  · rw [if_neg (fun g : _ = (6 : Int32) => q ((ni_eq (b := 6) (by omega) (by omega)).mp g)), M_keepsAhead_p53]
    obtain ⟨ρ, s1, s2, s3⟩ := mk_loop (F := F) (u := u) (by omega) e3 77 0 F (τ 2) (by omega) (by omega)
    rw [am_row_id, show Int32.ofNat 0 = 0 from rfl] at s1
    rw [s1]
    exact ⟨ρ, u, rfl, by omega, .inl ⟨rfl, fun x hx => s2 x (by omega)⟩, fun x hx => s3 x (by omega) hx⟩
