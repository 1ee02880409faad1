/-! L3: the law is run, in the reference -/
theorem lw_twoOf {c x y : Int32} {t1 t2 : Bool} (hc : c = 43 ∨ c = 45 ∨ c = 42 ∨ c = 60 ∨ c = 61 ∨ c = 62 ∨ ((c = 5 ∨ c = 4) ∧ (x = 0 ∨ x = 1) ∧ (y = 0 ∨ y = 1))) :
    ∃ d, rl_tr (c, 0) = [(d, 0)] ∧ ¬ d = 0 ∧ ¬ d = 1 ∧ ¬ d = 9 ∧ M_twoOf d x y = some (C_Law_joined c x y) := by
  rcases hc with rfl | rfl | rfl | rfl | rfl | rfl | ⟨rfl | rfl, hx, hy⟩
  · exact ⟨2, rfl, by decide, by decide, by decide, rfl⟩
  · exact ⟨3, rfl, by decide, by decide, by decide, rfl⟩
  · exact ⟨4, rfl, by decide, by decide, by decide, rfl⟩
  · refine ⟨6, rfl, by decide, by decide, by decide, ?_⟩
    simp only [M_twoOf, C_Law_joined]
    by_cases q : x < y <;> simp [q]
  · refine ⟨7, rfl, by decide, by decide, by decide, ?_⟩
    simp only [M_twoOf, C_Law_joined]
    by_cases q : x = y <;> simp [q]
  · refine ⟨8, rfl, by decide, by decide, by decide, ?_⟩
    simp only [M_twoOf, C_Law_joined]
    by_cases q : y < x <;> simp [q]
  · refine ⟨10, rfl, by decide, by decide, by decide, ?_⟩
    rcases hx with rfl | rfl <;> rcases hy with rfl | rfl <;> decide
  · refine ⟨11, rfl, by decide, by decide, by decide, ?_⟩
    rcases hx with rfl | rfl <;> rcases hy with rfl | rfl <;> decide
section
variable {F : Nat} {τ : am_SS} {V : Int32 → Int32}
theorem lm_p83 {n e s d : Nat} {g : Nat → Int32} {v : Int32} (hd : d < 420) (hs : s < 1000) :
    M_runs_p83 (M_runs_l12 F n) F 0 (Int32.ofNat e) (Int32.ofNat d) (Int32.ofNat s) (Int32.ofNat d) v (am_row τ 23 g) = M_runs_l12 F n 0 (Int32.ofNat e) (Int32.ofNat (d + 1)) (Int32.ofNat (s + 1)) (am_row τ 23 (upd g d v)) := by
  rw [M_runs_p83, ni_wr hd (by omega), Option.bind_some, am_let, M_runs_p170, am_let, ni_succ, ni_succ, am_row_up]
theorem lm_num {n e s : Nat} {g : Nat → Int32} {st : List Int32} {v : Int32} (hse : s < e) (he : e ≤ 400) (h1 : τ 16 s = 0) (h2 : τ 17 s = v) (hr : lw_rep g st) (hl : st.length ≤ 60) :
    M_runs_l12 F (n + 1) 0 (Int32.ofNat e) (Int32.ofNat st.length) (Int32.ofNat s) (am_row τ 23 g) = M_runs_l12 F n 0 (Int32.ofNat e) (Int32.ofNat (st.length + 1)) (Int32.ofNat (s + 1)) (am_row τ 23 (upd g st.length v)) ∧ lw_rep (upd g st.length v) (v :: st) := by
  constructor
  · have r16 : am_rd (am_row τ 23 g) 16 1200 (Int32.ofNat s) = some 0 := by rw [ni_rd (by omega) (by omega)]; exact congrArg some h1
    have r17 : am_rd (am_row τ 23 g) 17 1200 (Int32.ofNat s) = some v := by rw [ni_rd (by omega) (by omega)]; exact congrArg some h2
    rw [M_runs_l12, show (400 : Int32) * 0 + Int32.ofNat e = Int32.ofNat e from by simp, if_pos ((ni_lt (by omega) (by omega)).mpr hse)]
    simp only [r16, r17, Option.bind_some, if_true, M_runs_p45]
    rw [lm_p83 (by omega) (by omega)]
  · exact ⟨upd_eq, lw_rep_up hr (Nat.le_refl _)⟩
theorem lm_word {n e s i : Nat} {g : Nat → Int32} {st : List Int32} (hse : s < e) (he : e ≤ 400) (h1 : τ 16 s = 1) (h2 : τ 17 s = Int32.ofNat i) (hi : i < 10) (hr : lw_rep g st) (hl : st.length ≤ 60) :
    M_runs_l12 F (n + 1) 0 (Int32.ofNat e) (Int32.ofNat st.length) (Int32.ofNat s) (am_row τ 23 g) = M_runs_l12 F n 0 (Int32.ofNat e) (Int32.ofNat (st.length + 1)) (Int32.ofNat (s + 1)) (am_row τ 23 (upd g st.length (τ 22 i))) ∧ lw_rep (upd g st.length (τ 22 i)) (τ 22 i :: st) := by
  constructor
  · have r16 : am_rd (am_row τ 23 g) 16 1200 (Int32.ofNat s) = some 1 := by rw [ni_rd (by omega) (by omega)]; exact congrArg some h1
    have r17 : am_rd (am_row τ 23 g) 17 1200 (Int32.ofNat s) = some (Int32.ofNat i) := by rw [ni_rd (by omega) (by omega)]; exact congrArg some h2
    have r22 : am_rd (am_row τ 23 g) 22 10 (Int32.ofNat i) = some (τ 22 i) := by rw [ni_rd hi (by omega)]; rfl
    rw [M_runs_l12, show (400 : Int32) * 0 + Int32.ofNat e = Int32.ofNat e from by simp, if_pos ((ni_lt (by omega) (by omega)).mpr hse)]
    simp only [r16, r17, r22, Option.bind_some, if_true, if_false, show ((1 : Int32) = 0) = False from eq_false (by decide), M_runs_p45]
    rw [lm_p83 (by omega) (by omega)]
  · exact ⟨upd_eq, lw_rep_up hr (Nat.le_refl _)⟩
theorem lm_not {n e s : Nat} {g : Nat → Int32} {x : Int32} {r : List Int32} (hse : s < e) (he : e ≤ 400) (h1 : τ 16 s = 9) (hr : lw_rep g (x :: r)) (hl : (x :: r).length ≤ 60) :
    M_runs_l12 F (n + 1) 0 (Int32.ofNat e) (Int32.ofNat (x :: r).length) (Int32.ofNat s) (am_row τ 23 g) = M_runs_l12 F n 0 (Int32.ofNat e) (Int32.ofNat (r.length + 1)) (Int32.ofNat (s + 1)) (am_row τ 23 (upd g r.length (1 - x))) ∧ lw_rep (upd g r.length (1 - x)) ((1 - x) :: r) := by
  rw [List.length_cons] at hl ⊢
  constructor
  · have r16 : am_rd (am_row τ 23 g) 16 1200 (Int32.ofNat s) = some 9 := by rw [ni_rd (by omega) (by omega)]; exact congrArg some h1
    rw [M_runs_l12, show (400 : Int32) * 0 + Int32.ofNat e = Int32.ofNat e from by simp, if_pos ((ni_lt (by omega) (by omega)).mpr hse)]
    simp only [r16, Option.bind_some, if_true, if_false, show ((9 : Int32) = 0) = False from eq_false (by decide), show ((9 : Int32) = 1) = False from eq_false (by decide)]
    rw [ni_pred (by omega), show r.length + 1 - 1 = r.length from rfl, ni_rd (by omega) (by omega), Option.bind_some, am_row_eq, show g r.length = x from hr.1, ni_wr (by omega) (by omega), Option.bind_some, M_runs_p170, am_let, ni_succ, am_row_up]
  · exact ⟨upd_eq, lw_rep_up hr.2 (Nat.le_refl _)⟩
theorem lm_two {n e s : Nat} {g : Nat → Int32} {x y d z : Int32} {r : List Int32} (hse : s < e) (he : e ≤ 400) (h1 : τ 16 s = d) (d0 : ¬ d = 0) (d1 : ¬ d = 1) (d9 : ¬ d = 9) (hz : M_twoOf d x y = some z) (hr : lw_rep g (y :: x :: r)) (hl : (y :: x :: r).length ≤ 62) :
    M_runs_l12 F (n + 1) 0 (Int32.ofNat e) (Int32.ofNat (y :: x :: r).length) (Int32.ofNat s) (am_row τ 23 g) = M_runs_l12 F n 0 (Int32.ofNat e) (Int32.ofNat (r.length + 1)) (Int32.ofNat (s + 1)) (am_row τ 23 (upd g r.length z)) ∧ lw_rep (upd g r.length z) (z :: r) := by
  rw [List.length_cons, List.length_cons] at hl ⊢
  constructor
  · have r16 : am_rd (am_row τ 23 g) 16 1200 (Int32.ofNat s) = some d := by rw [ni_rd (by omega) (by omega)]; exact congrArg some h1
    rw [M_runs_l12, show (400 : Int32) * 0 + Int32.ofNat e = Int32.ofNat e from by simp, if_pos ((ni_lt (by omega) (by omega)).mpr hse)]
    simp only [r16, Option.bind_some, if_false, d0, d1, d9, am_let]
    rw [ni_pred (by omega), show r.length + 1 + 1 - 1 = r.length + 1 from rfl, ni_pred (by omega), show r.length + 1 - 1 = r.length from rfl, ni_rd (by omega) (by omega), Option.bind_some, ni_rd (by omega) (by omega), Option.bind_some,
      am_row_eq, show g r.length = x from hr.2.1, show g (r.length + 1) = y from hr.1, hz, Option.bind_some, ni_wr (by omega) (by omega), Option.bind_some, M_runs_p170, am_let, ni_succ, am_row_up]
  · exact ⟨upd_eq, lw_rep_up hr.2.2 (Nat.le_refl _)⟩
theorem lm_step {n e s : Nat} {g : Nat → Int32} {st : List Int32} {ts ts' : List Bool} {p : Int32 × Int32} (he : e ≤ 400)
    (hA : ∀ i, i < 10 → τ 22 i = V (Int32.ofNat (7 + i)))
    (hs : rl_sm (τ 16) (τ 17) s (rl_tr p)) (hse : s + (rl_tr p).length ≤ e) (ht : rl_t1 p ts = some ts') (hp : lw_tp ts st) (hr : lw_rep g st) (hl : st.length ≤ 60) :
    ∃ g', M_runs_l12 F (n + (rl_tr p).length) 0 (Int32.ofNat e) (Int32.ofNat st.length) (Int32.ofNat s) (am_row τ 23 g) = M_runs_l12 F n 0 (Int32.ofNat e) (Int32.ofNat (lw_e1 V p st).length) (Int32.ofNat (s + (rl_tr p).length)) (am_row τ 23 g') ∧ lw_rep g' (lw_e1 V p st) := by
  have hll := lw_tp_len hp
  unfold rl_t1 at ht
  unfold lw_e1
  by_cases c0 : p.1 = 1000
  · rw [if_pos c0]
    have etr : rl_tr p = [(0, p.2)] := by unfold rl_tr; rw [if_pos c0]
    rw [etr] at hs hse ⊢
    have h := hs 0 (by simp)
    obtain ⟨a, b⟩ := lm_num (F := F) (n := n) (e := e) (by simp at hse; omega) he h.1 h.2 hr hl
    exact ⟨_, a, b⟩
  by_cases c1 : 7 ≤ p.1 ∧ p.1 ≤ 16
  · rw [if_neg c0, if_pos c1]
    obtain ⟨i, hi, ei⟩ := ni_of (x := p.1 - 7) (by have := c1.1; have := c1.2; grind)
    have ep : p.1 = Int32.ofNat (7 + i) := by rw [show Int32.ofNat (7 + i) = 7 + Int32.ofNat i from (ni_add 7 i).symm, ← ei]; grind
    have hi10 : i < 10 := by
      have : Int32.ofNat i ≤ 9 := by rw [← ei]; have := c1.1; have := c1.2; grind
      have := (ni_le (b := 9) hi (by omega)).mp this
      omega
    have etr : rl_tr p = [(1, Int32.ofNat i)] := by
      unfold rl_tr
      rw [if_neg c0, if_neg (by have := c1.1; grind), if_neg (by have := c1.2; grind), if_neg (by have := c1.2; grind), if_neg (by have := c1.2; grind), if_neg (by have := c1.2; grind), if_neg (by have := c1.2; grind), if_neg (by have := c1.2; grind), if_neg (by have := c1.2; grind), if_neg (by have := c1.1; grind), if_neg (by have := c1.1; grind), ei]
    rw [etr] at hs hse ⊢
    have h := hs 0 (by simp)
    obtain ⟨a, b⟩ := lm_word (F := F) (n := n) (e := e) (i := i) (by simp at hse; omega) he h.1 h.2 hi10 hr hl
    rw [hA i hi10, ← ep] at a b
    exact ⟨_, a, b⟩
  rw [if_neg (fun g => g.elim c0 c1)] at ht
  rw [if_neg c0, if_neg c1]
  by_cases c6 : p.1 = 6
  · rw [if_pos c6] at ht ⊢
    have etr : rl_tr p = [(9, 0)] := by unfold rl_tr; rw [if_neg c0, if_pos c6]
    rw [etr] at hs hse ⊢
    have h := hs 0 (by simp)
    match ts, st, hp, ht, hl, hr with
    | [], _, _, ht, _, _ => cases ht
    | false :: _, _, _, ht, _, _ => cases ht
    | true :: _, [], hp, _, _, _ => exact hp.elim
    | true :: tr, x :: r, hp, ht, hl, hr =>
      obtain ⟨a, b⟩ := lm_not (F := F) (n := n) (e := e) (by simp at hse; omega) he h.1 hr hl
      exact ⟨_, a, b⟩
  rw [if_neg c6] at ht ⊢
  by_cases c47 : p.1 = 47
  · rw [if_pos c47] at ht ⊢
    have etr : rl_tr p = [(0, p.2), (5, 0)] := by unfold rl_tr; rw [if_neg c0, if_neg c6, if_neg (by rw [c47]; decide), if_neg (by rw [c47]; decide), if_neg (by rw [c47]; decide), if_pos c47]
    rw [etr] at hs hse ⊢
    have h0 := hs 0 (by simp)
    have h1 := hs 1 (by simp)
    match ts, st, hp, ht, hl, hr with
    | [], _, _, ht, _, _ => cases ht
    | true :: _, _, _, ht, _, _ => cases ht
    | false :: _, [], hp, _, _, _ => exact hp.elim
    | false :: tr, x :: r, hp, ht, hl, hr =>
      have nz : ¬ p.2 = 0 := fun g => by simp [g] at ht
      obtain ⟨a, b⟩ := lm_num (F := F) (n := n + 1) (e := e) (by simp at hse; omega) he h0.1 h0.2 hr hl
      obtain ⟨a', b'⟩ := lm_two (F := F) (n := n) (e := e) (d := 5) (z := x / p.2) (by simp at hse; omega) he h1.1 (by decide) (by decide) (by decide) (by simp [M_twoOf, nz]) b (by simp at hl ⊢; omega)
      exact ⟨_, a.trans a', b'⟩
  rw [if_neg c47] at ht ⊢
  match ts, st, hp, ht, hl, hr with
  | [], _, _, ht, _, _ => simp at ht
  | [_], _, _, ht, _, _ => simp at ht
  | _ :: _ :: _, [], hp, _, _, _ => exact hp.elim
  | _ :: _ :: _, [_], hp, _, _, _ => exact hp.2.elim
  | t1 :: t2 :: tr, y :: x :: r, hp, ht, hl, hr =>
    have hc : p.1 = 43 ∨ p.1 = 45 ∨ p.1 = 42 ∨ p.1 = 60 ∨ p.1 = 61 ∨ p.1 = 62 ∨ ((p.1 = 5 ∨ p.1 = 4) ∧ (x = 0 ∨ x = 1) ∧ (y = 0 ∨ y = 1)) := by
      by_cases ca : p.1 = 43 ∨ p.1 = 45 ∨ p.1 = 42
      · rcases ca with ca | ca | ca <;> simp [ca]
      rw [if_neg ca] at ht
      by_cases cb : p.1 = 60 ∨ p.1 = 61 ∨ p.1 = 62
      · rcases cb with cb | cb | cb <;> simp [cb]
      rw [if_neg cb] at ht
      by_cases cc : p.1 = 5 ∨ p.1 = 4
      · rw [if_pos cc] at ht
        cases t1 <;> cases t2 <;> simp at ht
        exact .inr (.inr (.inr (.inr (.inr (.inr ⟨cc, hp.2.1 rfl, hp.1 rfl⟩)))))
      · rw [if_neg cc] at ht; cases ht
    obtain ⟨d, e1, d0, d1, d9, hz⟩ := lw_twoOf (t1 := t1) (t2 := t2) hc
    have etr : rl_tr p = [(d, 0)] := by
      rw [← e1]
      unfold rl_tr
      simp only [c0, c47, if_false]
    rw [etr] at hs hse ⊢
    have h := hs 0 (by simp)
    obtain ⟨a, b⟩ := lm_two (F := F) (n := n) (e := e) (by simp at hse; omega) he h.1 d0 d1 d9 hz hr (by omega)
    exact ⟨_, a, b⟩
theorem lm_list (hA : ∀ i, i < 10 → τ 22 i = V (Int32.ofNat (7 + i))) {e : Nat} (he : e ≤ 400) :
    ∀ (L : List (Int32 × Int32)) (s n : Nat) (g : Nat → Int32) (st : List Int32) (ts ts' : List Bool), rl_sm (τ 16) (τ 17) s (L.flatMap rl_tr) → s + (L.flatMap rl_tr).length ≤ e → rl_ty L ts = some ts' → lw_tp ts st → lw_rep g st → st.length ≤ 60 →
    ∃ g', M_runs_l12 F (n + (L.flatMap rl_tr).length) 0 (Int32.ofNat e) (Int32.ofNat st.length) (Int32.ofNat s) (am_row τ 23 g) =
      M_runs_l12 F n 0 (Int32.ofNat e) (Int32.ofNat (lw_ev V L st).length) (Int32.ofNat (s + (L.flatMap rl_tr).length)) (am_row τ 23 g') ∧ lw_rep g' (lw_ev V L st) := by
  intro L
  induction L with
  | nil =>
    intro s n g st ts ts' _ _ ht hp hr hl
    exact ⟨g, rfl, hr⟩
  | cons p L ih =>
    intro s n g st ts ts' hs hse ht hp hr hl
    rw [List.flatMap_cons] at hs hse ⊢
    rw [List.length_append] at hse ⊢
    rw [rl_ty] at ht
    cases h1 : rl_t1 p ts with
    | none => rw [h1] at ht; cases ht
    | some t1 =>
      rw [h1, Option.bind_some] at ht
      have hs1 : rl_sm (τ 16) (τ 17) s (rl_tr p) := fun k hk => by
        have := hs k (by rw [List.length_append]; omega)
        rw [List.getD_eq_getElem?_getD, List.getElem?_append_left hk, ← List.getD_eq_getElem?_getD] at this
        exact this
      have hs2 : rl_sm (τ 16) (τ 17) (s + (rl_tr p).length) (L.flatMap rl_tr) := fun k hk => by
        have := hs ((rl_tr p).length + k) (by rw [List.length_append]; omega)
        rw [List.getD_eq_getElem?_getD, List.getElem?_append_right (by omega), ← List.getD_eq_getElem?_getD, Nat.add_sub_cancel_left, ← Nat.add_assoc] at this
        exact this
      obtain ⟨g1, c1, c2⟩ := lm_step (F := F) (V := V) (n := n + (L.flatMap rl_tr).length) he hA hs1 (by omega) h1 hp hr hl
      obtain ⟨c3, c4⟩ := lw_len (V := V) h1 hp hl
      obtain ⟨g2, d1, d2⟩ := ih (s + (rl_tr p).length) n g1 (lw_e1 V p st) t1 ts' hs2 (by omega) ht c3 c2 c4
      refine ⟨g2, ?_, d2⟩
      rw [show n + ((rl_tr p).length + (L.flatMap rl_tr).length) = n + (L.flatMap rl_tr).length + (rl_tr p).length from by omega, c1, d1, show s + (rl_tr p).length + (L.flatMap rl_tr).length = s + ((rl_tr p).length + (L.flatMap rl_tr).length) from by omega]
      rfl
theorem lm_run (hF : 2000 ≤ F) (hA : ∀ i, i < 10 → τ 22 i = V (Int32.ofNat (7 + i))) {L : List (Int32 × Int32)} {s : Nat} {t : Bool} {v : Int32} (hs : rl_sm (τ 16) (τ 17) s (L.flatMap rl_tr)) (he : s + (L.flatMap rl_tr).length ≤ 400) (ht : rl_ty L [] = some [t]) (hv : lw_ev V L [] = [v]) (g : Nat → Int32) :
    ∃ g', M_runs F 0 (Int32.ofNat s) (Int32.ofNat (s + (L.flatMap rl_tr).length)) (am_row τ 23 g) = some (v, am_row τ 23 g') := by
  obtain ⟨n, rfl⟩ : ∃ n, F = n + 1 + (L.flatMap rl_tr).length := ⟨F - 1 - (L.flatMap rl_tr).length, by omega⟩
  obtain ⟨g', c1, c2⟩ := lm_list (F := n + 1 + (L.flatMap rl_tr).length) hA he L s (n + 1) g [] [] [t] hs (Nat.le_refl _) ht trivial trivial (by simp)
  refine ⟨g', ?_⟩
  rw [hv] at c1 c2
  rw [M_runs, am_let, show (400 : Int32) * 0 + Int32.ofNat s = Int32.ofNat s from by simp]
  rw [show M_runs_l12 (n + 1 + (L.flatMap rl_tr).length) (n + 1 + (L.flatMap rl_tr).length) 0 (Int32.ofNat (s + (L.flatMap rl_tr).length)) 0 (Int32.ofNat s) (am_row τ 23 g) = _ from c1]
  rw [M_runs_l12, show (400 : Int32) * 0 + Int32.ofNat (s + (L.flatMap rl_tr).length) = Int32.ofNat (s + (L.flatMap rl_tr).length) from by simp, if_neg (Int32.lt_irrefl), rd_0 (by decide) (by decide), Option.bind_some, am_row_eq, show g' 0 = v from c2.1]
end
