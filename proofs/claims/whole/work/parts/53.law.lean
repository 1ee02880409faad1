/-! L3: the law is run -/
def lw_e1 (V : Int32 → Int32) (p : Int32 × Int32) (st : List Int32) : List Int32 :=
  if p.1 = 1000 then p.2 :: st
  else if 7 ≤ p.1 ∧ p.1 ≤ 16 then V p.1 :: st
  else if p.1 = 6 then (match st with | x :: r => (1 - x) :: r | [] => [])
  else if p.1 = 47 then (match st with | x :: r => (x / p.2) :: r | [] => [])
  else match st with | y :: x :: r => C_Law_joined p.1 x y :: r | s => s
def lw_ev (V : Int32 → Int32) : List (Int32 × Int32) → List Int32 → List Int32
  | [], st => st
  | p :: L, st => lw_ev V L (lw_e1 V p st)
def lw_rep (g : Nat → Int32) : List Int32 → Prop
  | [] => True
  | x :: r => g r.length = x ∧ lw_rep g r
def lw_tp : List Bool → List Int32 → Prop
  | [], [] => True
  | t :: ts, x :: st => (t = true → x = 0 ∨ x = 1) ∧ lw_tp ts st
  | _, _ => False
theorem lw_rep_up {g : Nat → Int32} {k : Nat} {v : Int32} : ∀ {st : List Int32}, lw_rep g st → st.length ≤ k → lw_rep (upd g k v) st := by
  intro st
  induction st with
  | nil => intro _ _; trivial
  | cons x r ih =>
    intro h hk
    rw [List.length_cons] at hk
    exact ⟨by rw [upd_ne (by omega)]; exact h.1, ih h.2 (by omega)⟩
theorem lw_tp_len : ∀ {ts : List Bool} {st : List Int32}, lw_tp ts st → ts.length = st.length := by
  intro ts
  induction ts with
  | nil => intro st h; cases st with
    | nil => rfl
    | cons _ _ => exact h.elim
  | cons t ts ih => intro st h; cases st with
    | nil => exact h.elim
    | cons x st => rw [List.length_cons, List.length_cons, ih h.2]
section
variable {F : Nat} {σ τ : am_SS} {a1 o k : Nat} {xb : Int32} {V : Int32 → Int32}
theorem lw_pushC {n e s : Nat} {g : Nat → Int32} {st : List Int32} {v : Int32} (hl : st.length < 64) (hs : s < 1000) (hr : lw_rep g st) :
    C_Law_run_p94 (C_Law_run_l7 F n) F 15 a1 (Int32.ofNat o) xb (Int32.ofNat e) (Int32.ofNat st.length) (Int32.ofNat s) (15 + 5) (Int32.ofNat st.length) v (am_row σ 20 g) =
      C_Law_run_l7 F n 15 a1 (Int32.ofNat o) xb (Int32.ofNat e) (Int32.ofNat (st.length + 1)) (Int32.ofNat (s + 1)) (am_row σ 20 (upd g st.length v)) ∧ lw_rep (upd g st.length v) (v :: st) := by
  constructor
  · rw [C_Law_run_p94, show LC.2.1 (15 + 5) = 64 from rfl, ni_wr hl (by omega), Option.bind_some, am_let, C_Law_run_p220, am_let, ni_succ, ni_succ, show (15 + 5 : Nat) = 20 from rfl, am_row_up]
  · exact ⟨upd_eq, lw_rep_up hr (Nat.le_refl _)⟩
theorem lw_at {n e s j : Nat} {g : Nat → Int32} {v : Int32} (hj : j < 64) (hs : s < 1000) {d : Nat} :
    C_Law_run_p170 (C_Law_run_l7 F n) F 15 a1 (Int32.ofNat o) xb (Int32.ofNat e) (Int32.ofNat d) (Int32.ofNat s) (15 + 5) (Int32.ofNat j) v (am_row σ 20 g) =
      C_Law_run_l7 F n 15 a1 (Int32.ofNat o) xb (Int32.ofNat e) (Int32.ofNat d) (Int32.ofNat (s + 1)) (am_row σ 20 (upd g j v)) := by
  rw [C_Law_run_p170, show LC.2.1 (15 + 5) = 64 from rfl, ni_wr hj (by omega), Option.bind_some, C_Law_run_p220, am_let, ni_succ, show (15 + 5 : Nat) = 20 from rfl, am_row_up]
theorem lw_stepC {n e s : Nat} {g : Nat → Int32} {st : List Int32} {ts ts' : List Bool} {p : Int32 × Int32}
    (w : σ 18 0 = 2) (ek : σ 18 2 = Int32.ofNat k) (hk : k ≤ 400) (hse : s < e) (hek : e ≤ k)
    (hV : ∀ g w, C_Front_value a1 w (Int32.ofNat o) xb (am_row σ 20 g) = some (V w))
    (h1 : σ 19 (2 * s) = p.1) (h2 : σ 19 (2 * s + 1) = p.2) (ht : rl_t1 p ts = some ts') (hp : lw_tp ts st) (hr : lw_rep g st) (hl6 : st.length ≤ 60) :
    ∃ g', C_Law_run_l7 F (n + 1) 15 a1 (Int32.ofNat o) xb (Int32.ofNat e) (Int32.ofNat st.length) (Int32.ofNat s) (am_row σ 20 g) =
      C_Law_run_l7 F n 15 a1 (Int32.ofNat o) xb (Int32.ofNat e) (Int32.ofNat (lw_e1 V p st).length) (Int32.ofNat (s + 1)) (am_row σ 20 g') ∧ lw_rep g' (lw_e1 V p st) := by
  have a0 : C_Table_at (15 + 3) (Int32.ofNat s) 0 (am_row σ 20 g) = some p.1 := by
    rw [show (0 : Int32) = Int32.ofNat 0 from rfl, tb_at (w := 2) (r := k) 800 (by rw [am_row_ne (by omega)]; exact ek) (by rw [am_row_ne (by omega)]; exact w) rfl (by omega) (by omega) (by omega) (by omega) (by omega) (by omega), am_row_ne (by omega), Nat.mul_comm s 2]
    exact congrArg some h1
  have a1' : C_Table_at (15 + 3) (Int32.ofNat s) 1 (am_row σ 20 g) = some p.2 := by
    rw [show (1 : Int32) = Int32.ofNat 1 from rfl, tb_at (w := 2) (r := k) 800 (by rw [am_row_ne (by omega)]; exact ek) (by rw [am_row_ne (by omega)]; exact w) rfl (by omega) (by omega) (by omega) (by omega) (by omega) (by omega), am_row_ne (by omega), Nat.mul_comm s 2]
    exact congrArg some h2
  have hl := lw_tp_len hp
  have go : ∀ v st', lw_e1 V p st = v :: st → (C_Law_run_p94 (C_Law_run_l7 F n) F 15 a1 (Int32.ofNat o) xb (Int32.ofNat e) (Int32.ofNat st.length) (Int32.ofNat s) (15 + 5) (Int32.ofNat st.length) v (am_row σ 20 g) = st') →
      ∃ g', st' = C_Law_run_l7 F n 15 a1 (Int32.ofNat o) xb (Int32.ofNat e) (Int32.ofNat (lw_e1 V p st).length) (Int32.ofNat (s + 1)) (am_row σ 20 g') ∧ lw_rep g' (lw_e1 V p st) := by
    intro v st' hv hst
    obtain ⟨b1, b2⟩ := lw_pushC (F := F) (σ := σ) (a1 := a1) (o := o) (xb := xb) (n := n) (e := e) (v := v) (g := g) (st := st) (s := s) (by omega) (by omega) hr
    rw [hv, List.length_cons]
    exact ⟨_, hst.symm.trans b1, b2⟩
  rw [C_Law_run_l7, if_pos ((ni_lt (by omega) (by omega)).mpr hse), a0, Option.bind_some, a1', Option.bind_some]
  unfold rl_t1 at ht
  have l64 : Int32.ofNat st.length < 64 := (ni_lt (b := 64) (by omega) (by omega)).mpr (by omega)
  by_cases c0 : p.1 = 1000
  · rw [if_pos c0, C_Law_run_p60, if_pos l64, if_pos c0]
    exact go p.2 _ (by unfold lw_e1; rw [if_pos c0]) rfl
  by_cases c1 : 7 ≤ p.1 ∧ p.1 ≤ 16
  · rw [if_neg c0, if_neg (Int32.not_lt.mpr c1.1), if_neg (Int32.not_lt.mpr c1.2), C_Law_run_p60, if_pos l64, if_neg c0, hV, Option.bind_some]
    exact go (V p.1) _ (by unfold lw_e1; rw [if_neg c0, if_pos c1]) rfl
  rw [if_neg c0]
  rw [if_neg (fun g => g.elim c0 c1)] at ht
  have p101 : ∀ {α : Type} (A B : α), (if p.1 < 7 then A else if 16 < p.1 then A else B) = A := by
    intro α A B
    by_cases q : p.1 < 7
    · rw [if_pos q]
    · rw [if_neg q, if_pos (Decidable.byContradiction (fun g => c1 ⟨Int32.not_lt.mp q, Int32.not_lt.mp g⟩))]
  rw [p101, C_Law_run_p101]
  by_cases c6 : p.1 = 6
  · rw [if_pos c6] at ht
    cases ts with
    | nil => cases ht
    | cons t r =>
      cases st with
      | nil => exact hp.elim
      | cons x st =>
        rw [List.length_cons] at hl6 l64 ⊢
        rw [if_pos c6, C_Law_run_p115, if_pos (show (0 : Int32) < _ from (ni_lt (a := 0) (by omega) (by omega)).mpr (by omega)), if_neg (fun q : (64 : Int32) < _ => absurd ((ni_lt (a := 64) (by omega) (by omega)).mp q) (by omega)), if_pos c6, ni_pred (by omega), show st.length + 1 - 1 = st.length from rfl,
          ni_rd (by omega) (by omega), Option.bind_some, am_row_eq, hr.1, lw_at (by omega) (by omega)]
        unfold lw_e1; rw [if_neg c0, if_neg c1, if_pos c6]
        exact ⟨_, rfl, upd_eq, lw_rep_up hr.2 (Nat.le_refl _)⟩
  rw [if_neg c6] at ht
  by_cases c47 : p.1 = 47
  · rw [if_pos c47] at ht
    cases ts with
    | nil => cases ht
    | cons t r =>
      cases t with
      | true => cases ht
      | false =>
        cases st with
        | nil => exact hp.elim
        | cons x st =>
          have nz : ¬ p.2 = 0 := fun g => by simp [g] at ht
          rw [List.length_cons] at hl6 l64 ⊢
          rw [if_neg c6, if_pos c47, C_Law_run_p115, if_pos (show (0 : Int32) < _ from (ni_lt (a := 0) (by omega) (by omega)).mpr (by omega)), if_neg (fun q : (64 : Int32) < _ => absurd ((ni_lt (a := 64) (by omega) (by omega)).mp q) (by omega)), if_neg c6, ni_pred (by omega), show st.length + 1 - 1 = st.length from rfl,
            ni_rd (by omega) (by omega), Option.bind_some, am_row_eq, hr.1, C_Law_quotient, if_neg nz, if_neg nz, Option.bind_some, lw_at (by omega) (by omega)]
          unfold lw_e1; rw [if_neg c0, if_neg c1, if_neg c6, if_pos c47]
          exact ⟨_, rfl, upd_eq, lw_rep_up hr.2 (Nat.le_refl _)⟩
  rw [if_neg c6, if_neg c47]
  rw [if_neg c47] at ht
  have two : ∃ y x r, st = y :: x :: r := by
    match ts, st, hp with
    | [], _, _ => simp at ht
    | [_], _, _ => simp at ht
    | _ :: _ :: _, [], hp => exact hp.elim
    | _ :: _ :: _, [_], hp => exact hp.2.elim
    | _ :: _ :: _, y :: x :: r, _ => exact ⟨y, x, r, rfl⟩
  obtain ⟨y, x, r, rfl⟩ := two
  rw [List.length_cons, List.length_cons] at hl6 l64 ⊢
  rw [if_pos (show (1 : Int32) < _ from (ni_lt (a := 1) (by omega) (by omega)).mpr (by omega)), if_neg (fun q : (64 : Int32) < _ => absurd ((ni_lt (a := 64) (by omega) (by omega)).mp q) (by omega)), am_let, show Int32.ofNat (r.length + 1 + 1) + -1 = Int32.ofNat (r.length + 1 + 1) - 1 from by grind, ni_pred (by omega), show r.length + 1 + 1 - 1 = r.length + 1 from rfl, ni_pred (by omega), show r.length + 1 - 1 = r.length from rfl,
    ni_rd (by omega) (by omega), Option.bind_some, ni_rd (by omega) (by omega), Option.bind_some, am_row_eq, show g r.length = x from hr.2.1, show g (r.length + 1) = y from hr.1, show (15 + 5 : Nat) = 20 from rfl, ni_wr (by omega) (by omega), Option.bind_some, C_Law_run_p220, am_let, ni_succ, am_row_up]
  unfold lw_e1; rw [if_neg c0, if_neg c1, if_neg c6, if_neg c47]
  exact ⟨_, rfl, upd_eq, lw_rep_up hr.2.2 (Nat.le_refl _)⟩
theorem lw_len {p : Int32 × Int32} {ts ts' : List Bool} {st : List Int32} (ht : rl_t1 p ts = some ts') (hp : lw_tp ts st) (hl : st.length ≤ 60) : lw_tp ts' (lw_e1 V p st) ∧ (lw_e1 V p st).length ≤ 60 := by
  have hll := lw_tp_len hp
  unfold rl_t1 at ht
  unfold lw_e1
  by_cases c0 : p.1 = 1000
  · rw [if_pos (.inl c0)] at ht
    by_cases l : ts.length < 60
    · rw [if_pos l] at ht
      cases ht
      rw [if_pos c0]
      exact ⟨⟨fun g => Bool.noConfusion g, hp⟩, by rw [List.length_cons]; omega⟩
    · rw [if_neg l] at ht; cases ht
  by_cases c1 : 7 ≤ p.1 ∧ p.1 ≤ 16
  · rw [if_pos (.inr c1)] at ht
    by_cases l : ts.length < 60
    · rw [if_pos l] at ht
      cases ht
      rw [if_neg c0, if_pos c1]
      exact ⟨⟨fun g => Bool.noConfusion g, hp⟩, by rw [List.length_cons]; omega⟩
    · rw [if_neg l] at ht; cases ht
  rw [if_neg (fun g => g.elim c0 c1)] at ht
  rw [if_neg c0, if_neg c1]
  by_cases c6 : p.1 = 6
  · rw [if_pos c6] at ht ⊢
    match ts, st, hp, ht with
    | [], _, _, ht => cases ht
    | false :: _, _, _, ht => cases ht
    | true :: _, [], hp, _ => exact hp.elim
    | true :: r, x :: st, hp, ht =>
      cases ht
      refine ⟨⟨fun _ => ?_, hp.2⟩, by simpa using hl⟩
      rcases hp.1 rfl with rfl | rfl
      · exact .inr (by decide)
      · exact .inl (by decide)
  rw [if_neg c6] at ht ⊢
  by_cases c47 : p.1 = 47
  · rw [if_pos c47] at ht ⊢
    match ts, st, hp, ht with
    | [], _, _, ht => cases ht
    | true :: _, _, _, ht => cases ht
    | false :: _, [], hp, _ => exact hp.elim
    | false :: r, x :: st, hp, ht =>
      by_cases z : p.2 = 0
      · simp [z] at ht
      · simp only [z, if_false] at ht
        cases ht
        exact ⟨⟨fun g => Bool.noConfusion g, hp.2⟩, by simpa using hl⟩
  rw [if_neg c47] at ht ⊢
  match ts, st, hp, ht with
  | [], _, _, ht => simp at ht
  | [_], _, _, ht => simp at ht
  | _ :: _ :: _, [], hp, _ => exact hp.elim
  | _ :: _ :: _, [_], hp, _ => exact hp.2.elim
  | t1 :: t2 :: ts, y :: x :: r, hp, ht =>
    refine ⟨?_, by simp at hl ⊢; omega⟩
    by_cases ca : p.1 = 43 ∨ p.1 = 45 ∨ p.1 = 42
    · rw [if_pos ca] at ht
      cases t1 <;> cases t2 <;> simp at ht
      subst ht
      exact ⟨fun g => Bool.noConfusion g, hp.2.2⟩
    rw [if_neg ca] at ht
    by_cases cb : p.1 = 60 ∨ p.1 = 61 ∨ p.1 = 62
    · rw [if_pos cb] at ht
      cases t1 <;> cases t2 <;> simp at ht
      subst ht
      refine ⟨fun _ => ?_, hp.2.2⟩
      rcases cb with cb | cb | cb <;> simp only [C_Law_joined, cb] <;> simp <;> grind
    rw [if_neg cb] at ht
    by_cases cc : p.1 = 5 ∨ p.1 = 4
    · rw [if_pos cc] at ht
      cases t1 <;> cases t2 <;> simp at ht
      subst ht
      refine ⟨fun _ => ?_, hp.2.2⟩
      have hy := hp.1 rfl
      have hx := hp.2.1 rfl
      rcases cc with cc | cc <;> rcases hx with rfl | rfl <;> rcases hy with rfl | rfl <;> simp only [C_Law_joined, cc] <;> decide
    · rw [if_neg cc] at ht; cases ht
theorem lw_listC (w : σ 18 0 = 2) (ek : σ 18 2 = Int32.ofNat k) (hk : k ≤ 400)
    (hV : ∀ g w, C_Front_value a1 w (Int32.ofNat o) xb (am_row σ 20 g) = some (V w)) {e : Nat} (hek : e ≤ k) :
    ∀ (L : List (Int32 × Int32)) (s n : Nat) (g : Nat → Int32) (st : List Int32) (ts ts' : List Bool), rl_sl (σ 19) s L → s + L.length ≤ e → rl_ty L ts = some ts' → lw_tp ts st → lw_rep g st → st.length ≤ 60 →
    ∃ g', C_Law_run_l7 F (n + L.length) 15 a1 (Int32.ofNat o) xb (Int32.ofNat e) (Int32.ofNat st.length) (Int32.ofNat s) (am_row σ 20 g) =
      C_Law_run_l7 F n 15 a1 (Int32.ofNat o) xb (Int32.ofNat e) (Int32.ofNat (lw_ev V L st).length) (Int32.ofNat (s + L.length)) (am_row σ 20 g') ∧ lw_rep g' (lw_ev V L st) ∧ lw_tp ts' (lw_ev V L st) ∧ (lw_ev V L st).length ≤ 60 := by
  intro L
  induction L with
  | nil =>
    intro s n g st ts ts' _ _ ht hp hr hl
    cases ht
    exact ⟨g, rfl, hr, hp, hl⟩
  | cons p L ih =>
    intro s n g st ts ts' hs he ht hp hr hl
    rw [List.length_cons] at he
    rw [rl_ty] at ht
    cases h1 : rl_t1 p ts with
    | none => rw [h1] at ht; cases ht
    | some t1 =>
      rw [h1, Option.bind_some] at ht
      have h0 := hs 0 (by rw [List.length_cons]; omega)
      obtain ⟨g1, c1, c2⟩ := lw_stepC (F := F) (n := n + L.length) (p := p) w ek hk (show s < e by omega) hek hV h0.1 h0.2 h1 hp hr hl
      obtain ⟨c3, c4⟩ := lw_len (V := V) h1 hp hl
      obtain ⟨g2, d1, d2, d3, d4⟩ := ih (s + 1) n g1 (lw_e1 V p st) t1 ts' (fun i hi => by
        have := hs (i + 1) (by rw [List.length_cons]; omega)
        rw [show s + (i + 1) = s + 1 + i from by omega] at this
        exact this) (by omega) ht c3 c2 c4
      refine ⟨g2, ?_, d2, d3, d4⟩
      rw [List.length_cons, ← Nat.add_assoc, c1, d1, show s + 1 + L.length = s + (L.length + 1) from by omega]
      rfl
/-- a typed code that leaves one value, in the class -/
theorem lw_runC (hF : 2000 ≤ F) (w : σ 18 0 = 2) (ek : σ 18 2 = Int32.ofNat k) (hk : k ≤ 400)
    (hV : ∀ g w, C_Front_value a1 w (Int32.ofNat o) xb (am_row σ 20 g) = some (V w)) {L : List (Int32 × Int32)} {s : Nat} {t : Bool} (hs : rl_sl (σ 19) s L) (he : s + L.length ≤ k) (ht : rl_ty L [] = some [t]) :
    ∃ v, lw_ev V L [] = [v] ∧ (t = true → v = 0 ∨ v = 1) ∧ ∀ g, ∃ g', C_Law_run F 15 a1 (Int32.ofNat o) xb (Int32.ofNat s) (Int32.ofNat (s + L.length)) (am_row σ 20 g) = some (v, am_row σ 20 g') := by
  have key : ∀ g, ∃ g' v, lw_ev V L [] = [v] ∧ (t = true → v = 0 ∨ v = 1) ∧ C_Law_run F 15 a1 (Int32.ofNat o) xb (Int32.ofNat s) (Int32.ofNat (s + L.length)) (am_row σ 20 g) = some (v, am_row σ 20 g') := by
    intro g
    obtain ⟨n, rfl⟩ : ∃ n, F = n + 1 + L.length := ⟨F - 1 - L.length, by omega⟩
    obtain ⟨g', c1, c2, c3, c4⟩ := lw_listC (F := n + 1 + L.length) (o := o) w ek hk hV he L s (n + 1) g [] [] [t] hs (Nat.le_refl _) ht trivial trivial (by simp)
    match hv : lw_ev V L [], c3 with
    | [v], c3 =>
      rw [hv] at c1 c2
      refine ⟨g', v, rfl, c3.1, ?_⟩
      rw [C_Law_run, show (0 : Int32) = Int32.ofNat ([] : List Int32).length from rfl, c1, C_Law_run_l7, if_neg (Int32.lt_irrefl), if_pos (show (0 : Int32) < Int32.ofNat [v].length from by rw [List.length_singleton]; decide), rd_0 (by decide) (by decide), Option.bind_some, am_row_eq, show g' 0 = v from c2.1]
  obtain ⟨_, v, hv, hb, -⟩ := key (fun _ => 0)
  refine ⟨v, hv, hb, fun g => ?_⟩
  obtain ⟨g', v', hv', -, h⟩ := key g
  rw [hv] at hv'
  cases hv'
  exact ⟨g', h⟩
end
