/-! L3: the lines of the law -/
theorem lh_0 {v : Int32} : C_Law_held 0 v = M_held v 0 20 := by
  unfold C_Law_held C_Law_held_p22 M_held J_max J_min
  rw [if_pos rfl]
  repeat' split
  all_goals first | rfl | grind
theorem lh_1 {v : Int32} : C_Law_held 1 v = M_held v 0 99 := by
  unfold C_Law_held C_Law_held_p22 M_held J_max J_min
  rw [if_neg (by decide), if_pos rfl]
  repeat' split
  all_goals first | rfl | grind
theorem lh_2 {v : Int32} : C_Law_held 2 v = M_held v 0 1000 := by
  unfold C_Law_held C_Law_held_p22 M_held J_max J_min
  rw [if_neg (by decide), if_neg (by decide)]
  repeat' split
  all_goals first | rfl | grind
theorem mh_rg {v B : Int32} (hB : 0 ≤ B) : rl_rg (M_held v 0 B) 0 B := by
  unfold M_held rl_rg
  repeat' split
  all_goals constructor <;> grind
theorem tr_pos {p : Int32 × Int32} : 0 < (rl_tr p).length := by
  unfold rl_tr
  repeat' split
  all_goals simp
theorem tr_nil {B : List (Int32 × Int32)} : (B.flatMap rl_tr).length = 0 ↔ B = [] := by
  cases B with
  | nil => simp
  | cons p L =>
    rw [List.flatMap_cons, List.length_append]
    have := tr_pos (p := p)
    constructor
    · intro h; omega
    · intro h; cases h
section
variable {F : Nat} {σ τ : am_SS} {a1 o : Nat} {xb : Int32} {V : Int32 → Int32}
/-- what the reference does with the line it found -/
def lt_K (F : Nat) (u B : Int32) (q : Int32 × am_SS) : Option (Int32 × am_SS) :=
  if q.1 = (-1) then (
    M_lawTells_p37 F B u q.2)
  else (
    (am_rd q.2 13 48 q.1).bind (fun t_3 =>
    (am_rd q.2 14 48 q.1).bind (fun t_4 =>
    (M_runs F 0 t_3 t_4 q.2).bind (fun q_5 =>
    M_lawTells_p37 F B q_5.1 q_5.2))))
theorem lt_loop {c k : Nat} {wd u B : Int32} (hF : 2000 ≤ F) (hc : c ≤ 16) (hk : k ≤ 400) (w16 : σ 16 0 = 4) (w18 : σ 18 0 = 2) (e16 : σ 16 2 = Int32.ofNat c) (e11 : τ 11 0 = Int32.ofNat c) (e18 : σ 18 2 = Int32.ofNat k)
    (hL : ∀ i, i < c → rl_law1 (σ 17) (σ 19) (τ 12) (τ 13) (τ 14) (τ 15) (τ 16) (τ 17) k i)
    (hV : ∀ g w, C_Front_value a1 w (Int32.ofNat o) xb (am_row σ 20 g) = some (V w)) (hA : ∀ i, i < 10 → τ 22 i = V (Int32.ofNat (7 + i)))
    (hU : ∀ g, C_Law_untold a1 (Int32.ofNat o) xb wd (am_row σ 20 g) = some u) (hH : ∀ v, C_Law_held wd v = M_held v 0 B) :
    ∀ (d j n n' : Nat) (g h : Nat → Int32), j + d = c → d < n → d < n' →
    ∃ v g' h', C_Law_tells_l3 F n 15 a1 (Int32.ofNat o) xb wd (Int32.ofNat j) (am_row σ 20 g) = some (M_held v 0 B, am_row σ 20 g') ∧
      (M_lineOf_l2 F n' wd (Int32.ofNat j) (am_row τ 23 h)).bind (lt_K F u B) = some (M_held v 0 B, am_row τ 23 h') := by
  intro d
  induction d with
  | zero =>
    intro j n n' g h hj hn hn'
    obtain ⟨n, rfl⟩ : ∃ m, n = m + 1 := ⟨n - 1, by omega⟩
    obtain ⟨n', rfl⟩ : ∃ m, n' = m + 1 := ⟨n' - 1, by omega⟩
    refine ⟨u, g, h, ?_, ?_⟩
    · rw [C_Law_tells_l3, show am_row σ 20 g (15 + 1) 2 = Int32.ofNat c from e16, if_neg (fun q => absurd ((ni_lt (by omega) (by omega)).mp q) (by omega)), hU, Option.bind_some, hH]
    · rw [M_lineOf_l2, rd_0 (by decide) (by decide), Option.bind_some, show am_row τ 23 h 11 0 = Int32.ofNat c from e11, if_neg (fun q => absurd ((ni_lt (by omega) (by omega)).mp q) (by omega)), Option.bind_some, lt_K, if_pos rfl, M_lawTells_p37]
  | succ d ih =>
    intro j n n' g h hj hn hn'
    obtain ⟨n, rfl⟩ : ∃ m, n = m + 1 := ⟨n - 1, by omega⟩
    obtain ⟨n', rfl⟩ : ∃ m, n' = m + 1 := ⟨n' - 1, by omega⟩
    have hjc : j < c := by omega
    obtain ⟨s, s', E, Bl, tE, tB, hk1, hk2, hw, l0, l1, l2, l3, f1, f2, f3, c1, c2, m1, m2⟩ := hL j hjc
    have row : ∀ i, i < 4 → C_Table_at (15 + 1) (Int32.ofNat j) (Int32.ofNat i) (am_row σ 20 g) = some (σ 17 (4 * j + i)) := fun i hi => by
      rw [tb_at (w := 4) (r := c) 64 (by rw [am_row_ne (by omega)]; exact e16) (by rw [am_row_ne (by omega)]; exact w16) rfl hjc hi (by omega) (by omega) (by omega) (by omega), am_row_ne (by omega), Nat.mul_comm j 4]
    have row1 := row 1 (by omega)
    have row2 := row 2 (by omega)
    have row3 := row 3 (by omega)
    have row0 := row 0 (by omega)
    have rM : ∀ (h : Nat → Int32) (cc : Nat), cc ≠ 23 → am_rd (am_row τ 23 h) cc 48 (Int32.ofNat j) = some (τ cc j) := fun h cc hcc => by
      rw [ni_rd (by omega) (by omega), am_row_ne hcc]
    rw [show Int32.ofNat 1 = 1 from rfl] at row1
    rw [show Int32.ofNat 2 = 2 from rfl] at row2
    rw [show Int32.ofNat 3 = 3 from rfl] at row3
    rw [show Int32.ofNat 0 = 0 from rfl] at row0
    have cC : C_Law_tells_l3 F (n + 1) 15 a1 (Int32.ofNat o) xb wd (Int32.ofNat j) (am_row σ 20 g) = if τ 12 j = wd then (if Bl = [] then C_Law_tells_p87 F 15 a1 (Int32.ofNat o) xb wd (Int32.ofNat s) (Int32.ofNat (s + E.length)) (am_row σ 20 g) else
        (C_Law_run F 15 a1 (Int32.ofNat o) xb (Int32.ofNat (s + E.length)) (Int32.ofNat (s + E.length + Bl.length)) (am_row σ 20 g)).bind (fun q_10 => if q_10.1 = 0 then C_Law_tells_p104 (C_Law_tells_l3 F n) F 15 a1 (Int32.ofNat o) xb wd (Int32.ofNat j) q_10.2 else C_Law_tells_p87 F 15 a1 (Int32.ofNat o) xb wd (Int32.ofNat s) (Int32.ofNat (s + E.length)) q_10.2))
        else C_Law_tells_p104 (C_Law_tells_l3 F n) F 15 a1 (Int32.ofNat o) xb wd (Int32.ofNat j) (am_row σ 20 g) := by
      rw [C_Law_tells_l3, show am_row σ 20 g (15 + 1) 2 = Int32.ofNat c from e16, if_pos ((ni_lt (by omega) (by omega)).mpr hjc), row1, Option.bind_some, row2, Option.bind_some, row3, Option.bind_some, row0, Option.bind_some, show σ 17 (4 * j + 0) = τ 12 j from l0, l1, l2, l3]
      by_cases qb : Bl = []
      · rw [if_pos qb, if_pos (show Int32.ofNat (s + E.length) = Int32.ofNat (s + E.length + Bl.length) from by rw [qb]; rfl)]
      · rw [if_neg qb, if_neg (show ¬ Int32.ofNat (s + E.length) = Int32.ofNat (s + E.length + Bl.length) from fun q => qb (List.length_eq_zero_iff.mp (by have := (ni_eq (by omega) (by omega)).mp q; omega)))]
    have cM : M_lineOf_l2 F (n' + 1) wd (Int32.ofNat j) (am_row τ 23 h) = if τ 12 j = wd then (if Bl = [] then some (Int32.ofNat j, am_row τ 23 h) else
        (M_runs F 0 (Int32.ofNat (s' + (E.flatMap rl_tr).length)) (Int32.ofNat (s' + (E.flatMap rl_tr).length + (Bl.flatMap rl_tr).length)) (am_row τ 23 h)).bind (fun q_10 => if q_10.1 = 0 then M_lineOf_p59 (M_lineOf_l2 F n') F wd (Int32.ofNat j) q_10.2 else some (Int32.ofNat j, q_10.2)))
        else M_lineOf_p59 (M_lineOf_l2 F n') F wd (Int32.ofNat j) (am_row τ 23 h) := by
      rw [M_lineOf_l2, rd_0 (by decide) (by decide), Option.bind_some, show am_row τ 23 h 11 0 = Int32.ofNat c from e11, if_pos ((ni_lt (by omega) (by omega)).mpr hjc), rM h 12 (by omega), Option.bind_some]
      simp only [rM h 14 (by omega), rM h 15 (by omega), Option.bind_some, f2, f3]
      by_cases qb : Bl = []
      · rw [if_pos qb, if_pos (show Int32.ofNat (s' + (E.flatMap rl_tr).length) = Int32.ofNat (s' + (E.flatMap rl_tr).length + (Bl.flatMap rl_tr).length) from by rw [tr_nil.mpr qb]; rfl)]
      · rw [if_neg qb, if_neg (show ¬ Int32.ofNat (s' + (E.flatMap rl_tr).length) = Int32.ofNat (s' + (E.flatMap rl_tr).length + (Bl.flatMap rl_tr).length) from fun q => qb (tr_nil.mp (by have := (ni_eq (by omega) (by omega)).mp q; omega)))]
    obtain ⟨vE, hvE, -, hrE⟩ := lw_runC (F := F) (xb := xb) (V := V) hF w18 e18 hk hV c1 (by omega) tE
    have found : ∀ g h, ∃ g' h', C_Law_tells_p87 F 15 a1 (Int32.ofNat o) xb wd (Int32.ofNat s) (Int32.ofNat (s + E.length)) (am_row σ 20 g) = some (M_held vE 0 B, am_row σ 20 g') ∧
        lt_K F u B (Int32.ofNat j, am_row τ 23 h) = some (M_held vE 0 B, am_row τ 23 h') := by
      intro g h
      obtain ⟨g', hg'⟩ := hrE g
      obtain ⟨h', hh'⟩ := lm_run (F := F) hF hA m1 (by omega) tE hvE h
      refine ⟨g', h', ?_, ?_⟩
      · rw [C_Law_tells_p87, hg', Option.bind_some, hH]
      · rw [lt_K, if_neg (ni_m1 (by omega)), rM h 13 (by omega), Option.bind_some, rM h 14 (by omega), Option.bind_some, f1, f2, hh', Option.bind_some, M_lawTells_p37]
    have next : ∀ g h, ∃ v g' h', C_Law_tells_p104 (C_Law_tells_l3 F n) F 15 a1 (Int32.ofNat o) xb wd (Int32.ofNat j) (am_row σ 20 g) = some (M_held v 0 B, am_row σ 20 g') ∧
        (M_lineOf_p59 (M_lineOf_l2 F n') F wd (Int32.ofNat j) (am_row τ 23 h)).bind (lt_K F u B) = some (M_held v 0 B, am_row τ 23 h') := by
      intro g h
      rw [C_Law_tells_p104, M_lineOf_p59, am_let, am_let, ni_succ]
      exact ih (j + 1) n n' g h (by omega) (by omega) (by omega)
    rw [cC, cM]
    by_cases q1 : τ 12 j = wd
    · rw [if_pos q1, if_pos q1]
      by_cases qb : Bl = []
      · rw [if_pos qb, if_pos qb, Option.bind_some]
        obtain ⟨g', h', x1, x2⟩ := found g h
        exact ⟨vE, g', h', x1, x2⟩
      · rw [if_neg qb, if_neg qb]
        obtain ⟨vB, hvB, -, hrB⟩ := lw_runC (F := F) (xb := xb) (V := V) hF w18 e18 hk hV c2 (by omega) (tB.resolve_left qb)
        obtain ⟨g1, hg1⟩ := hrB g
        obtain ⟨h1, hh1⟩ := lm_run (F := F) hF hA m2 (by omega) (tB.resolve_left qb) hvB h
        rw [hg1, hh1, Option.bind_some, Option.bind_some]
        by_cases qv : vB = 0
        · rw [if_pos qv, if_pos qv]
          exact next g1 h1
        · rw [if_neg qv, if_neg qv, Option.bind_some]
          obtain ⟨g', h', x1, x2⟩ := found g1 h1
          exact ⟨vE, g', h', x1, x2⟩
    · rw [if_neg q1, if_neg q1]
      exact next g h
end
section
variable {F : Nat} {σ τ : am_SS} {a n m o : Nat}
/-- the class asks the law, and so does the reference -/
theorem as_all (hF : 2000 ≤ F) (ha : a + 10 < 20 ∨ 20 < a) (h : rl_Fr σ a τ n m) (hT : rl_To σ τ n m) (ho : o < n) :
    (∃ v g A h', C_War_asks F 1 a (Int32.ofNat o) 0 σ = some (v, am_row σ 20 g) ∧ M_pressesOf F (Int32.ofNat o) τ = some (v, am_row (am_row τ 22 A) 23 h') ∧ rl_rg v 0 20) ∧
    (∃ v g A h', C_War_asks F 1 a (Int32.ofNat o) 1 σ = some (v, am_row σ 20 g) ∧ M_restsOf F (Int32.ofNat o) τ = some (v, am_row (am_row τ 22 A) 23 h') ∧ rl_rg v 0 99) ∧
    (∃ v g A h', C_War_asks F 1 a (Int32.ofNat o) 2 σ = some (v, am_row σ 20 g) ∧ M_readsOf F (Int32.ofNat o) τ = some (v, am_row (am_row τ 22 A) 23 h') ∧ rl_rg v 0 1000) := by
  obtain ⟨w16, w18, -, w23, -, -, hSV, -, c, k, hc, hk, e16, e11, e18, hL⟩ := hT
  have hn : n ≤ 12 := h.2.2.2.1
  have ho' : o < 12 := by omega
  have hb := sv_batman hF w23 hSV ho'
  have hs : τ 20 o = 0 ∨ ∃ b, b < m ∧ τ 20 o = Int32.ofNat (b + 1) := by
    obtain ⟨_, _, _, _, e⟩ := hSV; exact (e o ho').2
  obtain ⟨A, hA1, hA2⟩ := as_M h ho hs
  have hV := fun g w => as_val (xb := τ 20 o - 1) ha h ho g w
  have e11' : am_row τ 22 A 11 0 = Int32.ofNat c := by rw [am_row_ne (by omega)]; exact e11
  have hL' : ∀ i, i < c → rl_law1 (σ 17) (σ 19) (am_row τ 22 A 12) (am_row τ 22 A 13) (am_row τ 22 A 14) (am_row τ 22 A 15) (am_row τ 22 A 16) (am_row τ 22 A 17) k i := by
    intro i hi
    simpa [am_row_ne] using hL i hi
  have hA3 : ∀ i, i < 10 → am_row τ 22 A 22 i = lw_V σ a o (τ 20 o - 1) (Int32.ofNat (7 + i)) := fun i hi => by rw [am_row_eq]; exact hA2 i hi
  have fin : ∀ (wd u B : Int32), (∀ g, C_Law_untold a (Int32.ofNat o) (τ 20 o - 1) wd (am_row σ 20 g) = some u) → (∀ v, C_Law_held wd v = M_held v 0 B) →
      ∃ v g' h', C_War_asks F 1 a (Int32.ofNat o) wd σ = some (M_held v 0 B, am_row σ 20 g') ∧ M_lawTells F wd u B (am_row τ 22 A) = some (M_held v 0 B, am_row (am_row τ 22 A) 23 h') := by
    intro wd u B hU hH
    obtain ⟨v, g', h', x1, x2⟩ := lt_loop (F := F) (τ := am_row τ 22 A) hF hc hk w16 w18 e16 e11' e18 hL' hV hA3 hU hH c 0 F F (σ 20) (am_row τ 22 A 23) (by omega) (by omega) (by omega)
    rw [am_row_id, show Int32.ofNat 0 = 0 from rfl] at x1
    rw [am_row_id, show Int32.ofNat 0 = 0 from rfl] at x2
    refine ⟨v, g', h', ?_, ?_⟩
    · rw [C_War_asks, hb, Option.bind_some, C_Law_tells, x1, Option.bind_some]
    · exact x2
  have r0 : am_rd (am_row τ 22 A) 22 10 0 = some (lw_V σ a o (τ 20 o - 1) 7) := by rw [rd_0 (by decide) (by decide)]; exact congrArg some (hA3 0 (by omega))
  have r4 : am_rd (am_row τ 22 A) 22 10 4 = some (lw_V σ a o (τ 20 o - 1) 11) := by rw [rd_4 (by decide) (by decide)]; exact congrArg some (hA3 4 (by omega))
  have r5 : am_rd (am_row τ 22 A) 22 10 5 = some (lw_V σ a o (τ 20 o - 1) 12) := (am_rd_lit (σ := am_row τ 22 A) (a := 22) (n := 10) (x := 5) 5 rfl (by decide) (by decide)).trans (congrArg some (hA3 5 (by omega)))
  refine ⟨?_, ?_, ?_⟩
  · obtain ⟨v, g', h', x1, x2⟩ := fin 0 (lw_V σ a o (τ 20 o - 1) 7) 20 (fun g => by rw [C_Law_untold, hV, Option.bind_some, if_pos rfl, hV, Option.bind_some]) (fun v => lh_0)
    refine ⟨_, g', A, h', x1, ?_, mh_rg (by decide)⟩
    rw [M_pressesOf, hA1, Option.bind_some, r0, Option.bind_some, x2, Option.bind_some]
  · obtain ⟨v, g', h', x1, x2⟩ := fin 1 (10 + 5 * lw_V σ a o (τ 20 o - 1) 11) 99 (fun g => by rw [C_Law_untold, hV, Option.bind_some, if_neg (by decide), if_pos rfl]) (fun v => lh_1)
    refine ⟨_, g', A, h', x1, ?_, mh_rg (by decide)⟩
    rw [M_restsOf, hA1, Option.bind_some, r4, Option.bind_some, x2, Option.bind_some]
  · obtain ⟨v, g', h', x1, x2⟩ := fin 2 (40 * lw_V σ a o (τ 20 o - 1) 11 + lw_V σ a o (τ 20 o - 1) 12) 1000 (fun g => by rw [C_Law_untold, hV, Option.bind_some, if_neg (by decide), if_neg (by decide), hV, Option.bind_some]) (fun v => lh_2)
    refine ⟨_, g', A, h', x1, ?_, mh_rg (by decide)⟩
    rw [M_readsOf, hA1, Option.bind_some, r4, Option.bind_some, r5, Option.bind_some, x2, Option.bind_some]
end
