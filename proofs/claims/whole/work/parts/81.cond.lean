/-! conditions: what waits in the reference -/
def tx_H (τ τ' : am_SS) : Prop := ∀ a j, ¬ ((a = 0 ∧ ((15 ≤ j ∧ j ≤ 18) ∨ (28 ≤ j ∧ j ≤ 33))) ∨ (a = 16 ∧ 800 ≤ j) ∨ (a = 17 ∧ 800 ≤ j) ∨ a = 18) → τ' a j = τ a j
theorem tx_Ht {τ τ' τ'' : am_SS} (h : tx_H τ τ') (h' : tx_H τ' τ'') : tx_H τ τ'' := fun a j q => (h' a j q).trans (h a j q)
theorem tx_HG {τ τ' : am_SS} (h : tx_G τ τ') : tx_H τ τ' := fun a j q => h a j (by omega)
theorem tx_H0 {τ : am_SS} : tx_H τ τ := fun _ _ _ => rfl
def tx_P (τ : am_SS) (P : List Int32) (o : Nat) : Prop := τ 0 31 = Int32.ofNat P.length ∧ (∀ k, k < P.length → τ 18 k = P.getD k 0) ∧ τ 0 29 = Int32.ofNat o
theorem tx_PG {τ τ' : am_SS} {P : List Int32} {o : Nat} (h : tx_P τ P o) (g : tx_G τ τ') : tx_P τ' P o := by
  obtain ⟨h1, h2, h3⟩ := h
  exact ⟨by rw [g 0 31 (by omega)]; exact h1, fun k hk => by rw [g 18 k (by omega)]; exact h2 k hk, by rw [g 0 29 (by omega)]; exact h3⟩
/-- slots of the reference that no token and no code lies in -/
theorem tx_low {ch : Nat → Int32} {c : Nat} {τ τ' : am_SS} {l : tx_l} {L : tx_c} (hT : tk_T ch c τ) (hM : tk_M ch c τ l) (hL : tx_LM τ L) (h : ∀ a j, ¬ ((a = 0 ∧ (j = 29 ∨ j = 31)) ∨ a = 18) → τ' a j = τ a j) : tk_T ch c τ' ∧ tk_M ch c τ' l ∧ tx_LM τ' L := by
  obtain ⟨k0, k1, k2, k3⟩ := hT
  obtain ⟨s, m1, m2, m3, m4⟩ := hM
  obtain ⟨l1, l2⟩ := hL
  have e : ∀ a, a = 16 ∨ a = 17 → τ' a = τ a := fun a ha => funext (fun j => h a j (by omega))
  refine ⟨⟨k0, by rw [h 0 14 (by omega)]; exact k1, fun k hk => by rw [h 9 k (by omega)]; exact k2 k hk, fun k hk => by rw [h 10 _ (by omega)]; exact k3 k hk⟩, ⟨s, m1, by rw [h 0 15 (by omega)]; exact m2, m3, by rw [h 0 16 (by omega), h 0 17 (by omega), h 0 18 (by omega)]; exact m4⟩, by rw [h 0 28 (by omega)]; exact l1, by rw [e 16 (.inl rfl), e 17 (.inr rfl)]; exact l2⟩
theorem tx_lowH {τ τ' : am_SS} (h : ∀ a j, ¬ ((a = 0 ∧ (j = 29 ∨ j = 31)) ∨ a = 18) → τ' a j = τ a j) : tx_H τ τ' := fun a j q => h a j (by omega)
theorem tx_waits {τ : am_SS} {P : List Int32} {o : Nat} (w : Int32) (h : tx_P τ P o) (hP : P.length < 40) : ∃ τ', M_waits w τ = some τ' ∧ tx_P τ' (P ++ [w]) o ∧ ∀ a j, ¬ ((a = 0 ∧ (j = 29 ∨ j = 31)) ∨ a = 18) → τ' a j = τ a j := by
  obtain ⟨h1, h2, h3⟩ := h
  refine ⟨am_up (am_up τ 18 P.length w) 0 31 (Int32.ofNat (P.length + 1)), ?_, ⟨?_, fun k hk => ?_, ?_⟩, fun a j q => ?_⟩
  · rw [M_waits, h1, ni_wr (by omega) (by omega), Option.bind_some, am_let, am_up_ne (by omega), h1, ni_succ]
  · simp [am_up]
  · rw [List.length_append, List.length_singleton] at hk
    by_cases q : k < P.length
    · rw [List.getD_eq_getElem?_getD, List.getElem?_append_left q, ← List.getD_eq_getElem?_getD, ← h2 k q]
      simp only [am_up]; rw [if_neg (by omega), if_neg (by omega)]
    · have e : k = P.length := by omega
      subst e
      simp [am_up, List.getD]
  · simpa [am_up] using h3
  · simp only [am_up]; rw [if_neg (by omega), if_neg (by omega)]
def tx_top (P : List Int32) (w : Int32) : Prop := ∀ k, P.length = k + 1 → P.getD k 0 ≠ w
theorem tx_topE (w : Int32) : tx_top [] w := fun k h => by simp at h
theorem tx_topA {P : List Int32} {v w : Int32} (h : v ≠ w) : tx_top (P ++ [v]) w := fun k hk => by
  rw [List.length_append, List.length_singleton] at hk
  have e : k = P.length := by omega
  subst e
  simpa [List.getD] using h
theorem tx_set0 {F g : Nat} {τ : am_SS} {P : List Int32} {o : Nat} {w : Int32} (h : tx_P τ P o) (ht : tx_top P w) (hP : P.length ≤ 40) (hg : 0 < g) : M_settles_l0 F g w τ = some τ := by
  obtain ⟨h1, h2, h3⟩ := h
  obtain ⟨g, rfl⟩ : ∃ z, g = z + 1 := ⟨g - 1, by omega⟩
  rw [M_settles_l0, h1]
  by_cases q : 0 < P.length
  · rw [if_pos (show (0 : Int32) < _ from (ni_lt (a := 0) (by omega) (by omega)).mpr q), ni_pred q, ni_rd (by omega) (by omega), Option.bind_some, h2 _ (by omega), if_neg (ht (P.length - 1) (by omega))]
  · rw [if_neg (fun g : (0 : Int32) < _ => q ((ni_lt (a := 0) (by omega) (by omega)).mp g))]
theorem tx_rep (j : Nat) (w : Int32) (P : List Int32) : P ++ List.replicate (j + 1) w = (P ++ List.replicate j w) ++ [w] := by
  rw [List.append_assoc, ← List.replicate_succ']
theorem tx_settle {F c : Nat} {ch : Nat → Int32} {w : Int32} {P : List Int32} {l : tx_l} (ht : tx_top P w) : ∀ (j g o : Nat) (τ : am_SS) (L : tx_c), j < g → P.length + j ≤ 40 → (w = 9 → j ≤ o) → L.length + j ≤ 400 → o ≤ 40 → tx_P τ (P ++ List.replicate j w) o → tx_LM τ L → tk_T ch c τ → tk_M ch c τ l →
    ∃ τ', M_settles_l0 F g w τ = some τ' ∧ tx_P τ' P (if w = 9 then o - j else o) ∧ tx_LM τ' (L ++ List.replicate j (w, 0)) ∧ tk_T ch c τ' ∧ tk_M ch c τ' l ∧ tx_H τ τ' := by
  intro j
  induction j with
  | zero =>
    intro g o τ L hg hP ho hL ho4 h hM hT hk
    rw [List.replicate_zero, List.append_nil] at h
    refine ⟨τ, tx_set0 h ht (by omega) hg, ?_, by rw [List.replicate_zero, List.append_nil]; exact hM, hT, hk, tx_H0⟩
    by_cases q : w = 9
    · rw [if_pos q]; exact h
    · rw [if_neg q]; exact h
  | succ j ih =>
    intro g o τ L hg hP ho hL ho4 h hM hT hk
    obtain ⟨g, rfl⟩ : ∃ z, g = z + 1 := ⟨g - 1, by omega⟩
    rw [tx_rep] at h
    obtain ⟨h1, h2, h3⟩ := h
    have ln : (P ++ List.replicate j w).length = P.length + j := by rw [List.length_append, List.length_replicate]
    rw [List.length_append, List.length_singleton, ln] at h1 h2
    have top : τ 18 (P.length + j) = w := by
      rw [h2 _ (by omega), List.getD_eq_getElem?_getD, ← ln, List.getElem?_concat_length]; rfl
    -- one less waits
    have low1 : ∀ a k, ¬ ((a = 0 ∧ (k = 29 ∨ k = 31)) ∨ a = 18) → am_up τ 0 31 (Int32.ofNat (P.length + j)) a k = τ a k := fun a k q => by
      simp only [am_up]; rw [if_neg (by omega)]
    obtain ⟨t1, t2, t3⟩ := tx_low hT hk hM low1
    have p1 : tx_P (am_up τ 0 31 (Int32.ofNat (P.length + j))) (P ++ List.replicate j w) o := by
      refine ⟨by rw [ln]; simp [am_up], fun k hk => ?_, by simpa [am_up] using h3⟩
      rw [ln] at hk
      rw [am_up_ne (by omega), h2 k (by omega), List.getD_eq_getElem?_getD, List.getElem?_append_left (by rw [ln]; exact hk), ← List.getD_eq_getElem?_getD]
    obtain ⟨τ2, e1, e2, e3, e4, e5, e6⟩ := tx_emit (x := w) (y := 0) t3 (by omega) t1 t2
    have p2 := tx_PG p1 e3
    have step : M_settles_l0 F (g + 1) w τ = if w = 9 then M_settles_l0 F g w (am_up τ2 0 29 ((τ2 0 29) - 1)) else M_settles_l0 F g w τ2 := by
      rw [M_settles_l0, h1, if_pos (show (0 : Int32) < _ from (ni_lt (a := 0) (by omega) (by omega)).mpr (by omega)), ni_pred (by omega), ni_rd (by omega) (by omega), Option.bind_some, show P.length + j + 1 - 1 = P.length + j by omega, top, if_pos rfl, am_let, e1, Option.bind_some]
      simp only [am_let]
    have rep : L ++ [(w, (0 : Int32))] ++ List.replicate j (w, 0) = L ++ List.replicate (j + 1) (w, 0) := by
      rw [List.append_assoc, List.replicate_succ]; rfl
    by_cases q : w = 9
    · have low2 : ∀ a k, ¬ ((a = 0 ∧ (k = 29 ∨ k = 31)) ∨ a = 18) → am_up τ2 0 29 ((τ2 0 29) - 1) a k = τ2 a k := fun a k q => by
        simp only [am_up]; rw [if_neg (by omega)]
      obtain ⟨u1, u2, u3⟩ := tx_low e4 e5 e2 low2
      have p3 : tx_P (am_up τ2 0 29 ((τ2 0 29) - 1)) (P ++ List.replicate j w) (o - 1) := by
        obtain ⟨v1, v2, v3⟩ := p2
        refine ⟨by simpa [am_up] using v1, fun k hk => by rw [am_up_ne (by omega)]; exact v2 k hk, ?_⟩
        have := ho q
        rw [v3, ni_pred (by omega)]; simp [am_up]
      obtain ⟨τ3, f1, f2, f3, f4, f5, f6⟩ := ih g (o - 1) _ (L ++ [(w, 0)]) (by omega) (by omega) (fun _ => by have := ho q; omega) (by rw [List.length_append, List.length_singleton]; omega) (by omega) p3 u3 u1 u2
      refine ⟨τ3, by rw [step, if_pos q, f1], ?_, by rw [← rep]; exact f3, f4, f5, tx_Ht (tx_Ht (tx_Ht (tx_lowH low1) (tx_HG e3)) (tx_lowH low2)) f6⟩
      rw [if_pos q] at f2 ⊢
      rw [show o - (j + 1) = o - 1 - j by omega]; exact f2
    · obtain ⟨τ3, f1, f2, f3, f4, f5, f6⟩ := ih g o _ (L ++ [(w, 0)]) (by omega) (by omega) (fun e => absurd e q) (by rw [List.length_append, List.length_singleton]; omega) ho4 p2 e2 e4 e5
      refine ⟨τ3, by rw [step, if_neg q, f1], ?_, by rw [← rep]; exact f3, f4, f5, tx_Ht (tx_Ht (tx_lowH low1) (tx_HG e3)) f6⟩
      rw [if_neg q] at f2 ⊢
      exact f2
/-- a bracket or a not begins -/
theorem tx_open {F c o : Nat} {ch : Nat → Int32} {σ τ : am_SS} {x : Nat × Int32 × Int32} {l : tx_l} {L : tx_c} {P : List Int32} {rec9 : Int32 → Bool → am_SS → Option (Int32 × am_SS)} {x1 : Int32} {x2 : Bool} (x3 : Bool) (hF : 2000 ≤ F) (hJ : tx_J ch c σ τ (x :: l)) (hM : tx_LM τ L) (hP : tx_P τ P o) (ho : o < 8) (hp : P.length < 40) :
    ∃ τ', M_readAny_p33 rec9 F x1 x2 x3 τ = rec9 (if x3 = true then x1 else x1 + 1) x2 τ' ∧ tx_J ch c (am_up σ 157 5 (σ 157 5 + 1)) τ' l ∧ tx_LM τ' L ∧ tx_P τ' (P ++ [if x3 = true then 9 else 12]) (o + 1) ∧ tx_H τ τ' := by
  obtain ⟨h1, h2, h3⟩ := hJ
  have o8 : ¬ τ 0 29 = 8 := fun q => by rw [hP.2.2] at q; have := (ni_eq (b := 8) (by omega) (by omega)).mp q; omega
  have low1 : ∀ a k, ¬ ((a = 0 ∧ (k = 29 ∨ k = 31)) ∨ a = 18) → am_up τ 0 29 ((τ 0 29) + 1) a k = τ a k := fun a k q => by
    simp only [am_up]; rw [if_neg (by omega)]
  obtain ⟨t1, t2, t3⟩ := tx_low h1 h3 hM low1
  have p1 : tx_P (am_up τ 0 29 ((τ 0 29) + 1)) P (o + 1) := by
    obtain ⟨v1, v2, v3⟩ := hP
    exact ⟨by simpa [am_up] using v1, fun k hk => by rw [am_up_ne (by omega)]; exact v2 k hk, by rw [v3, ni_succ]; simp [am_up]⟩
  obtain ⟨τ2, a1, a2, a3⟩ := tx_waits (if x3 = true then 9 else 12) p1 hp
  obtain ⟨u1, u2, u3⟩ := tx_low t1 t2 t3 a3
  obtain ⟨τ3, b1, b2, b3⟩ := tx_step (F := F) hF (show tx_J ch c σ τ2 (x :: l) from ⟨u1, h2, u2⟩)
  refine ⟨τ3, ?_, b2, tx_LMD u3 b3, tx_PG a2 (tx_GD b3), tx_Ht (tx_Ht (tx_lowH low1) (tx_lowH a3)) (tx_HG (tx_GD b3))⟩
  rw [M_readAny_p33, if_neg o8, am_let]
  cases x3 with
  | true =>
    simp only [if_true] at a1 ⊢
    rw [M_readAny_p66, if_pos rfl, M_readAny_p78, a1, Option.bind_some, b1, Option.bind_some]
  | false =>
    simp only [Bool.false_eq_true, if_false] at a1 ⊢
    rw [am_let, M_readAny_p66, if_neg (by decide), M_readAny_p78, a1, Option.bind_some, b1, Option.bind_some]
/-! one comparison, and a whole condition -/
def tx_no (F : Nat) (g b : Nat) (σ' τ : am_SS) : Prop := (∃ n, n ≤ 400 ∧ σ' 165 2 = Int32.ofNat n) ∧ ∃ τ', M_readAny_l9 F g (Int32.ofNat b) true τ = some (-1, τ') ∧ tx_bad σ' τ' ∧ tx_H τ τ'
def tx_cmpS (F : Nat) (ch : Nat → Int32) (c n : Nat) : Prop := ∀ (o j s g b : Nat) (σ τ : am_SS) (l : tx_l) (L : tx_c) (P : List Int32), o ≤ 8 → j ≤ o → 2 * (8 - o) + 1 ≤ n → tx_top P 9 → P.length + j ≤ 3 * o + 2 → b ≤ o →
  tx_X ch c σ τ l L (s + j) → tx_P τ (P ++ List.replicate j 9) o → l.length < g →
  ∃ b' σ', (C_Reader_cc F n).1 157 (Int32.ofNat o) σ = some (b', σ') ∧ tx_F σ σ' ∧
    ((b' = false ∧ tx_no F g b σ' τ) ∨
     (b' = true ∧ ∃ l' E τ' g', l'.length < g' ∧ l'.length + 1 ≤ l.length ∧ M_readAny_l9 F g (Int32.ofNat b) true τ = M_readAny_l9 F g' (Int32.ofNat b) false τ' ∧
       tx_J ch c σ' τ' l' ∧ tx_LC σ' (L ++ E) ∧ tx_LM τ' ((L ++ (E ++ List.replicate j (6, 0))).flatMap rl_tr) ∧ ((L ++ E).flatMap rl_tr).length + j + l'.length + s ≤ 400 ∧ tx_P τ' P (o - j) ∧ tx_H τ τ' ∧
       ∀ st : List Bool, st.length + 2 * (8 - o) ≤ 30 → rl_ty E st = some (true :: st)))
/-- the reference behind a whole condition -/
def tx_tail (F n : Nat) (x1 : Int32) (τ : am_SS) : Option (Int32 × am_SS) :=
  if x1 = 0 then some (0, τ)
  else if (M_isSign 41 τ) = true then
    am_let (am_up τ 0 31 ((τ 0 31) - 1)) (fun σ_11 =>
    am_let (x1 - 1) (fun x1_12 =>
    am_let (am_up σ_11 0 29 ((σ_11 0 29) - 1)) (fun σ_13 =>
    (M_settles F 9 σ_13).bind (fun q_14 =>
    (M_reads F q_14).bind (fun q_15 =>
    (M_readAny_l9 F n) x1_12 false q_15)))))
  else am_let (M_errs 1 τ) (fun q_16 => some (q_16.1, q_16.2))
def tx_cndS (F : Nat) (ch : Nat → Int32) (c n : Nat) : Prop := ∀ (o s g b : Nat) (σ τ : am_SS) (l : tx_l) (L : tx_c) (P : List Int32), o ≤ 8 → 2 * (8 - o) + 2 ≤ n → (P = [] ∨ ∃ P', P = P' ++ [12]) → P.length ≤ 3 * o → b ≤ o →
  tx_X ch c σ τ l L s → tx_P τ P o → l.length < g →
  ∃ b' σ', (C_Reader_cc F n).2 157 (Int32.ofNat o) σ = some (b', σ') ∧ tx_F σ σ' ∧
    ((b' = false ∧ tx_no F g b σ' τ) ∨
     (b' = true ∧ ∃ l' E τ' g', l'.length < g' + 1 ∧ l'.length + 1 ≤ l.length ∧ M_readAny_l9 F g (Int32.ofNat b) true τ = tx_tail F g' (Int32.ofNat b) τ' ∧
       tx_X ch c σ' τ' l' (L ++ E) s ∧ tx_P τ' P o ∧ tx_H τ τ' ∧ ∀ st : List Bool, st.length + 2 * (8 - o) ≤ 28 → rl_ty E st = some (true :: st)))
theorem tx_rtr (j : Nat) : (List.replicate j ((6 : Int32), (0 : Int32))).flatMap rl_tr = List.replicate j (9, 0) := by
  induction j with
  | zero => rfl
  | succ j ih => rw [List.replicate_succ, List.flatMap_cons, ih, List.replicate_succ]; rfl
theorem tx_FLC {σ σ' : am_SS} {L : tx_c} (h : tx_LC σ L) (f : tx_F σ σ') : σ' 165 0 = Int32.ofNat 2 := by rw [f 165 0 (by omega)]; exact h.1
/-- E < E -/
theorem tx_cmpE {F c o j s g b : Nat} {ch : Nat → Int32} {σ τ : am_SS} {l : tx_l} {L : tx_c} {P : List Int32} {R1 R2 : Nat → Int32 → am_SS → Option (Bool × am_SS)} (hF : 2000 ≤ F) (ho : o ≤ 8) (hj : j ≤ o) (ht : tx_top P 9) (hp : P.length + j ≤ 3 * o + 2)
    (hX : tx_X ch c σ τ l L (s + j)) (hP : tx_P τ (P ++ List.replicate j 9) o) (hg : l.length < g + 1) (c6 : C_Reader_isWord 157 6 σ = some false) (m6 : M_isWord 6 τ = false) (c40 : C_Reader_isSign 157 40 σ = some false) (m40 : M_isSign 40 τ = false) :
  ∃ b' σ', C_Reader_comparison_o R1 R2 F 157 (Int32.ofNat o) σ = some (b', σ') ∧ tx_F σ σ' ∧
    ((b' = false ∧ tx_no F (g + 1) b σ' τ) ∨
     (b' = true ∧ ∃ l' E τ' g', l'.length < g' ∧ l'.length + 1 ≤ l.length ∧ M_readAny_l9 F (g + 1) (Int32.ofNat b) true τ = M_readAny_l9 F g' (Int32.ofNat b) false τ' ∧
       tx_J ch c σ' τ' l' ∧ tx_LC σ' (L ++ E) ∧ tx_LM τ' ((L ++ (E ++ List.replicate j (6, 0))).flatMap rl_tr) ∧ ((L ++ E).flatMap rl_tr).length + j + l'.length + s ≤ 400 ∧ tx_P τ' P (o - j) ∧ tx_H τ τ' ∧
       ∀ st : List Bool, st.length + 2 * (8 - o) ≤ 30 → rl_ty E st = some (true :: st))) := by
  have hL0 := hX.2.1
  have mA : M_readAny_l9 F (g + 1) (Int32.ofNat b) true τ = (M_readCompared F τ).bind (fun q_28 => if q_28.1 = (-1) then some ((-1), q_28.2) else (M_settles F 9 q_28.2).bind (fun q_30 => (M_readAny_l9 F g) (Int32.ofNat b) false q_30)) := by
    rw [M_readAny_l9, if_pos rfl, m6, if_neg (by decide), m40, if_neg (by decide)]
  have cA : C_Reader_comparison_o R1 R2 F 157 (Int32.ofNat o) σ = (C_Reader_sum F 157 σ).bind (fun q_5 =>
      if q_5.1 = true then (
      (C_Reader_isSign 157 60 q_5.2).bind (fun q_7 =>
      if q_7 = true then (
        C_Reader_comparison_o_p147 R1 R2 F 157 q_5.2)
      else (
        (C_Reader_isSign 157 61 q_5.2).bind (fun q_9 =>
        if q_9 = true then (
          C_Reader_comparison_o_p147 R1 R2 F 157 q_5.2)
        else (
          (C_Reader_isSign 157 62 q_5.2).bind (fun q_11 =>
          if q_11 = true then (
            C_Reader_comparison_o_p147 R1 R2 F 157 q_5.2)
          else (
            (C_Reader_fail 157 1 (q_5.2 157 5) q_5.2).bind (fun q_13 =>
            some (q_13.1, q_13.2)))))))))
      else (
      some (false, q_5.2))) := by
    rw [C_Reader_comparison_o, c6, Option.bind_some, if_neg (by decide), c40, Option.bind_some, if_neg (by decide)]
  obtain ⟨b1, σ1, r1, τ1, u1, u2, u3, u4, u5⟩ := tx_sum (F := F) hF hX
  rw [u1, Option.bind_some] at cA
  rcases u5 with ⟨rfl, rfl, u6, u7⟩ | ⟨rfl, rfl, l1, E1, u6, u7, u8⟩
  · refine ⟨false, σ1, by rw [cA, if_neg (by exact Bool.false_ne_true)], u3, .inl ⟨rfl, u7, τ1, ?_, u6, tx_HG u4⟩⟩
    rw [mA, M_readCompared, u2, Option.bind_some, if_pos rfl, Option.bind_some, if_pos rfl]
  rw [if_pos rfl] at cA
  have mB : M_readCompared F τ = if (M_isSign 60 τ1) = true then M_readCompared_p43 F τ1 else if (M_isSign 61 τ1) = true then M_readCompared_p43 F τ1 else if (M_isSign 62 τ1) = true then M_readCompared_p43 F τ1 else some ((M_errs 1 τ1).1, (M_errs 1 τ1).2) := by
    rw [M_readCompared, u2, Option.bind_some, if_neg (by exact tx_01)]; rfl
  have P1 := tx_PG hP u4
  -- behind a sign
  have go : ∀ (x : Nat × Int32 × Int32) (l2 : tx_l) (w w' : Int32), l1 = x :: l2 → rl_tr (w, 0) = [(w', 0)] → (∀ st, rl_t1 (w, 0) (false :: false :: st) = some (true :: st)) → C_Reader_comparison_o R1 R2 F 157 (Int32.ofNat o) σ = (C_Reader_sum F 157 (am_up σ1 157 5 ((σ1 157 5) + 1))).bind (fun q_3 => (C_Table_add F 165 w 0 0 0 q_3.2).bind (fun q_4 => some (q_3.1, q_4.2))) → M_readCompared F τ = M_readCompared_p73 F w' τ1 →
      ∃ b' σ', C_Reader_comparison_o R1 R2 F 157 (Int32.ofNat o) σ = some (b', σ') ∧ tx_F σ σ' ∧
      ((b' = false ∧ tx_no F (g + 1) b σ' τ) ∨
     (b' = true ∧ ∃ l' E τ' g', l'.length < g' ∧ l'.length + 1 ≤ l.length ∧ M_readAny_l9 F (g + 1) (Int32.ofNat b) true τ = M_readAny_l9 F g' (Int32.ofNat b) false τ' ∧
       tx_J ch c σ' τ' l' ∧ tx_LC σ' (L ++ E) ∧ tx_LM τ' ((L ++ (E ++ List.replicate j (6, 0))).flatMap rl_tr) ∧ ((L ++ E).flatMap rl_tr).length + j + l'.length + s ≤ 400 ∧ tx_P τ' P (o - j) ∧ tx_H τ τ' ∧
       ∀ st : List Bool, st.length + 2 * (8 - o) ≤ 30 → rl_ty E st = some (true :: st))) := by
    intro x l2 w w' e wt wy eA eB
    subst e
    obtain ⟨hJ, hC, hM, hl⟩ := u6
    simp only [List.length_cons] at hl u7
    obtain ⟨τ2, s1, s2, s3⟩ := tx_step (F := F) hF hJ
    have hX2 : tx_X ch c (am_up σ1 157 5 (σ1 157 5 + 1)) τ2 l2 (L ++ E1) (s + j + 1) := ⟨s2, tx_LC5 hC, tx_LMD hM s3, by omega⟩
    obtain ⟨b3, σ3, r3, τ3, v1, v2, v3, v4, v5⟩ := tx_sum (F := F) hF hX2
    rcases v5 with ⟨rfl, rfl, v6, n, v7, v8⟩ | ⟨rfl, rfl, l3, E2, v6, v7, v8⟩
    · have h0 := tx_FLC hL0 (tx_Ft (tx_Ft u3 tx_up5) v3)
      obtain ⟨r4, σ4, n4, a1, a2, a3, a4, a5, a6⟩ := tx_addF (F := F) (x := w) hF h0 v8 v7
      refine ⟨false, σ4, ?_, tx_Ft (tx_Ft (tx_Ft u3 tx_up5) v3) a5, .inl ⟨rfl, ⟨n4, a2, a3⟩, τ3, ?_, ?_, tx_HG (tx_Gt (tx_Gt u4 (tx_GD s3)) v4)⟩⟩
      · rw [eA, v1, Option.bind_some, a1, Option.bind_some]
      · rw [mA, eB, M_readCompared_p73, s1, Option.bind_some, v2, Option.bind_some, if_pos rfl, Option.bind_some, if_pos rfl]
      · exact ⟨by rw [a6]; exact v6.1, by rw [a6]; exact v6.2⟩
    · obtain ⟨hJ3, hC3, hM3, hl3⟩ := v6
      obtain ⟨r4, σ4, τ4, a1, a2, a3, a4, a5, a6, a7, a8, a9, a10⟩ := tx_both (F := F) (x := w) (y := 0) (x' := w') (y' := 0) hF hJ3 hC3 hM3 (by omega) wt
      have eL : L ++ E1 ++ E2 ++ [(w, 0)] = L ++ (E1 ++ E2 ++ [(w, 0)]) := by simp only [List.append_assoc]
      rw [eL] at a4 a5 a6
      have P4 : tx_P τ4 (P ++ List.replicate j 9) o := tx_PG (tx_PG (tx_PG P1 (tx_GD s3)) v4) a8
      obtain ⟨τ5, f1, f2, f3, f4, f5, f6⟩ := tx_settle (F := F) (w := 9) ht j F o τ4 _ (by omega) (by omega) (fun _ => hj) (by omega) (by omega) P4 a5 a3.1 a3.2.2
      rw [if_pos rfl] at f2
      refine ⟨true, σ4, ?_, tx_Ft (tx_Ft (tx_Ft u3 tx_up5) v3) a7, .inr ⟨rfl, l3, E1 ++ E2 ++ [(w, 0)], τ5, g, by omega, by omega, ?_, ⟨f4, a3.2.1, f5⟩, a4, ?_, by omega, f2, tx_Ht (tx_HG (tx_Gt (tx_Gt (tx_Gt u4 (tx_GD s3)) v4) a8)) f6, fun st hs => ?_⟩⟩
      · rw [eA, v1, Option.bind_some, a1, Option.bind_some]
      · rw [mA, eB, M_readCompared_p73, s1, Option.bind_some, v2, Option.bind_some, if_neg (by exact tx_01)]
        have : (M_emits w' 0 τ3).bind (fun q_4 => some ((0 : Int32), q_4)) = some (0, τ4) := by rw [a2]; rfl
        show ((M_emits w' 0 τ3).bind (fun q_4 => some ((0 : Int32), q_4))).bind _ = _
        rw [this, Option.bind_some, if_neg (by exact tx_01), M_settles, f1, Option.bind_some]
      · rw [← List.append_assoc, List.flatMap_append, tx_rtr]; exact f3
      · rw [List.append_assoc, tx_app, u8 st (by omega), Option.bind_some, tx_app, v8 (false :: st) (by simp only [List.length_cons]; omega), Option.bind_some, rl_ty, wy]; rfl
  rcases tx_sign (s := 60) u6.1 rfl with ⟨x, l2, e, e1, e2, e3, e4, cc, mm⟩ | ⟨cc, mm⟩
  · refine go x l2 60 6 e rfl (fun st => rfl) ?_ ?_
    · rw [cA, cc, Option.bind_some, if_pos rfl, C_Reader_comparison_o_p147, tx_val (e ▸ u6.1.2.1), Option.bind_some, am_let, e2]
    · rw [mB, mm, if_pos rfl, M_readCompared_p43, if_pos e4]
  rcases tx_sign (s := 61) u6.1 rfl with ⟨x, l2, e, e1, e2, e3, e4, cc1, mm1⟩ | ⟨cc1, mm1⟩
  · refine go x l2 61 7 e rfl (fun st => rfl) ?_ ?_
    · rw [cA, cc, Option.bind_some, if_neg (by decide), cc1, Option.bind_some, if_pos rfl, C_Reader_comparison_o_p147, tx_val (e ▸ u6.1.2.1), Option.bind_some, am_let, e2]
    · rw [mB, mm, if_neg (by decide), mm1, if_pos rfl, M_readCompared_p43, if_neg (by rw [e4]; decide), if_pos e4]
  rcases tx_sign (s := 62) u6.1 rfl with ⟨x, l2, e, e1, e2, e3, e4, cc2, mm2⟩ | ⟨cc2, mm2⟩
  · refine go x l2 62 8 e rfl (fun st => rfl) ?_ ?_
    · rw [cA, cc, Option.bind_some, if_neg (by decide), cc1, Option.bind_some, if_neg (by decide), cc2, Option.bind_some, if_pos rfl, C_Reader_comparison_o_p147, tx_val (e ▸ u6.1.2.1), Option.bind_some, am_let, e2]
    · rw [mB, mm, if_neg (by decide), mm1, if_neg (by decide), mm2, if_pos rfl, M_readCompared_p43, if_neg (by rw [e4]; decide), if_neg (by rw [e4]; decide)]
  · have z := tx_ofail (F := F) (s := 0) (d := 0) (Q := fun _ => True) 1 u6.1 u6.2.1 (by have := tx_trL (L ++ E1); have := u6.2.2.2; omega) (rfl) (rfl : some ((M_errs 1 τ1).1, (M_errs 1 τ1).2) = _)
    obtain ⟨b2, σ2, r2, τ2, z1, z2, z3, z4, z5⟩ := z
    rcases z5 with ⟨rfl, rfl, z6, z7⟩ | ⟨rfl, rfl, _⟩
    · refine ⟨false, σ2, ?_, tx_Ft u3 z3, .inl ⟨rfl, z7, τ2, ?_, z6, tx_HG (tx_Gt u4 z4)⟩⟩
      · rw [cA, cc, Option.bind_some, if_neg (by decide), cc1, Option.bind_some, if_neg (by decide), cc2, Option.bind_some, if_neg (by decide)]; exact z1
      · rw [mA, mB, mm, if_neg (by decide), mm1, if_neg (by decide), mm2, if_neg (by decide), z2, Option.bind_some, if_pos rfl]
    · exact absurd z2 (by intro q; cases q)
def tx_q {α : Type} (x : α) : Bool → List α
  | true => [x]
  | false => []
theorem tx_ql {α : Type} (x : α) (a : Bool) : (tx_q x a).length = a.toNat := by cases a <;> rfl
theorem tx_failJ {F c s : Nat} {ch : Nat → Int32} {σ τ : am_SS} {l : tx_l} {L : tx_c} (k : Int32) (h : tx_X ch c σ τ l L s) : ∃ σ', (C_Reader_fail 157 k (σ 157 5) σ).bind (fun q => some (q.1, q.2)) = some (false, σ') ∧ tx_F σ σ' ∧ (M_errs k τ).1 = -1 ∧ tx_bad σ' (M_errs k τ).2 ∧ tx_H τ (M_errs k τ).2 ∧ ∃ n, n ≤ 400 ∧ σ' 165 2 = Int32.ofNat n := by
  have z := tx_ofail (F := F) (s := 0) (d := 0) (Q := fun _ => True) k h.1 h.2.1 (by have := tx_trL L; have := h.2.2.2; omega) rfl (rfl : some ((M_errs k τ).1, (M_errs k τ).2) = _)
  obtain ⟨b2, σ2, r2, τ2, z1, z2, z3, z4, z5⟩ := z
  rcases z5 with ⟨rfl, rfl, z6, z7⟩ | ⟨rfl, rfl, _⟩
  · have e : (M_errs k τ).2 = τ2 := by injection z2 with z2; injection z2 with _ z2
    exact ⟨σ2, z1, z3, rfl, by rw [e]; exact z6, by rw [e]; exact tx_HG z4, z7⟩
  · exact absurd z2 (by intro q; cases q)
theorem tx_cmp {F c n : Nat} {ch : Nat → Int32} (hF : 2000 ≤ F) (h1 : tx_cmpS F ch c n) (h2 : tx_cndS F ch c n) : tx_cmpS F ch c (n + 1) := by
  intro o j s g b σ τ l L P ho hj hn ht hp hb hX hP hg
  obtain ⟨g, rfl⟩ : ∃ z, g = z + 1 := ⟨g - 1, by omega⟩
  have hL0 := hX.2.1
  have eO : (C_Reader_cc F (n + 1)).1 157 (Int32.ofNat o) σ = C_Reader_comparison_o (C_Reader_cc F n).1 (C_Reader_cc F n).2 F 157 (Int32.ofNat o) σ := rfl
  rw [eO]
  have o8 : ¬ o = 8 → Int32.ofNat o < 8 := fun q => (ni_lt (b := 8) (by omega) (by omega)).mpr (by omega)
  have o9 : o = 8 → ¬ Int32.ofNat o < 8 := fun q g => by have := (ni_lt (b := 8) (by omega) (by omega)).mp g; omega
  have full : ∀ (x3 : Bool), o = 8 → C_Reader_comparison_o (C_Reader_cc F n).1 (C_Reader_cc F n).2 F 157 (Int32.ofNat o) σ = C_Reader_comparison_o_p20 (C_Reader_cc F n).1 (C_Reader_cc F n).2 F 157 (Int32.ofNat o) x3 σ → M_readAny_l9 F (g + 1) (Int32.ofNat b) true τ = M_readAny_p33 (M_readAny_l9 F g) F (Int32.ofNat b) true x3 τ →
      ∃ σ', C_Reader_comparison_o (C_Reader_cc F n).1 (C_Reader_cc F n).2 F 157 (Int32.ofNat o) σ = some (false, σ') ∧ tx_F σ σ' ∧ tx_no F (g + 1) b σ' τ := by
    intro x3 q eA eB
    obtain ⟨σ', a1, a2, a3, a4, a5, a6⟩ := tx_failJ (F := F) 3 hX
    refine ⟨σ', ?_, a2, a6, (M_errs 3 τ).2, ?_, a4, a5⟩
    · rw [eA, C_Reader_comparison_o_p20, if_neg (o9 q)]; exact a1
    · rw [eB, M_readAny_p33, if_pos (by rw [hP.2.2, q]; rfl), am_let, a3]
  rcases tx_word (s := 6) hX.1 (by decide) with ⟨x, l', e, e1, e2, e3, e4, c6, m6⟩ | ⟨c6, m6⟩
  · -- not
    have eA : C_Reader_comparison_o (C_Reader_cc F n).1 (C_Reader_cc F n).2 F 157 (Int32.ofNat o) σ = C_Reader_comparison_o_p20 (C_Reader_cc F n).1 (C_Reader_cc F n).2 F 157 (Int32.ofNat o) true σ := by
      rw [C_Reader_comparison_o, c6, Option.bind_some, if_pos rfl]
    have eB : M_readAny_l9 F (g + 1) (Int32.ofNat b) true τ = M_readAny_p33 (M_readAny_l9 F g) F (Int32.ofNat b) true true τ := by
      rw [M_readAny_l9, if_pos rfl, m6, if_pos rfl]
    by_cases q : o = 8
    · obtain ⟨σ', a1, a2, a3⟩ := full true q eA eB
      exact ⟨false, σ', a1, a2, .inl ⟨rfl, a3⟩⟩
    subst e
    obtain ⟨hJ, hC, hM, hl⟩ := hX
    simp only [List.length_cons] at hl hg
    obtain ⟨τ1, s1, s2, s3, s4, s5⟩ := tx_open (F := F) (rec9 := M_readAny_l9 F g) (x1 := Int32.ofNat b) (x2 := true) true hF hJ hM hP (by omega) (by rw [List.length_append, List.length_replicate]; omega)
    rw [if_pos rfl] at s1 s4
    rw [← tx_rep] at s4
    obtain ⟨b', σ1, u1, u2, u3⟩ := h1 (o + 1) (j + 1) s g b _ τ1 l' L P (by omega) (by omega) (by omega) ht (by omega) (by omega) ⟨s2, tx_LC5 hC, s3, by omega⟩ s4 (by omega)
    have eA' : C_Reader_comparison_o_p20 (C_Reader_cc F n).1 (C_Reader_cc F n).2 F 157 (Int32.ofNat o) true σ = (C_Table_add F 165 6 0 0 0 σ1).bind (fun q_5 => some (b', q_5.2)) := by
      rw [C_Reader_comparison_o_p20, if_pos (o8 q), am_let, if_pos rfl, ni_succ, u1, Option.bind_some]
    rcases u3 with ⟨rfl, ⟨k, k1, k2⟩, τ2, v1, v2, v3⟩ | ⟨rfl, l2, E, τ2, g2, v1, v2, v3, v4, v5, v6, v7, v8, v9, v10⟩
    · obtain ⟨r4, σ4, n4, a1, a2, a3, a4, a5, a6⟩ := tx_addF (F := F) (x := 6) hF (tx_FLC hL0 (tx_Ft tx_up5 u2)) k2 k1
      refine ⟨false, σ4, by rw [eA, eA', a1, Option.bind_some], tx_Ft (tx_Ft tx_up5 u2) a5, .inl ⟨rfl, ⟨n4, a2, a3⟩, τ2, by rw [eB, s1, v1], ⟨by rw [a6]; exact v2.1, by rw [a6]; exact v2.2⟩, tx_Ht s5 v3⟩⟩
    · have tl := tx_trL (L ++ E)
      obtain ⟨r4, σ4, a1, a2, a3, a4, a5⟩ := tx_addC (F := F) (x := 6) (y := 0) hF v5 (by omega) v4.2.1
      have eL : L ++ E ++ [((6 : Int32), (0 : Int32))] = L ++ (E ++ [(6, 0)]) := List.append_assoc _ _ _
      have eM : L ++ (E ++ List.replicate (j + 1) ((6 : Int32), (0 : Int32))) = L ++ (E ++ [(6, 0)] ++ List.replicate j (6, 0)) := by
        rw [List.replicate_succ, List.append_assoc E]; rfl
      rw [eL] at a2
      rw [eM] at v6
      refine ⟨true, σ4, by rw [eA, eA', a1, Option.bind_some], tx_Ft (tx_Ft tx_up5 u2) a3, .inr ⟨rfl, l2, E ++ [(6, 0)], τ2, g2, v1, by simp only [List.length_cons]; omega, by rw [eB, s1, v3], ⟨v4.1, a4, v4.2.2⟩, a2, v6, ?_, ?_, tx_Ht s5 v9, fun st hs => ?_⟩⟩
      · rw [← eL, tx_flt _ (6, 0) (9, 0) rfl, List.length_append, List.length_singleton]; omega
      · rw [show o - j = o + 1 - (j + 1) by omega]; exact v8
      · rw [tx_app, v10 st (by omega), Option.bind_some]; rfl
  rcases tx_sign (s := 40) hX.1 rfl with ⟨x, l', e, e1, e2, e3, e4, c40, m40⟩ | ⟨c40, m40⟩
  · -- a bracket
    have eA : C_Reader_comparison_o (C_Reader_cc F n).1 (C_Reader_cc F n).2 F 157 (Int32.ofNat o) σ = C_Reader_comparison_o_p20 (C_Reader_cc F n).1 (C_Reader_cc F n).2 F 157 (Int32.ofNat o) false σ := by
      rw [C_Reader_comparison_o, c6, Option.bind_some, if_neg (by decide), c40, Option.bind_some, if_pos rfl]
    have eB : M_readAny_l9 F (g + 1) (Int32.ofNat b) true τ = M_readAny_p33 (M_readAny_l9 F g) F (Int32.ofNat b) true false τ := by
      rw [M_readAny_l9, if_pos rfl, m6, if_neg (by decide), m40, if_pos rfl]
    by_cases q : o = 8
    · obtain ⟨σ', a1, a2, a3⟩ := full false q eA eB
      exact ⟨false, σ', a1, a2, .inl ⟨rfl, a3⟩⟩
    subst e
    obtain ⟨hJ, hC, hM, hl⟩ := hX
    simp only [List.length_cons] at hl hg
    have pl : (P ++ List.replicate j (9 : Int32)).length = P.length + j := by rw [List.length_append, List.length_replicate]
    obtain ⟨τ1, s1, s2, s3, s4, s5⟩ := tx_open (F := F) (rec9 := M_readAny_l9 F g) (x1 := Int32.ofNat b) (x2 := true) false hF hJ hM hP (by omega) (by rw [pl]; omega)
    rw [if_neg (by decide)] at s1 s4
    rw [ni_succ] at s1
    obtain ⟨b', σ1, u1, u2, u3⟩ := h2 (o + 1) (s + j) g (b + 1) _ τ1 l' L (P ++ List.replicate j 9 ++ [12]) (by omega) (by omega) (.inr ⟨_, rfl⟩) (by rw [List.length_append, List.length_singleton, pl]; omega) (by omega) ⟨s2, tx_LC5 hC, s3, by omega⟩ s4 (by omega)
    have eA' : C_Reader_comparison_o_p20 (C_Reader_cc F n).1 (C_Reader_cc F n).2 F 157 (Int32.ofNat o) false σ = if b' = true then (C_Reader_sign 157 41 σ1).bind (fun q_8 => if q_8.1 = true then some (true, q_8.2) else some (false, q_8.2)) else some (false, σ1) := by
      rw [C_Reader_comparison_o_p20, if_pos (o8 q), am_let, if_neg (by decide), ni_succ, u1, Option.bind_some]
    rcases u3 with ⟨rfl, k1, τ2, v1, v2, v3⟩ | ⟨rfl, l2, E, τ2, g2, v1, v2, v3, v4, v5, v6, v7⟩
    · exact ⟨false, σ1, by rw [eA, eA', if_neg (by decide)], tx_Ft tx_up5 u2, .inl ⟨rfl, k1, τ2, by rw [eB, s1, v1], v2, tx_Ht s5 v3⟩⟩
    · rw [if_pos rfl] at eA'
      have b0 : ¬ Int32.ofNat (b + 1) = 0 := fun q => by have := (ni_eq (b := 0) (by omega) (by omega)).mp q; omega
      rcases tx_sign (s := 41) v4.1 rfl with ⟨y, l3, e, f1, f2, f3, f4, cc, mm⟩ | ⟨cc, mm⟩
      · subst e
        obtain ⟨hJ2, hC2, hM2, hl2⟩ := v4
        simp only [List.length_cons] at hl2 v1 v2
        -- the bracket comes off
        have low : ∀ a k, ¬ ((a = 0 ∧ (k = 29 ∨ k = 31)) ∨ a = 18) → am_up (am_up τ2 0 31 ((τ2 0 31) - 1)) 0 29 ((am_up τ2 0 31 ((τ2 0 31) - 1) 0 29) - 1) a k = τ2 a k := fun a k q => by
          simp only [am_up]; rw [if_neg (by omega), if_neg (by omega)]
        obtain ⟨t1, t2, t3⟩ := tx_low hJ2.1 hJ2.2.2 hM2 low
        have p3 : tx_P (am_up (am_up τ2 0 31 ((τ2 0 31) - 1)) 0 29 ((am_up τ2 0 31 ((τ2 0 31) - 1) 0 29) - 1)) (P ++ List.replicate j 9) o := by
          obtain ⟨w1, w2, w3⟩ := v5
          rw [List.length_append, List.length_singleton] at w1 w2
          refine ⟨?_, fun k hk => ?_, ?_⟩
          · rw [w1, ni_pred (by omega)]; simp [am_up]
          · rw [am_up_ne (by omega), am_up_ne (by omega), w2 k (by omega), List.getD_eq_getElem?_getD, List.getElem?_append_left hk, ← List.getD_eq_getElem?_getD]
          · have : am_up τ2 0 31 ((τ2 0 31) - 1) 0 29 = Int32.ofNat (o + 1) := by rw [← w3]; simp [am_up]
            rw [this, ni_pred (by omega)]; simp [am_up]
        obtain ⟨τ4, g1, g3, g4, g5, g6, g7⟩ := tx_settle (F := F) (w := 9) ht j F o _ _ (by omega) (by omega) (fun _ => hj) (by omega) (by omega) p3 t3 t1 t2
        rw [if_pos rfl] at g3
        obtain ⟨τ5, d1, d2, d3⟩ := tx_step (F := F) hF (show tx_J ch c σ1 τ4 (y :: l3) from ⟨g5, hJ2.2.1, g6⟩)
        refine ⟨true, am_up σ1 157 5 (σ1 157 5 + 1), ?_, tx_Ft (tx_Ft tx_up5 u2) tx_up5, .inr ⟨rfl, l3, E, τ5, g2, by omega, by simp only [List.length_cons]; omega, ?_, d2, tx_LC5 hC2, ?_, by omega, tx_PG g3 (tx_GD d3), tx_Ht (tx_Ht s5 v6) (tx_Ht (tx_Ht (tx_lowH low) g7) (tx_HG (tx_GD d3))), fun st hs => v7 st (by omega)⟩⟩
        · rw [eA, eA', C_Reader_sign, cc, Option.bind_some, if_pos rfl, am_let, Option.bind_some, if_pos rfl]
        · rw [eB, s1, v3, tx_tail, if_neg b0, if_pos mm, am_let, ni_pred (by omega), am_let, am_let, M_settles, g1, Option.bind_some, d1, Option.bind_some]; rfl
        · rw [← List.append_assoc, List.flatMap_append, tx_rtr]; exact tx_LMD g4 d3
      · obtain ⟨σ', a1, a2, a3, a4, a5, a6⟩ := tx_failJ (F := F) 1 v4
        refine ⟨false, σ', ?_, tx_Ft (tx_Ft tx_up5 u2) a2, .inl ⟨rfl, a6, (M_errs 1 τ2).2, ?_, a4, tx_Ht (tx_Ht s5 v6) a5⟩⟩
        · rw [eA, eA', C_Reader_sign, cc, Option.bind_some, if_neg (by decide), a1, Option.bind_some, if_neg (by exact Bool.false_ne_true)]
        · rw [eB, s1, v3, tx_tail, if_neg b0, if_neg (by rw [mm]; decide), am_let, a3]
  · exact tx_cmpE hF ho hj ht hp hX hP hg c6 m6 c40 m40
/-- what joined waits no more -/
theorem tx_join {F c s o : Nat} {ch : Nat → Int32} {σ τ : am_SS} {l : tx_l} {L : tx_c} {P : List Int32} {v w : Int32} (a : Bool) (hF : 2000 ≤ F) (hw : w ≠ 9) (ht : tx_top P w) (hp : P.length < 40) (ho : o ≤ 8) (hv : rl_tr (v, 0) = [(w, 0)]) (hX : tx_X ch c σ τ l L (s + a.toNat)) (hP : tx_P τ (P ++ tx_q w a) o) :
    ∃ σ' τ', (a = true → ∃ r, C_Table_add F 165 v 0 0 0 σ = some (r, σ')) ∧ (a = false → σ' = σ) ∧ M_settles F w τ = some τ' ∧ tx_X ch c σ' τ' l (L ++ tx_q (v, 0) a) s ∧ tx_P τ' P o ∧ tx_F σ σ' ∧ tx_H τ τ' := by
  obtain ⟨hJ, hC, hM, hl⟩ := hX
  have tl := tx_trL L
  have rep : tx_q w a = List.replicate a.toNat w := by cases a <;> rfl
  rw [rep] at hP
  have a1 : a.toNat ≤ 1 := by cases a <;> decide
  obtain ⟨τ', g1, g3, g4, g5, g6, g7⟩ := tx_settle (F := F) ht a.toNat F o τ _ (by omega) (by omega) (fun q => absurd q hw) (by omega) (by omega) hP hM hJ.1 hJ.2.2
  rw [if_neg hw] at g3
  cases a with
  | false =>
    refine ⟨σ, τ', fun q => absurd q (by decide), fun _ => rfl, g1, ⟨⟨g5, hJ.2.1, g6⟩, ?_, ?_, ?_⟩, g3, tx_F0, g7⟩
    · rw [tx_q, List.append_nil]; exact hC
    · rw [tx_q, List.append_nil]; simpa using g4
    · rw [tx_q, List.append_nil]; exact hl
  | true =>
    simp only [Bool.toNat_true] at hl g4
    obtain ⟨r4, σ4, b1, b2, b3, b4, b5⟩ := tx_addC (F := F) (x := v) (y := 0) hF hC (by omega) hJ.2.1
    refine ⟨σ4, τ', fun _ => ⟨r4, b1⟩, fun q => absurd q (by decide), g1, ⟨⟨g5, b4, g6⟩, b2, ?_, ?_⟩, g3, b3, g7⟩
    · rw [tx_q, tx_flt L (v, 0) (w, 0) hv]; exact g4
    · rw [tx_q, tx_flt L (v, 0) (w, 0) hv, List.length_append, List.length_singleton]; omega
theorem tx_tyj (a : Bool) {v : Int32} (hv : ∀ st, rl_t1 (v, 0) (true :: true :: st) = some (true :: st)) (st : List Bool) : rl_ty (tx_q (v, 0) a) (true :: (tx_q true a ++ st)) = some (true :: st) := by
  cases a with
  | false => rfl
  | true => show (rl_t1 (v, 0) (true :: true :: st)).bind _ = _; rw [hv]; rfl
theorem tx_cndL {F c n o b : Nat} {ch : Nat → Int32} {P : List Int32} (hF : 2000 ≤ F) (h1 : tx_cmpS F ch c n) (ho : o ≤ 8) (hn : 2 * (8 - o) + 1 ≤ n) (hP0 : P = [] ∨ ∃ P', P = P' ++ [12]) (hp : P.length ≤ 3 * o) (hb : b ≤ o) :
    ∀ (N s g gC turn : Nat) (a r : Bool) (σ τ : am_SS) (l : tx_l) (L : tx_c), l.length < N → l.length < g → N ≤ gC → turn + N ≤ 401 → tx_X ch c σ τ l L (s + r.toNat + a.toNat) → tx_P τ (P ++ tx_q 11 r ++ tx_q 10 a) o →
    ∃ b' σ', C_Reader_condition_o_l7 (C_Reader_cc F n).1 (C_Reader_cc F n).2 F gC 157 (Int32.ofNat o) a r (Int32.ofNat turn) σ = some (b', σ') ∧ tx_F σ σ' ∧
    ((b' = false ∧ tx_no F g b σ' τ) ∨
     (b' = true ∧ ∃ l' E τ' g', l'.length < g' + 1 ∧ l'.length + 1 ≤ l.length ∧ M_readAny_l9 F g (Int32.ofNat b) true τ = tx_tail F g' (Int32.ofNat b) τ' ∧
       tx_X ch c σ' τ' l' (L ++ E) s ∧ tx_P τ' P o ∧ tx_H τ τ' ∧ ∀ st : List Bool, st.length + 2 * (8 - o) ≤ 28 → rl_ty E (tx_q true a ++ (tx_q true r ++ st)) = some (true :: st))) := by
  have topP : ∀ w, w ≠ 12 → tx_top P w := fun w hw => by
    rcases hP0 with q | ⟨P', q⟩
    · rw [q]; exact tx_topE w
    · rw [q]; exact tx_topA (fun e => hw e.symm)
  have topR : ∀ (r : Bool) (w : Int32), w ≠ 12 → w ≠ 11 → tx_top (P ++ tx_q 11 r) w := fun r w h h' => by
    cases r with
    | false => rw [tx_q, List.append_nil]; exact topP w h
    | true => exact tx_topA (fun e => h' e.symm)
  have topA : ∀ (r a : Bool), tx_top (P ++ tx_q 11 r ++ tx_q 10 a) 9 := fun r a => by
    cases a with
    | false => rw [show tx_q (10 : Int32) false = [] from rfl, List.append_nil]; exact topR r 9 (by decide) (by decide)
    | true => exact tx_topA (by decide)
  intro N
  induction N with
  | zero => intro s g gC turn a r σ τ l L hN; omega
  | succ N ih =>
    intro s g gC turn a r σ τ l L hN hg hgC ht hX hP
    obtain ⟨gC, rfl⟩ : ∃ z, gC = z + 1 := ⟨gC - 1, by omega⟩
    have r1 : r.toNat ≤ 1 := by cases r <;> decide
    have a1 : a.toNat ≤ 1 := by cases a <;> decide
    have ln : (P ++ tx_q 11 r ++ tx_q 10 a).length = P.length + r.toNat + a.toNat := by rw [List.length_append, List.length_append, tx_ql, tx_ql]
    have ln2 : (P ++ tx_q (11 : Int32) r).length = P.length + r.toNat := by rw [List.length_append, tx_ql]
    have n400 : ¬ (400 : Int32) < Int32.ofNat turn := fun q => by have := (ni_lt (a := 400) (by omega) (by omega)).mp q; omega
    obtain ⟨b', σ1, u1, u2, u3⟩ := h1 o 0 (s + r.toNat + a.toNat) g b σ τ l L (P ++ tx_q 11 r ++ tx_q 10 a) ho (by omega) hn (topA r a) (by omega) hb hX (by rw [List.replicate_zero, List.append_nil]; exact hP) hg
    have eC : C_Reader_condition_o_l7 (C_Reader_cc F n).1 (C_Reader_cc F n).2 F (gC + 1) 157 (Int32.ofNat o) a r (Int32.ofNat turn) σ = if b' = true then (if a = true then (C_Table_add F 165 5 0 0 0 σ1).bind (fun q_5 => C_Reader_condition_o_p44 (C_Reader_cc F n).1 (C_Reader_cc F n).2 (C_Reader_condition_o_l7 (C_Reader_cc F n).1 (C_Reader_cc F n).2 F gC) F 157 (Int32.ofNat o) r (Int32.ofNat turn) q_5.2) else C_Reader_condition_o_p44 (C_Reader_cc F n).1 (C_Reader_cc F n).2 (C_Reader_condition_o_l7 (C_Reader_cc F n).1 (C_Reader_cc F n).2 F gC) F 157 (Int32.ofNat o) r (Int32.ofNat turn) σ1) else some (false, σ1) := by
      rw [C_Reader_condition_o_l7, if_neg n400, u1, Option.bind_some]
    rcases u3 with ⟨rfl, k1⟩ | ⟨rfl, l1, E1, τ1, g1, v1, v2, v3, v4, v5, v6, v7, v8, v9, v10⟩
    · exact ⟨false, σ1, by rw [eC, if_neg (by decide)], u2, .inl ⟨rfl, k1⟩⟩
    rw [if_pos rfl] at eC
    rw [List.replicate_zero, List.append_nil] at v6
    obtain ⟨g1, rfl⟩ : ∃ z, g1 = z + 1 := ⟨g1 - 1, by omega⟩
    have hX1 : tx_X ch c σ1 τ1 l1 (L ++ E1) (s + r.toNat + a.toNat) := ⟨v4, v5, v6, by omega⟩
    obtain ⟨σ2, τ2, j1, j2, j3, j4, j5, j6, j7⟩ := tx_join (F := F) (v := 5) (w := 10) a hF (by decide) (topR r 10 (by decide) (by decide)) (by omega) ho rfl hX1 v8
    have eC2 : C_Reader_condition_o_l7 (C_Reader_cc F n).1 (C_Reader_cc F n).2 F (gC + 1) 157 (Int32.ofNat o) a r (Int32.ofNat turn) σ = C_Reader_condition_o_p44 (C_Reader_cc F n).1 (C_Reader_cc F n).2 (C_Reader_condition_o_l7 (C_Reader_cc F n).1 (C_Reader_cc F n).2 F gC) F 157 (Int32.ofNat o) r (Int32.ofNat turn) σ2 := by
      rw [eC]
      cases a with
      | true => obtain ⟨r4, e4⟩ := j1 rfl; rw [if_pos rfl, e4, Option.bind_some]
      | false => rw [if_neg (by decide), j2 rfl]
    have ty1 : ∀ st : List Bool, st.length + 2 * (8 - o) ≤ 28 → rl_ty (E1 ++ tx_q (5, 0) a) (tx_q true a ++ (tx_q true r ++ st)) = some (true :: (tx_q true r ++ st)) := fun st hs => by
      rw [tx_app, v10 _ (by rw [List.length_append, List.length_append, tx_ql, tx_ql]; omega), Option.bind_some, tx_tyj a (fun _ => rfl)]
    have go : ∀ (a' r' : Bool) (σ3 τ3 : am_SS) (L3 : tx_c) (E3 : tx_c) (x : Nat × Int32 × Int32) (l2 : tx_l) (s' : Nat) (w : Int32) (P3 : List Int32), l1 = x :: l2 → s' = s + r'.toNat + a'.toNat → L3 = L ++ E3 → tx_X ch c σ3 τ3 l1 L3 (s' - 1) → 1 ≤ s' → tx_P τ3 P3 o → P3 ++ [w] = P ++ tx_q 11 r' ++ tx_q 10 a' → tx_F σ σ3 → tx_H τ τ3 →
        C_Reader_condition_o_l7 (C_Reader_cc F n).1 (C_Reader_cc F n).2 F (gC + 1) 157 (Int32.ofNat o) a r (Int32.ofNat turn) σ = C_Reader_condition_o_p85 (C_Reader_cc F n).1 (C_Reader_cc F n).2 (C_Reader_condition_o_l7 (C_Reader_cc F n).1 (C_Reader_cc F n).2 F gC) F 157 (Int32.ofNat o) a' r' (Int32.ofNat turn) σ3 →
        M_readAny_l9 F g (Int32.ofNat b) true τ = (M_waits w τ3).bind (fun q_22 => (M_reads F q_22).bind (fun q_23 => (M_readAny_l9 F g1) (Int32.ofNat b) true q_23)) →
        (∀ st : List Bool, st.length + 2 * (8 - o) ≤ 28 → rl_ty E3 (tx_q true a ++ (tx_q true r ++ st)) = some (tx_q true a' ++ (tx_q true r' ++ st))) →
        ∃ b' σ', C_Reader_condition_o_l7 (C_Reader_cc F n).1 (C_Reader_cc F n).2 F (gC + 1) 157 (Int32.ofNat o) a r (Int32.ofNat turn) σ = some (b', σ') ∧ tx_F σ σ' ∧
        ((b' = false ∧ tx_no F g b σ' τ) ∨
         (b' = true ∧ ∃ l' E τ' g', l'.length < g' + 1 ∧ l'.length + 1 ≤ l.length ∧ M_readAny_l9 F g (Int32.ofNat b) true τ = tx_tail F g' (Int32.ofNat b) τ' ∧
           tx_X ch c σ' τ' l' (L ++ E) s ∧ tx_P τ' P o ∧ tx_H τ τ' ∧ ∀ st : List Bool, st.length + 2 * (8 - o) ≤ 28 → rl_ty E (tx_q true a ++ (tx_q true r ++ st)) = some (true :: st))) := by
      intro a' r' σ3 τ3 L3 E3 x l2 s' w P3 e1 e2 e3 hX3 hs1 hP3 e4 hF3 hH3 eA eB ty
      subst e1; subst e3
      obtain ⟨hJ, hC, hM, hl⟩ := hX3
      simp only [List.length_cons] at hl v1 v2
      have ra : r'.toNat ≤ 1 := by cases r' <;> decide
      have aa : a'.toNat ≤ 1 := by cases a' <;> decide
      have ln3 : P3.length + 1 = P.length + r'.toNat + a'.toNat := by
        have := congrArg List.length e4
        rw [List.length_append, List.length_append, List.length_append, List.length_singleton, tx_ql, tx_ql] at this
        exact this
      obtain ⟨τ4, w1, w2, w3⟩ := tx_waits w hP3 (by omega)
      obtain ⟨t1, t2, t3⟩ := tx_low hJ.1 hJ.2.2 hM w3
      obtain ⟨τ5, d1, d2, d3⟩ := tx_step (F := F) hF (show tx_J ch c σ3 τ4 (x :: l2) from ⟨t1, hJ.2.1, t2⟩)
      rw [e4] at w2
      obtain ⟨b'', σ', z1, z2, z3⟩ := ih s g1 gC (turn + 1) a' r' (am_up σ3 157 5 (σ3 157 5 + 1)) τ5 l2 (L ++ E3) (by omega) (by omega) (by omega) (by omega) ⟨d2, tx_LC5 hC, tx_LMD t3 d3, by omega⟩ (tx_PG w2 (tx_GD d3))
      have hH5 : tx_H τ τ5 := tx_Ht hH3 (tx_Ht (tx_lowH w3) (tx_HG (tx_GD d3)))
      have eB2 : M_readAny_l9 F g (Int32.ofNat b) true τ = M_readAny_l9 F g1 (Int32.ofNat b) true τ5 := by rw [eB, w1, Option.bind_some, d1, Option.bind_some]
      refine ⟨b'', σ', ?_, tx_Ft (tx_Ft hF3 tx_up5) z2, ?_⟩
      · rw [eA, C_Reader_condition_o_p85, am_let, am_let, ni_succ, z1]
      · rcases z3 with ⟨q1, q2, τ6, q3, q4, q5⟩ | ⟨q1, l', E, τ6, g', y1, y2, y3, y4, y5, y6, y7⟩
        · exact .inl ⟨q1, q2, τ6, by rw [eB2, q3], q4, tx_Ht hH5 q5⟩
        · refine .inr ⟨q1, l', E3 ++ E, τ6, g', y1, by omega, by rw [eB2, y3], by rw [← List.append_assoc]; exact y4, y5, tx_Ht hH5 y6, fun st hs => ?_⟩
          rw [tx_app, ty st hs, Option.bind_some, y7 st hs]
    have J2 : tx_J ch c σ2 τ1 l1 := ⟨v4.1, j4.1.2.1, v4.2.2⟩
    rcases tx_word (s := 5) J2 (by decide) with ⟨x, l2, e, e1, e2, e3, e4, cA, mA⟩ | ⟨cA, mA⟩
    · -- and
      refine go true r σ2 τ2 _ (E1 ++ tx_q (5, 0) a) x l2 (s + r.toNat + 1) 10 (P ++ tx_q 11 r) e rfl (List.append_assoc _ _ _) (by rw [Nat.add_sub_cancel]; exact j4) (by omega) j5 rfl (tx_Ft u2 j6) (tx_Ht v9 j7) ?_ ?_ ty1
      · rw [eC2, C_Reader_condition_o_p44, cA, Option.bind_some, if_pos rfl]
      · rw [v3, M_readAny_l9, if_neg (by decide), mA, if_pos rfl, j3, Option.bind_some]
    · obtain ⟨σ3, τ3, k1, k2, k3, k4, k5, k6, k7⟩ := tx_join (F := F) (v := 4) (w := 11) r hF (by decide) (topP 11 (by decide)) (by omega) ho rfl j4 j5
      have eC3 : C_Reader_condition_o_l7 (C_Reader_cc F n).1 (C_Reader_cc F n).2 F (gC + 1) 157 (Int32.ofNat o) a r (Int32.ofNat turn) σ = C_Reader_condition_o_p73 (C_Reader_cc F n).1 (C_Reader_cc F n).2 (C_Reader_condition_o_l7 (C_Reader_cc F n).1 (C_Reader_cc F n).2 F gC) F 157 (Int32.ofNat o) false (Int32.ofNat turn) σ3 := by
        rw [eC2, C_Reader_condition_o_p44, cA, Option.bind_some, if_neg (by decide)]
        cases r with
        | true => obtain ⟨r4, e4⟩ := k1 rfl; rw [if_pos rfl]; show (C_Table_add F 165 4 0 0 0 σ2).bind _ = _; rw [e4, Option.bind_some]
        | false => rw [if_neg (by decide), k2 rfl]
      have ty2 : ∀ st : List Bool, st.length + 2 * (8 - o) ≤ 28 → rl_ty (E1 ++ tx_q (5, 0) a ++ tx_q (4, 0) r) (tx_q true a ++ (tx_q true r ++ st)) = some (true :: st) := fun st hs => by
        rw [tx_app, ty1 st hs, Option.bind_some, tx_tyj r (fun _ => rfl)]
      have eL : L ++ E1 ++ tx_q (5, 0) a ++ tx_q (4, 0) r = L ++ (E1 ++ tx_q (5, 0) a ++ tx_q (4, 0) r) := by simp only [List.append_assoc]
      have J3 : tx_J ch c σ3 τ1 l1 := ⟨v4.1, k4.1.2.1, v4.2.2⟩
      rcases tx_word (s := 4) J3 (by decide) with ⟨x, l2, e, e1, e2, e3, e4, cB, mB⟩ | ⟨cB, mB⟩
      · refine go false true σ3 τ3 _ (E1 ++ tx_q (5, 0) a ++ tx_q (4, 0) r) x l2 (s + 1) 11 P e rfl eL (by rw [Nat.add_sub_cancel]; exact k4) (by omega) k5 (by rw [show tx_q (10 : Int32) false = [] from rfl, List.append_nil]; rfl) (tx_Ft (tx_Ft u2 j6) k6) (tx_Ht (tx_Ht v9 j7) k7) ?_ ?_ (fun st hs => ty2 st hs)
        · rw [eC3, C_Reader_condition_o_p73, cB, Option.bind_some, if_pos rfl]
        · rw [v3, M_readAny_l9, if_neg (by decide), mA, if_neg (by decide), mB, if_pos rfl, j3, Option.bind_some, k3, Option.bind_some]
      · refine ⟨true, σ3, ?_, tx_Ft (tx_Ft u2 j6) k6, .inr ⟨rfl, l1, E1 ++ tx_q (5, 0) a ++ tx_q (4, 0) r, τ3, g1, v1, v2, ?_, by rw [← eL]; exact k4, k5, tx_Ht (tx_Ht v9 j7) k7, ty2⟩⟩
        · rw [eC3, C_Reader_condition_o_p73, cB, Option.bind_some, if_neg (by decide)]
        · rw [v3, M_readAny_l9, if_neg (by decide), mA, if_neg (by decide), mB, if_neg (by decide), j3, Option.bind_some, k3, Option.bind_some]; rfl
theorem tx_cnd {F c n : Nat} {ch : Nat → Int32} (hF : 2000 ≤ F) (h1 : tx_cmpS F ch c n) : tx_cndS F ch c (n + 1) := by
  intro o s g b σ τ l L P ho hn hP0 hp hb hX hP hg
  have tl := tx_trL L
  have l4 := hX.2.2.2
  exact tx_cndL (F := F) hF h1 ho (by omega) hP0 hp hb (l.length + 1) s g F 0 false false σ τ l L (by omega) hg (by omega) (by omega) hX (by simpa [tx_q] using hP)
theorem tx_knot {F c : Nat} {ch : Nat → Int32} (hF : 2000 ≤ F) : ∀ n, tx_cmpS F ch c n ∧ tx_cndS F ch c n := by
  intro n
  induction n with
  | zero => exact ⟨fun o j s g b σ τ l L P ho hj hn => by omega, fun o s g b σ τ l L P ho hn => by omega⟩
  | succ n ih => exact ⟨tx_cmp hF ih.1 ih.2, tx_cnd hF ih.1⟩
/-- a condition of a line -/
theorem tx_any {F c s : Nat} {ch : Nat → Int32} {σ τ : am_SS} {l : tx_l} {L : tx_c} (hF : 2000 ≤ F) (hX : tx_X ch c σ τ l L s) (h0 : τ 0 29 = 0) :
    ∃ b' σ', C_Reader_condition F 157 0 σ = some (b', σ') ∧ tx_F σ σ' ∧ ∃ r τ', M_readAny F τ = some (r, τ') ∧ tx_H τ τ' ∧
    ((b' = false ∧ r = -1 ∧ tx_bad σ' τ') ∨ (b' = true ∧ r = 0 ∧ τ' 0 29 = 0 ∧ ∃ l' E, tx_X ch c σ' τ' l' (L ++ E) s ∧ l'.length + 1 ≤ l.length ∧ rl_ty E [] = some [true])) := by
  have low : ∀ a k, ¬ ((a = 0 ∧ (k = 29 ∨ k = 31)) ∨ a = 18) → am_up τ 0 31 0 a k = τ a k := fun a k q => by
    simp only [am_up]; rw [if_neg (by omega)]
  obtain ⟨t1, t2, t3⟩ := tx_low hX.1.1 hX.1.2.2 hX.2.2.1 low
  have hX' : tx_X ch c σ (am_up τ 0 31 0) l L s := ⟨⟨t1, hX.1.2.1, t2⟩, hX.2.1, t3, hX.2.2.2⟩
  have hP : tx_P (am_up τ 0 31 0) [] 0 := ⟨by simp [am_up], fun k hk => by simp at hk, by simpa [am_up] using h0⟩
  have l4 := hX.2.2.2
  obtain ⟨b', σ', u1, u2, u3⟩ := (tx_knot (F := F) (c := c) (ch := ch) hF 20).2 0 s F 0 σ _ l L [] (by omega) (by omega) (.inl rfl) (by simp) (by omega) hX' hP (by omega)
  refine ⟨b', σ', u1, u2, ?_⟩
  rcases u3 with ⟨rfl, _, τ', v1, v2, v3⟩ | ⟨rfl, l', E, τ', g', v1, v2, v3, v4, v5, v6, v7⟩
  · exact ⟨-1, τ', v1, tx_Ht (tx_lowH low) v3, .inl ⟨rfl, rfl, v2⟩⟩
  · exact ⟨0, τ', v3, tx_Ht (tx_lowH low) v6, .inr ⟨rfl, rfl, v5.2.2, l', E, v4, v2, v7 [] (by simp)⟩⟩
