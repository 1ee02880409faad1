theorem tl_LW {σ1 σ' τ1 τ' : am_SS} {n : Nat} {L : tx_c} (hn : n ≤ 16) (h1 : σ1 163 2 = Int32.ofNat n) (hC : tx_LC σ1 L) (hM : tx_LM τ1 (L.flatMap rl_tr)) (hl : (L.flatMap rl_tr).length ≤ 400) (hln : ∀ i, i < n → tx_ln (σ1 164) τ1 L i)
    (c1 : σ' 16 2 = σ1 163 2) (c2 : ∀ j, j < 64 → σ' 17 j = σ1 164 j) (c3 : σ' 18 2 = σ1 165 2) (c4 : ∀ j, j < 800 → σ' 19 j = σ1 166 j)
    (m1 : ∀ a i, 12 ≤ a → a ≤ 15 → 0 ≤ i → i < n → τ' a i = τ1 a (32 + i)) (m2 : ∀ i, i < (L.flatMap rl_tr).length → τ' 16 i = τ1 16 (800 + i) ∧ τ' 17 i = τ1 17 (800 + i)) (m3 : τ' 11 0 = Int32.ofNat n) :
    rl_LW (σ' 16 2) (σ' 17) (σ' 18 2) (σ' 19) (τ' 11 0) (τ' 12) (τ' 13) (τ' 14) (τ' 15) (τ' 16) (τ' 17) := by
  have tl := tx_trL L
  refine ⟨n, L.length, hn, by omega, by rw [c1, h1], m3, by rw [c3, hC.2.1], fun i hi => ?_⟩
  obtain ⟨A, E, B, R, e, q1, q2, q3, q4, q5, q6, q7, q8, q9, q10⟩ := hln i hi
  have eF : L.flatMap rl_tr = A.flatMap rl_tr ++ (E.flatMap rl_tr ++ (B.flatMap rl_tr ++ R.flatMap rl_tr)) := by rw [e, List.flatMap_append, List.flatMap_append, List.flatMap_append]
  have eF2 : L.flatMap rl_tr = (A.flatMap rl_tr ++ E.flatMap rl_tr) ++ (B.flatMap rl_tr ++ R.flatMap rl_tr) := by rw [eF]; simp only [List.append_assoc]
  have lenF := congrArg List.length eF
  simp only [List.length_append] at lenF
  have lenL := congrArg List.length e
  simp only [List.length_append] at lenL
  have sC : rl_sl (σ1 166) 0 L := hC.2.2
  have sM : rl_sm (τ1 16) (τ1 17) 800 (L.flatMap rl_tr) := hM.2
  have up : ∀ s (K : tx_c), s + K.length ≤ 400 → rl_sl (σ1 166) s K → rl_sl (σ' 19) s K := fun s K hs h k hk => by
    rw [c4 _ (by omega), c4 _ (by omega)]; exact h k hk
  refine ⟨A.length, (A.flatMap rl_tr).length, E, B, q1, q2, by omega, by omega, ?_, ?_, ?_, ?_, ?_, ?_, ?_, ?_, ?_, ?_, ?_, ?_⟩
  · rw [m1 12 i (by omega) (by omega) (by omega) hi, q4]; exact q3
  · rw [c2 _ (by omega), m1 12 i (by omega) (by omega) (by omega) hi, q4]
  · rw [c2 _ (by omega), q5]
  · rw [c2 _ (by omega), q6]
  · rw [c2 _ (by omega), q7]
  · rw [m1 13 i (by omega) (by omega) (by omega) hi, q8]
  · rw [m1 14 i (by omega) (by omega) (by omega) hi, q9]
  · rw [m1 15 i (by omega) (by omega) (by omega) hi, q10]
  · exact up _ _ (by omega) (tl_sl (X := B ++ R) (e ▸ sC))
  · have := tl_sl (A := A ++ E) (E := B) (X := R) (f := σ1 166) (by rw [List.append_assoc]; exact e ▸ sC)
    rw [List.length_append] at this
    exact up _ _ (by omega) this
  · exact tl_sm (A := A.flatMap rl_tr) (E := E.flatMap rl_tr) (X := B.flatMap rl_tr ++ R.flatMap rl_tr) (eF ▸ sM) (fun i hi => m2 i (by rw [eF]; exact hi))
  · have := tl_sm (A := A.flatMap rl_tr ++ E.flatMap rl_tr) (E := B.flatMap rl_tr) (X := R.flatMap rl_tr) (eF2 ▸ sM) (fun i hi => m2 i (by rw [eF2]; exact hi))
    rw [List.length_append] at this
    exact this
/-! a number, a mark -/
theorem tn_num {F c : Nat} {ch : Nat → Int32} {σ τ : am_SS} {l : tx_l} {lo hi : Int32} (hF : 2000 ≤ F) (h : tx_J ch c σ τ l) :
    (∃ x l' n τ', l = x :: l' ∧ n < 10000 ∧ lo ≤ Int32.ofNat n ∧ Int32.ofNat n ≤ hi ∧ τ 0 17 = 3 ∧ τ 0 18 = Int32.ofNat n ∧ C_Reader_takes 157 lo hi σ = some (true, am_up (am_up σ 157 6 (Int32.ofNat n)) 157 5 ((σ 157 5) + 1)) ∧ M_readNumber F lo hi τ = some (Int32.ofNat n, τ') ∧ tx_J ch c (am_up (am_up σ 157 6 (Int32.ofNat n)) 157 5 ((σ 157 5) + 1)) τ' l' ∧ tk_D τ τ') ∨
    (∃ σ' τ' k, C_Reader_takes 157 lo hi σ = some (false, σ') ∧ M_readNumber F lo hi τ = some (-1, τ') ∧ tx_bad σ' τ' ∧ tx_F σ σ' ∧ tx_G τ τ' ∧ (k = 1 ∧ τ 0 17 ≠ 3 ∨ k = 2 ∧ τ 0 17 = 3 ∧ (∃ n, n < 10000 ∧ τ 0 18 = Int32.ofNat n) ∧ ¬ (lo ≤ τ 0 18 ∧ τ 0 18 ≤ hi)) ∧ σ' 157 7 = k) := by
  rcases tx_takes (F := F) (lo := lo) (hi := hi) hF h with ⟨x, l', n, f1, f2, f3, f4, f5, f6, f7⟩ | ⟨k, f1, f2⟩
  · left
    subst f1
    obtain ⟨τ', s1, s2, s3⟩ := tx_step (F := F) hF (tx_J6 (v := Int32.ofNat n) h)
    have e5 : am_up σ 157 6 (Int32.ofNat n) 157 5 = σ 157 5 := by simp [am_up]
    rw [e5] at s2
    refine ⟨x, l', n, τ', rfl, f2, f3, f4, f5, f6, f7, ?_, s2, s3⟩
    rw [M_readNumber, if_pos f5, f6, if_pos (ni_in.mpr ⟨f3, f4⟩), am_let, s1, Option.bind_some]
  · right
    obtain ⟨σ', a1, a2, a3, a4, a5⟩ := tx_fail k h
    have k7 : σ' 157 7 = k := by rw [a3.1]; simp [M_errs, am_let, am_up]
    refine ⟨σ', (M_errs k τ).2, k, by rw [f1, a1]; rfl, ?_, a3, a4, a5, ?_, k7⟩
    · rcases f2 with ⟨rfl, f2⟩ | ⟨rfl, f2, _, f5⟩
      · rw [M_readNumber, if_neg f2, am_let, a2]
      · rw [M_readNumber, if_pos f2, if_neg (fun g => f5 (ni_in.mp g)), am_let, a2]
    · rcases f2 with ⟨rfl, f2⟩ | ⟨rfl, f2, f4, f5⟩
      · exact .inl ⟨rfl, f2⟩
      · exact .inr ⟨rfl, f2, f4, f5⟩
theorem tn_mark {F c : Nat} {ch : Nat → Int32} {σ τ : am_SS} {l : tx_l} (hF : 2000 ≤ F) (h : tx_J ch c σ τ l) :
    (∃ x l' τ', l = x :: l' ∧ C_Reader_sign 157 59 σ = some (true, am_up σ 157 5 ((σ 157 5) + 1)) ∧ M_readMark F 59 τ = some (0, τ') ∧ tx_J ch c (am_up σ 157 5 ((σ 157 5) + 1)) τ' l' ∧ tk_D τ τ') ∨
    (∃ σ' τ', C_Reader_sign 157 59 σ = some (false, σ') ∧ M_readMark F 59 τ = some (-1, τ') ∧ tx_bad σ' τ' ∧ tx_F σ σ' ∧ tx_G τ τ') := by
  rcases tx_sign (s := 59) h rfl with ⟨x, l', e, e1, e2, e3, e4, cS, mS⟩ | ⟨cS, mS⟩
  · left
    subst e
    obtain ⟨τ', s1, s2, s3⟩ := tx_step (F := F) hF h
    exact ⟨x, l', τ', rfl, by rw [C_Reader_sign, cS, Option.bind_some, if_pos rfl, am_let], by rw [M_readMark, if_pos mS, s1, Option.bind_some], s2, s3⟩
  · right
    obtain ⟨σ', a1, a2, a3, a4, a5⟩ := tx_fail 1 h
    exact ⟨σ', (M_errs 1 τ).2, by rw [C_Reader_sign, cS, Option.bind_some, if_neg (by decide), a1, Option.bind_some], by rw [M_readMark, if_neg (by rw [mS]; decide), am_let, a2], a3, a4, a5⟩
/-- a row of the reference that holds no token -/
theorem tn_row {ch : Nat → Int32} {c a k : Nat} {v : Int32} {σ τ : am_SS} {l : tx_l} (ha : 11 ≤ a) (h : tx_J ch c σ τ l) : tx_J ch c σ (am_up τ a k v) l := by
  obtain ⟨⟨k0, k1, k2, k3⟩, hA, ⟨t, m1, m2, m3, m4⟩⟩ := h
  have e : ∀ b, b ≠ a → am_up τ a k v b = τ b := fun b hb => am_up_ne hb
  exact ⟨⟨k0, by rw [e 0 (by omega)]; exact k1, fun j hj => by rw [e 9 (by omega)]; exact k2 j hj, fun j hj => by rw [e 10 (by omega)]; exact k3 j hj⟩, hA, ⟨t, m1, by rw [e 0 (by omega)]; exact m2, m3, by rw [e 0 (by omega)]; exact m4⟩⟩
theorem tn_word {F c k : Nat} {ch : Nat → Int32} {σ τ : am_SS} {x : Nat × Int32 × Int32} {l : tx_l} {w : Int32} (hw : 0 ≤ w) (h : tx_J ch c σ τ (x :: l)) (hk : k ≤ 16) :
    (M_isWord w τ = true ∧ C_Reader_opens 157 (Int32.ofNat k) w w σ = if k < 16 then some (true, am_up (am_up σ 157 6 (τ 0 18)) 157 5 (σ 157 5 + 1)) else (C_Reader_fail 157 3 (σ 157 5) σ).bind (fun q => some (q.1, q.2))) ∨
    (M_isWord w τ = false ∧ τ 0 17 ≠ 0 ∧ C_Reader_opens 157 (Int32.ofNat k) w w σ = (C_Reader_fail 157 1 (σ 157 5) σ).bind (fun q => some (q.1, q.2))) := by
  rcases tx_opens (F := F) (lo := w) (hi := w) h hw hk with ⟨o1, o2, o3, o4⟩ | ⟨o1, o2, o3⟩
  · left
    have e : τ 0 18 = w := by grind
    exact ⟨by rw [M_isWord, if_pos o1, if_pos e], o4⟩
  · right
    refine ⟨?_, o2, o3⟩
    rw [M_isWord]
    by_cases q : τ 0 17 = 2
    · rw [if_pos q, if_neg (fun e => o1 ⟨q, by rw [e]; exact Int32.le_refl _, by rw [e]; exact Int32.le_refl _⟩)]
    · rw [if_neg q]
theorem tn_word0 {c : Nat} {ch : Nat → Int32} {σ τ : am_SS} {w : Int32} (h : tx_J ch c σ τ []) : C_Reader_kind 157 σ = some 0 ∧ τ 0 17 = 0 ∧ M_isWord w τ = false := by
  obtain ⟨a, b⟩ := tx_nil h
  exact ⟨a, b, by rw [M_isWord, b, if_neg (by decide)]⟩
/-! orders -/
def tn_F (σ σ' : am_SS) : Prop := ∀ a j, ¬ ((a = 157 ∧ 5 ≤ j ∧ j ≤ 8) ∨ (a = 165 ∧ j = 2) ∨ a = 166 ∨ (a = 168 ∧ j = 2) ∨ a = 169) → σ' a j = σ a j
def tn_G (τ τ' : am_SS) : Prop := ∀ a j, ¬ ((a = 0 ∧ ((15 ≤ j ∧ j ≤ 18) ∨ j = 28 ∨ j = 32 ∨ j = 33)) ∨ (a = 16 ∧ 800 ≤ j) ∨ (a = 17 ∧ 800 ≤ j) ∨ (a = 19 ∧ 64 ≤ j) ∨ ((a = 20 ∨ a = 21) ∧ 12 ≤ j)) → τ' a j = τ a j
theorem tn_Ft {σ σ' σ'' : am_SS} (h : tn_F σ σ') (h' : tn_F σ' σ'') : tn_F σ σ'' := fun a j q => (h' a j q).trans (h a j q)
theorem tn_Gt {τ τ' τ'' : am_SS} (h : tn_G τ τ') (h' : tn_G τ' τ'') : tn_G τ τ'' := fun a j q => (h' a j q).trans (h a j q)
theorem tn_F0 {σ : am_SS} : tn_F σ σ := fun _ _ _ => rfl
theorem tn_G0 {τ : am_SS} : tn_G τ τ := fun _ _ _ => rfl
theorem tn_FF {σ σ' : am_SS} (h : tx_F σ σ') : tn_F σ σ' := fun a j q => h a j (by omega)
theorem tn_GG {τ τ' : am_SS} (h : tx_G τ τ') : tn_G τ τ' := fun a j q => h a j (by omega)
theorem tn_GD {τ τ' : am_SS} (h : tk_D τ τ') : tn_G τ τ' := fun a j q => h a j (by omega)
theorem tn_Gr {τ : am_SS} {k : Nat} {v : Int32} (hk : 64 ≤ k) : tn_G τ (am_up τ 19 k v) := fun b j q => by
  simp only [am_up]; rw [if_neg (by omega)]
def tn_out (σ τ : am_SS) (A : Option (Bool × am_SS)) (B : Option (Int32 × am_SS)) (Q : Nat → am_SS → am_SS → Prop) : Prop :=
  ∃ b' σ' r τ', A = some (b', σ') ∧ tn_F σ σ' ∧ B = some (r, τ') ∧ tn_G τ τ' ∧
    ((b' = false ∧ r = -1 ∧ tx_bad σ' τ') ∨ (b' = true ∧ ∃ k, r = Int32.ofNat k ∧ k ≤ 16 ∧ σ' 168 2 = Int32.ofNat k ∧ σ' 157 7 = 0 ∧ σ' 157 8 = -1 ∧ Q k σ' τ'))
theorem tn_add {F c k : Nat} {ch : Nat → Int32} {σ τ : am_SS} {l : tx_l} {x1 x2 x3 x4 : Int32} (hF : 2000 ≤ F) (hJ : tx_J ch c σ τ l) (h0 : σ 168 0 = 4) (h2 : σ 168 2 = Int32.ofNat k) (hk : k < 16) :
    ∃ r σ', C_Table_add F 168 x1 x2 x3 x4 σ = some (r, σ') ∧ tx_J ch c σ' τ l ∧ σ' 168 0 = 4 ∧ σ' 168 2 = Int32.ofNat (k + 1) ∧ (∀ j, j < 4 * k → σ' 169 j = σ 169 j) ∧ σ' 169 (4 * k) = x1 ∧ σ' 169 (4 * k + 1) = x2 ∧ σ' 169 (4 * k + 2) = x3 ∧ σ' 169 (4 * k + 3) = x4 ∧ ∀ b j, ¬ ((b = 168 ∧ j = 2) ∨ b = 169) → σ' b j = σ b j := by
  have a := tb_add (F := F) (a := 168) (w := 4) (c := k) 64 (x1 := x1) (x2 := x2) (x3 := x3) (x4 := x4) (σ := σ) hF h2 h0 rfl (by omega) (by omega) (by omega) (by omega)
  have e : ∀ b j, tb_wr x1 x2 x3 x4 (168 + 1) (k * 4) 4 0 σ b j = if b = 169 ∧ j = 4 * k + 3 then x4 else if b = 169 ∧ j = 4 * k + 2 then x3 else if b = 169 ∧ j = 4 * k + 1 then x2 else if b = 169 ∧ j = 4 * k then x1 else σ b j := by
    intro b j
    simp only [tb_wr, am_up, tb_pick, Nat.mul_comm k 4, if_true]
    rfl
  have fr : ∀ b j, ¬ ((b = 168 ∧ j = 2) ∨ b = 169) → am_up (tb_wr x1 x2 x3 x4 (168 + 1) (k * 4) 4 0 σ) 168 2 (Int32.ofNat (k + 1)) b j = σ b j := fun b j q => by
    simp only [am_up, e]; rw [if_neg (by omega), if_neg (by omega), if_neg (by omega), if_neg (by omega), if_neg (by omega)]
  obtain ⟨hT, ⟨e0, t, e1, b, q⟩, hM⟩ := hJ
  refine ⟨_, _, a, ⟨hT, ⟨by rw [fr 157 1 (by omega), fr 157 7 (by omega), fr 157 8 (by omega)]; exact e0, t, by rw [fr 157 5 (by omega)]; exact e1, b, tk_ef l t (fun a' j h1 h2 h3 => fr a' j (by omega)) q⟩, hM⟩, by rw [fr 168 0 (by omega)]; exact h0, by simp [am_up], fun j hj => ?_, ?_, ?_, ?_, ?_, fr⟩
  · simp only [am_up, e]; rw [if_neg (by omega), if_neg (by omega), if_neg (by omega), if_neg (by omega), if_neg (by omega)]
  · simp [am_up, e]
  · simp [am_up, e]
  · simp [am_up, e]
  · simp [am_up, e]
theorem tn_nn (n : Nat) (h : n < 10000) : Int32.ofNat n ≠ -1 := by
  intro e; have := ni_nn (a := n) (by omega); rw [e] at this; exact this (by decide)
/-- the mark of a line of orders -/
theorem or_M {F c k : Nat} {ch : Nat → Int32} {σ τ : am_SS} {l : tx_l} {x3 x4 x5 u : Int32} {rec10 : Nat → Nat → Int32 → am_SS → Option (Bool × am_SS)} (hF : 2000 ≤ F) (hJ : tx_J ch c σ τ l) (h0 : σ 168 0 = 4) (h2 : σ 168 2 = Int32.ofNat k) (hk : k < 16) (hu : u ≠ -1) :
    (∃ σ' τ', C_Reader_readOrders_p188 rec10 F 157 2 (Int32.ofNat k) x3 x4 x5 u σ = some (false, σ') ∧ M_readOrder_p133 F (Int32.ofNat (64 + 4 * k)) (Int32.ofNat (67 + 4 * k)) u τ = some (-1, τ') ∧ tx_bad σ' τ' ∧ tn_F σ σ' ∧ tn_G τ τ') ∨
    (∃ l' σ' τ', l'.length < l.length ∧ C_Reader_readOrders_p188 rec10 F 157 2 (Int32.ofNat k) x3 x4 x5 u σ = rec10 157 2 (Int32.ofNat (k + 1)) σ' ∧ M_readOrder_p133 F (Int32.ofNat (64 + 4 * k)) (Int32.ofNat (67 + 4 * k)) u τ = some (0, τ') ∧ tx_J ch c σ' τ' l' ∧ σ' 168 0 = 4 ∧ σ' 168 2 = Int32.ofNat (k + 1) ∧ (∀ j, j < 4 * k → σ' 169 j = σ 169 j) ∧ σ' 169 (4 * k) = x3 ∧ σ' 169 (4 * k + 1) = x4 ∧ σ' 169 (4 * k + 2) = x5 ∧ σ' 169 (4 * k + 3) = u ∧ (∀ j, j < 67 + 4 * k → τ' 19 j = τ 19 j) ∧ τ' 19 (67 + 4 * k) = u ∧ tn_F σ σ' ∧ tn_G τ τ') := by
  have i3 : Int32.ofNat (64 + 4 * k) + 3 = Int32.ofNat (67 + 4 * k) := by rw [show (3 : Int32) = Int32.ofNat 3 from rfl, ni_add]; congr 1; omega
  have eM : M_readOrder_p133 F (Int32.ofNat (64 + 4 * k)) (Int32.ofNat (67 + 4 * k)) u τ = (M_readMark F 59 (am_up τ 19 (67 + 4 * k) u)).bind (fun q_4 => some (q_4.1, q_4.2)) := by
    have r : am_up τ 19 (67 + 4 * k) u 19 (67 + 4 * k) = u := by simp [am_up]
    rw [M_readOrder_p133, ni_wr (by omega) (by omega), Option.bind_some, i3, ni_rd (by omega) (by omega), Option.bind_some, r, if_neg hu]
  rw [eM]
  rcases tn_mark (F := F) hF (tn_row (a := 19) (k := 67 + 4 * k) (v := u) (by omega) hJ) with ⟨x, l', τ', e, a1, a2, a3, a4⟩ | ⟨σ', τ', a1, a2, a3, a4, a5⟩
  · right
    obtain ⟨r, σ2, b1, b2, b3, b4, b5, b6, b7, b8, b9, b10⟩ := tn_add (F := F) (k := k) (x1 := x3) (x2 := x4) (x3 := x5) (x4 := u) hF a3 (by rw [am_up_ne (by omega)]; exact h0) (by rw [am_up_ne (by omega)]; exact h2) hk
    refine ⟨l', σ2, τ', by rw [e, List.length_cons]; omega, ?_, by rw [a2]; rfl, b2, b3, b4, fun j hj => by rw [b5 j hj, am_up_ne (by omega)], b6, b7, b8, b9, fun j hj => ?_, ?_, fun b j q => ?_, tn_Gt (tn_Gr (by omega)) (tn_GD a4)⟩
    · rw [C_Reader_readOrders_p188, a1, Option.bind_some, if_pos rfl]
      show (C_Table_add F 168 _ _ _ _ _).bind _ = _
      rw [b1, Option.bind_some, am_let, ni_succ]
    · rw [a4 19 j (by omega)]; simp only [am_up]; rw [if_neg (by omega)]
    · rw [a4 19 _ (by omega)]; simp [am_up]
    · rw [b10 b j (by omega)]; simp only [am_up]; rw [if_neg (by omega)]
  · left
    exact ⟨σ', τ', by rw [C_Reader_readOrders_p188, a1, Option.bind_some, if_neg (by exact Bool.false_ne_true)], by rw [a2]; rfl, a3, tn_FF a4, tn_Gt (tn_Gr (by omega)) (tn_GG a5)⟩
/-- how much, and the mark -/
theorem or_A {F c k : Nat} {ch : Nat → Int32} {σ τ : am_SS} {l : tx_l} {d v x5 w q : Int32} {rec10 : Nat → Nat → Int32 → am_SS → Option (Bool × am_SS)} (hF : 2000 ≤ F) (hJ : tx_J ch c σ τ l) (h0 : σ 168 0 = 4) (h2 : σ 168 2 = Int32.ofNat k) (hk : k < 16) (hv : (v = 18 ∧ q = 0) ∨ (v ≠ 18 ∧ q ≠ 0)) (hw : w ≠ -1) :
    (∃ σ' τ', C_Reader_readOrders_p163 rec10 F 157 2 (Int32.ofNat k) d v x5 false σ = some (false, σ') ∧ M_readOrder_p96 F (Int32.ofNat (64 + 4 * k)) q (Int32.ofNat (66 + 4 * k)) w τ = some (-1, τ') ∧ tx_bad σ' τ' ∧ tn_F σ σ' ∧ tn_G τ τ') ∨
    (∃ l' σ' τ' u, l'.length < l.length ∧ C_Reader_readOrders_p163 rec10 F 157 2 (Int32.ofNat k) d v x5 false σ = rec10 157 2 (Int32.ofNat (k + 1)) σ' ∧ M_readOrder_p96 F (Int32.ofNat (64 + 4 * k)) q (Int32.ofNat (66 + 4 * k)) w τ = some (0, τ') ∧ tx_J ch c σ' τ' l' ∧ σ' 168 0 = 4 ∧ σ' 168 2 = Int32.ofNat (k + 1) ∧ (∀ j, j < 4 * k → σ' 169 j = σ 169 j) ∧ σ' 169 (4 * k) = d ∧ σ' 169 (4 * k + 1) = v ∧ σ' 169 (4 * k + 2) = x5 ∧ σ' 169 (4 * k + 3) = u ∧ (∀ j, j < 66 + 4 * k → τ' 19 j = τ 19 j) ∧ τ' 19 (66 + 4 * k) = w ∧ τ' 19 (67 + 4 * k) = u ∧ (v = 18 → rl_rg u 1 99) ∧ tn_F σ σ' ∧ tn_G τ τ') := by
  have i2 : Int32.ofNat (64 + 4 * k) + 2 = Int32.ofNat (66 + 4 * k) := by rw [show (2 : Int32) = Int32.ofNat 2 from rfl, ni_add]; congr 1; omega
  have i3 : Int32.ofNat (64 + 4 * k) + 3 = Int32.ofNat (67 + 4 * k) := by rw [show (3 : Int32) = Int32.ofNat 3 from rfl, ni_add]; congr 1; omega
  have r : am_up τ 19 (66 + 4 * k) w 19 (66 + 4 * k) = w := by simp [am_up]
  have eM : M_readOrder_p96 F (Int32.ofNat (64 + 4 * k)) q (Int32.ofNat (66 + 4 * k)) w τ = if q = 0 then (M_readNumber F 1 99 (am_up τ 19 (66 + 4 * k) w)).bind (fun q_5 => M_readOrder_p133 F (Int32.ofNat (64 + 4 * k)) (Int32.ofNat (67 + 4 * k)) q_5.1 q_5.2) else M_readOrder_p133 F (Int32.ofNat (64 + 4 * k)) (Int32.ofNat (67 + 4 * k)) 0 (am_up τ 19 (66 + 4 * k) w) := by
    rw [M_readOrder_p96, ni_wr (by omega) (by omega), Option.bind_some, i2, ni_rd (by omega) (by omega), Option.bind_some, r, if_neg hw, i3]
  rw [eM]
  have hJ1 := tn_row (a := 19) (k := 66 + 4 * k) (v := w) (by omega) hJ
  rcases hv with ⟨v1, v2⟩ | ⟨v1, v2⟩
  · rw [if_pos v2]
    have eC : C_Reader_readOrders_p163 rec10 F 157 2 (Int32.ofNat k) d v x5 false σ = (C_Reader_takes 157 1 99 σ).bind (fun q_2 => if q_2.1 = true then am_let (q_2.2 157 6) (fun x6_4 => C_Reader_readOrders_p188 rec10 F 157 2 (Int32.ofNat k) d v x5 x6_4 q_2.2) else some (false, q_2.2)) := by
      rw [C_Reader_readOrders_p163, if_pos v1]
    rw [eC]
    rcases tn_num (F := F) (lo := 1) (hi := 99) hF hJ1 with ⟨x, l', n, τ', e, f2, f3, f4, f5, f6, f7, f8, f9, f10⟩ | ⟨σ', τ', kk, f1, f2, f3, f4, f5, f6, f7⟩
    · have e6 : am_up (am_up σ 157 6 (Int32.ofNat n)) 157 5 ((σ 157 5) + 1) 157 6 = Int32.ofNat n := by simp [am_up]
      rw [f7, f8, Option.bind_some, Option.bind_some, if_pos rfl, am_let]
      dsimp only
      rw [e6]
      have ff : tn_F σ (am_up (am_up σ 157 6 (Int32.ofNat n)) 157 5 ((σ 157 5) + 1)) := tn_FF tx_up7
      have gg : tn_G τ τ' := tn_Gt (tn_Gr (by omega)) (tn_GD f10)
      rcases or_M (F := F) (k := k) (x3 := d) (x4 := v) (x5 := x5) (u := Int32.ofNat n) (rec10 := rec10) hF f9 (by rw [am_up_ne (by omega), am_up_ne (by omega)]; exact h0) (by rw [am_up_ne (by omega), am_up_ne (by omega)]; exact h2) hk (tn_nn n f2) with ⟨σ2, τ2, g1, g2, g3, g4, g5⟩ | ⟨l2, σ2, τ2, g1, g2, g3, g4, g5, g6, g7, g8, g9, g10, g11, g12, g13, g14, g15⟩
      · exact .inl ⟨σ2, τ2, g1, g2, g3, tn_Ft ff g4, tn_Gt gg g5⟩
      · refine .inr ⟨l2, σ2, τ2, Int32.ofNat n, by rw [e, List.length_cons]; omega, g2, g3, g4, g5, g6, fun j hj => by rw [g7 j hj, am_up_ne (by omega), am_up_ne (by omega)], g8, g9, g10, g11, fun j hj => ?_, ?_, g13, fun _ => ⟨f3, f4⟩, tn_Ft ff g14, tn_Gt gg g15⟩
        · rw [g12 j (by omega), f10 19 j (by omega)]; simp only [am_up]; rw [if_neg (by omega)]
        · rw [g12 _ (by omega), f10 19 _ (by omega)]; exact r
    · left
      have u1 : am_up τ' 19 (67 + 4 * k) (-1) 19 (67 + 4 * k) = -1 := by simp [am_up]
      refine ⟨σ', am_up τ' 19 (67 + 4 * k) (-1), by rw [f1, Option.bind_some, if_neg (by exact Bool.false_ne_true)], ?_, ?_, tn_FF f4, tn_Gt (tn_Gt (tn_Gr (by omega)) (tn_GG f5)) (tn_Gr (by omega))⟩
      · rw [f2, Option.bind_some, M_readOrder_p133, ni_wr (by omega) (by omega), Option.bind_some, i3, ni_rd (by omega) (by omega), Option.bind_some, u1, if_pos rfl]
      · exact ⟨by rw [am_up_ne (by omega)]; exact f3.1, by rw [am_up_ne (by omega)]; exact f3.2⟩
  · rw [if_neg v2]
    have eC : C_Reader_readOrders_p163 rec10 F 157 2 (Int32.ofNat k) d v x5 false σ = C_Reader_readOrders_p188 rec10 F 157 2 (Int32.ofNat k) d v x5 0 σ := by
      rw [C_Reader_readOrders_p163, if_neg v1]; rfl
    rw [eC]
    rcases or_M (F := F) (k := k) (x3 := d) (x4 := v) (x5 := x5) (u := 0) (rec10 := rec10) hF hJ1 h0 h2 hk (by decide) with ⟨σ2, τ2, g1, g2, g3, g4, g5⟩ | ⟨l2, σ2, τ2, g1, g2, g3, g4, g5, g6, g7, g8, g9, g10, g11, g12, g13, g14, g15⟩
    · exact .inl ⟨σ2, τ2, g1, g2, g3, g4, tn_Gt (tn_Gr (by omega)) g5⟩
    · refine .inr ⟨l2, σ2, τ2, 0, g1, g2, g3, g4, g5, g6, g7, g8, g9, g10, g11, fun j hj => ?_, ?_, g13, fun e => absurd e v1, g14, tn_Gt (tn_Gr (by omega)) g15⟩
      · rw [g12 j (by omega)]; simp only [am_up]; rw [if_neg (by omega)]
      · rw [g12 _ (by omega)]; exact r
/-- which order -/
theorem or_K {c : Nat} {ch : Nat → Int32} {σ τ : am_SS} {l : tx_l} (h : tx_J ch c σ τ l) :
    (∃ x l', l = x :: l' ∧ C_Reader_kind 157 σ = some 2 ∧ ∃ v, C_Reader_value 157 σ = some v ∧ ((v = 10 ∧ M_kindOfOrder τ = 1) ∨ (v = 18 ∧ M_kindOfOrder τ = 0) ∨ (v = 19 ∧ M_kindOfOrder τ = 2) ∨ (v = 20 ∧ M_kindOfOrder τ = 3) ∨ (v = 21 ∧ M_kindOfOrder τ = 4))) ∨
    (M_kindOfOrder τ = -1 ∧ ∃ k, C_Reader_kind 157 σ = some k ∧ (k = 2 → ∃ v, C_Reader_value 157 σ = some v ∧ v ≠ 10 ∧ (v < 18 ∨ 21 < v))) := by
  obtain ⟨h1, h2, ⟨s0, _, _, _, h3⟩⟩ := h
  have k := tx_kind h2
  cases l with
  | nil =>
    right
    exact ⟨by simp [M_kindOfOrder, M_isWord, h3.1], 0, k, fun e => absurd e (by decide)⟩
  | cons x l' =>
    have v := tx_val h2
    rw [tx_k0] at k
    rcases h3.2 with ⟨r1, r2, r3⟩ | ⟨r1, r2, r3, r4⟩ | ⟨r1, r2, r3⟩ | ⟨r1, _, r3, _⟩ | ⟨r1, _, r3, _⟩ | ⟨r1, _, r3⟩
    · right
      refine ⟨by simp [M_kindOfOrder, M_isWord, r3], _, k, fun _ => ⟨_, v, by rw [r2]; decide, .inl (by rw [r2]; decide)⟩⟩
    · by_cases q : x.2.2 = 10
      · left; exact ⟨x, l', rfl, by rw [k, r1], _, v, .inl ⟨q, by simp [M_kindOfOrder, M_isWord, r3, r4, q]⟩⟩
      by_cases q8 : x.2.2 = 18
      · left; exact ⟨x, l', rfl, by rw [k, r1], _, v, .inr (.inl ⟨q8, by simp [M_kindOfOrder, M_isWord, r3, r4, q8]⟩)⟩
      by_cases q9 : M_isIn x.2.2 19 21 = true
      · left
        have := ni_in.mp q9
        have o : x.2.2 = 19 ∨ x.2.2 = 20 ∨ x.2.2 = 21 := by grind
        rcases o with o | o | o
        · exact ⟨x, l', rfl, by rw [k, r1], _, v, .inr (.inr (.inl ⟨o, by rw [M_kindOfOrder, M_isWord, M_isWord, r3, r4, o]; rfl⟩))⟩
        · exact ⟨x, l', rfl, by rw [k, r1], _, v, .inr (.inr (.inr (.inl ⟨o, by rw [M_kindOfOrder, M_isWord, M_isWord, r3, r4, o]; rfl⟩)))⟩
        · exact ⟨x, l', rfl, by rw [k, r1], _, v, .inr (.inr (.inr (.inr ⟨o, by rw [M_kindOfOrder, M_isWord, M_isWord, r3, r4, o]; rfl⟩)))⟩
      · right
        refine ⟨by simp [M_kindOfOrder, M_isWord, r3, r4, q, q8, q9], _, k, fun _ => ⟨_, v, q, ?_⟩⟩
        have := mt ni_in.mpr q9
        grind
    · right; exact ⟨by simp [M_kindOfOrder, M_isWord, r3], _, k, fun e => by rw [r1] at e; exact absurd e (by decide)⟩
    · right; exact ⟨by simp [M_kindOfOrder, M_isWord, r3], _, k, fun e => by rw [r1] at e; exact absurd e (by decide)⟩
    · right; exact ⟨by simp [M_kindOfOrder, M_isWord, r3], _, k, fun e => by rw [r1] at e; exact absurd e (by decide)⟩
    · right; exact ⟨by simp [M_kindOfOrder, M_isWord, r3], _, k, fun e => by rw [r1] at e; exact absurd e (by decide)⟩
theorem or_lt {n w : Nat} (hn : n ≤ 12) (hw : w < 10000) (h : Int32.ofNat w ≤ Int32.ofNat n - 1) : w < n := by
  by_cases q : n = 0
  · subst q
    exact absurd h (by
      rw [show Int32.ofNat 0 - 1 = -1 from rfl]
      have := ni_nn (a := w) (by omega)
      grind)
  · rw [ni_pred (by omega)] at h
    have := (ni_le (by omega) (by omega)).mp h
    omega
theorem or_keep {cells cells' arr arr' : Nat → Int32} {n m i : Nat} (h : rl_or1 cells arr n m i) (h1 : ∀ j, 4 * i ≤ j → j < 4 * i + 4 → cells' j = cells j) (h2 : ∀ j, 4 * i ≤ j → j < 4 * i + 4 → arr' j = arr j) : rl_or1 cells' arr' n m i := by
  unfold rl_or1 at h ⊢
  rw [h1 (4 * i) (by omega) (by omega), h2 (4 * i) (by omega) (by omega), h1 (4 * i + 1) (by omega) (by omega), h2 (4 * i + 1) (by omega) (by omega), h1 (4 * i + 2) (by omega) (by omega), h2 (4 * i + 2) (by omega) (by omega), h1 (4 * i + 3) (by omega) (by omega), h2 (4 * i + 3) (by omega) (by omega)]
  exact h
theorem tn_failJ {c : Nat} {ch : Nat → Int32} {σ τ : am_SS} {l : tx_l} (k : Int32) (h : tx_J ch c σ τ l) : ∃ σ', (C_Reader_fail 157 k (σ 157 5) σ).bind (fun q => some (q.1, q.2)) = some (false, σ') ∧ tn_F σ σ' ∧ (M_errs k τ).1 = -1 ∧ tx_bad σ' (M_errs k τ).2 ∧ tn_G τ (M_errs k τ).2 ∧ C_Reader_fail 157 k (σ 157 5) σ = some (false, σ') := by
  obtain ⟨σ', a1, a2, a3, a4, a5⟩ := tx_fail k h
  exact ⟨σ', by rw [a1]; rfl, tn_FF a4, a2, a3, tn_GG a5, a1⟩
theorem tn_ords {F c n m : Nat} {ch : Nat → Int32} (hF : 2000 ≤ F) (hn : n ≤ 12) (hm : m ≤ 12) : ∀ (N gC gM k : Nat) (σ τ : am_SS) (l : tx_l), l.length < N → N ≤ gC → N ≤ gM → k ≤ 16 → tx_J ch c σ τ l → σ 168 0 = 4 → σ 168 2 = Int32.ofNat k →
    σ 2 0 = Int32.ofNat n → σ 2 8 = Int32.ofNat m → τ 0 6 = Int32.ofNat n → τ 0 7 = Int32.ofNat m → (∀ i, i < k → rl_or1 (σ 169) (fun j => τ 19 (64 + j)) n m i) →
    tn_out σ τ (C_Reader_readOrders_l10 F gC 157 2 (Int32.ofNat k) σ) (M_readOrders_l2 F gM (Int32.ofNat k) τ) (fun k' σ' τ' => ∀ i, i < k' → rl_or1 (σ' 169) (fun j => τ' 19 (64 + j)) n m i) := by
  intro N
  induction N with
  | zero => intro gC gM k σ τ l h; omega
  | succ N ih =>
    intro gC gM k σ τ l hN hgC hgM hk hJ h0 h2 s1 s2 t1 t2 hor
    obtain ⟨gC, rfl⟩ : ∃ z, gC = z + 1 := ⟨gC - 1, by omega⟩
    obtain ⟨gM, rfl⟩ : ∃ z, gM = z + 1 := ⟨gM - 1, by omega⟩
    have k16 : ¬ (16 : Int32) < Int32.ofNat k := fun g => by have := (ni_lt (a := 16) (by omega) (by omega)).mp g; omega
    cases l with
    | nil =>
      obtain ⟨q1, q2, q3⟩ := tn_word0 (w := 17) hJ
      refine ⟨true, σ, Int32.ofNat k, τ, ?_, tn_F0, ?_, tn_G0, .inr ⟨rfl, k, rfl, hk, h2, hJ.2.1.1.2.1, hJ.2.1.1.2.2, hor⟩⟩
      · rw [C_Reader_readOrders_l10, if_neg k16, q1, Option.bind_some, if_pos rfl]
      · rw [M_readOrders_l2, q3, if_neg (by decide), if_pos q2]
    | cons x l1 =>
      obtain ⟨kk, q1, q0⟩ := tx_cons hJ
      have cA : C_Reader_readOrders_l10 F (gC + 1) 157 2 (Int32.ofNat k) σ = (C_Reader_opens 157 (Int32.ofNat k) 17 17 σ).bind (fun q_4 =>
        if q_4.1 = true then (
        (C_Reader_takes 157 0 999 q_4.2).bind (fun q_6 =>
        if q_6.1 = true then (
        am_let (q_6.2 157 6) (fun x3_8 =>
        (C_Reader_kind 157 q_6.2).bind (fun q_9 =>
        if q_9 = 2 then (
        (C_Reader_value 157 q_6.2).bind (fun q_11 =>
        C_Reader_readOrders_p71 (C_Reader_readOrders_l10 F gC) F 157 2 (Int32.ofNat k) x3_8 q_11 q_6.2))
        else (
        C_Reader_readOrders_p71 (C_Reader_readOrders_l10 F gC) F 157 2 (Int32.ofNat k) x3_8 (-1) q_6.2))))
        else (
        some (false, q_6.2))))
        else (
        some (false, q_4.2))) := by
        rw [C_Reader_readOrders_l10, if_neg k16, q1, Option.bind_some, if_neg q0]
      have bad0 : ∀ e : Int32, C_Reader_opens 157 (Int32.ofNat k) 17 17 σ = (C_Reader_fail 157 e (σ 157 5) σ).bind (fun q => some (q.1, q.2)) → M_readOrders_l2 F (gM + 1) (Int32.ofNat k) τ = some ((M_errs e τ).1, (M_errs e τ).2) →
          tn_out σ τ (C_Reader_readOrders_l10 F (gC + 1) 157 2 (Int32.ofNat k) σ) (M_readOrders_l2 F (gM + 1) (Int32.ofNat k) τ) (fun k' σ' τ' => ∀ i, i < k' → rl_or1 (σ' 169) (fun j => τ' 19 (64 + j)) n m i) := by
        intro e a b
        obtain ⟨σ', a1, a2, a3, a4, a5, a6⟩ := tn_failJ e hJ
        exact ⟨false, σ', -1, (M_errs e τ).2, by rw [cA, a, a1, Option.bind_some, if_neg (by exact Bool.false_ne_true)], a2, by rw [b, a3], a5, .inl ⟨rfl, rfl, a4⟩⟩
      rcases tn_word (F := F) (w := 17) (by decide) hJ hk with ⟨w1, w2⟩ | ⟨w1, w2, w3⟩
      case inr => exact bad0 1 w3 (by rw [M_readOrders_l2, w1, if_neg (by decide), if_neg w2]; rfl)
      by_cases wk : k < 16
      case neg =>
        rw [if_neg wk] at w2
        exact bad0 3 w2 (by rw [M_readOrders_l2, w1, if_pos rfl, if_pos (show Int32.ofNat k = 16 by rw [show k = 16 by omega]; rfl)]; rfl)
      rw [if_pos wk] at w2
      have nk : ¬ Int32.ofNat k = 16 := fun g => by have := (ni_eq (b := 16) (by omega) (by omega)).mp g; omega
      have ia : (64 : Int32) + 4 * Int32.ofNat k = Int32.ofNat (64 + 4 * k) := by rw [show (4 : Int32) = Int32.ofNat 4 from rfl, show (64 : Int32) = Int32.ofNat 64 from rfl, ni_mul, ni_add]
      have i1 : Int32.ofNat (64 + 4 * k) + 1 = Int32.ofNat (65 + 4 * k) := by rw [ni_succ]; congr 1; omega
      have i2 : Int32.ofNat (64 + 4 * k) + 2 = Int32.ofNat (66 + 4 * k) := by rw [show (2 : Int32) = Int32.ofNat 2 from rfl, ni_add]; congr 1; omega
      simp only [List.length_cons] at hN
      -- the word
      obtain ⟨τ1, r1, r2, r3⟩ := tx_step (F := F) hF (tx_J6 (v := τ 0 18) hJ)
      have e5 : am_up σ 157 6 (τ 0 18) 157 5 = σ 157 5 := by simp [am_up]
      rw [e5] at r2
      rw [w2, Option.bind_some, if_pos rfl] at cA
      dsimp only at cA
      -- the whole line of the reference
      have mA : ∀ X, M_readOrder F (Int32.ofNat (64 + 4 * k)) τ = some X → M_readOrders_l2 F (gM + 1) (Int32.ofNat k) τ = if X.1 = -1 then some (-1, X.2) else M_readOrders_l2 F gM (Int32.ofNat (k + 1)) X.2 := by
        intro X hX
        rw [M_readOrders_l2, w1, if_pos rfl, if_neg nk, ia, hX, Option.bind_some]; simp only [am_let]; rw [ni_succ]
      have mB : M_readOrder F (Int32.ofNat (64 + 4 * k)) τ = (M_readNumber F 0 999 τ1).bind (fun q_1 => (am_wr q_1.2 19 128 (Int32.ofNat (64 + 4 * k)) q_1.1).bind (fun σ_2 =>
          (am_rd σ_2 19 128 (Int32.ofNat (64 + 4 * k))).bind (fun t_3 =>
          if t_3 = (-1) then (
          some ((-1), σ_2))
          else (
          am_let ((M_kindOfOrder σ_2)) (fun x2_6 =>
          if x2_6 = (-1) then (
          am_let (M_errs 1 σ_2) (fun q_12 =>
          some (q_12.1, q_12.2)))
          else (
          (M_reads F σ_2).bind (fun q_8 =>
          (am_wr q_8 19 128 (Int32.ofNat (65 + 4 * k)) x2_6).bind (fun σ_9 =>
          if x2_6 = 4 then (
          M_readOrder_p96 F (Int32.ofNat (64 + 4 * k)) x2_6 (Int32.ofNat (66 + 4 * k)) 0 σ_9)
          else (
          if x2_6 = 3 then (
          M_readOrder_p91 F (Int32.ofNat (64 + 4 * k)) x2_6 (Int32.ofNat (66 + 4 * k)) false (σ_9 0 7) σ_9)
          else (
          M_readOrder_p91 F (Int32.ofNat (64 + 4 * k)) x2_6 (Int32.ofNat (66 + 4 * k)) false (σ_9 0 6) σ_9)))))))))) := by
        rw [M_readOrder, M_readTold, w1, if_pos rfl, r1, Option.bind_some, i1, i2]
        cases M_readNumber F 0 999 τ1 with
        | none => rfl
        | some X => rfl
      have ff1 : tn_F σ (am_up (am_up σ 157 6 (τ 0 18)) 157 5 (σ 157 5 + 1)) := tn_FF tx_up7
      have noM : ∀ X, M_readOrder F (Int32.ofNat (64 + 4 * k)) τ = some (-1, X) → M_readOrders_l2 F (gM + 1) (Int32.ofNat k) τ = some (-1, X) := fun X h => by rw [mA _ h, if_pos rfl]
      rcases tn_num (F := F) (lo := 0) (hi := 999) hF r2 with ⟨y, l2, d, τ2, e, f2, f3, f4, f5, f6, f7, f8, f9, f10⟩ | ⟨σ2, τ2, kk2, f1, f2, f3, f4, f5, f6, f7⟩
      case inr =>
        have u1 : am_up τ2 19 (64 + 4 * k) (-1) 19 (64 + 4 * k) = -1 := by simp [am_up]
        refine ⟨false, σ2, -1, am_up τ2 19 (64 + 4 * k) (-1), by rw [cA, f1, Option.bind_some, if_neg (by exact Bool.false_ne_true)], tn_Ft ff1 (tn_FF f4), ?_, tn_Gt (tn_Gt (tn_GD r3) (tn_GG f5)) (tn_Gr (by omega)), .inl ⟨rfl, rfl, ?_⟩⟩
        · exact noM _ (by rw [mB, f2, Option.bind_some, ni_wr (by omega) (by omega), Option.bind_some, ni_rd (by omega) (by omega), Option.bind_some, u1, if_pos rfl])
        · exact ⟨by rw [am_up_ne (by omega)]; exact f3.1, by rw [am_up_ne (by omega)]; exact f3.2⟩
      subst e
      simp only [List.length_cons] at hN
      rw [f7, Option.bind_some, if_pos rfl, am_let] at cA
      dsimp only at cA
      -- names for the two states
      generalize hσ2 : am_up (am_up (am_up (am_up σ 157 6 (τ 0 18)) 157 5 (σ 157 5 + 1)) 157 6 (Int32.ofNat d)) 157 5 (am_up (am_up σ 157 6 (τ 0 18)) 157 5 (σ 157 5 + 1) 157 5 + 1) = σ2 at cA f9
      have e6 : σ2 157 6 = Int32.ofNat d := by rw [← hσ2]; simp [am_up]
      have g2 : ∀ a j, a ≠ 157 → σ2 a j = σ a j := fun a j q => by rw [← hσ2]; simp [am_up, q]
      have ff2 : tn_F σ σ2 := by
        intro a j q; rw [← hσ2]; simp only [am_up]; rw [if_neg (by omega), if_neg (by omega), if_neg (by omega), if_neg (by omega)]
      rw [e6] at cA
      have hJ3 := tn_row (a := 19) (k := 64 + 4 * k) (v := Int32.ofNat d) (by omega) f9
      have u3 : am_up τ2 19 (64 + 4 * k) (Int32.ofNat d) 19 (64 + 4 * k) = Int32.ofNat d := by simp [am_up]
      have gg3 : tn_G τ (am_up τ2 19 (64 + 4 * k) (Int32.ofNat d)) := tn_Gt (tn_Gt (tn_GD r3) (tn_GD f10)) (tn_Gr (by omega))
      rw [f8, Option.bind_some, ni_wr (by omega) (by omega), Option.bind_some, ni_rd (by omega) (by omega), Option.bind_some, u3, if_neg (tn_nn d f2)] at mB
      simp only [am_let] at mB
      generalize hτ3 : am_up τ2 19 (64 + 4 * k) (Int32.ofNat d) = τ3 at mB hJ3 gg3
      have t19 : ∀ j, j < 64 + 4 * k → τ3 19 j = τ 19 j := fun j hj => by
        rw [← hτ3]; simp only [am_up]; rw [if_neg (by omega), f10 19 j (by omega), r3 19 j (by omega)]
      have t19d : τ3 19 (64 + 4 * k) = Int32.ofNat d := by rw [← hτ3]; simp [am_up]
      rcases or_K hJ3 with ⟨z, l3, e, k2, v, kv, hv⟩ | ⟨km, kk3, k2, k3⟩
      case inr =>
        obtain ⟨σ', a1, a2, a3, a4, a5, a6⟩ := tn_failJ 1 hJ3
        have p94 : C_Reader_readOrders_p94 F 157 σ2 = some (false, σ') := by rw [C_Reader_readOrders_p94]; exact a1
        refine ⟨false, σ', -1, (M_errs 1 τ3).2, ?_, tn_Ft ff2 a2, noM _ (by rw [mB, km, if_pos rfl, a3]), tn_Gt gg3 a5, .inl ⟨rfl, rfl, a4⟩⟩
        rw [cA, k2, Option.bind_some]
        by_cases q : kk3 = 2
        · obtain ⟨v, v1, v2, v3⟩ := k3 q
          rw [if_pos q, v1, Option.bind_some, C_Reader_readOrders_p71, if_neg v2]
          by_cases q' : v < 18
          · rw [if_pos q']; exact p94
          · rw [if_neg q', if_pos (v3.resolve_left q')]; exact p94
        · rw [if_neg q, C_Reader_readOrders_p71, if_neg (by decide), if_pos (by decide)]; exact p94
      subst e
      simp only [List.length_cons] at hN
      obtain ⟨τ4, b1, b2, b3⟩ := tx_step (F := F) hF hJ3
      -- the class's road to p104
      have cB : C_Reader_readOrders_l10 F (gC + 1) 157 2 (Int32.ofNat k) σ = C_Reader_readOrders_p104 (C_Reader_readOrders_l10 F gC) F 157 2 (Int32.ofNat k) (Int32.ofNat d) v σ2 := by
        rw [cA, k2, Option.bind_some, if_pos rfl, kv, Option.bind_some, C_Reader_readOrders_p71]
        rcases hv with ⟨rfl, _⟩ | ⟨rfl, _⟩ | ⟨rfl, _⟩ | ⟨rfl, _⟩ | ⟨rfl, _⟩ <;> rfl
      -- what is left, once kind q is known
      have line : ∀ (q : Int32), M_kindOfOrder τ3 = q → q ≠ -1 → ((v = 18 ∧ q = 0) ∨ (v ≠ 18 ∧ q ≠ 0)) →
          (∀ w, C_Reader_readOrders_p104 (C_Reader_readOrders_l10 F gC) F 157 2 (Int32.ofNat k) (Int32.ofNat d) v σ2 = w → True) →
          ∀ (σ5 τ5 : am_SS) (l5 : tx_l) (x5 w : Int32), l5.length ≤ l3.length → tx_J ch c σ5 τ5 l5 → tn_F σ2 σ5 → (∀ a j, a ≠ 157 → σ5 a j = σ2 a j) → tn_G τ3 τ5 → (∀ j, j < 65 + 4 * k → τ5 19 j = τ3 19 j) → τ5 19 (65 + 4 * k) = q → w ≠ -1 →
            C_Reader_readOrders_p104 (C_Reader_readOrders_l10 F gC) F 157 2 (Int32.ofNat k) (Int32.ofNat d) v σ2 = C_Reader_readOrders_p163 (C_Reader_readOrders_l10 F gC) F 157 2 (Int32.ofNat k) (Int32.ofNat d) v x5 false σ5 →
            M_readOrder F (Int32.ofNat (64 + 4 * k)) τ = M_readOrder_p96 F (Int32.ofNat (64 + 4 * k)) q (Int32.ofNat (66 + 4 * k)) w τ5 →
            (∀ u, (v = 18 → rl_rg u 1 99) → ((v = 18 ∧ q = 0 ∧ (∃ w', w' < n ∧ x5 = Int32.ofNat w' ∧ w = Int32.ofNat w') ∧ rl_rg u 1 99) ∨ (v = 10 ∧ q = 1 ∧ (∃ w', w' < n ∧ x5 = Int32.ofNat w' ∧ w = Int32.ofNat w')) ∨ (v = 19 ∧ q = 2 ∧ (∃ w', w' < n ∧ x5 = Int32.ofNat w' ∧ w = Int32.ofNat w')) ∨ (v = 20 ∧ q = 3 ∧ (∃ w', w' < m ∧ x5 = Int32.ofNat w' ∧ w = Int32.ofNat w')) ∨ (v = 21 ∧ q = 4 ∧ x5 = -1))) →
            tn_out σ τ (C_Reader_readOrders_l10 F (gC + 1) 157 2 (Int32.ofNat k) σ) (M_readOrders_l2 F (gM + 1) (Int32.ofNat k) τ) (fun k' σ' τ' => ∀ i, i < k' → rl_or1 (σ' 169) (fun j => τ' 19 (64 + j)) n m i) := by
        intro q hq hq1 hvq _ σ5 τ5 l5 x5 w hl5 hJ5 ff5 same5 gg5 t5 t5q hw eC eM fact
        rcases or_A (F := F) (k := k) (d := Int32.ofNat d) (v := v) (x5 := x5) (w := w) (q := q) (rec10 := C_Reader_readOrders_l10 F gC) hF hJ5 (by rw [same5 168 0 (by omega), g2 168 0 (by omega)]; exact h0) (by rw [same5 168 2 (by omega), g2 168 2 (by omega)]; exact h2) (by omega) hvq hw with ⟨σ6, τ6, y1, y2, y3, y4, y5⟩ | ⟨l6, σ6, τ6, u, y1, y2, y3, y4, y5, y6, y7, y8, y9, y10, y11, y12, y13, y14, y15, y16, y17⟩
        · exact ⟨false, σ6, -1, τ6, by rw [cB, eC, y1], tn_Ft (tn_Ft ff2 ff5) y4, noM _ (by rw [eM, y2]), tn_Gt (tn_Gt gg3 gg5) y5, .inl ⟨rfl, rfl, y3⟩⟩
        · have ffT : tn_F σ σ6 := tn_Ft (tn_Ft ff2 ff5) y16
          have ggT : tn_G τ τ6 := tn_Gt (tn_Gt gg3 gg5) y17
          have lowC : ∀ j, j < 4 * k → σ6 169 j = σ 169 j := fun j hj => by rw [y7 j hj, same5 169 j (by omega), g2 169 j (by omega)]
          have lowM : ∀ j, j < 64 + 4 * k → τ6 19 j = τ 19 j := fun j hj => by rw [y12 j (by omega), t5 j (by omega), t19 j hj]
          have z := ih gC gM (k + 1) σ6 τ6 l6 (by omega) (by omega) (by omega) (by omega) y4 y5 y6 (by rw [ffT 2 0 (by omega)]; exact s1) (by rw [ffT 2 8 (by omega)]; exact s2) (by rw [ggT 0 6 (by omega)]; exact t1) (by rw [ggT 0 7 (by omega)]; exact t2) (fun i hi => by
            by_cases qi : i < k
            · exact or_keep (hor i qi) (fun j h1 h2 => lowC j (by omega)) (fun j h1 h2 => lowM (64 + j) (by omega))
            · have ei : i = k := by omega
              subst ei
              have a0 : τ6 19 (64 + 4 * i) = Int32.ofNat d := by rw [y12 _ (by omega), t5 _ (by omega), t19d]
              have a1 : τ6 19 (64 + (4 * i + 1)) = q := by rw [show 64 + (4 * i + 1) = 65 + 4 * i by omega, y12 _ (by omega), t5q]
              have a2 : τ6 19 (64 + (4 * i + 2)) = w := by rw [show 64 + (4 * i + 2) = 66 + 4 * i by omega, y13]
              have a3 : τ6 19 (64 + (4 * i + 3)) = u := by rw [show 64 + (4 * i + 3) = 67 + 4 * i by omega, y14]
              unfold rl_or1
              dsimp only
              rw [a0, a1, a2, a3, y8, y9, y10, y11]
              refine ⟨rfl, ⟨f3, f4⟩, ?_⟩
              rcases fact u y15 with ⟨p1, p2, p3, p4⟩ | p | p | p | p
              · exact .inl ⟨p1, p2, p3, rfl, p4⟩
              · exact .inr (.inl p)
              · exact .inr (.inr (.inl p))
              · exact .inr (.inr (.inr (.inl p)))
              · exact .inr (.inr (.inr (.inr p))))
          obtain ⟨b', σ', r, τ', z1, z2, z3, z4, z5⟩ := z
          exact ⟨b', σ', r, τ', by rw [cB, eC, y2, z1], tn_Ft ffT z2, by rw [mA _ (eM.trans y3), if_neg (by exact tx_01), z3], tn_Gt ggT z4, z5⟩
      -- kind by kind
      have hJ5 : ∀ q, tx_J ch c (am_up σ2 157 5 (σ2 157 5 + 1)) (am_up τ4 19 (65 + 4 * k) q) l3 := fun q => tn_row (by omega) b2
      have same5 : ∀ a j, a ≠ 157 → am_up σ2 157 5 (σ2 157 5 + 1) a j = σ2 a j := fun a j q => by rw [am_up_ne q]
      have gg5 : ∀ q, tn_G τ3 (am_up τ4 19 (65 + 4 * k) q) := fun q => tn_Gt (tn_GD b3) (tn_Gr (by omega))
      have t5 : ∀ q j, j < 65 + 4 * k → am_up τ4 19 (65 + 4 * k) q 19 j = τ3 19 j := fun q j hj => by
        simp only [am_up]; rw [if_neg (by omega), b3 19 j (by omega)]
      have t5q : ∀ q, am_up τ4 19 (65 + 4 * k) q 19 (65 + 4 * k) = q := fun q => by simp [am_up]
      have mC : ∀ q, M_kindOfOrder τ3 = q → q ≠ -1 → M_readOrder F (Int32.ofNat (64 + 4 * k)) τ = if q = 4 then M_readOrder_p96 F (Int32.ofNat (64 + 4 * k)) q (Int32.ofNat (66 + 4 * k)) 0 (am_up τ4 19 (65 + 4 * k) q) else if q = 3 then M_readOrder_p91 F (Int32.ofNat (64 + 4 * k)) q (Int32.ofNat (66 + 4 * k)) false (am_up τ4 19 (65 + 4 * k) q 0 7) (am_up τ4 19 (65 + 4 * k) q) else M_readOrder_p91 F (Int32.ofNat (64 + 4 * k)) q (Int32.ofNat (66 + 4 * k)) false (am_up τ4 19 (65 + 4 * k) q 0 6) (am_up τ4 19 (65 + 4 * k) q) := by
        intro q hq hq1
        rw [mB, hq, if_neg hq1, b1, Option.bind_some, ni_wr (by omega) (by omega), Option.bind_some]
      -- an order for one of them
      have one : ∀ (q : Int32) (nn : Nat) (slot : Nat), nn ≤ 12 → M_kindOfOrder τ3 = q → q ≠ -1 → ((v = 18 ∧ q = 0) ∨ (v ≠ 18 ∧ q ≠ 0)) →
          C_Reader_readOrders_p104 (C_Reader_readOrders_l10 F gC) F 157 2 (Int32.ofNat k) (Int32.ofNat d) v σ2 = C_Reader_readOrders_p147 (C_Reader_readOrders_l10 F gC) F 157 2 (Int32.ofNat k) (Int32.ofNat d) v false 157 false (Int32.ofNat nn) (am_up σ2 157 5 (σ2 157 5 + 1)) →
          M_readOrder F (Int32.ofNat (64 + 4 * k)) τ = M_readOrder_p91 F (Int32.ofNat (64 + 4 * k)) q (Int32.ofNat (66 + 4 * k)) false (Int32.ofNat nn) (am_up τ4 19 (65 + 4 * k) q) →
          (∀ w' u, w' < nn → (v = 18 → rl_rg u 1 99) → ((v = 18 ∧ q = 0 ∧ (∃ w'', w'' < n ∧ Int32.ofNat w' = Int32.ofNat w'' ∧ Int32.ofNat w' = Int32.ofNat w'') ∧ rl_rg u 1 99) ∨ (v = 10 ∧ q = 1 ∧ (∃ w'', w'' < n ∧ Int32.ofNat w' = Int32.ofNat w'' ∧ Int32.ofNat w' = Int32.ofNat w'')) ∨ (v = 19 ∧ q = 2 ∧ (∃ w'', w'' < n ∧ Int32.ofNat w' = Int32.ofNat w'' ∧ Int32.ofNat w' = Int32.ofNat w'')) ∨ (v = 20 ∧ q = 3 ∧ (∃ w'', w'' < m ∧ Int32.ofNat w' = Int32.ofNat w'' ∧ Int32.ofNat w' = Int32.ofNat w'')) ∨ (v = 21 ∧ q = 4 ∧ Int32.ofNat w' = -1))) →
          tn_out σ τ (C_Reader_readOrders_l10 F (gC + 1) 157 2 (Int32.ofNat k) σ) (M_readOrders_l2 F (gM + 1) (Int32.ofNat k) τ) (fun k' σ' τ' => ∀ i, i < k' → rl_or1 (σ' 169) (fun j => τ' 19 (64 + j)) n m i) := by
        intro q nn slot hnn hq hq1 hvq eC eM fact
        rcases tn_num (F := F) (lo := 0) (hi := Int32.ofNat nn - 1) hF (hJ5 q) with ⟨y', l6, w', τ6, e, h2', h3', h4', h5', h6', h7', h8', h9', h10'⟩ | ⟨σ6, τ6, kk6, h1', h2', h3', h4', h5', h6', h7'⟩
        · have e66 : am_up (am_up (am_up σ2 157 5 (σ2 157 5 + 1)) 157 6 (Int32.ofNat w')) 157 5 (am_up σ2 157 5 (σ2 157 5 + 1) 157 5 + 1) 157 6 = Int32.ofNat w' := by simp [am_up]
          refine line q hq hq1 hvq (fun _ _ => trivial) _ τ6 l6 (Int32.ofNat w') (Int32.ofNat w') (by rw [e, List.length_cons]; omega) h9' (tn_Ft (tn_FF tx_up5) (tn_FF tx_up7)) (fun a j qq => by rw [am_up_ne qq, am_up_ne qq, am_up_ne qq]) (tn_Gt (gg5 q) (tn_GD h10')) (fun j hj => by rw [h10' 19 j (by omega)]; exact t5 q j hj) (by rw [h10' 19 _ (by omega)]; exact t5q q) (tn_nn w' h2') ?_ ?_ (fun u hu => fact w' u (or_lt hnn h2' h4') hu)
          · rw [eC, C_Reader_readOrders_p147]
            show (C_Reader_takes 157 0 _ _).bind _ = _
            rw [h7', Option.bind_some, if_pos rfl, am_let]
            dsimp only
            rw [e66]
          · rw [eM, M_readOrder_p91]
            show (M_readNumber F 0 _ _).bind _ = _
            rw [h8', Option.bind_some]
        · have u1 : am_up τ6 19 (66 + 4 * k) (-1) 19 (66 + 4 * k) = -1 := by simp [am_up]
          refine ⟨false, σ6, -1, am_up τ6 19 (66 + 4 * k) (-1), ?_, tn_Ft ff2 (tn_Ft (tn_FF tx_up5) (tn_FF h4')), noM _ ?_, tn_Gt (tn_Gt gg3 (gg5 q)) (tn_Gt (tn_GG h5') (tn_Gr (by omega))), .inl ⟨rfl, rfl, ?_⟩⟩
          · rw [cB, eC, C_Reader_readOrders_p147]
            show (C_Reader_takes 157 0 _ _).bind _ = _
            rw [h1', Option.bind_some, if_neg (by exact Bool.false_ne_true)]
          · rw [eM, M_readOrder_p91]
            show (M_readNumber F 0 _ _).bind _ = _
            rw [h2', Option.bind_some, M_readOrder_p96, ni_wr (by omega) (by omega), Option.bind_some, i2, ni_rd (by omega) (by omega), Option.bind_some, u1, if_pos rfl]
          · exact ⟨by rw [am_up_ne (by omega)]; exact h3'.1, by rw [am_up_ne (by omega)]; exact h3'.2⟩
      have cn : ∀ slot, am_up σ2 157 5 (σ2 157 5 + 1) 2 slot = σ 2 slot := fun slot => by rw [am_up_ne (by omega), g2 2 slot (by omega)]
      have mn : ∀ q slot, slot = 6 ∨ slot = 7 → am_up τ4 19 (65 + 4 * k) q 0 slot = τ 0 slot := fun q slot hs => by
        rw [am_up_ne (by omega), b3 0 slot (by omega), gg3 0 slot (by omega)]
      rcases hv with ⟨rfl, hv⟩ | ⟨rfl, hv⟩ | ⟨rfl, hv⟩ | ⟨rfl, hv⟩ | ⟨rfl, hv⟩
      · refine one 1 n 0 hn hv (by decide) (.inr ⟨by decide, by decide⟩) ?_ ?_ (fun w' u hw hu => .inr (.inl ⟨rfl, rfl, w', hw, rfl, rfl⟩))
        · rw [C_Reader_readOrders_p104, am_let, if_neg (by decide), if_neg (by decide), cn, s1]
        · rw [mC 1 hv (by decide), if_neg (by decide), if_neg (by decide), mn 1 6 (.inl rfl), t1]
      · refine one 0 n 0 hn hv (by decide) (.inl ⟨rfl, rfl⟩) ?_ ?_ (fun w' u hw hu => .inl ⟨rfl, rfl, ⟨w', hw, rfl, rfl⟩, hu rfl⟩)
        · rw [C_Reader_readOrders_p104, am_let, if_neg (by decide), if_neg (by decide), cn, s1]
        · rw [mC 0 hv (by decide), if_neg (by decide), if_neg (by decide), mn 0 6 (.inl rfl), t1]
      · refine one 2 n 0 hn hv (by decide) (.inr ⟨by decide, by decide⟩) ?_ ?_ (fun w' u hw hu => .inr (.inr (.inl ⟨rfl, rfl, w', hw, rfl, rfl⟩)))
        · rw [C_Reader_readOrders_p104, am_let, if_neg (by decide), if_neg (by decide), cn, s1]
        · rw [mC 2 hv (by decide), if_neg (by decide), if_neg (by decide), mn 2 6 (.inl rfl), t1]
      · refine one 3 m 0 hm hv (by decide) (.inr ⟨by decide, by decide⟩) ?_ ?_ (fun w' u hw hu => .inr (.inr (.inr (.inl ⟨rfl, rfl, w', hw, rfl, rfl⟩))))
        · rw [C_Reader_readOrders_p104, am_let, if_neg (by decide), if_pos rfl, cn, s2]
        · rw [mC 3 hv (by decide), if_neg (by decide), if_pos rfl, mn 3 7 (.inr rfl), t2]
      · refine line 4 hv (by decide) (.inr ⟨by decide, by decide⟩) (fun _ _ => trivial) _ _ l3 (-1) 0 (Nat.le_refl _) (hJ5 4) (tn_FF tx_up5) same5 (gg5 4) (t5 4) (t5q 4) (by decide) ?_ ?_ (fun u hu => .inr (.inr (.inr (.inr ⟨rfl, rfl, rfl⟩))))
        · rw [C_Reader_readOrders_p104, am_let, if_pos rfl]
        · rw [mC 4 hv (by decide), if_pos rfl]
