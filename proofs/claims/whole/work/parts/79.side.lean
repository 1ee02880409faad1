/-! L3: texts: both readers side by side -/
abbrev tx_l := List (Nat × Int32 × Int32)
abbrev tx_c := List (Int32 × Int32)
def tx_F (σ σ' : am_SS) : Prop := ∀ a j, ¬ ((a = 157 ∧ 5 ≤ j ∧ j ≤ 8) ∨ (a = 165 ∧ j = 2) ∨ a = 166) → σ' a j = σ a j
def tx_G (τ τ' : am_SS) : Prop := ∀ a j, ¬ ((a = 0 ∧ ((15 ≤ j ∧ j ≤ 18) ∨ j = 28 ∨ j = 32 ∨ j = 33)) ∨ (a = 16 ∧ 800 ≤ j) ∨ (a = 17 ∧ 800 ≤ j)) → τ' a j = τ a j
theorem tx_F0 {σ : am_SS} : tx_F σ σ := fun _ _ _ => rfl
theorem tx_G0 {τ : am_SS} : tx_G τ τ := fun _ _ _ => rfl
theorem tx_Ft {σ σ' σ'' : am_SS} (h : tx_F σ σ') (h' : tx_F σ' σ'') : tx_F σ σ'' := fun a j q => (h' a j q).trans (h a j q)
theorem tx_Gt {τ τ' τ'' : am_SS} (h : tx_G τ τ') (h' : tx_G τ' τ'') : tx_G τ τ'' := fun a j q => (h' a j q).trans (h a j q)
theorem tx_GD {τ τ' : am_SS} (h : tk_D τ τ') : tx_G τ τ' := fun a j q => h a j (by omega)
/-- the class reads token t -/
def tx_A (c : Nat) (σ : am_SS) (l : tx_l) : Prop := (σ 157 1 = Int32.ofNat c ∧ σ 157 7 = 0 ∧ σ 157 8 = -1) ∧ ∃ t, σ 157 5 = Int32.ofNat t ∧ t + l.length ≤ 400 ∧ tk_e c σ t l
def tx_J (ch : Nat → Int32) (c : Nat) (σ τ : am_SS) (l : tx_l) : Prop := tk_T ch c τ ∧ tx_A c σ l ∧ tk_M ch c τ l
def tx_LC (σ : am_SS) (L : tx_c) : Prop := σ 165 0 = Int32.ofNat 2 ∧ σ 165 2 = Int32.ofNat L.length ∧ rl_sl (σ 166) 0 L
def tx_LM (τ : am_SS) (L : tx_c) : Prop := τ 0 28 = Int32.ofNat L.length ∧ rl_sm (τ 16) (τ 17) 800 L
/-- all at once: tokens left, codes so far, s codes still owed -/
def tx_X (ch : Nat → Int32) (c : Nat) (σ τ : am_SS) (l : tx_l) (L : tx_c) (s : Nat) : Prop := tx_J ch c σ τ l ∧ tx_LC σ L ∧ tx_LM τ (L.flatMap rl_tr) ∧ (L.flatMap rl_tr).length + l.length + s ≤ 400
theorem tx_trl (p : Int32 × Int32) : 1 ≤ (rl_tr p).length := by
  unfold rl_tr
  repeat' split
  all_goals simp
theorem tx_trL : ∀ L : tx_c, L.length ≤ (L.flatMap rl_tr).length := by
  intro L
  induction L with
  | nil => simp
  | cons p L ih => rw [List.flatMap_cons, List.length_append, List.length_cons]; have := tx_trl p; omega
def tx_k0 : tx_l → Int32
  | [] => 0
  | x :: _ => x.2.1
theorem tx_kind {c : Nat} {σ : am_SS} {l : tx_l} (h : tx_A c σ l) : C_Reader_kind 157 σ = some (tx_k0 l) := by
  obtain ⟨_, t, e, b, k⟩ := h
  rw [C_Reader_kind, e, if_neg (ni_nn (by omega)), if_pos (show _ < (401 : Int32) from (ni_lt (b := 401) (by omega) (by omega)).mpr (by omega)), ni_rd (by omega) (by omega), Option.bind_some]
  cases l with
  | nil => rw [show σ (157 + 3) t = 0 from k.2]; rfl
  | cons x l => rw [show σ (157 + 3) t = x.2.1 from k.2.1]; rfl
theorem tx_val {c : Nat} {σ : am_SS} {x : Nat × Int32 × Int32} {l : tx_l} (h : tx_A c σ (x :: l)) : C_Reader_value 157 σ = some x.2.2 := by
  obtain ⟨_, t, e, b, k⟩ := h
  rw [C_Reader_value, e, if_neg (ni_nn (by omega)), if_pos (show _ < (401 : Int32) from (ni_lt (b := 401) (by omega) (by omega)).mpr (by omega)), ni_rd (by omega) (by omega), Option.bind_some, show σ (157 + 4) t = x.2.2 from k.2.2.1]
/-- a step of the class -/
theorem tx_at {c : Nat} {σ : am_SS} {x : Nat × Int32 × Int32} {l : tx_l} (h : tx_A c σ (x :: l)) : tx_A c (am_up σ 157 5 ((σ 157 5) + 1)) l := by
  obtain ⟨e0, t, e, b, k⟩ := h
  refine ⟨by simpa [am_up] using e0, t + 1, by rw [e, ni_succ]; simp [am_up], by simp only [List.length_cons] at b; omega, ?_⟩
  exact tk_ef l (t + 1) (fun a j h1 h2 h3 => am_up_ne (σ := σ) (a := 157) (a' := a) (by omega) ▸ rfl) k.2.2.2
theorem tx_Aup {c a k : Nat} {v : Int32} {σ : am_SS} {l : tx_l} (ha : a < 157 ∨ 161 < a) (h : tx_A c σ l) : tx_A c (am_up σ a k v) l := by
  obtain ⟨e0, t, e, b, q⟩ := h
  refine ⟨by rw [am_up_ne (by omega)]; exact e0, t, by rw [am_up_ne (by omega)]; exact e, b, tk_ef l t (fun a' j h1 h2 h3 => by rw [am_up_ne (by omega)]) q⟩
theorem tx_step {F c : Nat} {ch : Nat → Int32} {σ τ : am_SS} {x : Nat × Int32 × Int32} {l : tx_l} (hF : 2000 ≤ F) (h : tx_J ch c σ τ (x :: l)) : ∃ τ', M_reads F τ = some τ' ∧ tx_J ch c (am_up σ 157 5 ((σ 157 5) + 1)) τ' l ∧ tk_D τ τ' := by
  obtain ⟨h1, h2, h3⟩ := h
  obtain ⟨τ', a, b, d⟩ := tk_next hF h1 h3
  exact ⟨τ', a, ⟨tk_TD h1 d, tx_at h2, b⟩, d⟩
theorem tx_up5 {σ : am_SS} {v : Int32} : tx_F σ (am_up σ 157 5 v) := fun a j q => by
  simp only [am_up]; rw [if_neg (by omega)]
/-- both ask for a sign -/
theorem tx_sign {c : Nat} {ch : Nat → Int32} {σ τ : am_SS} {l : tx_l} {s : Int32} (h : tx_J ch c σ τ l) (hs : M_isMarkSign s = true) :
    (∃ x l', l = x :: l' ∧ x.2.1 = 4 ∧ x.2.2 = s ∧ τ 0 17 = 4 ∧ τ 0 18 = s ∧ C_Reader_isSign 157 s σ = some true ∧ M_isSign s τ = true) ∨ (C_Reader_isSign 157 s σ = some false ∧ M_isSign s τ = false) := by
  obtain ⟨h1, h2, ⟨s0, _, _, _, h3⟩⟩ := h
  have k := tx_kind h2
  cases l with
  | nil =>
    right
    obtain ⟨t1, t2⟩ := h3
    rw [C_Reader_isSign, k, Option.bind_some, if_neg (by decide), M_isSign, t1, if_neg (by decide)]
    exact ⟨rfl, rfl⟩
  | cons x l' =>
    rw [tx_k0] at k
    have v := tx_val h2
    obtain ⟨_, r⟩ := h3
    rw [C_Reader_isSign, k, Option.bind_some, M_isSign]
    rcases r with ⟨r1, _, r3⟩ | ⟨r1, _, r3, _⟩ | ⟨r1, _, r3⟩ | ⟨r1, _, r3, _⟩ | ⟨r1, r2, r3, r4⟩ | ⟨r1, r2, r3⟩
    · right; simp [r1, r3]
    · right; simp [r1, r3]
    · right; simp [r1, r3]
    · right; simp [r1, r3]
    · by_cases q : x.2.2 = s
      · left; exact ⟨x, l', rfl, r1, q, r3, by rw [r4, q], by rw [if_pos r1, v, Option.bind_some, if_pos q], by rw [if_pos r3, r4, if_pos q]⟩
      · right; rw [if_pos r1, v, Option.bind_some, if_neg q, if_pos r3, r4, if_neg q]; exact ⟨rfl, rfl⟩
    · right
      have q : ¬ x.2.2 = s := fun q => by rw [q, hs] at r2; exact absurd r2 (by decide)
      rw [if_pos r1, v, Option.bind_some, if_neg q, r3, if_neg (by decide)]; exact ⟨rfl, rfl⟩
theorem tx_word {c : Nat} {ch : Nat → Int32} {σ τ : am_SS} {l : tx_l} {s : Int32} (h : tx_J ch c σ τ l) (hs : s ≠ -1) :
    (∃ x l', l = x :: l' ∧ x.2.1 = 2 ∧ x.2.2 = s ∧ τ 0 17 = 2 ∧ τ 0 18 = s ∧ C_Reader_isWord 157 s σ = some true ∧ M_isWord s τ = true) ∨ (C_Reader_isWord 157 s σ = some false ∧ M_isWord s τ = false) := by
  obtain ⟨h1, h2, ⟨s0, _, _, _, h3⟩⟩ := h
  have k := tx_kind h2
  cases l with
  | nil =>
    right
    obtain ⟨t1, t2⟩ := h3
    rw [C_Reader_isWord, k, Option.bind_some, if_neg (by decide), M_isWord, t1, if_neg (by decide)]
    exact ⟨rfl, rfl⟩
  | cons x l' =>
    rw [tx_k0] at k
    have v := tx_val h2
    obtain ⟨_, r⟩ := h3
    rw [C_Reader_isWord, k, Option.bind_some, M_isWord]
    rcases r with ⟨r1, r2, r3⟩ | ⟨r1, r2, r3, r4⟩ | ⟨r1, _, r3⟩ | ⟨r1, _, r3, _⟩ | ⟨r1, r2, r3, r4⟩ | ⟨r1, r2, r3⟩
    · right
      have q : ¬ x.2.2 = s := fun q => hs (q ▸ r2)
      rw [if_pos r1, v, Option.bind_some, if_neg q, r3, if_neg (by decide)]; exact ⟨rfl, rfl⟩
    · by_cases q : x.2.2 = s
      · left; exact ⟨x, l', rfl, r1, q, r3, by rw [r4, q], by rw [if_pos r1, v, Option.bind_some, if_pos q], by rw [if_pos r3, r4, if_pos q]⟩
      · right; rw [if_pos r1, v, Option.bind_some, if_neg q, if_pos r3, r4, if_neg q]; exact ⟨rfl, rfl⟩
    · right; simp [r1, r3]
    · right; simp [r1, r3]
    · right; simp [r1, r3]
    · right; simp [r1, r3]
/-- a refusal of both -/
def tx_bad (σ' τ' : am_SS) : Prop := σ' 157 7 = τ' 0 32 ∧ σ' 157 8 = τ' 0 33
theorem tx_fail {c : Nat} {ch : Nat → Int32} {σ τ : am_SS} {l : tx_l} (k : Int32) (h : tx_J ch c σ τ l) : ∃ σ', C_Reader_fail 157 k (σ 157 5) σ = some (false, σ') ∧ (M_errs k τ).1 = -1 ∧ tx_bad σ' (M_errs k τ).2 ∧ tx_F σ σ' ∧ tx_G τ (M_errs k τ).2 := by
  obtain ⟨h1, ⟨e0, t, e, b, q⟩, ⟨s0, _, _, _, h3⟩⟩ := h
  have pl : σ 159 t = τ 0 16 := by
    cases l with
    | nil => rw [q.1, h3.2]
    | cons x l => rw [q.1, h3.1]
  refine ⟨am_up (am_up σ 157 7 k) 157 8 (τ 0 16), ?_, rfl, ⟨?_, ?_⟩, ?_, ?_⟩
  · rw [C_Reader_fail, am_let, e, if_neg (ni_nn (by omega)), if_pos (show _ < (401 : Int32) from (ni_lt (b := 401) (by omega) (by omega)).mpr (by omega)), ni_rd (by omega) (by omega), Option.bind_some, C_Reader_fail_p32, am_let, am_up_ne (by omega), ← pl]
  · simp [M_errs, am_let, am_up]
  · simp [M_errs, am_let, am_up]
  · intro a j q
    simp only [am_up]; rw [if_neg (by omega), if_neg (by omega)]
  · intro a j q
    simp only [M_errs, am_let, am_up]; rw [if_neg (by omega), if_neg (by omega)]
/-- codes of the class -/
theorem tx_slapp {f : Nat → Int32} {L : tx_c} {p : Int32 × Int32} (h : rl_sl f 0 L) {g : Nat → Int32} (hg : ∀ j, j < 2 * L.length → g j = f j) (g1 : g (2 * L.length) = p.1) (g2 : g (2 * L.length + 1) = p.2) : rl_sl g 0 (L ++ [p]) := by
  intro k hk
  rw [List.length_append, List.length_singleton] at hk
  by_cases q : k < L.length
  · have := h k q
    rw [Nat.zero_add] at this ⊢
    rw [hg _ (by omega), hg _ (by omega), List.getD_eq_getElem?_getD, List.getElem?_append_left q, ← List.getD_eq_getElem?_getD]
    exact this
  · have e : k = L.length := by omega
    subst e
    rw [Nat.zero_add, g1, g2]; simp [List.getD]
theorem tx_smapp {f g : Nat → Int32} {L : tx_c} {p : Int32 × Int32} (h : rl_sm f g 800 L) {f' g' : Nat → Int32} (hf : ∀ j, j < 800 + L.length → f' j = f j ∧ g' j = g j) (g1 : f' (800 + L.length) = p.1) (g2 : g' (800 + L.length) = p.2) : rl_sm f' g' 800 (L ++ [p]) := by
  intro k hk
  rw [List.length_append, List.length_singleton] at hk
  by_cases q : k < L.length
  · have := h k q
    rw [(hf _ (by omega)).1, (hf _ (by omega)).2, List.getD_eq_getElem?_getD, List.getElem?_append_left q, ← List.getD_eq_getElem?_getD]
    exact this
  · have e : k = L.length := by omega
    subst e
    rw [g1, g2]; simp [List.getD]
theorem tx_addC {F c : Nat} {σ : am_SS} {L : tx_c} {l : tx_l} {x y : Int32} (hF : 2000 ≤ F) (h : tx_LC σ L) (hl : L.length < 400) (hA : tx_A c σ l) : ∃ r σ', C_Table_add F 165 x y 0 0 σ = some (r, σ') ∧ tx_LC σ' (L ++ [(x, y)]) ∧ tx_F σ σ' ∧ tx_A c σ' l ∧ ∀ j, σ' 157 j = σ 157 j := by
  obtain ⟨h0, h2, h3⟩ := h
  have a := tb_add (F := F) (a := 165) (w := 2) (c := L.length) 800 (x1 := x) (x2 := y) (x3 := 0) (x4 := 0) (σ := σ) hF h2 h0 rfl (by omega) (by omega) (by omega) (by omega)
  have e : ∀ b j, tb_wr x y 0 0 (165 + 1) (L.length * 2) 2 0 σ b j = if b = 166 ∧ j = 2 * L.length + 1 then y else if b = 166 ∧ j = 2 * L.length then x else σ b j := by
    intro b j
    simp only [tb_wr, am_up, tb_pick, Nat.mul_comm L.length 2, if_true]
    rfl
  refine ⟨_, _, a, ⟨?_, ?_, ?_⟩, ?_, ?_, ?_⟩
  · simp only [am_up, e]; simpa using h0
  · simp [am_up]
  · refine tx_slapp h3 (fun j hj => ?_) ?_ ?_
    · simp only [am_up, e]; rw [if_neg (by omega), if_neg (by omega), if_neg (by omega)]
    · simp [am_up, e]
    · simp [am_up, e]
  · intro b j q
    simp only [am_up, e]; rw [if_neg (by omega), if_neg (by omega), if_neg (by omega)]
  · obtain ⟨e0, t, e1, b, q⟩ := hA
    refine ⟨?_, t, ?_, b, tk_ef l t (fun a' j h1 h2 h3 => ?_) q⟩
    · simp only [am_up, e]; simpa using e0
    · simp only [am_up, e]; simpa using e1
    · simp only [am_up, e]; rw [if_neg (by omega), if_neg (by omega), if_neg (by omega)]
  · intro j
    simp only [am_up, e]; rw [if_neg (by omega), if_neg (by omega), if_neg (by omega)]
/-- where the class has failed it may still write a code -/
theorem tx_addF {F n : Nat} {σ : am_SS} {x : Int32} (hF : 2000 ≤ F) (h0 : σ 165 0 = Int32.ofNat 2) (h2 : σ 165 2 = Int32.ofNat n) (hn : n ≤ 400) : ∃ r σ' n', C_Table_add F 165 x 0 0 0 σ = some (r, σ') ∧ n' ≤ 400 ∧ σ' 165 2 = Int32.ofNat n' ∧ σ' 165 0 = Int32.ofNat 2 ∧ tx_F σ σ' ∧ ∀ j, σ' 157 j = σ 157 j := by
  by_cases q : n < 400
  · have a := tb_add (F := F) (a := 165) (w := 2) (c := n) 800 (x1 := x) (x2 := 0) (x3 := 0) (x4 := 0) (σ := σ) hF h2 h0 rfl (by omega) (by omega) (by omega) (by omega)
    have e : ∀ b j, tb_wr x 0 0 0 (165 + 1) (n * 2) 2 0 σ b j = if b = 166 ∧ j = 2 * n + 1 then 0 else if b = 166 ∧ j = 2 * n then x else σ b j := by
      intro b j
      simp only [tb_wr, am_up, tb_pick, Nat.mul_comm n 2, if_true]
      rfl
    refine ⟨_, _, n + 1, a, by omega, ?_, ?_, ?_, ?_⟩
    · simp [am_up]
    · simp only [am_up, e]; simpa using h0
    · intro b j q
      simp only [am_up, e]; rw [if_neg (by omega), if_neg (by omega), if_neg (by omega)]
    · intro j
      simp only [am_up, e]; rw [if_neg (by omega), if_neg (by omega), if_neg (by omega)]
  · have e : n = 400 := by omega
    subst e
    exact ⟨_, _, 400, tb_full (F := F) 800 h2 h0 rfl (by omega) (by omega) (by omega), by omega, h2, h0, tx_F0, fun _ => rfl⟩
/-- codes of the reference -/
theorem tx_emit {ch : Nat → Int32} {c : Nat} {τ : am_SS} {L : tx_c} {l : tx_l} {x y : Int32} (h : tx_LM τ L) (hl : L.length < 400) (hT : tk_T ch c τ) (hM : tk_M ch c τ l) : ∃ τ', M_emits x y τ = some τ' ∧ tx_LM τ' (L ++ [(x, y)]) ∧ tx_G τ τ' ∧ tk_T ch c τ' ∧ tk_M ch c τ' l ∧ ∀ j, j ≠ 28 → τ' 0 j = τ 0 j := by
  obtain ⟨h1, h2⟩ := h
  have i : (800 : Int32) + Int32.ofNat L.length = Int32.ofNat (800 + L.length) := ni_add 800 L.length
  have r : M_emits x y τ = some (am_up (am_up (am_up τ 16 (800 + L.length) x) 17 (800 + L.length) y) 0 28 (Int32.ofNat (L.length + 1))) := by
    rw [M_emits, h1, i, ni_wr (by omega) (by omega), Option.bind_some, am_up_ne (by omega), h1, i, ni_wr (by omega) (by omega), Option.bind_some, am_let, am_up_ne (by omega), am_up_ne (by omega), h1, ni_succ]
  refine ⟨_, r, ⟨?_, ?_⟩, ?_, ?_, ?_, ?_⟩
  · simp [am_up]
  · refine tx_smapp h2 (fun j hj => ⟨?_, ?_⟩) ?_ ?_
    · simp only [am_up]; rw [if_neg (by omega), if_neg (by omega), if_neg (by omega)]
    · simp only [am_up]; rw [if_neg (by omega), if_neg (by omega), if_neg (by omega)]
    · simp [am_up]
    · simp [am_up]
  · intro a j q
    simp only [am_up]; rw [if_neg (by omega), if_neg (by omega), if_neg (by omega)]
  · obtain ⟨k0, k1, k2, k3⟩ := hT
    exact ⟨k0, by simpa [am_up] using k1, fun k hk => by simpa [am_up] using k2 k hk, fun k hk => by simpa [am_up] using k3 k hk⟩
  · obtain ⟨s, k1, k2, k3, k4⟩ := hM
    exact ⟨s, k1, by simpa [am_up] using k2, k3, by simpa [am_up] using k4⟩
  · intro j hj
    simp [am_up, hj]
/-- both write a code -/
theorem tx_flt (L : tx_c) (p q : Int32 × Int32) (ht : rl_tr p = [q]) : (L ++ [p]).flatMap rl_tr = L.flatMap rl_tr ++ [q] := by
  rw [List.flatMap_append, List.flatMap_singleton, ht]
theorem tx_both {F c : Nat} {ch : Nat → Int32} {σ τ : am_SS} {L : tx_c} {l : tx_l} {x y x' y' : Int32} (hF : 2000 ≤ F) (hJ : tx_J ch c σ τ l) (hC : tx_LC σ L) (hM : tx_LM τ (L.flatMap rl_tr)) (hl : (L.flatMap rl_tr).length < 400) (ht : rl_tr (x, y) = [(x', y')]) :
    ∃ r σ' τ', C_Table_add F 165 x y 0 0 σ = some (r, σ') ∧ M_emits x' y' τ = some τ' ∧ tx_J ch c σ' τ' l ∧ tx_LC σ' (L ++ [(x, y)]) ∧ tx_LM τ' ((L ++ [(x, y)]).flatMap rl_tr) ∧ ((L ++ [(x, y)]).flatMap rl_tr).length = (L.flatMap rl_tr).length + 1 ∧ tx_F σ σ' ∧ tx_G τ τ' ∧ (∀ j, σ' 157 j = σ 157 j) ∧ ∀ j, j ≠ 28 → τ' 0 j = τ 0 j := by
  obtain ⟨h1, h2, h3⟩ := hJ
  have tl := tx_trL L
  obtain ⟨r, σ', a1, a2, a3, a4, a5⟩ := tx_addC (F := F) (x := x) (y := y) hF hC (by omega) h2
  obtain ⟨τ', b1, b2, b3, b4, b5, b6⟩ := tx_emit (x := x') (y := y') hM hl h1 h3
  have e := tx_flt L (x, y) (x', y') ht
  refine ⟨r, σ', τ', a1, b1, ⟨b4, a4, b5⟩, a2, by rw [e]; exact b2, ?_, a3, b3, a5, b6⟩
  rw [e, List.length_append, List.length_singleton]
theorem tx_LC5 {σ : am_SS} {L : tx_c} {j : Nat} {v : Int32} (h : tx_LC σ L) : tx_LC (am_up σ 157 j v) L := by
  obtain ⟨h0, h1, h2⟩ := h
  exact ⟨by simpa [am_up] using h0, by simpa [am_up] using h1, by rw [am_up_ne (by omega)]; exact h2⟩
theorem tx_LMD {τ τ' : am_SS} {L : tx_c} (h : tx_LM τ L) (d : tk_D τ τ') : tx_LM τ' L := by
  obtain ⟨h0, h1⟩ := h
  have e : ∀ a, a = 16 ∨ a = 17 → τ' a = τ a := fun a ha => funext (fun j => d a j (by omega))
  exact ⟨by rw [d 0 28 (by omega)]; exact h0, by rw [e 16 (.inl rfl), e 17 (.inr rfl)]; exact h1⟩
/-- what a part of both readers does -/
def tx_out (ch : Nat → Int32) (c : Nat) (l : tx_l) (L : tx_c) (s : Nat) (σ τ : am_SS) (A : Option (Bool × am_SS)) (B : Option (Int32 × am_SS)) (Q : tx_c → Prop) (d : Nat) : Prop :=
  ∃ b σ' r τ', A = some (b, σ') ∧ B = some (r, τ') ∧ tx_F σ σ' ∧ tx_G τ τ' ∧
    ((b = false ∧ r = -1 ∧ tx_bad σ' τ' ∧ ∃ n, n ≤ 400 ∧ σ' 165 2 = Int32.ofNat n) ∨ (b = true ∧ r = 0 ∧ ∃ l' E, tx_X ch c σ' τ' l' (L ++ E) s ∧ l'.length + d ≤ l.length ∧ Q E))
theorem tx_ofail {F c s d : Nat} {ch : Nat → Int32} {σ τ : am_SS} {l : tx_l} {L : tx_c} {Q : tx_c → Prop} (k : Int32) {A : Option (Bool × am_SS)} {B : Option (Int32 × am_SS)} (h : tx_J ch c σ τ l) (hC : tx_LC σ L) (hL : L.length ≤ 400)
    (hA : A = (C_Reader_fail 157 k (σ 157 5) σ).bind (fun q => some (q.1, q.2))) (hB : B = some ((M_errs k τ).1, (M_errs k τ).2)) : tx_out ch c l L s σ τ A B Q d := by
  obtain ⟨σ', a, b, e, f, g⟩ := tx_fail k h
  refine ⟨false, σ', -1, (M_errs k τ).2, by rw [hA, a]; rfl, by rw [hB, b], f, g, .inl ⟨rfl, rfl, e, L.length, hL, ?_⟩⟩
  have := hC.2.1
  obtain ⟨σ2, a2, _⟩ := tx_fail k h
  rw [a] at a2
  have q : σ' 165 2 = σ 165 2 := by
    have hh : C_Reader_fail 157 k (σ 157 5) σ = some (false, σ') := a
    unfold C_Reader_fail C_Reader_fail_p28 C_Reader_fail_p32 at hh
    simp only [am_let] at hh
    split at hh
    · cases hh; simp [am_up]
    · split at hh
      · cases r : am_rd (am_up σ 157 7 k) (157 + 2) 401 (σ 157 5) with
        | none => rw [r] at hh; cases hh
        | some w => rw [r] at hh; cases hh; simp [am_up]
      · cases hh; simp [am_up]
  rw [q]; exact this
