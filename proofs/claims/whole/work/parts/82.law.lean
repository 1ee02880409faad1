/-! the lines of a law -/
theorem tx_row {ch : Nat → Int32} {c a k s : Nat} {v : Int32} {σ τ : am_SS} {l : tx_l} {L : tx_c} (ha : 12 ≤ a ∧ a ≤ 15 ∨ 19 ≤ a) (h : tx_X ch c σ τ l L s) : tx_X ch c σ (am_up τ a k v) l L s := by
  obtain ⟨⟨⟨k0, k1, k2, k3⟩, hA, ⟨t, m1, m2, m3, m4⟩⟩, hC, ⟨l1, l2⟩, hl⟩ := h
  have e : ∀ b, b ≠ a → am_up τ a k v b = τ b := fun b hb => am_up_ne hb
  refine ⟨⟨⟨k0, by rw [e 0 (by omega)]; exact k1, fun j hj => by rw [e 9 (by omega)]; exact k2 j hj, fun j hj => by rw [e 10 (by omega)]; exact k3 j hj⟩, hA, ⟨t, m1, by rw [e 0 (by omega)]; exact m2, m3, by rw [e 0 (by omega)]; exact m4⟩⟩, hC, ⟨by rw [e 0 (by omega)]; exact l1, by rw [e 16 (by omega), e 17 (by omega)]; exact l2⟩, hl⟩
theorem tx_opens {F c : Nat} {ch : Nat → Int32} {σ τ : am_SS} {x : Nat × Int32 × Int32} {l : tx_l} {lo hi : Int32} {k : Nat} (h : tx_J ch c σ τ (x :: l)) (hlo : 0 ≤ lo) (hk : k ≤ 16) :
    (τ 0 17 = 2 ∧ lo ≤ τ 0 18 ∧ τ 0 18 ≤ hi ∧ C_Reader_opens 157 (Int32.ofNat k) lo hi σ = if k < 16 then some (true, am_up (am_up σ 157 6 (τ 0 18)) 157 5 (σ 157 5 + 1)) else (C_Reader_fail 157 3 (σ 157 5) σ).bind (fun q => some (q.1, q.2))) ∨
    (¬ (τ 0 17 = 2 ∧ lo ≤ τ 0 18 ∧ τ 0 18 ≤ hi) ∧ τ 0 17 ≠ 0 ∧ C_Reader_opens 157 (Int32.ofNat k) lo hi σ = (C_Reader_fail 157 1 (σ 157 5) σ).bind (fun q => some (q.1, q.2))) := by
  obtain ⟨h1, h2, ⟨s0, _, _, _, h3⟩⟩ := h
  have kk := tx_kind h2
  rw [tx_k0] at kk
  have v := tx_val h2
  obtain ⟨_, r⟩ := h3
  rcases r with ⟨r1, r2, r3⟩ | ⟨r1, r2, r3, r4⟩ | ⟨r1, r2, r3⟩ | ⟨r1, _, r3, _⟩ | ⟨r1, r2, r3, _⟩ | ⟨r1, r2, r3⟩
  · right
    have n7 : (-1 : Int32) < lo := by grind
    refine ⟨fun q => by rw [r3] at q; exact absurd q.1 (by decide), by rw [r3]; decide, ?_⟩
    simp [C_Reader_opens, C_Reader_opens_p24, kk, r1, v, r2, n7]
  · by_cases q1 : x.2.2 < lo
    · right
      refine ⟨fun q => by rw [r4] at q; grind, by rw [r3]; decide, ?_⟩
      simp [C_Reader_opens, C_Reader_opens_p24, kk, r1, v, q1]
    by_cases q2 : hi < x.2.2
    · right
      refine ⟨fun q => by rw [r4] at q; grind, by rw [r3]; decide, ?_⟩
      simp [C_Reader_opens, C_Reader_opens_p24, kk, r1, v, q1, q2]
    · left
      refine ⟨r3, by rw [r4]; grind, by rw [r4]; grind, ?_⟩
      by_cases q : k < 16
      · have k16 : Int32.ofNat k < 16 := (ni_lt (b := 16) (by omega) (by omega)).mpr q
        rw [if_pos q, r4]
        simp [C_Reader_opens, kk, r1, v, q1, q2, am_let, am_up, k16]
      · have k16 : ¬ Int32.ofNat k < 16 := fun g => by have := (ni_lt (b := 16) (by omega) (by omega)).mp g; omega
        rw [if_neg q]
        simp [C_Reader_opens, kk, r1, v, q1, q2, k16]
  · right
    refine ⟨fun q => by rw [r3] at q; exact absurd q.1 (by decide), by rw [r3]; decide, ?_⟩
    simp [C_Reader_opens, C_Reader_opens_p24, kk, r1]
  · right
    refine ⟨fun q => by rw [r3] at q; exact absurd q.1 (by decide), by rw [r3]; decide, ?_⟩
    simp [C_Reader_opens, C_Reader_opens_p24, kk, r1]
  · right
    refine ⟨fun q => by rw [r3] at q; exact absurd q.1 (by decide), by rw [r3]; decide, ?_⟩
    simp [C_Reader_opens, C_Reader_opens_p24, kk, r1]
  · right
    refine ⟨fun q => by rw [r3] at q; exact absurd q.1 (by decide), by rw [r3]; decide, ?_⟩
    simp [C_Reader_opens, C_Reader_opens_p24, kk, r1]
theorem tx_nil {c : Nat} {ch : Nat → Int32} {σ τ : am_SS} (h : tx_J ch c σ τ []) : C_Reader_kind 157 σ = some 0 ∧ τ 0 17 = 0 := by
  obtain ⟨h1, h2, ⟨s0, _, _, _, h3⟩⟩ := h
  exact ⟨tx_kind h2, h3.1⟩
theorem tx_cons {c : Nat} {ch : Nat → Int32} {σ τ : am_SS} {x : Nat × Int32 × Int32} {l : tx_l} (h : tx_J ch c σ τ (x :: l)) : ∃ k, C_Reader_kind 157 σ = some k ∧ k ≠ 0 := by
  obtain ⟨h1, h2, ⟨s0, _, _, _, h3⟩⟩ := h
  have kk := tx_kind h2
  rw [tx_k0] at kk
  refine ⟨_, kk, ?_⟩
  rcases h3.2 with r | r | r | r | r | r <;> rw [r.1] <;> decide
def tx_ln (lc : Nat → Int32) (τ : am_SS) (L : tx_c) (i : Nat) : Prop :=
  ∃ A E B R : tx_c, L = A ++ (E ++ (B ++ R)) ∧ rl_ty E [] = some [false] ∧ (B = [] ∨ rl_ty B [] = some [true]) ∧ rl_rg (lc (4 * i)) 0 2 ∧ τ 12 (32 + i) = lc (4 * i) ∧
    lc (4 * i + 1) = Int32.ofNat A.length ∧ lc (4 * i + 2) = Int32.ofNat (A.length + E.length) ∧ lc (4 * i + 3) = Int32.ofNat (A.length + E.length + B.length) ∧
    τ 13 (32 + i) = Int32.ofNat (A.flatMap rl_tr).length ∧ τ 14 (32 + i) = Int32.ofNat ((A.flatMap rl_tr).length + (E.flatMap rl_tr).length) ∧ τ 15 (32 + i) = Int32.ofNat ((A.flatMap rl_tr).length + (E.flatMap rl_tr).length + (B.flatMap rl_tr).length)
theorem tx_lnm {lc lc' : Nat → Int32} {τ τ' : am_SS} {L X : tx_c} {i : Nat} (h : tx_ln lc τ L i) (h1 : ∀ j, j < 4 * i + 4 → lc' j = lc j) (h2 : ∀ a, 12 ≤ a → a ≤ 15 → τ' a (32 + i) = τ a (32 + i)) : tx_ln lc' τ' (L ++ X) i := by
  obtain ⟨A, E, B, R, e, q1, q2, q3, q4, q5, q6, q7, q8, q9, q10⟩ := h
  refine ⟨A, E, B, R ++ X, by rw [e]; simp only [List.append_assoc], q1, q2, ?_, ?_, ?_, ?_, ?_, ?_, ?_, ?_⟩
  · rw [h1 _ (by omega)]; exact q3
  · rw [h1 _ (by omega), h2 12 (by omega) (by omega)]; exact q4
  · rw [h1 _ (by omega)]; exact q5
  · rw [h1 _ (by omega)]; exact q6
  · rw [h1 _ (by omega)]; exact q7
  · rw [h2 13 (by omega) (by omega)]; exact q8
  · rw [h2 14 (by omega) (by omega)]; exact q9
  · rw [h2 15 (by omega) (by omega)]; exact q10
def tx_FL (σ σ' : am_SS) : Prop := ∀ a j, ¬ ((a = 157 ∧ 5 ≤ j ∧ j ≤ 8) ∨ (a = 165 ∧ j = 2) ∨ a = 166 ∨ (a = 163 ∧ j = 2) ∨ a = 164) → σ' a j = σ a j
def tx_HL (τ τ' : am_SS) : Prop := ∀ a j, ¬ ((a = 0 ∧ ((15 ≤ j ∧ j ≤ 18) ∨ (28 ≤ j ∧ j ≤ 33))) ∨ (a = 16 ∧ 800 ≤ j) ∨ (a = 17 ∧ 800 ≤ j) ∨ a = 18 ∨ (12 ≤ a ∧ a ≤ 15 ∧ 32 ≤ j)) → τ' a j = τ a j
theorem tx_FLt {σ σ' σ'' : am_SS} (h : tx_FL σ σ') (h' : tx_FL σ' σ'') : tx_FL σ σ'' := fun a j q => (h' a j q).trans (h a j q)
theorem tx_HLt {τ τ' τ'' : am_SS} (h : tx_HL τ τ') (h' : tx_HL τ' τ'') : tx_HL τ τ'' := fun a j q => (h' a j q).trans (h a j q)
theorem tx_FF {σ σ' : am_SS} (h : tx_F σ σ') : tx_FL σ σ' := fun a j q => h a j (by omega)
theorem tx_HH {τ τ' : am_SS} (h : tx_H τ τ') : tx_HL τ τ' := fun a j q => h a j (by omega)
theorem tx_HLr {τ : am_SS} {a k : Nat} {v : Int32} (ha : 12 ≤ a ∧ a ≤ 15) (hk : 32 ≤ k) : tx_HL τ (am_up τ a k v) := fun b j q => by
  simp only [am_up]; rw [if_neg (by omega)]
theorem tx_addL {F c k s : Nat} {ch : Nat → Int32} {σ τ : am_SS} {l : tx_l} {L : tx_c} {x1 x2 x3 x4 : Int32} (hF : 2000 ≤ F) (hX : tx_X ch c σ τ l L s) (h0 : σ 163 0 = 4) (h2 : σ 163 2 = Int32.ofNat k) (hk : k < 16) :
    ∃ r σ', C_Table_add F 163 x1 x2 x3 x4 σ = some (r, σ') ∧ tx_X ch c σ' τ l L s ∧ σ' 163 0 = 4 ∧ σ' 163 2 = Int32.ofNat (k + 1) ∧ (∀ j, j < 4 * k → σ' 164 j = σ 164 j) ∧ σ' 164 (4 * k) = x1 ∧ σ' 164 (4 * k + 1) = x2 ∧ σ' 164 (4 * k + 2) = x3 ∧ σ' 164 (4 * k + 3) = x4 ∧ tx_FL σ σ' := by
  have a := tb_add (F := F) (a := 163) (w := 4) (c := k) 64 (x1 := x1) (x2 := x2) (x3 := x3) (x4 := x4) (σ := σ) hF h2 h0 rfl (by omega) (by omega) (by omega) (by omega)
  have e : ∀ b j, tb_wr x1 x2 x3 x4 (163 + 1) (k * 4) 4 0 σ b j = if b = 164 ∧ j = 4 * k + 3 then x4 else if b = 164 ∧ j = 4 * k + 2 then x3 else if b = 164 ∧ j = 4 * k + 1 then x2 else if b = 164 ∧ j = 4 * k then x1 else σ b j := by
    intro b j
    simp only [tb_wr, am_up, tb_pick, Nat.mul_comm k 4, if_true]
    rfl
  have fr : ∀ b j, ¬ ((b = 163 ∧ j = 2) ∨ b = 164) → am_up (tb_wr x1 x2 x3 x4 (163 + 1) (k * 4) 4 0 σ) 163 2 (Int32.ofNat (k + 1)) b j = σ b j := fun b j q => by
    simp only [am_up, e]; rw [if_neg (by omega), if_neg (by omega), if_neg (by omega), if_neg (by omega), if_neg (by omega)]
  obtain ⟨⟨hT, ⟨e0, t, e1, b, q⟩, hM⟩, ⟨c0, c1, c2⟩, hLM, hl⟩ := hX
  have e166 : am_up (tb_wr x1 x2 x3 x4 (163 + 1) (k * 4) 4 0 σ) 163 2 (Int32.ofNat (k + 1)) 166 = σ 166 := funext (fun j => fr 166 j (by omega))
  refine ⟨_, _, a, ⟨⟨hT, ⟨by rw [fr 157 1 (by omega), fr 157 7 (by omega), fr 157 8 (by omega)]; exact e0, t, by rw [fr 157 5 (by omega)]; exact e1, b, tk_ef l t (fun a' j h1 h2 h3 => fr a' j (by omega)) q⟩, hM⟩, ⟨by rw [fr 165 0 (by omega)]; exact c0, by rw [fr 165 2 (by omega)]; exact c1, by rw [e166]; exact c2⟩, hLM, hl⟩, by rw [fr 163 0 (by omega)]; exact h0, by simp [am_up], fun j hj => ?_, ?_, ?_, ?_, ?_, fun b j q => fr b j (by omega)⟩
  · simp only [am_up, e]; rw [if_neg (by omega), if_neg (by omega), if_neg (by omega), if_neg (by omega), if_neg (by omega)]
  · simp [am_up, e]
  · simp [am_up, e]
  · simp [am_up, e]
  · simp [am_up, e]
def tx_lawOut (σ τ : am_SS) (A : Option (Bool × am_SS)) (B : Option (Int32 × am_SS)) : Prop :=
  ∃ b' σ' r τ', A = some (b', σ') ∧ tx_FL σ σ' ∧ B = some (r, τ') ∧ tx_HL τ τ' ∧
    ((b' = false ∧ r = -1 ∧ tx_bad σ' τ') ∨
     (b' = true ∧ ∃ n L', r = Int32.ofNat n ∧ n ≤ 16 ∧ σ' 163 2 = Int32.ofNat n ∧ tx_LC σ' L' ∧ tx_LM τ' (L'.flatMap rl_tr) ∧ (L'.flatMap rl_tr).length ≤ 400 ∧ (∀ i, i < n → tx_ln (σ' 164) τ' L' i) ∧ σ' 157 7 = 0 ∧ σ' 157 8 = -1))
theorem tx_up7 {σ : am_SS} {v w : Int32} : tx_F σ (am_up (am_up σ 157 6 v) 157 5 w) := fun a j q => by
  simp only [am_up]; rw [if_neg (by omega), if_neg (by omega)]
theorem tx_line (τ : am_SS) : M_isLineWord τ = true ↔ (τ 0 17 = 2 ∧ 0 ≤ τ 0 18 ∧ τ 0 18 ≤ 2) := by
  unfold M_isLineWord
  by_cases q : τ 0 17 = 2
  · rw [if_pos q]
    by_cases w : M_isIn (τ 0 18) 0 2 = true
    · rw [if_pos w]; exact ⟨fun _ => ⟨q, (ni_in.mp w).1, (ni_in.mp w).2⟩, fun _ => rfl⟩
    · rw [if_neg w]; exact ⟨fun e => absurd e (by decide), fun e => absurd (ni_in.mpr e.2) w⟩
  · rw [if_neg q]; exact ⟨fun e => absurd e (by decide), fun e => absurd e.1 q⟩
theorem tx_law {F c : Nat} {ch : Nat → Int32} (hF : 2000 ≤ F) : ∀ (N gC gM k : Nat) (σ τ : am_SS) (l : tx_l) (L : tx_c), l.length < N → N ≤ gC → N ≤ gM → k ≤ 16 → tx_X ch c σ τ l L 0 → σ 163 0 = 4 → σ 163 2 = Int32.ofNat k → τ 0 29 = 0 → (∀ i, i < k → tx_ln (σ 164) τ L i) →
    tx_lawOut σ τ (C_Reader_readLaw_l9 F gC 157 (Int32.ofNat k) σ) (M_readLaw_l2 F gM (Int32.ofNat k) τ) := by
  intro N
  induction N with
  | zero => intro gC gM k σ τ l L h; omega
  | succ N ih =>
    intro gC gM k σ τ l L hN hgC hgM hk hX h0 h2 hO hln
    obtain ⟨gC, rfl⟩ : ∃ z, gC = z + 1 := ⟨gC - 1, by omega⟩
    obtain ⟨gM, rfl⟩ : ∃ z, gM = z + 1 := ⟨gM - 1, by omega⟩
    have k16 : ¬ (16 : Int32) < Int32.ofNat k := fun g => by have := (ni_lt (a := 16) (by omega) (by omega)).mp g; omega
    have hl4 := hX.2.2.2
    cases l with
    | nil =>
      obtain ⟨q1, q2⟩ := tx_nil hX.1
      have nl : ¬ M_isLineWord τ = true := fun e => by have := ((tx_line τ).mp e).1; rw [q2] at this; exact absurd this (by decide)
      refine ⟨true, σ, Int32.ofNat k, τ, ?_, fun _ _ _ => rfl, ?_, fun _ _ _ => rfl, .inr ⟨rfl, k, L, rfl, hk, h2, hX.2.1, hX.2.2.1, by simp only [List.length_nil] at hl4; omega, hln, hX.1.2.1.1.2.1, hX.1.2.1.1.2.2⟩⟩
      · rw [C_Reader_readLaw_l9, if_neg k16, q1, Option.bind_some, if_pos rfl]
      · rw [M_readLaw_l2, if_neg nl, if_pos q2]
    | cons x l1 =>
      obtain ⟨kk, q1, q0⟩ := tx_cons hX.1
      have cA : C_Reader_readLaw_l9 F (gC + 1) 157 (Int32.ofNat k) σ = (C_Reader_opens 157 (Int32.ofNat k) 0 2 σ).bind (fun q_4 =>
        if q_4.1 = true then (
        am_let (q_4.2 157 6) (fun x2_6 =>
        am_let (q_4.2 165 2) (fun x3_7 =>
        (C_Reader_sum F 157 q_4.2).bind (fun q_8 =>
        if q_8.1 = true then (
        am_let (q_8.2 165 2) (fun x4_10 =>
        (C_Reader_isWord 157 3 q_8.2).bind (fun q_11 =>
        if q_11 = true then (
        am_let (am_up q_8.2 157 5 ((q_8.2 157 5) + 1)) (fun σ_13 =>
        (C_Reader_condition F 157 0 σ_13).bind (fun q_14 =>
        if q_14.1 = true then (
        C_Reader_readLaw_p101 (C_Reader_readLaw_l9 F gC) F 157 (Int32.ofNat k) x2_6 x3_7 x4_10 q_14.2)
        else (
        some (false, q_14.2)))))
        else (
        C_Reader_readLaw_p101 (C_Reader_readLaw_l9 F gC) F 157 (Int32.ofNat k) x2_6 x3_7 x4_10 q_8.2))))
        else (
        some (false, q_8.2))))))
        else (
        some (false, q_4.2))) := by
        rw [C_Reader_readLaw_l9, if_neg k16, q1, Option.bind_some, if_neg q0]
      have bad : ∀ e : Int32, C_Reader_opens 157 (Int32.ofNat k) 0 2 σ = (C_Reader_fail 157 e (σ 157 5) σ).bind (fun q => some (q.1, q.2)) → M_readLaw_l2 F (gM + 1) (Int32.ofNat k) τ = some ((M_errs e τ).1, (M_errs e τ).2) →
          tx_lawOut σ τ (C_Reader_readLaw_l9 F (gC + 1) 157 (Int32.ofNat k) σ) (M_readLaw_l2 F (gM + 1) (Int32.ofNat k) τ) := by
        intro e a b
        obtain ⟨σ', a1, a2, a3, a4, a5, a6⟩ := tx_failJ (F := F) e hX
        refine ⟨false, σ', -1, (M_errs e τ).2, ?_, tx_FF a2, by rw [b, a3], tx_HH a5, .inl ⟨rfl, rfl, a4⟩⟩
        rw [cA, a, a1, Option.bind_some, if_neg (by exact Bool.false_ne_true)]
      rcases tx_opens (F := F) (lo := 0) (hi := 2) hX.1 (by decide) hk with ⟨o1, o2, o3, o4⟩ | ⟨o1, o2, o3⟩
      · have lw : M_isLineWord τ = true := (tx_line τ).mpr ⟨o1, o2, o3⟩
        by_cases w : k < 16
        case neg =>
          rw [if_neg w] at o4
          exact bad 3 o4 (by rw [M_readLaw_l2, if_pos lw, if_pos (show Int32.ofNat k = 16 by rw [show k = 16 by omega]; rfl)]; rfl)
        rw [if_pos w] at o4
        rw [o4, Option.bind_some, if_pos rfl] at cA
        obtain ⟨hJ, hC, hM, hl⟩ := hX
        simp only [List.length_cons] at hl hN
        have nk : ¬ Int32.ofNat k = 16 := fun g => by have := (ni_eq (b := 16) (by omega) (by omega)).mp g; omega
        have i32 : (32 : Int32) + Int32.ofNat k = Int32.ofNat (32 + k) := ni_add 32 k
        -- the word
        have hX1 : tx_X ch c (am_up σ 157 6 (τ 0 18)) (am_up τ 12 (32 + k) (τ 0 18)) (x :: l1) L 0 := tx_row (by omega) ⟨tx_J6 hJ, tx_LC5 hC, hM, by simp only [List.length_cons]; omega⟩
        obtain ⟨τ1, s1, s2, s3⟩ := tx_step (F := F) hF hX1.1
        have e5 : am_up σ 157 6 (τ 0 18) 157 5 = σ 157 5 := by simp [am_up]
        rw [e5] at s2
        have e6 : am_up (am_up σ 157 6 (τ 0 18)) 157 5 (σ 157 5 + 1) 157 6 = τ 0 18 := by simp [am_up]
        have hM1 := tx_LMD hX1.2.2.1 s3
        have hC1 : tx_LC (am_up (am_up σ 157 6 (τ 0 18)) 157 5 (σ 157 5 + 1)) L := tx_LC5 (tx_LC5 hC)
        -- where the sum begins
        have hX2 : tx_X ch c (am_up (am_up σ 157 6 (τ 0 18)) 157 5 (σ 157 5 + 1)) (am_up τ1 13 (32 + k) (τ1 0 28)) l1 L 0 := tx_row (by omega) ⟨s2, hC1, hM1, by omega⟩
        obtain ⟨b2, σ2, r2, τ2, u1, u2, u3, u4, u5⟩ := tx_sum (F := F) hF hX2
        have mA : M_readLaw_l2 F (gM + 1) (Int32.ofNat k) τ = if r2 = (-1) then some ((-1), τ2) else
            (am_wr τ2 14 48 (Int32.ofNat (32 + k)) (τ2 0 28)).bind (fun σ_12 =>
            if (M_isWord 3 σ_12) = true then (
            (M_reads F σ_12).bind (fun q_15 =>
            (M_readAny F q_15).bind (fun q_16 =>
            if q_16.1 = (-1) then (
            some ((-1), q_16.2))
            else (
            M_readLaw_p92 (M_readLaw_l2 F gM) F (Int32.ofNat k) (Int32.ofNat (32 + k)) q_16.2))))
            else (
            M_readLaw_p92 (M_readLaw_l2 F gM) F (Int32.ofNat k) (Int32.ofNat (32 + k)) σ_12)) := by
          rw [M_readLaw_l2, if_pos lw, if_neg nk, am_let, i32, ni_wr (by omega) (by omega), Option.bind_some, s1, Option.bind_some, ni_wr (by omega) (by omega), Option.bind_some, u2, Option.bind_some]
        rw [am_let, am_let, u1, Option.bind_some] at cA
        dsimp only at cA
        rw [e6] at cA
        have lc0 : am_up (am_up σ 157 6 (τ 0 18)) 157 5 (σ 157 5 + 1) 165 2 = Int32.ofNat L.length := hC1.2.1
        rw [lc0] at cA
        have fl1 : tx_FL σ σ2 := tx_FLt (tx_FF tx_up7) (tx_FF u3)
        have hl1 : tx_HL τ τ2 := tx_HLt (tx_HLt (tx_HLr (a := 12) (k := 32 + k) (by omega) (by omega)) (tx_HH (tx_HG (tx_GD s3)))) (tx_HLt (tx_HLr (a := 13) (k := 32 + k) (by omega) (by omega)) (tx_HH (tx_HG u4)))
        rcases u5 with ⟨rfl, rfl, u6, _⟩ | ⟨rfl, rfl, l2, E, u6, u7, u8⟩
        · exact ⟨false, σ2, -1, τ2, by rw [cA, if_neg (by exact Bool.false_ne_true)], fl1, by rw [mA, if_pos rfl], hl1, .inl ⟨rfl, rfl, u6⟩⟩
        rw [if_pos rfl, am_let] at cA
        rw [if_neg tx_01, ni_wr (by omega) (by omega), Option.bind_some] at mA
        have lc1 : σ2 165 2 = Int32.ofNat (L ++ E).length := u6.2.1.2.1
        rw [lc1] at cA
        have hX3 : tx_X ch c σ2 (am_up τ2 14 (32 + k) (τ2 0 28)) l2 (L ++ E) 0 := tx_row (by omega) u6
        -- rows as they stand then
        have r12 : am_up τ2 14 (32 + k) (τ2 0 28) 12 (32 + k) = τ 0 18 := by
          rw [am_up_ne (by omega), u4 12 _ (by omega), am_up_ne (by omega), s3 12 _ (by omega)]; simp [am_up]
        have r13 : am_up τ2 14 (32 + k) (τ2 0 28) 13 (32 + k) = Int32.ofNat (L.flatMap rl_tr).length := by
          rw [am_up_ne (by omega), u4 13 _ (by omega), ← hM1.1]; simp [am_up]
        have r14 : am_up τ2 14 (32 + k) (τ2 0 28) 14 (32 + k) = Int32.ofNat ((L ++ E).flatMap rl_tr).length := by
          rw [← u6.2.2.1.1]; simp [am_up]
        have rold : ∀ a i, 12 ≤ a → a ≤ 15 → i < k → am_up τ2 14 (32 + k) (τ2 0 28) a (32 + i) = τ a (32 + i) := fun a i h1 h2 hi => by
          simp only [am_up]; rw [if_neg (by omega), u4 a _ (by omega)]; simp only [am_up]; rw [if_neg (by omega), s3 a _ (by omega)]; simp only [am_up]; rw [if_neg (by omega)]
        have c163 : σ2 163 0 = 4 := by rw [fl1 163 0 (by omega)]; exact h0
        have c164 : σ2 164 = σ 164 := funext (fun j => by rw [u3 164 j (by omega), am_up_ne (by omega), am_up_ne (by omega)])
        have c163b : σ2 163 2 = Int32.ofNat k := by rw [u3 163 2 (by omega), am_up_ne (by omega), am_up_ne (by omega)]; exact h2
        have hl3 : tx_HL τ (am_up τ2 14 (32 + k) (τ2 0 28)) := tx_HLt hl1 (tx_HLr (by omega) (by omega))
        -- behind the condition
        have fin : ∀ (σ4 τ4 : am_SS) (l4 : tx_l) (B : tx_c), tx_X ch c σ4 τ4 l4 (L ++ E ++ B) 0 → l4.length ≤ l2.length → (B = [] ∨ rl_ty B [] = some [true]) → tx_F σ2 σ4 → tx_H (am_up τ2 14 (32 + k) (τ2 0 28)) τ4 → τ4 0 29 = 0 →
            C_Reader_readLaw_l9 F (gC + 1) 157 (Int32.ofNat k) σ = C_Reader_readLaw_p101 (C_Reader_readLaw_l9 F gC) F 157 (Int32.ofNat k) (τ 0 18) (Int32.ofNat L.length) (Int32.ofNat (L ++ E).length) σ4 →
            M_readLaw_l2 F (gM + 1) (Int32.ofNat k) τ = M_readLaw_p92 (M_readLaw_l2 F gM) F (Int32.ofNat k) (Int32.ofNat (32 + k)) τ4 →
            tx_lawOut σ τ (C_Reader_readLaw_l9 F (gC + 1) 157 (Int32.ofNat k) σ) (M_readLaw_l2 F (gM + 1) (Int32.ofNat k) τ) := by
          intro σ4 τ4 l4 B hX4 hl4 hB f4 h4 hO4 eA eB
          have hX5 : tx_X ch c σ4 (am_up τ4 15 (32 + k) (τ4 0 28)) l4 (L ++ E ++ B) 0 := tx_row (by omega) hX4
          have hl5 : tx_HL τ (am_up τ4 15 (32 + k) (τ4 0 28)) := tx_HLt (tx_HLt hl3 (tx_HH h4)) (tx_HLr (by omega) (by omega))
          have eB2 : M_readLaw_l2 F (gM + 1) (Int32.ofNat k) τ = if (M_isSign 59 (am_up τ4 15 (32 + k) (τ4 0 28))) = true then (M_reads F (am_up τ4 15 (32 + k) (τ4 0 28))).bind (fun q_4 => M_readLaw_l2 F gM (Int32.ofNat (k + 1)) q_4) else some ((M_errs 1 (am_up τ4 15 (32 + k) (τ4 0 28))).1, (M_errs 1 (am_up τ4 15 (32 + k) (τ4 0 28))).2) := by
            rw [eB, M_readLaw_p92, ni_wr (by omega) (by omega), Option.bind_some]; simp only [am_let]; rw [ni_succ]
          rcases tx_sign (s := 59) hX5.1 rfl with ⟨y, l5, e, e1, e2, e3, e4, cS, mS⟩ | ⟨cS, mS⟩
          · subst e
            obtain ⟨hJ5, hC5, hM5, hl55⟩ := hX5
            simp only [List.length_cons] at hl55 hl4
            obtain ⟨τ6, d1, d2, d3⟩ := tx_step (F := F) hF hJ5
            have hX6 : tx_X ch c (am_up σ4 157 5 (σ4 157 5 + 1)) τ6 l5 (L ++ E ++ B) 0 := ⟨d2, tx_LC5 hC5, tx_LMD hM5 d3, by omega⟩
            obtain ⟨r7, σ7, g1, g2, g3, g4, g5, g6, g7, g8, g9, g10⟩ := tx_addL (F := F) (k := k) (x1 := τ 0 18) (x2 := Int32.ofNat L.length) (x3 := Int32.ofNat (L ++ E).length) (x4 := am_up σ4 157 5 (σ4 157 5 + 1) 165 2) hF hX6 (by rw [am_up_ne (by omega), f4 163 0 (by omega)]; exact c163) (by rw [am_up_ne (by omega), f4 163 2 (by omega)]; exact c163b) w
            have eA2 : C_Reader_readLaw_l9 F (gC + 1) 157 (Int32.ofNat k) σ = C_Reader_readLaw_l9 F gC 157 (Int32.ofNat (k + 1)) σ7 := by
              rw [eA, C_Reader_readLaw_p101, C_Reader_sign, cS, Option.bind_some, if_pos rfl, am_let, Option.bind_some, if_pos rfl]
              show (C_Table_add F 163 _ _ _ _ _).bind _ = _
              rw [g1, Option.bind_some, am_let, ni_succ]
            have eB3 : M_readLaw_l2 F (gM + 1) (Int32.ofNat k) τ = M_readLaw_l2 F gM (Int32.ofNat (k + 1)) τ6 := by
              rw [eB2, if_pos mS, d1, Option.bind_some]
            have lo7 : ∀ j, j < 4 * k → σ7 164 j = σ 164 j := fun j hj => by
              rw [g5 j hj, am_up_ne (by omega), f4 164 j (by omega), c164]
            have ro6 : ∀ a i, 12 ≤ a → a ≤ 15 → i < k → τ6 a (32 + i) = τ a (32 + i) := fun a i h1 h2 hi => by
              rw [d3 a _ (by omega)]; simp only [am_up]; rw [if_neg (by omega), h4 a _ (by omega)]; exact rold a i h1 h2 hi
            have z := ih gC gM (k + 1) σ7 τ6 l5 (L ++ E ++ B) (by omega) (by omega) (by omega) (by omega) g2 g3 g4 (by rw [d3 0 29 (by omega), am_up_ne (by omega)]; exact hO4) (fun i hi => by
              by_cases q : i < k
              · rw [List.append_assoc]
                exact tx_lnm (hln i q) (fun j hj => lo7 j (by omega)) (fun a h1 h2 => ro6 a i h1 h2 q)
              · have e : i = k := by omega
                subst e
                refine ⟨L, E, B, [], by simp only [List.append_assoc, List.append_nil], u8 [] (by simp), hB, ?_, ?_, ?_, ?_, ?_, ?_, ?_, ?_⟩
                · rw [g6]; exact ⟨o2, o3⟩
                · rw [g6, d3 12 _ (by omega), am_up_ne (by omega), h4 12 _ (by omega)]; exact r12
                · exact g7
                · rw [g8, List.length_append]
                · rw [g9, am_up_ne (by omega), hC5.2.1, List.length_append, List.length_append]
                · rw [d3 13 _ (by omega), am_up_ne (by omega), h4 13 _ (by omega)]; exact r13
                · rw [d3 14 _ (by omega), am_up_ne (by omega), h4 14 _ (by omega), r14, List.flatMap_append, List.length_append]
                · rw [d3 15 _ (by omega)]
                  have : am_up τ4 15 (32 + i) (τ4 0 28) 15 (32 + i) = τ4 0 28 := by simp [am_up]
                  rw [this, hX4.2.2.1.1, List.flatMap_append, List.flatMap_append, List.length_append, List.length_append])
            obtain ⟨b', σ', r, τ', y1, y2, y3, y4, y5⟩ := z
            refine ⟨b', σ', r, τ', by rw [eA2, y1], tx_FLt (tx_FLt fl1 (tx_FLt (tx_FF (tx_Ft f4 tx_up5)) g10)) y2, by rw [eB3, y3], tx_HLt (tx_HLt hl5 (tx_HH (tx_HG (tx_GD d3)))) y4, y5⟩
          · obtain ⟨σ', a1, a2, a3, a4, a5, a6⟩ := tx_failJ (F := F) 1 hX5
            refine ⟨false, σ', -1, (M_errs 1 (am_up τ4 15 (32 + k) (τ4 0 28))).2, ?_, tx_FLt fl1 (tx_FF (tx_Ft f4 a2)), by rw [eB2, if_neg (by rw [mS]; decide), a3], tx_HLt hl5 (tx_HH a5), .inl ⟨rfl, rfl, a4⟩⟩
            rw [eA, C_Reader_readLaw_p101, C_Reader_sign, cS, Option.bind_some, if_neg (by decide), a1, Option.bind_some, if_neg (by exact Bool.false_ne_true)]
        have hO3 : am_up τ2 14 (32 + k) (τ2 0 28) 0 29 = 0 := by
          rw [am_up_ne (by omega), u4 0 29 (by omega), am_up_ne (by omega), s3 0 29 (by omega), am_up_ne (by omega)]; exact hO
        rcases tx_word (s := 3) hX3.1 (by decide) with ⟨y, l3, e, e1, e2, e3, e4, cW, mW⟩ | ⟨cW, mW⟩
        · subst e
          obtain ⟨hJ3, hC3, hM3, hl33⟩ := hX3
          simp only [List.length_cons] at hl33
          obtain ⟨τ4, d1, d2, d3⟩ := tx_step (F := F) hF hJ3
          have hX4 : tx_X ch c (am_up σ2 157 5 (σ2 157 5 + 1)) τ4 l3 (L ++ E) 0 := ⟨d2, tx_LC5 hC3, tx_LMD hM3 d3, by omega⟩
          obtain ⟨b5, σ5, v1, v2, r5, τ5, v3, v4, v5⟩ := tx_any (F := F) hF hX4 (by rw [d3 0 29 (by omega)]; exact hO3)
          rw [cW, Option.bind_some, if_pos rfl, am_let, v1, Option.bind_some] at cA
          rw [if_pos mW, d1, Option.bind_some, v3, Option.bind_some] at mA
          rcases v5 with ⟨rfl, rfl, v6⟩ | ⟨rfl, rfl, v6, l5, B, v7, v8, v9⟩
          · exact ⟨false, σ5, -1, τ5, by rw [cA, if_neg (by exact Bool.false_ne_true)], tx_FLt fl1 (tx_FF (tx_Ft tx_up5 v2)), by rw [mA, if_pos rfl], tx_HLt hl3 (tx_HH (tx_Ht (tx_HG (tx_GD d3)) v4)), .inl ⟨rfl, rfl, v6⟩⟩
          · exact fin σ5 τ5 l5 B v7 (by simp only [List.length_cons]; omega) (.inr v9) (tx_Ft tx_up5 v2) (tx_Ht (tx_HG (tx_GD d3)) v4) v6 (by rw [cA, if_pos rfl]) (by rw [mA, if_neg (by exact tx_01)])
        · rw [cW, Option.bind_some, if_neg (by decide)] at cA
          rw [if_neg (by rw [mW]; decide)] at mA
          exact fin σ2 _ l2 [] (by rw [List.append_nil]; exact hX3) (Nat.le_refl _) (.inl rfl) tx_F0 tx_H0 hO3 cA mA
      · have nl : ¬ M_isLineWord τ = true := fun e => o1 ((tx_line τ).mp e)
        exact bad 1 o3 (by rw [M_readLaw_l2, if_neg nl, if_neg o2]; rfl)
/-! what a text leaves as it was -/
def tx_CC (a j : Nat) : Prop := a = 157 ∨ (159 ≤ a ∧ a ≤ 169 ∧ ¬ ((a = 163 ∨ a = 165 ∨ a = 168) ∧ j = 0)) ∨ (16 ≤ a ∧ a ≤ 26 ∧ a ≠ 20 ∧ ¬ ((a = 16 ∨ a = 18 ∨ a = 21 ∨ a = 23 ∨ a = 25) ∧ j = 0)) ∨ (a = 88 ∧ j = 3)
def tx_MM (a j : Nat) : Prop := (a = 0 ∧ (j = 0 ∨ j = 3 ∨ (14 ≤ j ∧ j ≤ 18) ∨ (27 ≤ j ∧ j ≤ 36) ∨ j = 38 ∨ j = 40)) ∨ (11 ≤ a ∧ a ≤ 21)
theorem tx_gen {σ σ' τ τ' : am_SS} (h : rl_R σ τ) (hC : ∀ a j, ¬ tx_CC a j → σ' a j = σ a j) (hM : ∀ a j, ¬ tx_MM a j → τ' a j = τ a j)
    (nOR : ∀ n m, rl_OR (σ 21 2) (σ 22) (τ 0 36) (τ 19) n m → (n ≤ 12 ∧ τ 0 6 = Int32.ofNat n) → (m ≤ 12 ∧ τ 0 7 = Int32.ofNat m) → rl_OR (σ' 21 2) (σ' 22) (τ' 0 36) (τ' 19) n m)
    (nSV : ∀ m, rl_SV (σ 23 2) (σ 24) (τ 0 38) (τ 20) m → (m ≤ 12 ∧ τ 0 7 = Int32.ofNat m) → rl_SV (σ' 23 2) (σ' 24) (τ' 0 38) (τ' 20) m)
    (nND : ∀ n, rl_ND (σ 25 2) (σ 26) (τ 0 40) (τ 21) n → (n ≤ 12 ∧ τ 0 6 = Int32.ofNat n) → rl_ND (σ' 25 2) (σ' 26) (τ' 0 40) (τ' 21) n)
    (nLW : rl_LW (σ 16 2) (σ 17) (σ 18 2) (σ 19) (τ 11 0) (τ 12) (τ 13) (τ 14) (τ 15) (τ 16) (τ 17) → rl_LW (σ' 16 2) (σ' 17) (σ' 18 2) (σ' 19) (τ' 11 0) (τ' 12) (τ' 13) (τ' 14) (τ' 15) (τ' 16) (τ' 17))
    (nPS : (σ' 88 3 = σ 88 3 ∧ τ' 0 3 = τ 0 3) ∨ (σ' 88 3 = 0 ∧ τ' 0 3 = 0)) (nTP : rl_TP (σ' 157 1) (σ' 158) (τ' 0 14) (τ' 9)) (nFT : σ' 157 7 = τ' 0 34 ∧ σ' 157 8 = τ' 0 35) : rl_R σ' τ' := by
  obtain ⟨hK, ⟨n, m, hFR, hFS, hIR, hIS, hBK, hGU, hLE, hKY, hBI, hQU, hCO, hOR, hSV, hND, hLW⟩, hPS, hTP, hFT, hIM⟩ := h
  have eC : ∀ a, (a < 16 ∨ a = 20 ∨ (26 < a ∧ a < 88) ∨ (88 < a ∧ a < 157) ∨ a = 158) → σ' a = σ a := fun a ha => funext (fun j => hC a j (by unfold tx_CC; omega))
  have eM : ∀ a, ((0 < a ∧ a < 11) ∨ 21 < a) → τ' a = τ a := fun a ha => funext (fun j => hM a j (by unfold tx_MM; omega))
  have c0 : ∀ a j, ¬ tx_CC a j → σ' a j = σ a j := hC
  have m0 : ∀ j, ¬ (j = 0 ∨ j = 3 ∨ (14 ≤ j ∧ j ≤ 18) ∨ (27 ≤ j ∧ j ≤ 36) ∨ j = 38 ∨ j = 40) → τ' 0 j = τ 0 j := fun j hj => hM 0 j (by unfold tx_MM; omega)
  have o6 := hIS.2.2.1
  have o7 := hIS.2.2.2.1
  have pf : rl_pf σ' = rl_pf σ := by
    funext q c j
    simp only [rl_pf]
    by_cases q' : q < 6 ∧ c < 11
    · rw [if_pos q', if_pos q', eC _ (by omega)]
    · rw [if_neg q', if_neg q']
  refine ⟨?_, ⟨n, m, ?_, ?_, ?_, ?_, ?_, ?_, ?_, ?_, ?_, ?_, ?_, nOR n m hOR ⟨hIS.1, o6⟩ ⟨hIS.2.1, o7⟩, nSV m hSV ⟨hIS.2.1, o7⟩, nND n hND ⟨hIS.1, o6⟩, nLW hLW⟩, ?_, nTP, nFT, ?_⟩
  · rw [eC 13 (by omega), eC 27 (by omega), eC 29 (by omega), eC 31 (by omega), eC 33 (by omega), eC 35 (by omega), eC 37 (by omega), m0 5 (by omega), eM 10 (by omega), c0 16 0 (by unfold tx_CC; omega), c0 18 0 (by unfold tx_CC; omega), c0 21 0 (by unfold tx_CC; omega), c0 23 0 (by unfold tx_CC; omega), c0 25 0 (by unfold tx_CC; omega), c0 163 0 (by unfold tx_CC; omega), c0 165 0 (by unfold tx_CC; omega), c0 168 0 (by unfold tx_CC; omega)]
    exact hK
  · rw [eC 2 (by omega), eC 5 (by omega), eC 6 (by omega), eC 7 (by omega), eC 8 (by omega), eC 9 (by omega), eC 12 (by omega), eM 1 (by omega)]; exact hFR
  · rw [eC 2 (by omega), eC 3 (by omega), eC 4 (by omega), eC 10 (by omega), eC 11 (by omega), m0 6 (by omega), m0 7 (by omega), eM 4 (by omega), eM 5 (by omega), eM 6 (by omega), eM 7 (by omega)]; exact hFS
  · rw [eM 1 (by omega)]; exact hIR
  · rw [m0 6 (by omega), m0 7 (by omega), eM 4 (by omega), eM 5 (by omega), eM 6 (by omega), eM 7 (by omega)]; exact hIS
  · rw [eC 13 (by omega), eC 14 (by omega), eM 1 (by omega), eM 8 (by omega)]; exact hBK
  · rw [eC 27 (by omega), eC 28 (by omega), m0 44 (by omega), eM 24 (by omega), eM 25 (by omega), eM 26 (by omega)]; exact hGU
  · rw [eC 29 (by omega), eC 30 (by omega), eM 30 (by omega), eM 31 (by omega)]; exact hLE
  · rw [eC 31 (by omega), eC 32 (by omega), eM 30 (by omega), eM 31 (by omega)]; exact hKY
  · rw [eC 33 (by omega), eC 34 (by omega), m0 53 (by omega), eM 32 (by omega)]; exact hBI
  · rw [eC 35 (by omega), eC 36 (by omega), m0 56 (by omega), eM 34 (by omega)]; exact hQU
  · rw [eC 37 (by omega), eC 38 (by omega), m0 59 (by omega), eM 36 (by omega), eM 37 (by omega)]; exact hCO
  · rw [c0 88 2 (by unfold tx_CC; omega), eC 90 (by omega), pf, eM 2 (by omega), eM 1 (by omega), m0 6 (by omega), m0 7 (by omega), eM 4 (by omega), eM 5 (by omega), eM 6 (by omega), eM 7 (by omega)]
    rcases nPS with ⟨p1, p2⟩ | ⟨p1, p2⟩
    · rw [p1, p2]; exact hPS
    · rw [p1, p2]
      refine rl_PS_forget hPS ?_ ⟨n, o6⟩ ⟨m, o7⟩
      obtain ⟨p, u', b', _, _, q3, _, _, _, q4, _⟩ := hPS
      exact ⟨b', q3, q4⟩
  · have e39 : ∀ c, c < 38 → σ' (39 + c) = σ (39 + c) := fun c hc => eC _ (by omega)
    have hw : ∀ t, rl_W σ' 39 t ↔ rl_W σ 39 t := fun t => by
      simp only [rl_W, e39 1 (by omega), e39 2 (by omega), e39 3 (by omega), e39 4 (by omega), e39 5 (by omega), e39 6 (by omega), e39 7 (by omega), e39 8 (by omega), e39 9 (by omega), e39 10 (by omega), e39 11 (by omega), e39 12 (by omega), e39 13 (by omega), e39 15 (by omega), e39 16 (by omega), e39 17 (by omega), e39 18 (by omega), e39 20 (by omega), e39 21 (by omega), e39 22 (by omega), e39 23 (by omega), e39 24 (by omega), e39 25 (by omega), e39 26 (by omega), e39 27 (by omega), e39 28 (by omega), e39 29 (by omega), e39 30 (by omega), e39 31 (by omega), e39 32 (by omega), e39 33 (by omega), e39 34 (by omega), e39 35 (by omega), e39 36 (by omega), e39 37 (by omega)]
    rw [eC 0 (by omega), m0 64 (by omega), eM 39 (by omega)]
    simp only [rl_IM, hw]
    exact hIM
theorem tx_keepOR {cc cc' mc mc' : Int32} {cells cells' arr arr' : Nat → Int32} {n m : Nat} (h : rl_OR cc cells mc arr n m) (h1 : cc' = cc) (h2 : mc' = mc) (h3 : ∀ j, j < 64 → cells' j = cells j ∧ arr' j = arr j) : rl_OR cc' cells' mc' arr' n m := by
  obtain ⟨c, hc, e1, e2, e3⟩ := h
  refine ⟨c, hc, by rw [h1, e1], by rw [h2, e2], fun i hi => ?_⟩
  have := e3 i hi
  unfold rl_or1 at this ⊢
  rw [(h3 (4 * i) (by omega)).1, (h3 (4 * i) (by omega)).2, (h3 (4 * i + 1) (by omega)).1, (h3 (4 * i + 1) (by omega)).2, (h3 (4 * i + 2) (by omega)).1, (h3 (4 * i + 2) (by omega)).2, (h3 (4 * i + 3) (by omega)).1, (h3 (4 * i + 3) (by omega)).2]
  exact this
theorem tx_lastk {cells cells' : Nat → Int32} {o : Nat} : ∀ c, (∀ j, j < 4 * c → cells' j = cells j) → rl_last cells' o c = rl_last cells o c ∧ rl_all cells' o c = rl_all cells o c := by
  intro c
  induction c with
  | zero => intro _; exact ⟨rfl, rfl⟩
  | succ c ih =>
    intro h
    obtain ⟨a, b⟩ := ih (fun j hj => h j (by omega))
    rw [rl_last, rl_last, rl_all, rl_all, h (4 * c) (by omega), h (4 * c + 1) (by omega), a, b]
    exact ⟨rfl, rfl⟩
theorem tx_keepSV {cc cc' mc mc' : Int32} {cells cells' up up' : Nat → Int32} {m : Nat} (h : rl_SV cc cells mc up m) (h1 : cc' = cc) (h2 : mc' = mc) (h3 : ∀ j, j < 64 → cells' j = cells j) (h4 : ∀ j, j < 12 → up' j = up j) : rl_SV cc' cells' mc' up' m := by
  obtain ⟨c, hc, e1, e2, e3⟩ := h
  refine ⟨c, hc, by rw [h1, e1], by rw [h2, e2], fun o ho => ?_⟩
  rw [(tx_lastk c (fun j hj => h3 j (by omega))).1, h4 o ho]
  exact e3 o ho
theorem tx_keepND {cc cc' mc mc' : Int32} {cells cells' nd nd' : Nat → Int32} {n : Nat} (h : rl_ND cc cells mc nd n) (h1 : cc' = cc) (h2 : mc' = mc) (h3 : ∀ j, j < 64 → cells' j = cells j) (h4 : ∀ j, j < 12 → nd' j = nd j) : rl_ND cc' cells' mc' nd' n := by
  obtain ⟨c, hc, e1, e2, e3, e4⟩ := h
  refine ⟨c, hc, by rw [h1, e1], by rw [h2, e2], fun o ho => ?_, fun i hi => ?_⟩
  · rw [(tx_lastk c (fun j hj => h3 j (by omega))).2, h4 o ho]
    exact e3 o ho
  · rw [h3 _ (by omega)]; exact e4 i hi
theorem tx_keepLW {ln ln' cn cn' mc mc' : Int32} {lc lc' cc cc' w w' fr fr' wh wh' to to' op op' ar ar' : Nat → Int32} (h : rl_LW ln lc cn cc mc w fr wh to op ar) (h1 : ln' = ln) (h2 : cn' = cn) (h3 : mc' = mc) (h4 : ∀ j, j < 64 → lc' j = lc j) (h5 : ∀ j, j < 800 → cc' j = cc j)
    (h6 : ∀ j, j < 16 → w' j = w j ∧ fr' j = fr j ∧ wh' j = wh j ∧ to' j = to j) (h7 : ∀ j, j < 400 → op' j = op j ∧ ar' j = ar j) : rl_LW ln' lc' cn' cc' mc' w' fr' wh' to' op' ar' := by
  obtain ⟨c, k, hc, hk, e1, e2, e3, e4⟩ := h
  refine ⟨c, k, hc, hk, by rw [h1, e1], by rw [h3, e2], by rw [h2, e3], fun i hi => ?_⟩
  obtain ⟨s, s', E, B, q1, q2, q3, q4, q5, q6, q7, q8, q9, q10, q11, q12, q13, q14, q15, q16⟩ := e4 i hi
  refine ⟨s, s', E, B, q1, q2, q3, q4, ?_, ?_, ?_, ?_, ?_, ?_, ?_, ?_, fun j hj => ?_, fun j hj => ?_, fun j hj => ?_, fun j hj => ?_⟩
  · rw [(h6 i (by omega)).1]; exact q5
  · rw [h4 _ (by omega), (h6 i (by omega)).1]; exact q6
  · rw [h4 _ (by omega)]; exact q7
  · rw [h4 _ (by omega)]; exact q8
  · rw [h4 _ (by omega)]; exact q9
  · rw [(h6 i (by omega)).2.1]; exact q10
  · rw [(h6 i (by omega)).2.2.1]; exact q11
  · rw [(h6 i (by omega)).2.2.2]; exact q12
  · rw [h5 _ (by omega), h5 _ (by omega)]; exact q13 j hj
  · rw [h5 _ (by omega), h5 _ (by omega)]; exact q14 j hj
  · rw [(h7 _ (by omega)).1, (h7 _ (by omega)).2]; exact q15 j hj
  · rw [(h7 _ (by omega)).1, (h7 _ (by omega)).2]; exact q16 j hj
/-! the law is taken -/
theorem tl_2 {F : Nat} : ∀ (m j g : Nat) (x1 : Int32) (k : Nat) (τ : am_SS), j + m = k → m < g → k ≤ 400 → τ 0 28 = Int32.ofNat k → τ 0 27 = 0 → ∃ τ', M_takesLaw_l107 F g x1 (Int32.ofNat j) τ = some τ' ∧ (∀ i, j ≤ i → i < k → τ' 16 i = τ 16 (800 + i) ∧ τ' 17 i = τ 17 (800 + i)) ∧ τ' 11 0 = x1 ∧ (∀ a i, ¬ (a = 11 ∨ ((a = 16 ∨ a = 17) ∧ j ≤ i ∧ i < k)) → τ' a i = τ a i) := by
  intro m
  induction m with
  | zero =>
    intro j g x1 k τ hj hg hk h1 h2
    obtain ⟨g, rfl⟩ : ∃ z, g = z + 1 := ⟨g - 1, by omega⟩
    refine ⟨am_up τ 11 0 x1, ?_, fun i a b => by omega, by simp [am_up], fun a i q => by simp only [am_up]; rw [if_neg (by omega)]⟩
    rw [M_takesLaw_l107, h1, if_neg (fun q => by have := (ni_lt (by omega) (by omega)).mp q; omega), h2, show (0 : Int32) = Int32.ofNat 0 from rfl, ni_wr (by omega) (by omega), Option.bind_some]
  | succ m ih =>
    intro j g x1 k τ hj hg hk h1 h2
    obtain ⟨g, rfl⟩ : ∃ z, g = z + 1 := ⟨g - 1, by omega⟩
    have i8 : (800 : Int32) + Int32.ofNat j = Int32.ofNat (800 + j) := ni_add 800 j
    have i4 : (400 : Int32) * 0 + Int32.ofNat j = Int32.ofNat j := by rw [show (400 : Int32) * 0 = Int32.ofNat 0 from rfl, ni_add, Nat.zero_add]
    obtain ⟨τ', a1, a2, a3, a4⟩ := ih (j + 1) g x1 k (am_up (am_up τ 16 j (τ 16 (800 + j))) 17 j (τ 17 (800 + j))) (by omega) (by omega) hk (by simpa [am_up] using h1) (by simpa [am_up] using h2)
    refine ⟨τ', ?_, fun i b1 b2 => ?_, a3, fun a i q => ?_⟩
    · rw [M_takesLaw_l107, h1, if_pos ((ni_lt (by omega) (by omega)).mpr (by omega)), i8, ni_rd (by omega) (by omega), Option.bind_some, h2, i4, ni_wr (by omega) (by omega), Option.bind_some, ni_rd (by omega) (by omega), Option.bind_some, am_up_ne (by omega), am_up_ne (by omega), h2, i4, ni_wr (by omega) (by omega), Option.bind_some, am_let, ni_succ]
      exact a1
    · by_cases e : i = j
      · subst e
        rw [a4 16 i (by omega), a4 17 i (by omega)]; simp [am_up]
      · have := a2 i (by omega) b2
        rw [this.1, this.2]
        simp only [am_up]
        rw [if_neg (by omega), if_neg (by omega), if_neg (by omega), if_neg (by omega)]
        exact ⟨rfl, rfl⟩
    · rw [a4 a i (by omega)]
      simp only [am_up]
      rw [if_neg (by omega), if_neg (by omega)]
theorem tl_1 {F : Nat} (hF : 2000 ≤ F) : ∀ (m j g : Nat) (n k : Nat) (τ : am_SS), j + m = n → n ≤ 16 → m < g → k ≤ 400 → τ 0 28 = Int32.ofNat k → τ 0 27 = 0 → ∃ τ', M_takesLaw_l2 F g (Int32.ofNat n) (Int32.ofNat j) τ = some τ' ∧ (∀ a i, 12 ≤ a → a ≤ 15 → j ≤ i → i < n → τ' a i = τ a (32 + i)) ∧ (∀ i, i < k → τ' 16 i = τ 16 (800 + i) ∧ τ' 17 i = τ 17 (800 + i)) ∧ τ' 11 0 = Int32.ofNat n ∧ (∀ a i, ¬ ((11 ≤ a ∧ a ≤ 17)) → τ' a i = τ a i) ∧ ∀ a i, 12 ≤ a → a ≤ 15 → ¬ (j ≤ i ∧ i < n) → τ' a i = τ a i := by
  intro m
  induction m with
  | zero =>
    intro j g n k τ hj hn hg hk h1 h2
    obtain ⟨g, rfl⟩ : ∃ z, g = z + 1 := ⟨g - 1, by omega⟩
    obtain ⟨τ', a1, a2, a3, a4⟩ := tl_2 (F := F) k 0 F (Int32.ofNat n) k τ (by omega) (by omega) hk h1 h2
    refine ⟨τ', ?_, fun a i _ _ _ _ => by omega, fun i hi => a2 i (by omega) hi, a3, fun a i q => a4 a i (by omega), fun a i _ _ _ => a4 a i (by omega)⟩
    rw [M_takesLaw_l2, if_neg (fun q => by have := (ni_lt (by omega) (by omega)).mp q; omega)]
    exact a1
  | succ m ih =>
    intro j g n k τ hj hn hg hk h1 h2
    obtain ⟨g, rfl⟩ : ∃ z, g = z + 1 := ⟨g - 1, by omega⟩
    have i8 : (32 : Int32) + Int32.ofNat j = Int32.ofNat (32 + j) := ni_add 32 j
    have i4 : (16 : Int32) * 0 + Int32.ofNat j = Int32.ofNat j := by rw [show (16 : Int32) * 0 = Int32.ofNat 0 from rfl, ni_add, Nat.zero_add]
    obtain ⟨τ', a1, a2, a3, a4, a5, a6⟩ := ih (j + 1) g n k (am_up (am_up (am_up (am_up τ 12 j (τ 12 (32 + j))) 13 j (τ 13 (32 + j))) 14 j (τ 14 (32 + j))) 15 j (τ 15 (32 + j))) (by omega) hn (by omega) hk (by simpa [am_up] using h1) (by simpa [am_up] using h2)
    have up : ∀ a i, ¬ (12 ≤ a ∧ a ≤ 15 ∧ i = j) → (am_up (am_up (am_up (am_up τ 12 j (τ 12 (32 + j))) 13 j (τ 13 (32 + j))) 14 j (τ 14 (32 + j))) 15 j (τ 15 (32 + j))) a i = τ a i := fun a i q => by
      simp only [am_up]; rw [if_neg (by omega), if_neg (by omega), if_neg (by omega), if_neg (by omega)]
    refine ⟨τ', ?_, fun a i b1 b2 b3 b4 => ?_, fun i hi => ?_, a4, fun a i q => ?_, fun a i b1 b2 b3 => ?_⟩
    · rw [M_takesLaw_l2, if_pos ((ni_lt (by omega) (by omega)).mpr (by omega)), i8, ni_rd (by omega) (by omega), Option.bind_some, h2, i4, ni_wr (by omega) (by omega), Option.bind_some, ni_rd (by omega) (by omega), Option.bind_some, am_up_ne (by omega), am_up_ne (by omega), h2, i4, ni_wr (by omega) (by omega), Option.bind_some, ni_rd (by omega) (by omega), Option.bind_some, am_up_ne (by omega), am_up_ne (by omega), am_up_ne (by omega), am_up_ne (by omega), h2, i4, ni_wr (by omega) (by omega), Option.bind_some, ni_rd (by omega) (by omega), Option.bind_some, am_up_ne (by omega), am_up_ne (by omega), am_up_ne (by omega), am_up_ne (by omega), am_up_ne (by omega), am_up_ne (by omega), h2, i4, ni_wr (by omega) (by omega), Option.bind_some, am_let, ni_succ]
      exact a1
    · by_cases e : i = j
      · subst e
        rw [a6 a i b1 b2 (by omega)]
        rcases (by omega : a = 12 ∨ a = 13 ∨ a = 14 ∨ a = 15) with rfl | rfl | rfl | rfl <;> simp [am_up]
      · rw [a2 a i b1 b2 (by omega) b4, up a _ (by omega)]
    · have := a3 i hi
      rw [this.1, this.2, up 16 _ (by omega), up 17 _ (by omega)]
      exact ⟨rfl, rfl⟩
    · rw [a5 a i q, up a i (by omega)]
    · rw [a6 a i b1 b2 (by omega), up a i (by omega)]
theorem tl_sl {f : Nat → Int32} {A E X : tx_c} (h : rl_sl f 0 (A ++ (E ++ X))) : rl_sl f A.length E := by
  intro k hk
  have := h (A.length + k) (by rw [List.length_append, List.length_append]; omega)
  rw [Nat.zero_add] at this
  have e : (A ++ (E ++ X)).getD (A.length + k) (0, 0) = E.getD k (0, 0) := by
    rw [List.getD_eq_getElem?_getD, List.getElem?_append_right (by omega), Nat.add_sub_cancel_left, List.getElem?_append_left hk, ← List.getD_eq_getElem?_getD]
  rw [e] at this
  exact this
theorem tl_sm {f g f' g' : Nat → Int32} {A E X : tx_c} (h : rl_sm f g 800 (A ++ (E ++ X))) (hf : ∀ i, i < (A ++ (E ++ X)).length → f' i = f (800 + i) ∧ g' i = g (800 + i)) : rl_sm f' g' A.length E := by
  intro k hk
  have hl : A.length + k < (A ++ (E ++ X)).length := by rw [List.length_append, List.length_append]; omega
  have := h (A.length + k) hl
  have e : (A ++ (E ++ X)).getD (A.length + k) (0, 0) = E.getD k (0, 0) := by
    rw [List.getD_eq_getElem?_getD, List.getElem?_append_right (by omega), Nat.add_sub_cancel_left, List.getElem?_append_left hk, ← List.getD_eq_getElem?_getD]
  rw [e] at this
  rw [(hf _ hl).1, (hf _ hl).2]
  exact this
