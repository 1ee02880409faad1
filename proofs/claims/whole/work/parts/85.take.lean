/-! orders, service, needs are taken -/
theorem to_42 {F : Nat} {kd x2 : Int32} (hk : kd = 1 ∨ kd = 2 ∨ kd = 3) : ∀ (m j g : Nat) (τ : am_SS), j + m = 12 → m < g → ∃ τ', M_takesOther_l42 F g kd x2 (Int32.ofNat j) τ = some τ' ∧
    (kd = 2 → (∀ i, j ≤ i → i < 12 → τ' 20 i = τ 20 (12 + i)) ∧ τ' 0 38 = x2) ∧ (kd = 3 → (∀ i, j ≤ i → i < 12 → τ' 21 i = τ 21 (12 + i)) ∧ τ' 0 40 = x2) ∧ (kd ≠ 3 → τ' 0 3 = 0) ∧
    (∀ a i, ¬ ((a = 20 ∧ kd = 2 ∧ j ≤ i ∧ i < 12) ∨ (a = 21 ∧ kd = 3 ∧ j ≤ i ∧ i < 12) ∨ (a = 0 ∧ ((i = 38 ∧ kd = 2) ∨ (i = 40 ∧ kd = 3) ∨ (i = 3 ∧ kd ≠ 3)))) → τ' a i = τ a i) := by
  intro m
  induction m with
  | zero =>
    intro j g τ hj hg
    obtain ⟨g, rfl⟩ : ∃ z, g = z + 1 := ⟨g - 1, by omega⟩
    have n12 : ¬ Int32.ofNat j < 12 := fun q => by have := (ni_lt (b := 12) (by omega) (by omega)).mp q; omega
    rw [M_takesOther_l42, if_neg n12]
    simp only [M_takesOther_p104, am_let]
    rcases hk with rfl | rfl | rfl
    · refine ⟨_, rfl, fun q => absurd q (by decide), fun q => absurd q (by decide), fun _ => by simp [am_up], fun a i q => ?_⟩
      simp only [am_up]; rw [if_neg (fun e => q (.inr (.inr ⟨e.1, .inr (.inr ⟨e.2, by decide⟩)⟩)))]
    · refine ⟨_, rfl, fun _ => ⟨fun i h1 h2 => by omega, by simp [am_up]⟩, fun q => absurd q (by decide), fun _ => by simp [am_up], fun a i q => ?_⟩
      simp only [am_up]; rw [if_neg (fun e => q (.inr (.inr ⟨e.1, .inr (.inr ⟨e.2, by decide⟩)⟩))), if_neg (fun e => q (.inr (.inr ⟨e.1, .inl ⟨e.2, rfl⟩⟩)))]
    · refine ⟨_, rfl, fun q => absurd q (by decide), fun _ => ⟨fun i h1 h2 => by omega, by simp [am_up]⟩, fun q => absurd rfl q, fun a i q => ?_⟩
      simp only [am_up]; rw [if_neg (fun e => q (.inr (.inr ⟨e.1, .inr (.inl ⟨e.2, rfl⟩)⟩)))]
  | succ m ih =>
    intro j g τ hj hg
    obtain ⟨g, rfl⟩ : ∃ z, g = z + 1 := ⟨g - 1, by omega⟩
    have l12 : Int32.ofNat j < 12 := (ni_lt (b := 12) (by omega) (by omega)).mpr (by omega)
    have i12 : (12 : Int32) + Int32.ofNat j = Int32.ofNat (12 + j) := ni_add 12 j
    rw [M_takesOther_l42, if_pos l12]
    rcases hk with rfl | rfl | rfl
    · obtain ⟨τ', a1, a2, a3, a4, a5⟩ := ih (j + 1) g τ (by omega) (by omega)
      refine ⟨τ', ?_, fun q => absurd q (by decide), fun q => absurd q (by decide), a4, fun a i q => a5 a i (fun e => q ?_)⟩
      · rw [if_neg (by decide), M_takesOther_p68, if_neg (by decide), M_takesOther_p88, am_let, ni_succ, a1]
      · rcases e with ⟨_, e, _⟩ | ⟨_, e, _⟩ | e
        · exact absurd e (by decide)
        · exact absurd e (by decide)
        · exact .inr (.inr e)
    · obtain ⟨τ', a1, a2, a3, a4, a5⟩ := ih (j + 1) g (am_up τ 20 j (τ 20 (12 + j))) (by omega) (by omega)
      refine ⟨τ', ?_, fun _ => ⟨fun i h1 h2 => ?_, (a2 rfl).2⟩, fun q => absurd q (by decide), a4, fun a i q => ?_⟩
      · rw [if_pos rfl, i12, ni_rd (by omega) (by omega), Option.bind_some, ni_wr (by omega) (by omega), Option.bind_some, M_takesOther_p68, if_neg (by decide), M_takesOther_p88, am_let, ni_succ, a1]
      · by_cases e : i = j
        · subst e
          rw [a5 20 i (by omega)]; simp [am_up]
        · rw [(a2 rfl).1 i (by omega) h2]; simp only [am_up]; rw [if_neg (by omega)]
      · rw [a5 a i (fun e => q ?_)]
        · simp only [am_up]; rw [if_neg (fun e => q (.inl ⟨e.1, rfl, by omega, by omega⟩))]
        · rcases e with ⟨e1, e2, e3, e4⟩ | ⟨_, e, _⟩ | e
          · exact .inl ⟨e1, e2, by omega, e4⟩
          · exact absurd e (by decide)
          · exact .inr (.inr e)
    · obtain ⟨τ', a1, a2, a3, a4, a5⟩ := ih (j + 1) g (am_up τ 21 j (τ 21 (12 + j))) (by omega) (by omega)
      refine ⟨τ', ?_, fun q => absurd q (by decide), fun _ => ⟨fun i h1 h2 => ?_, (a3 rfl).2⟩, a4, fun a i q => ?_⟩
      · rw [if_neg (by decide), M_takesOther_p68, if_pos rfl, i12, ni_rd (by omega) (by omega), Option.bind_some, ni_wr (by omega) (by omega), Option.bind_some, M_takesOther_p88, am_let, ni_succ, a1]
      · by_cases e : i = j
        · subst e
          rw [a5 21 i (by omega)]; simp [am_up]
        · rw [(a3 rfl).1 i (by omega) h2]; simp only [am_up]; rw [if_neg (by omega)]
      · rw [a5 a i (fun e => q ?_)]
        · simp only [am_up]; rw [if_neg (fun e => q (.inr (.inl ⟨e.1, rfl, by omega, by omega⟩)))]
        · rcases e with ⟨_, e, _⟩ | ⟨e1, e2, e3, e4⟩ | e
          · exact absurd e (by decide)
          · exact .inr (.inl ⟨e1, e2, by omega, e4⟩)
          · exact .inr (.inr e)
theorem to_7 {F : Nat} : ∀ (m j g : Nat) (n : Nat) (τ : am_SS), j + m = 4 * n → n ≤ 16 → m < g → ∃ τ', M_takesOther_l7 F g 1 (Int32.ofNat n) (Int32.ofNat j) τ = M_takesOther_p40 F 1 (Int32.ofNat n) (am_up τ' 0 36 (Int32.ofNat n)) ∧ (∀ i, j ≤ i → i < 4 * n → τ' 19 i = τ 19 (64 + i)) ∧ ∀ a i, ¬ (a = 19 ∧ j ≤ i ∧ i < 4 * n) → τ' a i = τ a i := by
  intro m
  induction m with
  | zero =>
    intro j g n τ hj hn hg
    obtain ⟨g, rfl⟩ : ∃ z, g = z + 1 := ⟨g - 1, by omega⟩
    refine ⟨τ, ?_, fun i h1 h2 => by omega, fun _ _ _ => rfl⟩
    have i4 : (4 : Int32) * Int32.ofNat n = Int32.ofNat (4 * n) := ni_mul 4 n
    rw [M_takesOther_l7, i4, if_neg (fun q => by have := (ni_lt (by omega) (by omega)).mp q; omega), am_let]
  | succ m ih =>
    intro j g n τ hj hn hg
    obtain ⟨g, rfl⟩ : ∃ z, g = z + 1 := ⟨g - 1, by omega⟩
    have i4 : (4 : Int32) * Int32.ofNat n = Int32.ofNat (4 * n) := ni_mul 4 n
    have i64 : (64 : Int32) + Int32.ofNat j = Int32.ofNat (64 + j) := ni_add 64 j
    obtain ⟨τ', a1, a2, a3⟩ := ih (j + 1) g n (am_up τ 19 j (τ 19 (64 + j))) (by omega) hn (by omega)
    refine ⟨τ', ?_, fun i h1 h2 => ?_, fun a i q => ?_⟩
    · rw [M_takesOther_l7, i4, if_pos ((ni_lt (by omega) (by omega)).mpr (by omega)), i64, ni_rd (by omega) (by omega), Option.bind_some, ni_wr (by omega) (by omega), Option.bind_some, am_let, ni_succ, a1]
    · by_cases e : i = j
      · subst e
        rw [a3 19 i (by omega)]; simp [am_up]
      · rw [a2 i (by omega) h2]; simp only [am_up]; rw [if_neg (by omega)]
    · rw [a3 a i (by omega)]; simp only [am_up]; rw [if_neg (by omega)]
theorem to_2 {F : Nat} {sv : Bool} : ∀ (m j g : Nat) (τ : am_SS), j + m = 12 → m < g → ∃ τ', M_readOfficers_l2 F g sv (Int32.ofNat j) τ = M_readOfficers_l36 F F sv 0 τ' ∧ (∀ i, j ≤ i → i < 12 → τ' 20 (12 + i) = 0 ∧ τ' 21 (12 + i) = 0) ∧ ∀ a i, ¬ ((a = 20 ∨ a = 21) ∧ 12 + j ≤ i) → τ' a i = τ a i := by
  intro m
  induction m with
  | zero =>
    intro j g τ hj hg
    obtain ⟨g, rfl⟩ : ∃ z, g = z + 1 := ⟨g - 1, by omega⟩
    refine ⟨τ, ?_, fun i h1 h2 => by omega, fun _ _ _ => rfl⟩
    rw [M_readOfficers_l2, if_neg (fun q : _ < (12 : Int32) => by have := (ni_lt (b := 12) (by omega) (by omega)).mp q; omega)]
  | succ m ih =>
    intro j g τ hj hg
    obtain ⟨g, rfl⟩ : ∃ z, g = z + 1 := ⟨g - 1, by omega⟩
    have i12 : (12 : Int32) + Int32.ofNat j = Int32.ofNat (12 + j) := ni_add 12 j
    obtain ⟨τ', a1, a2, a3⟩ := ih (j + 1) g (am_up (am_up τ 20 (12 + j) 0) 21 (12 + j) 0) (by omega) (by omega)
    refine ⟨τ', ?_, fun i h1 h2 => ?_, fun a i q => ?_⟩
    · rw [M_readOfficers_l2, if_pos (show _ < (12 : Int32) from (ni_lt (b := 12) (by omega) (by omega)).mpr (by omega)), i12, ni_wr (by omega) (by omega), Option.bind_some, ni_wr (by omega) (by omega), Option.bind_some, am_let, ni_succ, a1]
    · by_cases e : i = j
      · subst e
        rw [a3 20 _ (by omega), a3 21 _ (by omega)]; simp [am_up]
      · exact a2 i (by omega) h2
    · rw [a3 a i (by omega)]; simp only [am_up]; rw [if_neg (by omega), if_neg (by omega)]
theorem kw_H0 : am_bytes = kw_s kw_W := by decide +kernel
theorem kw_H : ∀ k, k < 132 → am_ch (Int32.ofNat k) = some ((kw_s kw_W).getD k 0) := by
  intro k hk
  have h1 : (Int32.ofNat k).toNatClampNeg = k := ni_tn (by omega)
  rw [am_ch, h1, if_neg (fun q => q.elim (ni_nn (by omega)) (fun q => by omega)), kw_H0]
/-! a text, all in all -/
def tz_C (σ σ' : am_SS) : Prop := ∀ a j, ¬ (a = 157 ∨ (159 ≤ a ∧ a ≤ 169 ∧ ¬ ((a = 163 ∨ a = 165 ∨ a = 168) ∧ j = 0))) → σ' a j = σ a j
def tz_M (τ τ' : am_SS) : Prop := ∀ a j, ¬ ((a = 0 ∧ (j = 0 ∨ (14 ≤ j ∧ j ≤ 18) ∨ (27 ≤ j ∧ j ≤ 35))) ∨ (12 ≤ a ∧ a ≤ 15 ∧ 16 ≤ j) ∨ ((a = 16 ∨ a = 17) ∧ 400 ≤ j) ∨ a = 18 ∨ (a = 19 ∧ 64 ≤ j) ∨ ((a = 20 ∨ a = 21) ∧ 12 ≤ j)) → τ' a j = τ a j
theorem tz_Ct {σ σ' σ'' : am_SS} (h : tz_C σ σ') (h' : tz_C σ' σ'') : tz_C σ σ'' := fun a j q => (h' a j q).trans (h a j q)
theorem tz_Mt {τ τ' τ'' : am_SS} (h : tz_M τ τ') (h' : tz_M τ' τ'') : tz_M τ τ'' := fun a j q => (h' a j q).trans (h a j q)
theorem tz_CL {σ σ' : am_SS} (h : tx_FL σ σ') : tz_C σ σ' := fun a j q => h a j (by omega)
theorem tz_Cn {σ σ' : am_SS} (h : tn_F σ σ') : tz_C σ σ' := fun a j q => h a j (by omega)
theorem tz_ML {τ τ' : am_SS} (h : tx_HL τ τ') : tz_M τ τ' := fun a j q => h a j (by omega)
theorem tz_Mn {τ τ' : am_SS} (h : tn_G τ τ') : tz_M τ τ' := fun a j q => h a j (by omega)
theorem tz_MD {τ τ' : am_SS} (h : tk_D τ τ') : tz_M τ τ' := fun a j q => h a j (by omega)
theorem tz_C7 {σ : am_SS} {j : Nat} {v : Int32} : tz_C σ (am_up σ 157 j v) := fun a i q => by simp only [am_up]; rw [if_neg (by omega)]
theorem tz_M0 {τ : am_SS} {j : Nat} {v : Int32} (h : j = 0 ∨ (14 ≤ j ∧ j ≤ 18) ∨ (27 ≤ j ∧ j ≤ 35)) : tz_M τ (am_up τ 0 j v) := fun a i q => by simp only [am_up]; rw [if_neg (by omega)]
/-- what was refused changes nothing that is told -/
theorem tz_rel {σ σ' τ τ' : am_SS} (h : rl_R σ τ) (hC : tz_C σ σ') (hM : tz_M τ τ') (hT : rl_TP (σ' 157 1) (σ' 158) (τ' 0 14) (τ' 9)) (hF : σ' 157 7 = τ' 0 34 ∧ σ' 157 8 = τ' 0 35) : rl_R σ' τ' := by
  have cc : ∀ a j, a < 157 → σ' a j = σ a j := fun a j q => hC a j (by omega)
  have cr : ∀ a, a < 157 → σ' a = σ a := fun a q => funext (fun j => cc a j q)
  refine tx_gen h (fun a j q => hC a j (by unfold tx_CC at q; omega)) (fun a j q => hM a j (by unfold tx_MM at q; omega)) (fun n m k _ _ => ?_) (fun m k _ => ?_) (fun n k _ => ?_) (fun k => ?_) (.inl ⟨cc 88 3 (by omega), hM 0 3 (by omega)⟩) hT hF
  · exact tx_keepOR k (cc 21 2 (by omega)) (hM 0 36 (by omega)) (fun j hj => ⟨cc 22 j (by omega), hM 19 j (by omega)⟩)
  · exact tx_keepSV k (cc 23 2 (by omega)) (hM 0 38 (by omega)) (fun j hj => cc 24 j (by omega)) (fun j hj => hM 20 j (by omega))
  · exact tx_keepND k (cc 25 2 (by omega)) (hM 0 40 (by omega)) (fun j hj => cc 26 j (by omega)) (fun j hj => hM 21 j (by omega))
  · exact tx_keepLW k (cc 16 2 (by omega)) (cc 18 2 (by omega)) (hM 11 0 (by omega)) (fun j hj => cc 17 j (by omega)) (fun j hj => cc 19 j (by omega)) (fun j hj => ⟨hM 12 j (by omega), hM 13 j (by omega), hM 14 j (by omega), hM 15 j (by omega)⟩) (fun j hj => ⟨hM 16 j (by omega), hM 17 j (by omega)⟩)
def tz_6 (τ : am_SS) : am_SS := am_up (am_up (am_up (am_up (am_up (am_up τ 0 0 0) 0 34 0) 0 35 (-1)) 0 15 0) 0 28 0) 0 29 0
theorem tz_6M (τ : am_SS) : tz_M τ (tz_6 τ) := by
  unfold tz_6
  exact tz_Mt (tz_Mt (tz_Mt (tz_Mt (tz_Mt (tz_M0 (by omega)) (tz_M0 (by omega))) (tz_M0 (by omega))) (tz_M0 (by omega))) (tz_M0 (by omega))) (tz_M0 (by omega))
/-- the tape is empty then -/
theorem tz_TP {σ σ' τ τ' : am_SS} (h : rl_TP (σ 157 1) (σ 158) (τ 0 14) (τ 9)) (h1 : σ' 157 1 = 0) (h2 : τ' 0 14 = 0) (h3 : σ' 158 = σ 158) (h4 : τ' 9 = τ 9) : rl_TP (σ' 157 1) (σ' 158) (τ' 0 14) (τ' 9) := by
  obtain ⟨c, _, _, _, e⟩ := h
  exact ⟨0, by omega, h1, h2, by rw [h3, h4]; exact e⟩
theorem tz_158 {σ σ' : am_SS} (h : tz_C σ σ') : σ' 158 = σ 158 := funext (fun j => h 158 j (by omega))
theorem tz_9 {τ τ' : am_SS} (h : tz_M τ τ') : τ' 9 = τ 9 := funext (fun j => h 9 j (by omega))
/-- where both readers begin -/
theorem tz_start {F : Nat} {σ τ : am_SS} (hF : 2000 ≤ F) (h : rl_R σ τ) : ∃ c ch σc τr l, C_Reader_cut F 157 σ = some σc ∧ M_reads F (am_up (tz_6 τ) 0 27 0) = some τr ∧ tx_J ch c σc τr l ∧ l.length ≤ 400 ∧ tz_C σ σc ∧ tz_M τ τr ∧ tk_D (am_up (tz_6 τ) 0 27 0) τr := by
  have h' := h
  obtain ⟨hK, -, -, hTP, -, -⟩ := h'
  obtain ⟨c, hc, e1, e2, e3⟩ := hTP
  have hS : tk_S (τ 9) c σ := ⟨hc, e1, fun k hk => (e3 k hk).1⟩
  obtain ⟨σc, a1, a2, a3, a4, a5, a6⟩ := tk_Cut (F := F) hF kw_H hS
  have w9 : ∀ k, k < 132 → τ 10 (k + 1) = (kw_s kw_W).getD k 0 := fun k hk => by
    have := hK.2.2.2.2.2.2.2.2.2.2.2.2.2.2.2.2 (k + 1) (by omega)
    rw [this, kw_wl]; rfl
  have m7 : tz_M τ (am_up (tz_6 τ) 0 27 0) := tz_Mt (tz_6M τ) (tz_M0 (by omega))
  have n9 : ∀ a, a ≠ 0 → am_up (tz_6 τ) 0 27 0 a = τ a := fun a q => by
    unfold tz_6
    rw [am_up_ne q, am_up_ne q, am_up_ne q, am_up_ne q, am_up_ne q, am_up_ne q, am_up_ne q]
  have hT : tk_T (τ 9) c (am_up (tz_6 τ) 0 27 0) := ⟨hc, by rw [← e2]; simp [tz_6, am_up], fun k hk => ⟨by rw [n9 9 (by omega)], (e3 k hk).2⟩, fun k hk => by rw [n9 10 (by omega)]; exact w9 k hk⟩
  obtain ⟨τr, b1, b2, b3⟩ := tk_reads (F := F) (s := 0) hF hT (by omega) (by simp [tz_6, am_up])
  have ll := tk_ll (ch := τ 9) (c := c) 400 0 (by omega)
  refine ⟨c, τ 9, σc, τr, tk_l (τ 9) c 400 0, a1, b1, ⟨tk_TD hT b3, ⟨⟨by rw [a6 157 1 (by omega) (by omega)]; exact e1, a4, a5⟩, 0, a3, by omega, a2⟩, b2⟩, by omega, fun a j q => a6 a j (by omega) (by omega), tz_Mt m7 (tz_MD b3), b3⟩
theorem tz_p69 {F : Nat} {x1 : Int32} {τ : am_SS} : M_text_p69 F x1 (-1) τ = some (-1, am_up τ 0 14 0) := by
  rw [M_text_p69, am_let, if_pos rfl]
/-- a refusal of both -/
theorem tz_no {F : Nat} {x1 : Int32} {σ τ σ3 τ3 : am_SS} (h : rl_R σ τ) (hC : tz_C σ σ3) (hM : tz_M τ τ3) (hb : tx_bad σ3 τ3) :
    ∃ qC qM, C_text_p196 F (-1) σ3 = some qC ∧ M_text_p69 F x1 (-1) (am_up (am_up τ3 0 34 (τ3 0 32)) 0 35 (am_up τ3 0 34 (τ3 0 32) 0 33)) = some qM ∧ qC.1 = qM.1 ∧ rl_R qC.2 qM.2 := by
  refine ⟨(-1, am_up σ3 157 1 0), (-1, am_up (am_up (am_up τ3 0 34 (τ3 0 32)) 0 35 (am_up τ3 0 34 (τ3 0 32) 0 33)) 0 14 0), by rw [C_text_p196, am_let], tz_p69, rfl, ?_⟩
  have c1 : tz_C σ (am_up σ3 157 1 0) := tz_Ct hC tz_C7
  have m1 : tz_M τ (am_up (am_up (am_up τ3 0 34 (τ3 0 32)) 0 35 (am_up τ3 0 34 (τ3 0 32) 0 33)) 0 14 0) := tz_Mt hM (tz_Mt (tz_Mt (tz_M0 (by omega)) (tz_M0 (by omega))) (tz_M0 (by omega)))
  refine tz_rel h c1 m1 (tz_TP h.2.2.2.1 (by simp [am_up]) (by simp [am_up]) (tz_158 c1) (tz_9 m1)) ⟨?_, ?_⟩
  · have := hb.1; simpa [am_up] using this
  · have := hb.2; simpa [am_up] using this
theorem tz_kd {y : Int32} (h : M_isIn y 0 3 = true) : y = 0 ∨ y = 1 ∨ y = 2 ∨ y = 3 := by
  have := ni_in.mp h
  grind
theorem tz_M6 {F : Nat} {y : Int32} {τ : am_SS} : M_text F y τ = if (M_isIn y 0 3) = true then (M_readsText F y (tz_6 τ)).bind (fun q_9 => if q_9.1 = (-1) then M_text_p69 F y q_9.1 (am_up (am_up q_9.2 0 34 (q_9.2 0 32)) 0 35 (am_up q_9.2 0 34 (q_9.2 0 32) 0 33)) else M_text_p69 F y q_9.1 q_9.2) else M_text_p69 F y (-1) (tz_6 τ) := by
  rw [M_text]; rfl
theorem tz_nn {n : Nat} (h : n ≤ 16) : ¬ Int32.ofNat n = -1 := tn_nn n (by omega)
/-- slots that the readers leave -/
theorem tz_slot {τ τr τ' : am_SS} (d : tk_D (am_up (tz_6 τ) 0 27 0) τr) (h : ∀ j, j = 27 ∨ j = 34 ∨ j = 35 → τ' 0 j = τr 0 j) : τ' 0 27 = 0 ∧ τ' 0 34 = 0 ∧ τ' 0 35 = -1 := by
  refine ⟨?_, ?_, ?_⟩
  · rw [h 27 (by omega), d 0 27 (by omega)]; simp [am_up]
  · rw [h 34 (by omega), d 0 34 (by omega)]; simp [am_up, tz_6]
  · rw [h 35 (by omega), d 0 35 (by omega)]; simp [am_up, tz_6]
