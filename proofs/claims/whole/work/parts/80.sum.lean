theorem tx_tn {v : Int32} (h : ∃ n, n < 25 ∧ v = Int32.ofNat n) (h' : ¬ v < 7) (h'' : ¬ 16 < v) : v = 7 ∨ v = 8 ∨ v = 9 ∨ v = 10 ∨ v = 11 ∨ v = 12 ∨ v = 13 ∨ v = 14 ∨ v = 15 ∨ v = 16 := by
  grind
theorem tx_unit {F c s : Nat} {ch : Nat → Int32} {σ τ : am_SS} {l : tx_l} {L : tx_c} (hF : 2000 ≤ F) (h : tx_X ch c σ τ l L s) :
    tx_out ch c l L s σ τ (C_Reader_unit F 157 σ) (M_readUnit F τ) (fun E => ∀ st, st.length < 60 → rl_ty E st = some (false :: st)) 1 := by
  obtain ⟨hJ, hC, hM, hl⟩ := h
  have hJ' := hJ
  obtain ⟨h1, h2, ⟨s0, _, _, _, h3⟩⟩ := hJ'
  have tl := tx_trL L
  have k := tx_kind h2
  have bad : ∀ A B, A = (C_Reader_fail 157 1 (σ 157 5) σ).bind (fun q => some (q.1, q.2)) → B = some ((M_errs 1 τ).1, (M_errs 1 τ).2) → tx_out ch c l L s σ τ A B (fun E => ∀ st, st.length < 60 → rl_ty E st = some (false :: st)) 1 :=
    fun A B a b => tx_ofail (F := F) 1 hJ hC (by omega) a b
  cases l with
  | nil =>
    obtain ⟨t1, t2⟩ := h3
    refine bad _ _ ?_ ?_
    · simp [C_Reader_unit, C_Reader_unit_p20, C_Reader_unit_p21, C_Reader_unit_p52, C_Reader_unit_p53, k, tx_k0]
    · simp [M_readUnit, M_readUnit_p23, M_readUnit_p24, t1, am_let]
  | cons x l' =>
    have v := tx_val h2
    rw [tx_k0] at k
    obtain ⟨_, r⟩ := h3
    have good : ∀ p q : Int32 × Int32, rl_tr p = [q] → (∀ st : List Bool, st.length < 60 → rl_ty [p] st = some (false :: st)) →
        tx_out ch c (x :: l') L s σ τ ((C_Table_add F 165 p.1 p.2 0 0 σ).bind (fun q_2 => some (true, am_up q_2.2 157 5 ((q_2.2 157 5) + 1)))) ((M_emits q.1 q.2 τ).bind (fun q_1 => (M_reads F q_1).bind (fun q_2 => some (0, q_2)))) (fun E => ∀ st, st.length < 60 → rl_ty E st = some (false :: st)) 1 := by
      intro p q hp ht
      simp only [List.length_cons] at hl
      obtain ⟨r, σ', τ', a1, a2, a3, a4, a5, a6, a7, a8, a9, a10⟩ := tx_both (F := F) (x := p.1) (y := p.2) (x' := q.1) (y' := q.2) hF hJ hC hM (by omega) hp
      obtain ⟨τ'', b1, b2, b3⟩ := tx_step (F := F) hF a3
      refine ⟨true, _, 0, τ'', by rw [a1]; rfl, by rw [a2, Option.bind_some, b1]; rfl, tx_Ft a7 tx_up5, tx_Gt a8 (tx_GD b3), .inr ⟨rfl, rfl, l', [p], ⟨b2, tx_LC5 a4, tx_LMD a5 b3, ?_⟩, Nat.le_refl _, ht⟩⟩
      have e : (p.1, p.2) = p := rfl
      rw [e] at a6
      rw [a6]; omega
    rcases r with ⟨r1, r2, r3⟩ | ⟨r1, r2, r3, r4⟩ | ⟨r1, r2, r3⟩ | ⟨r1, r2, r3, r4⟩ | ⟨r1, r2, r3, r4⟩ | ⟨r1, r2, r3⟩
    · refine bad _ _ ?_ ?_
      · have n7 : (-1 : Int32) < 7 := by decide
        simp [C_Reader_unit, C_Reader_unit_p20, C_Reader_unit_p21, C_Reader_unit_p52, C_Reader_unit_p53, k, r1, v, r2, n7]
      · simp [M_readUnit, M_readUnit_p23, M_readUnit_p24, r3, am_let]
    · by_cases w : x.2.2 < 7
      · refine bad _ _ ?_ ?_
        · simp [C_Reader_unit, C_Reader_unit_p20, C_Reader_unit_p21, C_Reader_unit_p52, C_Reader_unit_p53, k, r1, v, w]
        · have : ¬ M_canAsk (τ 0 18) = true := by rw [r4, M_canAsk, ni_in]; grind
          simp [M_readUnit, M_readUnit_p23, M_readUnit_p24, r3, am_let, this]
      by_cases w' : 16 < x.2.2
      · refine bad _ _ ?_ ?_
        · simp [C_Reader_unit, C_Reader_unit_p20, C_Reader_unit_p21, C_Reader_unit_p52, C_Reader_unit_p53, k, r1, v, w, w']
        · have : ¬ M_canAsk (τ 0 18) = true := by rw [r4, M_canAsk, ni_in]; grind
          simp [M_readUnit, M_readUnit_p23, M_readUnit_p24, r3, am_let, this]
      · have : M_canAsk (τ 0 18) = true := by rw [r4, M_canAsk, ni_in]; grind
        have g := good (x.2.2, x.2.2) (1, x.2.2 - 7) (by rcases tx_tn r2 w w' with e | e | e | e | e | e | e | e | e | e <;> rw [e] <;> rfl) (fun st hs => by
          rcases tx_tn r2 w w' with e | e | e | e | e | e | e | e | e | e <;> rw [e] <;> simp [rl_ty, rl_t1, hs])
        have eA : C_Reader_unit F 157 σ = (C_Table_add F 165 x.2.2 x.2.2 0 0 σ).bind (fun q_2 => some (true, am_up q_2.2 157 5 ((q_2.2 157 5) + 1))) := by
          simp [C_Reader_unit, C_Reader_unit_p20, C_Reader_unit_p21, C_Reader_unit_p53, C_Reader_unit_p72, C_Reader_unit_p93, k, r1, v, w, w', am_let]
        have eB : M_readUnit F τ = (M_emits 1 (x.2.2 - 7) τ).bind (fun q_1 => (M_reads F q_1).bind (fun q_2 => some (0, q_2))) := by
          rw [r4] at this
          simp [M_readUnit, M_readUnit_p24, M_readUnit_p43, M_readUnit_p53, M_readUnit_p71, r3, this, am_bI, r4]
        rw [eA, eB]; exact g
    · refine bad _ _ ?_ ?_
      · simp [C_Reader_unit, C_Reader_unit_p20, C_Reader_unit_p21, C_Reader_unit_p52, C_Reader_unit_p53, k, r1, v, r2]
      · simp [M_readUnit, M_readUnit_p23, M_readUnit_p24, r3, am_let]
    · have nn : ¬ x.2.2 = -1 := by obtain ⟨n, n1, n2⟩ := r2; rw [n2]; intro e; have := ni_nn (a := n) (by omega); rw [e] at this; exact this (by decide)
      have g := good (1000, x.2.2) (0, x.2.2) rfl (fun st hs => by simp [rl_ty, rl_t1, hs])
      have eA : C_Reader_unit F 157 σ = (C_Table_add F 165 1000 x.2.2 0 0 σ).bind (fun q_2 => some (true, am_up q_2.2 157 5 ((q_2.2 157 5) + 1))) := by
        simp [C_Reader_unit, C_Reader_unit_p21, C_Reader_unit_p52, C_Reader_unit_p53, C_Reader_unit_p72, C_Reader_unit_p93, k, r1, v, nn, am_let]
      have eB : M_readUnit F τ = (M_emits 0 x.2.2 τ).bind (fun q_1 => (M_reads F q_1).bind (fun q_2 => some (0, q_2))) := by
        simp [M_readUnit, M_readUnit_p23, M_readUnit_p24, M_readUnit_p43, M_readUnit_p53, M_readUnit_p71, r3, am_bI, r4]
      rw [eA, eB]; exact g
    · refine bad _ _ ?_ ?_
      · simp [C_Reader_unit, C_Reader_unit_p20, C_Reader_unit_p21, C_Reader_unit_p52, C_Reader_unit_p53, k, r1]
      · simp [M_readUnit, M_readUnit_p23, M_readUnit_p24, r3, am_let]
    · refine bad _ _ ?_ ?_
      · simp [C_Reader_unit, C_Reader_unit_p20, C_Reader_unit_p21, C_Reader_unit_p52, C_Reader_unit_p53, k, r1]
      · simp [M_readUnit, M_readUnit_p23, M_readUnit_p24, r3, am_let]
theorem tx_01 : ¬ (0 : Int32) = -1 := by decide
/-- a number that is taken -/
theorem tx_takes {F c : Nat} {ch : Nat → Int32} {σ τ : am_SS} {l : tx_l} (hF : 2000 ≤ F) (h : tx_J ch c σ τ l) {lo hi : Int32} :
    (∃ x l' n, l = x :: l' ∧ n < 10000 ∧ lo ≤ Int32.ofNat n ∧ Int32.ofNat n ≤ hi ∧ τ 0 17 = 3 ∧ τ 0 18 = Int32.ofNat n ∧ C_Reader_takes 157 lo hi σ = some (true, am_up (am_up σ 157 6 (Int32.ofNat n)) 157 5 ((σ 157 5) + 1))) ∨
    (∃ k, C_Reader_takes 157 lo hi σ = (C_Reader_fail 157 k (σ 157 5) σ).bind (fun q => some (q.1, q.2)) ∧ ((k = 1 ∧ τ 0 17 ≠ 3) ∨ (k = 2 ∧ τ 0 17 = 3 ∧ (∃ n, n < 10000 ∧ τ 0 18 = Int32.ofNat n) ∧ ¬ (lo ≤ τ 0 18 ∧ τ 0 18 ≤ hi)))) := by
  obtain ⟨h1, h2, ⟨s0, _, _, _, h3⟩⟩ := h
  have k := tx_kind h2
  cases l with
  | nil =>
    obtain ⟨t1, t2⟩ := h3
    right
    exact ⟨1, by simp [C_Reader_takes, C_Reader_takes_p16, k, tx_k0], .inl ⟨rfl, by rw [t1]; decide⟩⟩
  | cons x l' =>
    have v := tx_val h2
    rw [tx_k0] at k
    obtain ⟨_, r⟩ := h3
    rcases r with ⟨r1, r2, r3⟩ | ⟨r1, r2, r3, r4⟩ | ⟨r1, r2, r3⟩ | ⟨r1, ⟨n, n1, n2⟩, r3, r4⟩ | ⟨r1, r2, r3, r4⟩ | ⟨r1, r2, r3⟩
    · right; exact ⟨1, by simp [C_Reader_takes, C_Reader_takes_p16, k, r1], .inl ⟨rfl, by rw [r3]; decide⟩⟩
    · right; exact ⟨1, by simp [C_Reader_takes, C_Reader_takes_p16, k, r1], .inl ⟨rfl, by rw [r3]; decide⟩⟩
    · right; exact ⟨1, by simp [C_Reader_takes, C_Reader_takes_p16, k, r1, v, r2], .inl ⟨rfl, by rw [r3]; decide⟩⟩
    · have nn : ¬ x.2.2 = -1 := by rw [n2]; intro e; have := ni_nn (a := n) (by omega); rw [e] at this; exact this (by decide)
      by_cases q1 : x.2.2 < lo
      · right; exact ⟨2, by simp [C_Reader_takes, C_Reader_takes_p42, k, r1, v, nn, q1], .inr ⟨rfl, r3, ⟨n, n1, by rw [r4, n2]⟩, by rw [r4]; grind⟩⟩
      by_cases q2 : hi < x.2.2
      · right; exact ⟨2, by simp [C_Reader_takes, C_Reader_takes_p42, k, r1, v, nn, q1, q2], .inr ⟨rfl, r3, ⟨n, n1, by rw [r4, n2]⟩, by rw [r4]; grind⟩⟩
      · left
        refine ⟨x, l', n, rfl, n1, by rw [← n2]; grind, by rw [← n2]; grind, r3, by rw [r4, n2], ?_⟩
        rw [← n2]
        simp [C_Reader_takes, k, r1, v, nn, q1, q2, am_let, am_up]
    · right; exact ⟨1, by simp [C_Reader_takes, C_Reader_takes_p16, k, r1], .inl ⟨rfl, by rw [r3]; decide⟩⟩
    · right; exact ⟨1, by simp [C_Reader_takes, C_Reader_takes_p16, k, r1], .inl ⟨rfl, by rw [r3]; decide⟩⟩
theorem tx_app : ∀ (A B : tx_c) (st : List Bool), rl_ty (A ++ B) st = (rl_ty A st).bind (fun st' => rl_ty B st') := by
  intro A
  induction A with
  | nil => intro B st; rfl
  | cons p A ih =>
    intro B st
    rw [List.cons_append, rl_ty, rl_ty]
    cases rl_t1 p st with
    | none => rfl
    | some st' => exact ih B st'
theorem tx_J6 {c : Nat} {ch : Nat → Int32} {σ τ : am_SS} {l : tx_l} {v : Int32} (h : tx_J ch c σ τ l) : tx_J ch c (am_up σ 157 6 v) τ l := by
  obtain ⟨h1, ⟨e0, t, e, b, q⟩, h3⟩ := h
  exact ⟨h1, ⟨by simpa [am_up] using e0, t, by simpa [am_up] using e, b, tk_ef l t (fun a' j h1 h2 h3 => by rw [am_up_ne (by omega)]) q⟩, h3⟩
theorem tx_LCF {σ : am_SS} {L : tx_c} {j : Nat} {v : Int32} (h : tx_LC σ L) : tx_LC (am_up σ 157 j v) L := tx_LC5 h
/-- more of a part: what was done before comes on top -/
theorem tx_more {c s d d' : Nat} {ch : Nat → Int32} {σ τ σ1 τ1 : am_SS} {l l1 : tx_l} {L E : tx_c} {Q Q' : tx_c → Prop} {A : Option (Bool × am_SS)} {B : Option (Int32 × am_SS)}
    (hF : tx_F σ σ1) (hG : tx_G τ τ1) (hl : l1.length + d ≤ l.length) (hQ : ∀ E', Q E' → Q' (E ++ E')) (h : tx_out ch c l1 (L ++ E) s σ1 τ1 A B Q d') : tx_out ch c l L s σ τ A B Q' (d + d') := by
  obtain ⟨b, σ', r, τ', a1, a2, a3, a4, a5⟩ := h
  refine ⟨b, σ', r, τ', a1, a2, tx_Ft hF a3, tx_Gt hG a4, ?_⟩
  rcases a5 with a5 | ⟨b1, b2, l', E', b3, b4, b5⟩
  · exact .inl a5
  · exact .inr ⟨b1, b2, l', E ++ E', by rw [← List.append_assoc]; exact b3, by omega, hQ E' b5⟩
theorem tx_less {c s d d' : Nat} {ch : Nat → Int32} {σ τ : am_SS} {l : tx_l} {L : tx_c} {Q : tx_c → Prop} {A : Option (Bool × am_SS)} {B : Option (Int32 × am_SS)} (hd : d' ≤ d) (h : tx_out ch c l L s σ τ A B Q d) : tx_out ch c l L s σ τ A B Q d' := by
  obtain ⟨b, σ', r, τ', a1, a2, a3, a4, a5⟩ := h
  refine ⟨b, σ', r, τ', a1, a2, a3, a4, ?_⟩
  rcases a5 with a5 | ⟨b1, b2, l', E', b3, b4, b5⟩
  · exact .inl a5
  · exact .inr ⟨b1, b2, l', E', b3, by omega, b5⟩
/-- a product, behind its first unit: what is behind, on a stack that holds one -/
theorem tx_prod {F c : Nat} {ch : Nat → Int32} (hF : 2000 ≤ F) : ∀ (N s g g' turn : Nat) (σ τ : am_SS) (l : tx_l) (L : tx_c), l.length ≤ N → tx_X ch c σ τ l L s → N < g → N < g' → turn + N ≤ 400 →
    tx_out ch c l L s σ τ (C_Reader_product_l11 F g 157 (Int32.ofNat turn) σ) (M_readProduct_l10 F g' τ) (fun E => ∀ st, st.length < 59 → rl_ty E (false :: st) = some (false :: st)) 0 := by
  intro N
  induction N with
  | zero =>
    intro s g g' turn σ τ l L hN h hg hg' ht
    obtain ⟨g, rfl⟩ : ∃ z, g = z + 1 := ⟨g - 1, by omega⟩
    obtain ⟨g', rfl⟩ : ∃ z, g' = z + 1 := ⟨g' - 1, by omega⟩
    have l0 : l = [] := List.eq_nil_of_length_eq_zero (by omega)
    subst l0
    have h42 := (tx_sign (s := 42) h.1 rfl).resolve_left (fun ⟨_, _, e, _⟩ => by cases e)
    have h47 := (tx_sign (s := 47) h.1 rfl).resolve_left (fun ⟨_, _, e, _⟩ => by cases e)
    refine ⟨true, σ, 0, τ, ?_, ?_, tx_F0, tx_G0, .inr ⟨rfl, rfl, [], [], by rw [List.append_nil]; exact h, Nat.le_refl _, fun st _ => rfl⟩⟩
    · rw [C_Reader_product_l11, if_neg (fun q : (400 : Int32) < _ => by have := (ni_lt (a := 400) (by omega) (by omega)).mp q; omega), h42.1, Option.bind_some, if_neg (by decide), h47.1, Option.bind_some, if_neg (by decide)]
    · rw [M_readProduct_l10, h42.2, if_neg (by decide), h47.2, if_neg (by decide)]
  | succ N ih =>
    intro s g g' turn σ τ l L hN h hg hg' ht
    obtain ⟨g, rfl⟩ : ∃ z, g = z + 1 := ⟨g - 1, by omega⟩
    obtain ⟨g', rfl⟩ : ∃ z, g' = z + 1 := ⟨g' - 1, by omega⟩
    have n400 : ¬ (400 : Int32) < Int32.ofNat turn := fun q => by have := (ni_lt (a := 400) (by omega) (by omega)).mp q; omega
    have tl := tx_trL L
    rcases tx_sign (s := 42) h.1 rfl with ⟨x, l', e, e1, e2, e3, e4, c42, m42⟩ | ⟨c42, m42⟩
    · -- times
      subst e
      obtain ⟨hJ, hC, hM, hl⟩ := h
      simp only [List.length_cons] at hl hN
      obtain ⟨τ1, s1, s2, s3⟩ := tx_step (F := F) hF hJ
      have hX1 : tx_X ch c (am_up σ 157 5 (σ 157 5 + 1)) τ1 l' L (s + 1) := ⟨s2, tx_LC5 hC, tx_LMD hM s3, by omega⟩
      obtain ⟨b, σ2, r, τ2, u1, u2, u3, u4, u5⟩ := tx_unit (F := F) hF hX1
      rcases u5 with ⟨rfl, rfl, u6, u7⟩ | ⟨rfl, rfl, l2, E, u6, u7, u8⟩
      · refine ⟨false, σ2, -1, τ2, ?_, ?_, tx_Ft tx_up5 u3, tx_Gt (tx_GD s3) u4, .inl ⟨rfl, rfl, u6, u7⟩⟩
        · rw [C_Reader_product_l11, if_neg n400, c42, Option.bind_some, if_pos rfl, am_let, u1, Option.bind_some, if_neg (by exact Bool.false_ne_true)]
        · rw [M_readProduct_l10, m42, if_pos rfl, M_readProduct_p28, s1, Option.bind_some, m42, if_pos rfl, M_readProduct_p57, if_pos rfl, M_readProduct_p74, u2, Option.bind_some, if_pos rfl]
      · obtain ⟨hJ2, hC2, hM2, hl2⟩ := u6
        obtain ⟨r3, σ3, τ3, a1, a2, a3, a4, a5, a6, a7, a8, a9, a10⟩ := tx_both (F := F) (x := 42) (y := 0) (x' := 4) (y' := 0) hF hJ2 hC2 hM2 (by omega) rfl
        have hX3 : tx_X ch c σ3 τ3 l2 (L ++ (E ++ [(42, 0)])) s := ⟨a3, by rw [← List.append_assoc]; exact a4, by rw [← List.append_assoc]; exact a5, by rw [← List.append_assoc, a6]; omega⟩
        have z := ih s g g' (turn + 1) σ3 τ3 l2 (L ++ (E ++ [(42, 0)])) (by omega) hX3 (by omega) (by omega) (by omega)
        have z' := tx_more (Q' := fun E => ∀ st, st.length < 59 → rl_ty E (false :: st) = some (false :: st)) (d := 0) (l := x :: l') (tx_Ft (tx_Ft tx_up5 u3) a7) (tx_Gt (tx_Gt (tx_GD s3) u4) a8) (by simp only [List.length_cons]; omega) (fun E' q st hs => by
          rw [List.append_assoc, tx_app, u8 (false :: st) (by simp only [List.length_cons]; omega), Option.bind_some, tx_app]
          show ((rl_t1 (42, 0) (false :: false :: st)).bind _).bind _ = _
          simp only [rl_t1, rl_ty]
          exact q st hs) z
        have eA : C_Reader_product_l11 F (g + 1) 157 (Int32.ofNat turn) σ = C_Reader_product_l11 F g 157 (Int32.ofNat (turn + 1)) σ3 := by
          rw [C_Reader_product_l11, if_neg n400, c42, Option.bind_some, if_pos rfl, am_let, u1, Option.bind_some, if_pos rfl]
          show (C_Table_add F 165 42 0 0 0 σ2).bind _ = _
          rw [a1, Option.bind_some, C_Reader_product_p121, am_let, ni_succ]
        have eB : M_readProduct_l10 F (g' + 1) τ = M_readProduct_l10 F g' τ3 := by
          rw [M_readProduct_l10, m42, if_pos rfl, M_readProduct_p28, s1, Option.bind_some, m42, if_pos rfl, M_readProduct_p57, if_pos rfl, M_readProduct_p74, u2, Option.bind_some, if_neg (by exact tx_01), if_pos rfl, M_readProduct_p94, a2, Option.bind_some]
        rw [eA, eB]; exact z'
    rcases tx_sign (s := 47) h.1 rfl with ⟨x, l', e, e1, e2, e3, e4, c47, m47⟩ | ⟨c47, m47⟩
    · -- part
      subst e
      obtain ⟨hJ, hC, hM, hl⟩ := h
      simp only [List.length_cons] at hl hN
      obtain ⟨τ1, s1, s2, s3⟩ := tx_step (F := F) hF hJ
      have hC1 : tx_LC (am_up σ 157 5 (σ 157 5 + 1)) L := tx_LC5 hC
      have hM1 := tx_LMD hM s3
      have eA0 : C_Reader_product_l11 F (g + 1) 157 (Int32.ofNat turn) σ = (C_Reader_takes 157 1 9999 (am_up σ 157 5 (σ 157 5 + 1))).bind (fun q_7 =>
          if q_7.1 = true then (
          (C_Table_add F 165 47 (q_7.2 157 6) 0 0 q_7.2).bind (fun q_9 =>
          C_Reader_product_p121 (C_Reader_product_l11 F g) F 157 (Int32.ofNat turn) q_9.2))
          else (some (false, q_7.2))) := by
        rw [C_Reader_product_l11, if_neg n400, c42, Option.bind_some, if_neg (by decide), c47, Option.bind_some, if_pos rfl, am_let]
      have eB0 : M_readProduct_l10 F (g' + 1) τ = if (τ1 0 17) = 3 then M_readProduct_p57 (M_readProduct_l10 F g') F false τ1 else some ((M_errs 1 τ1).1, (M_errs 1 τ1).2) := by
        rw [M_readProduct_l10, m42, if_neg (by decide), m47, if_pos rfl, M_readProduct_p28, s1, Option.bind_some, m42, if_neg (by decide)]; rfl
      have bad : ∀ k A B, A = (C_Reader_fail 157 k (am_up σ 157 5 (σ 157 5 + 1) 157 5) (am_up σ 157 5 (σ 157 5 + 1))).bind (fun q => some (q.1, q.2)) → B = some ((M_errs k τ1).1, (M_errs k τ1).2) → tx_out ch c (x :: l') L s σ τ A B (fun E => ∀ st, st.length < 59 → rl_ty E (false :: st) = some (false :: st)) 0 := by
        intro k A B a b
        have z := tx_ofail (F := F) (s := s) (d := 0) (Q := fun E => ∀ st : List Bool, st.length < 59 → rl_ty E (false :: st) = some (false :: st)) (L := L ++ []) k s2 (by rw [List.append_nil]; exact hC1) (by rw [List.append_nil]; omega) a b
        exact tx_more (E := []) (d := 0) (l := x :: l') tx_up5 (tx_GD s3) (by simp only [List.length_cons]; omega) (fun E' q => q) z
      rcases tx_takes (F := F) (lo := 1) (hi := 9999) hF s2 with ⟨y, l2, n, f1, f2, f3, f4, f5, f6, f7⟩ | ⟨k, f1, f2⟩
      · subst f1
        simp only [List.length_cons] at hl hN
        have n0 : ¬ Int32.ofNat n = 0 := fun q => by rw [q] at f3; exact absurd f3 (by decide)
        have n2 : ¬ τ1 0 17 = 2 := by rw [f5]; decide
        have j6 := tx_J6 (v := Int32.ofNat n) s2
        obtain ⟨τ2, b1, b2, b3, b4, b5, b6⟩ := tx_emit (x := 0) (y := Int32.ofNat n) hM1 (by omega) s2.1 s2.2.2
        obtain ⟨τ3, d1, d2, d3⟩ := tx_step (F := F) hF (show tx_J ch c (am_up (am_up σ 157 5 (σ 157 5 + 1)) 157 6 (Int32.ofNat n)) τ2 (y :: l2) from ⟨b4, j6.2.1, b5⟩)
        have e5 : am_up (am_up σ 157 5 (σ 157 5 + 1)) 157 6 (Int32.ofNat n) 157 5 = am_up σ 157 5 (σ 157 5 + 1) 157 5 := by simp [am_up]
        rw [e5] at d2
        have hC2 : tx_LC (am_up (am_up (am_up σ 157 5 (σ 157 5 + 1)) 157 6 (Int32.ofNat n)) 157 5 (am_up σ 157 5 (σ 157 5 + 1) 157 5 + 1)) L := tx_LC5 (tx_LC5 hC1)
        have hM3 := tx_LMD b2 d3
        obtain ⟨r3, σ4, a1, a2, a3, a4, a5⟩ := tx_addC (F := F) (x := 47) (y := Int32.ofNat n) hF hC2 (by omega) d2.2.1
        obtain ⟨τ4, g1, g2, g3, g4, g5, g6⟩ := tx_emit (x := 5) (y := 0) hM3 (by rw [List.length_append, List.length_singleton]; omega) d2.1 d2.2.2
        have et : (L ++ [((47 : Int32), Int32.ofNat n)]).flatMap rl_tr = L.flatMap rl_tr ++ [(0, Int32.ofNat n)] ++ [(5, 0)] := by
          rw [List.flatMap_append, List.flatMap_singleton, List.append_assoc]; rfl
        have hX4 : tx_X ch c σ4 τ4 l2 (L ++ [(47, Int32.ofNat n)]) s := ⟨⟨g4, a4, g5⟩, a2, by rw [et]; exact g2, by rw [et]; simp only [List.length_append, List.length_singleton]; omega⟩
        have z := ih s g g' (turn + 1) σ4 τ4 l2 (L ++ [(47, Int32.ofNat n)]) (by omega) hX4 (by omega) (by omega) (by omega)
        have u6 : tx_F (am_up σ 157 5 (σ 157 5 + 1)) (am_up (am_up (am_up σ 157 5 (σ 157 5 + 1)) 157 6 (Int32.ofNat n)) 157 5 (am_up σ 157 5 (σ 157 5 + 1) 157 5 + 1)) := by
          intro a j q; simp only [am_up]; rw [if_neg (by omega), if_neg (by omega)]
        have z' := tx_more (Q' := fun E => ∀ st, st.length < 59 → rl_ty E (false :: st) = some (false :: st)) (d := 0) (l := x :: y :: l2) (tx_Ft (tx_Ft tx_up5 u6) a3) (tx_Gt (tx_Gt (tx_Gt (tx_GD s3) b3) (tx_GD d3)) g3) (by simp only [List.length_cons]; omega) (fun E' q st hs => by
          rw [tx_app]
          show ((rl_t1 (47, Int32.ofNat n) (false :: st)).bind _).bind _ = _
          simp only [rl_t1, rl_ty]
          simp only [n0]
          exact q st hs) z
        have eA : C_Reader_product_l11 F (g + 1) 157 (Int32.ofNat turn) σ = C_Reader_product_l11 F g 157 (Int32.ofNat (turn + 1)) σ4 := by
          rw [eA0, f7, Option.bind_some, if_pos rfl]
          have e6 : am_up (am_up (am_up σ 157 5 (σ 157 5 + 1)) 157 6 (Int32.ofNat n)) 157 5 (am_up σ 157 5 (σ 157 5 + 1) 157 5 + 1) 157 6 = Int32.ofNat n := by simp [am_up]
          show (C_Table_add F 165 47 (am_up (am_up (am_up σ 157 5 (σ 157 5 + 1)) 157 6 (Int32.ofNat n)) 157 5 (am_up σ 157 5 (σ 157 5 + 1) 157 5 + 1) 157 6) 0 0 _).bind _ = _
          rw [e6, a1, Option.bind_some, C_Reader_product_p121, am_let, ni_succ]
        have eB : M_readProduct_l10 F (g' + 1) τ = M_readProduct_l10 F g' τ4 := by
          rw [eB0, if_pos f5, M_readProduct_p57, if_neg (by decide), if_neg (by rw [f6]; exact n0), M_readProduct_p74]
          have eu : M_readUnit F τ1 = some (0, τ3) := by
            rw [M_readUnit, if_neg n2, M_readUnit_p23, M_readUnit_p24, if_neg (by decide), if_pos f5, M_readUnit_p43, if_neg (by decide), M_readUnit_p53, if_neg (by decide), M_readUnit_p71, f6]
            show (M_emits 0 _ τ1).bind _ = _
            rw [b1, Option.bind_some, d1, Option.bind_some]
          rw [eu, Option.bind_some, if_neg (by exact tx_01), if_neg (by decide), M_readProduct_p94, g1, Option.bind_some]
        rw [eA, eB]; exact z'
      · have eA : C_Reader_product_l11 F (g + 1) 157 (Int32.ofNat turn) σ = (C_Reader_fail 157 k (am_up σ 157 5 (σ 157 5 + 1) 157 5) (am_up σ 157 5 (σ 157 5 + 1))).bind (fun q => some (q.1, q.2)) := by
          rw [eA0, f1]
          obtain ⟨σ', w1, _⟩ := tx_fail k s2
          rw [w1]; rfl
        rcases f2 with ⟨rfl, f2⟩ | ⟨rfl, f2, ⟨n, f3, f4⟩, f5⟩
        · exact bad 1 _ _ eA (by rw [eB0, if_neg f2])
        · refine bad 2 _ _ eA ?_
          have n0 : τ1 0 18 = 0 := by
            rw [f4] at f5 ⊢
            have : n = 0 := Decidable.byContradiction (fun q => f5 ⟨(ni_le (a := 1) (by omega) (by omega)).mpr (by omega), (ni_le (b := 9999) (by omega) (by omega)).mpr (by omega)⟩)
            rw [this]; rfl
          rw [eB0, if_pos f2, M_readProduct_p57, if_neg (by decide), if_pos n0]; rfl
    · refine ⟨true, σ, 0, τ, ?_, ?_, tx_F0, tx_G0, .inr ⟨rfl, rfl, l, [], by rw [List.append_nil]; exact h, Nat.le_refl _, fun st _ => rfl⟩⟩
      · rw [C_Reader_product_l11, if_neg n400, c42, Option.bind_some, if_neg (by decide), c47, Option.bind_some, if_neg (by decide)]
      · rw [M_readProduct_l10, m42, if_neg (by decide), m47, if_neg (by decide)]

theorem tx_product {F c s : Nat} {ch : Nat → Int32} {σ τ : am_SS} {l : tx_l} {L : tx_c} (hF : 2000 ≤ F) (h : tx_X ch c σ τ l L s) :
    tx_out ch c l L s σ τ (C_Reader_product F 157 σ) (M_readProduct F τ) (fun E => ∀ st, st.length < 59 → rl_ty E st = some (false :: st)) 1 := by
  obtain ⟨b, σ2, r, τ2, u1, u2, u3, u4, u5⟩ := tx_unit (F := F) hF h
  rcases u5 with ⟨rfl, rfl, u6, u7⟩ | ⟨rfl, rfl, l2, E, u6, u7, u8⟩
  · refine ⟨false, σ2, -1, τ2, ?_, ?_, u3, u4, .inl ⟨rfl, rfl, u6, u7⟩⟩
    · rw [C_Reader_product, u1, Option.bind_some, if_neg (by exact Bool.false_ne_true)]
    · rw [M_readProduct, u2, Option.bind_some, if_pos rfl]
  · have hl := u6.2.2.2
    have tl : l2.length ≤ 400 := by omega
    have z := tx_prod (F := F) (c := c) (ch := ch) hF l2.length s F F 0 σ2 τ2 l2 (L ++ E) (Nat.le_refl _) u6 (by omega) (by omega) (by omega)
    have z' := tx_more (Q' := fun E => ∀ st, st.length < 59 → rl_ty E st = some (false :: st)) (d := 1) (l := l) u3 u4 u7 (fun E' q st hs => by
      rw [tx_app, u8 st (by omega), Option.bind_some]; exact q st hs) z
    have eA : C_Reader_product F 157 σ = C_Reader_product_l11 F F 157 (Int32.ofNat 0) σ2 := by
      rw [C_Reader_product, u1, Option.bind_some, if_pos rfl]; rfl
    have eB : M_readProduct F τ = M_readProduct_l10 F F τ2 := by
      rw [M_readProduct, u2, Option.bind_some, if_neg (by exact tx_01)]
    rw [eA, eB]; exact z'
/-- a sum; wt: what waits -/
def tx_sw (w : Int32) : Prop := w = 43 ∨ w = 45
/-- the class's loop: product, what waits, next sign; the reference's loop stands behind the product -/
theorem tx_sumA {F c : Nat} {ch : Nat → Int32} (hF : 2000 ≤ F) : ∀ (N s g g' turn : Nat) (σ τ : am_SS) (l : tx_l) (L : tx_c), l.length ≤ N → tx_X ch c σ τ l L s → N < g → N < g' → turn + N ≤ 400 →
    tx_out ch c l L s σ τ (C_Reader_sum_p40 (C_Reader_sum_l4 F g) F 157 (Int32.ofNat turn) σ) (M_readSum_l10 F g' τ) (fun E => ∀ st, st.length < 58 → rl_ty E (false :: st) = some (false :: st)) 0 := by
  intro N
  induction N with
  | zero =>
    intro s g g' turn σ τ l L hN h hg hg' ht
    obtain ⟨g', rfl⟩ : ∃ z, g' = z + 1 := ⟨g' - 1, by omega⟩
    have l0 : l = [] := List.eq_nil_of_length_eq_zero (by omega)
    subst l0
    have h42 := (tx_sign (s := 43) h.1 rfl).resolve_left (fun ⟨_, _, e, _⟩ => by cases e)
    have h47 := (tx_sign (s := 45) h.1 rfl).resolve_left (fun ⟨_, _, e, _⟩ => by cases e)
    refine ⟨true, σ, 0, τ, ?_, ?_, tx_F0, tx_G0, .inr ⟨rfl, rfl, [], [], by rw [List.append_nil]; exact h, Nat.le_refl _, fun st _ => rfl⟩⟩
    · rw [C_Reader_sum_p40, h42.1, Option.bind_some, if_neg (by decide), h47.1, Option.bind_some, if_neg (by decide)]
    · rw [M_readSum_l10, h42.2, if_neg (by decide), h47.2, if_neg (by decide)]
  | succ N ih =>
    intro s g g' turn σ τ l L hN h hg hg' ht
    obtain ⟨g, rfl⟩ : ∃ z, g = z + 1 := ⟨g - 1, by omega⟩
    obtain ⟨g', rfl⟩ : ∃ z, g' = z + 1 := ⟨g' - 1, by omega⟩
    have n400 : ¬ (400 : Int32) < Int32.ofNat (turn + 1) := fun q => by have := (ni_lt (a := 400) (by omega) (by omega)).mp q; omega
    have tl := tx_trL L
    -- behind a sign
    have go : ∀ (x : Nat × Int32 × Int32) (l' : tx_l) (w w' : Int32), l = x :: l' → ¬ w = -1 → rl_tr (w, 0) = [(w', 0)] → (∀ st, rl_t1 (w, 0) (false :: false :: st) = some (false :: st)) → C_Reader_sum_p40 (C_Reader_sum_l4 F (g + 1)) F 157 (Int32.ofNat turn) σ = C_Reader_sum_l4 F (g + 1) 157 w (Int32.ofNat (turn + 1)) (am_up σ 157 5 (σ 157 5 + 1)) → M_readSum_l10 F (g' + 1) τ = M_readSum_p42 (M_readSum_l10 F g') F w' τ →
        tx_out ch c l L s σ τ (C_Reader_sum_p40 (C_Reader_sum_l4 F (g + 1)) F 157 (Int32.ofNat turn) σ) (M_readSum_l10 F (g' + 1) τ) (fun E => ∀ st, st.length < 58 → rl_ty E (false :: st) = some (false :: st)) 0 := by
      intro x l' w w' e wn wt wy eA0 eB0
      subst e
      obtain ⟨hJ, hC, hM, hl⟩ := h
      simp only [List.length_cons] at hl hN
      obtain ⟨τ1, s1, s2, s3⟩ := tx_step (F := F) hF hJ
      have hX1 : tx_X ch c (am_up σ 157 5 (σ 157 5 + 1)) τ1 l' L (s + 1) := ⟨s2, tx_LC5 hC, tx_LMD hM s3, by omega⟩
      obtain ⟨b, σ2, r, τ2, u1, u2, u3, u4, u5⟩ := tx_product (F := F) hF hX1
      rcases u5 with ⟨rfl, rfl, u6, u7⟩ | ⟨rfl, rfl, l2, E, u6, u7, u8⟩
      · refine ⟨false, σ2, -1, τ2, ?_, ?_, tx_Ft tx_up5 u3, tx_Gt (tx_GD s3) u4, .inl ⟨rfl, rfl, u6, u7⟩⟩
        · rw [eA0, C_Reader_sum_l4, if_neg n400, u1, Option.bind_some, if_neg (by exact Bool.false_ne_true)]
        · rw [eB0, M_readSum_p42, s1, Option.bind_some, u2, Option.bind_some, if_pos rfl]
      · obtain ⟨hJ2, hC2, hM2, hl2⟩ := u6
        obtain ⟨r3, σ3, τ3, a1, a2, a3, a4, a5, a6, a7, a8, a9, a10⟩ := tx_both (F := F) (x := w) (y := 0) (x' := w') (y' := 0) hF hJ2 hC2 hM2 (by omega) wt
        have hX3 : tx_X ch c σ3 τ3 l2 (L ++ (E ++ [(w, 0)])) s := ⟨a3, by rw [← List.append_assoc]; exact a4, by rw [← List.append_assoc]; exact a5, by rw [← List.append_assoc, a6]; omega⟩
        have z := ih s g g' (turn + 1) σ3 τ3 l2 (L ++ (E ++ [(w, 0)])) (by omega) hX3 (by omega) (by omega) (by omega)
        have z' := tx_more (Q' := fun E => ∀ st, st.length < 58 → rl_ty E (false :: st) = some (false :: st)) (d := 0) (l := x :: l') (tx_Ft (tx_Ft tx_up5 u3) a7) (tx_Gt (tx_Gt (tx_GD s3) u4) a8) (by simp only [List.length_cons]; omega) (fun E' q st hs => by
          rw [List.append_assoc, tx_app, u8 (false :: st) (by simp only [List.length_cons]; omega), Option.bind_some, tx_app, rl_ty, wy]
          exact q st hs) z
        have eA : C_Reader_sum_p40 (C_Reader_sum_l4 F (g + 1)) F 157 (Int32.ofNat turn) σ = C_Reader_sum_p40 (C_Reader_sum_l4 F g) F 157 (Int32.ofNat (turn + 1)) σ3 := by
          rw [eA0, C_Reader_sum_l4, if_neg n400, u1, Option.bind_some, if_pos rfl, if_neg wn]
          show (C_Table_add F 165 w 0 0 0 σ2).bind _ = _
          rw [a1, Option.bind_some]
        have eB : M_readSum_l10 F (g' + 1) τ = M_readSum_l10 F g' τ3 := by
          rw [eB0, M_readSum_p42, s1, Option.bind_some, u2, Option.bind_some, if_neg (by exact tx_01)]
          show (M_emits w' 0 τ2).bind _ = _
          rw [a2, Option.bind_some]
        rw [eA, eB]; exact z'
    rcases tx_sign (s := 43) h.1 rfl with ⟨x, l', e, e1, e2, e3, e4, c42, m42⟩ | ⟨c42, m42⟩
    · refine go x l' 43 2 e (by decide) rfl (fun st => rfl) ?_ ?_
      · rw [C_Reader_sum_p40, c42, Option.bind_some, if_pos rfl, C_Reader_sum_p60, tx_val (e ▸ h.1.2.1), Option.bind_some, am_let, am_let, ni_succ, e2]
      · rw [M_readSum_l10, m42, if_pos rfl, M_readSum_p28, if_pos e4]
    rcases tx_sign (s := 45) h.1 rfl with ⟨x, l', e, e1, e2, e3, e4, c47, m47⟩ | ⟨c47, m47⟩
    · refine go x l' 45 3 e (by decide) rfl (fun st => rfl) ?_ ?_
      · rw [C_Reader_sum_p40, c42, Option.bind_some, if_neg (by decide), c47, Option.bind_some, if_pos rfl, C_Reader_sum_p60, tx_val (e ▸ h.1.2.1), Option.bind_some, am_let, am_let, ni_succ, e2]
      · rw [M_readSum_l10, m42, if_neg (by decide), m47, if_pos rfl, M_readSum_p28, if_neg (by rw [e4]; decide)]
    · refine ⟨true, σ, 0, τ, ?_, ?_, tx_F0, tx_G0, .inr ⟨rfl, rfl, l, [], by rw [List.append_nil]; exact h, Nat.le_refl _, fun st _ => rfl⟩⟩
      · rw [C_Reader_sum_p40, c42, Option.bind_some, if_neg (by decide), c47, Option.bind_some, if_neg (by decide)]
      · rw [M_readSum_l10, m42, if_neg (by decide), m47, if_neg (by decide)]
theorem tx_sum {F c s : Nat} {ch : Nat → Int32} {σ τ : am_SS} {l : tx_l} {L : tx_c} (hF : 2000 ≤ F) (h : tx_X ch c σ τ l L s) :
    tx_out ch c l L s σ τ (C_Reader_sum F 157 σ) (M_readSum F τ) (fun E => ∀ st, st.length < 58 → rl_ty E st = some (false :: st)) 1 := by
  obtain ⟨b, σ2, r, τ2, u1, u2, u3, u4, u5⟩ := tx_product (F := F) hF h
  obtain ⟨k, hk⟩ : ∃ k, F = k + 1 := ⟨F - 1, by omega⟩
  have eA0 : ∀ X, C_Reader_product F 157 σ = some X → C_Reader_sum F 157 σ = (if X.1 = true then C_Reader_sum_p40 (C_Reader_sum_l4 F k) F 157 (Int32.ofNat 0) X.2 else some (false, X.2)) := by
    intro X hX
    rw [C_Reader_sum]
    have : C_Reader_sum_l4 F F 157 (-1) 0 σ = C_Reader_sum_l4 F (k + 1) 157 (-1) 0 σ := by rw [← hk]
    rw [this, C_Reader_sum_l4, if_neg (by decide), hX, Option.bind_some, if_pos rfl]; rfl
  rcases u5 with ⟨rfl, rfl, u6, u7⟩ | ⟨rfl, rfl, l2, E, u6, u7, u8⟩
  · refine ⟨false, σ2, -1, τ2, ?_, ?_, u3, u4, .inl ⟨rfl, rfl, u6, u7⟩⟩
    · rw [eA0 _ u1, if_neg (by exact Bool.false_ne_true)]
    · rw [M_readSum, u2, Option.bind_some, if_pos rfl]
  · have hl := u6.2.2.2
    have tl : l2.length ≤ 400 := by omega
    have z := tx_sumA (F := F) (c := c) (ch := ch) hF l2.length s k F 0 σ2 τ2 l2 (L ++ E) (Nat.le_refl _) u6 (by omega) (by omega) (by omega)
    have z' := tx_more (Q' := fun E => ∀ st, st.length < 58 → rl_ty E st = some (false :: st)) (d := 1) (l := l) u3 u4 u7 (fun E' q st hs => by
      rw [tx_app, u8 st (by omega), Option.bind_some]; exact q st hs) z
    have eB : M_readSum F τ = M_readSum_l10 F F τ2 := by
      rw [M_readSum, u2, Option.bind_some, if_neg (by exact tx_01)]
    rw [eA0 _ u1, if_pos rfl, eB]; exact z'
