/-! L3: an image says the same -/
theorem fs_cg {on bn on' bn' o b o' b' : Int32} {sd sk bs ca sd' sk' bs' ca' s k t c s' k' t' c' : Nat → Int32} (h : rl_FS on bn sd sk bs ca o b s k t c) (e1 : on' = on) (e2 : bn' = bn) (e3 : o' = o) (e4 : b' = b)
    (e5 : ∀ j, j < 12 → sd' j = sd j ∧ sk' j = sk j ∧ bs' j = bs j ∧ ca' j = ca j) (e6 : ∀ j, j < 12 → s' j = s j ∧ k' j = k j ∧ t' j = t j ∧ c' j = c j) : rl_FS on' bn' sd' sk' bs' ca' o' b' s' k' t' c' := by
  obtain ⟨h1, h2, h5⟩ := h
  refine ⟨by rw [e1, h1, e3], by rw [e2, h2, e4], fun j hj => ?_⟩
  obtain ⟨a1, a2, a3, a4⟩ := e5 j hj
  obtain ⟨b1, b2, b3, b4⟩ := h5 j hj
  obtain ⟨c1, c2, c3, c4⟩ := e6 j hj
  exact ⟨by rw [a1, b1, c1], by rw [a2, b2, c2], by rw [a3, b3, c3], by rw [a4, b4, c4]⟩
theorem is_cg {o b o' b' : Int32} {s k t c s' k' t' c' : Nat → Int32} {n m : Nat} (h : rl_IS o b s k t c n m) (e3 : o' = o) (e4 : b' = b) (e6 : ∀ j, j < 12 → s' j = s j ∧ k' j = k j ∧ t' j = t j ∧ c' j = c j) : rl_IS o' b' s' k' t' c' n m := by
  obtain ⟨h1, h2, h3, h4, h5⟩ := h
  refine ⟨h1, h2, e3.trans h3, e4.trans h4, fun j hj => ?_⟩
  obtain ⟨c1, c2, c3, c4⟩ := e6 j hj
  rw [c1, c2, c3, c4]; exact h5 j hj
section
variable {cc mc cc' mc' : Int32} {cells cells' arr arr' : Nat → Int32}
theorem bk_cg (h : rl_BK cc cells mc arr) (e1 : cc' = cc) (e2 : mc' = mc) (e3 : ∀ j, j < 600 → cells' j = cells j) (e4 : ∀ j, j < 600 → arr' j = arr j) : rl_BK cc' cells' mc' arr' := by
  obtain ⟨c, hc, h1, h2, h3⟩ := h
  exact ⟨c, hc, e1.trans h1, e2.trans h2, fun k hk => by rw [e3 k hk, e4 k hk, h3 k hk]⟩
theorem le_cg (h : rl_LE cc cells mc arr) (e1 : cc' = cc) (e2 : mc' = mc) (e3 : ∀ j, j < 12 → cells' j = cells j) (e4 : ∀ j, j < 24 → arr' j = arr j) : rl_LE cc' cells' mc' arr' := by
  obtain ⟨c, hc, h1, h2, h3⟩ := h
  exact ⟨c, hc, e1.trans h1, e2.trans h2, fun k hk => by rw [e3 k hk, e4 k (by omega)]; exact h3 k hk⟩
theorem ky_cg (h : rl_KY cc cells mc arr) (e1 : cc' = cc) (e2 : mc' = mc) (e3 : ∀ j, j < 4 → cells' j = cells j) (e4 : ∀ j, j < 24 → arr' j = arr j) : rl_KY cc' cells' mc' arr' := by
  obtain ⟨c, hc, h1, h2, h3⟩ := h
  exact ⟨c, hc, e1.trans h1, e2.trans h2, fun k hk => by rw [e3 k hk, e4 _ (by omega)]; exact h3 k hk⟩
theorem bi_cg (h : rl_BI cc cells mc arr) (e1 : cc' = cc) (e2 : mc' = mc) (e3 : ∀ j, j < 16 → cells' j = cells j) (e4 : ∀ j, j < 16 → arr' j = arr j) : rl_BI cc' cells' mc' arr' := by
  obtain ⟨c, hc, h1, h2, h3⟩ := h
  exact ⟨c, hc, e1.trans h1, e2.trans h2, fun k hk => by rw [e3 k hk, e4 k hk]; exact h3 k hk⟩
theorem qu_cg (h : rl_QU cc cells mc arr) (e1 : cc' = cc) (e2 : mc' = mc) (e3 : ∀ j, j < 14 → cells' j = cells j) (e4 : ∀ j, j < 7 → arr' j = arr j) : rl_QU cc' cells' mc' arr' := by
  obtain ⟨c, hc, h1, h2, h3⟩ := h
  exact ⟨c, hc, e1.trans h1, e2.trans h2, fun k hk => by rw [e3 _ (by omega), e3 _ (by omega), e4 k hk]; exact h3 k hk⟩
theorem co_cg {ys ys' : Nat → Int32} (h : rl_CO cc cells mc arr ys) (e1 : cc' = cc) (e2 : mc' = mc) (e3 : ∀ j, j < 16 → cells' j = cells j) (e4 : ∀ j, j < 8 → arr' j = arr j) (e5 : ∀ j, j < 8 → ys' j = ys j) : rl_CO cc' cells' mc' arr' ys' := by
  obtain ⟨c, hc, h1, h2, h3⟩ := h
  exact ⟨c, hc, e1.trans h1, e2.trans h2, fun k hk => by rw [e3 _ (by omega), e3 _ (by omega), e4 k hk, e5 k hk]; exact h3 k hk⟩
theorem gu_cg {r w r' w' : Nat → Int32} (h : rl_GU cc cells mc arr r w) (e1 : cc' = cc) (e2 : mc' = mc) (e3 : ∀ j, j < 24 → cells' j = cells j) (e4 : ∀ j, j < 8 → arr' j = arr j) (e5 : ∀ j, j < 8 → r' j = r j) (e6 : ∀ j, j < 8 → w' j = w j) : rl_GU cc' cells' mc' arr' r' w' := by
  obtain ⟨c, hc, h1, h2, h3⟩ := h
  exact ⟨c, hc, e1.trans h1, e2.trans h2, fun k hk => by rw [e3 _ (by omega), e3 _ (by omega), e3 _ (by omega), e4 k hk, e5 k hk, e6 k hk]; exact h3 k hk⟩
theorem or_cg {n m : Nat} (h : rl_OR cc cells mc arr n m) (e1 : cc' = cc) (e2 : mc' = mc) (e3 : ∀ j, j < 64 → cells' j = cells j) (e4 : ∀ j, j < 64 → arr' j = arr j) : rl_OR cc' cells' mc' arr' n m := by
  obtain ⟨c, hc, h1, h2, h3⟩ := h
  refine ⟨c, hc, e1.trans h1, e2.trans h2, fun i hi => ?_⟩
  have g := h3 i hi
  unfold rl_or1 at g ⊢
  rw [e3 _ (by omega), e3 _ (by omega), e3 _ (by omega), e3 _ (by omega), e4 _ (by omega), e4 _ (by omega), e4 _ (by omega), e4 _ (by omega)]
  exact g
theorem last_cg {o : Nat} (e3 : ∀ j, j < 64 → cells' j = cells j) : ∀ c, c ≤ 16 → rl_last cells' o c = rl_last cells o c := by
  intro c
  induction c with
  | zero => intro _; rfl
  | succ c ih => intro hc; rw [rl_last, rl_last, e3 _ (by omega), e3 _ (by omega), ih (by omega)]
theorem all_cg {o : Nat} (e3 : ∀ j, j < 64 → cells' j = cells j) : ∀ c, c ≤ 16 → rl_all cells' o c = rl_all cells o c := by
  intro c
  induction c with
  | zero => intro _; rfl
  | succ c ih => intro hc; rw [rl_all, rl_all, e3 _ (by omega), e3 _ (by omega), ih (by omega)]
theorem sv_cg {m : Nat} (h : rl_SV cc cells mc arr m) (e1 : cc' = cc) (e2 : mc' = mc) (e3 : ∀ j, j < 64 → cells' j = cells j) (e4 : ∀ j, j < 12 → arr' j = arr j) : rl_SV cc' cells' mc' arr' m := by
  obtain ⟨c, hc, h1, h2, h3⟩ := h
  exact ⟨c, hc, e1.trans h1, e2.trans h2, fun o ho => by rw [last_cg e3 c hc, e4 o ho]; exact h3 o ho⟩
theorem nd_cg {n : Nat} (h : rl_ND cc cells mc arr n) (e1 : cc' = cc) (e2 : mc' = mc) (e3 : ∀ j, j < 64 → cells' j = cells j) (e4 : ∀ j, j < 12 → arr' j = arr j) : rl_ND cc' cells' mc' arr' n := by
  obtain ⟨c, hc, h1, h2, h3, h4⟩ := h
  exact ⟨c, hc, e1.trans h1, e2.trans h2, fun o ho => by rw [all_cg e3 c hc, e4 o ho]; exact h3 o ho, fun i hi => by rw [e3 _ (by omega)]; exact h4 i hi⟩
end
theorem lw_cg {ln cn mc ln' cn' mc' : Int32} {lc cc w fr wh to op ar lc' cc' w' fr' wh' to' op' ar' : Nat → Int32} (h : rl_LW ln lc cn cc mc w fr wh to op ar) (e1 : ln' = ln) (e2 : cn' = cn) (e3 : mc' = mc)
    (g1 : ∀ j, j < 64 → lc' j = lc j) (g2 : ∀ j, j < 800 → cc' j = cc j) (g3 : ∀ j, j < 16 → w' j = w j) (g4 : ∀ j, j < 16 → fr' j = fr j) (g5 : ∀ j, j < 16 → wh' j = wh j) (g6 : ∀ j, j < 16 → to' j = to j)
    (g7 : ∀ j, j < 400 → op' j = op j) (g8 : ∀ j, j < 400 → ar' j = ar j) : rl_LW ln' lc' cn' cc' mc' w' fr' wh' to' op' ar' := by
  obtain ⟨c, k, hc, hk, h1, h2, h3, h4⟩ := h
  refine ⟨c, k, hc, hk, e1.trans h1, e3.trans h2, e2.trans h3, fun i hi => ?_⟩
  obtain ⟨s, s', E, B, a1, a2, a3, a4, a5, a6, a7, a8, a9, a10, a11, a12, a13, a14, a15, a16⟩ := h4 i hi
  refine ⟨s, s', E, B, a1, a2, a3, a4, ?_, ?_, ?_, ?_, ?_, ?_, ?_, ?_, ?_, ?_, ?_, ?_⟩
  · rw [g3 i (by omega)]; exact a5
  · rw [g1 _ (by omega), g3 i (by omega)]; exact a6
  · rw [g1 _ (by omega)]; exact a7
  · rw [g1 _ (by omega)]; exact a8
  · rw [g1 _ (by omega)]; exact a9
  · rw [g4 i (by omega)]; exact a10
  · rw [g5 i (by omega)]; exact a11
  · rw [g6 i (by omega)]; exact a12
  · intro j hj; rw [g2 _ (by omega), g2 _ (by omega)]; exact a13 j hj
  · intro j hj; rw [g2 _ (by omega), g2 _ (by omega)]; exact a14 j hj
  · intro j hj; rw [g7 _ (by omega), g8 _ (by omega)]; exact a15 j hj
  · intro j hj; rw [g7 _ (by omega), g8 _ (by omega)]; exact a16 j hj
/-- two references that say the same of all that an image holds -/
def im_A (τ' τ : am_SS) : Prop :=
  (∀ k, k < 77 → τ' 1 k = τ 1 k) ∧ (τ' 0 6 = τ 0 6 ∧ τ' 0 7 = τ 0 7 ∧ τ' 0 36 = τ 0 36 ∧ τ' 0 38 = τ 0 38 ∧ τ' 0 40 = τ 0 40 ∧ τ' 0 44 = τ 0 44 ∧ τ' 0 53 = τ 0 53 ∧ τ' 0 56 = τ 0 56 ∧ τ' 0 59 = τ 0 59) ∧
  (τ' 30 0 = τ 30 0 ∧ τ' 30 1 = τ 30 1) ∧ (∀ k, k < 12 → τ' 4 k = τ 4 k ∧ τ' 5 k = τ 5 k ∧ τ' 6 k = τ 6 k ∧ τ' 7 k = τ 7 k) ∧ (∀ k, k < 12 → τ' 20 k = τ 20 k) ∧ (∀ k, k < 12 → τ' 21 k = τ 21 k) ∧
  (∀ k, k < 64 → τ' 19 k = τ 19 k) ∧ (∀ k, k < 8 → τ' 24 k = τ 24 k) ∧ (∀ k, k < 8 → τ' 25 k = τ 25 k) ∧ (∀ k, k < 8 → τ' 26 k = τ 26 k) ∧ (∀ k, k < 8 → τ' 36 k = τ 36 k) ∧ (∀ k, k < 8 → τ' 37 k = τ 37 k) ∧
  (∀ k, k < 24 → τ' 31 k = τ 31 k) ∧ (∀ k, k < 16 → τ' 32 k = τ 32 k) ∧ (∀ k, k < 7 → τ' 34 k = τ 34 k) ∧ (∀ k, k < 600 → τ' 8 k = τ 8 k) ∧ τ' 11 0 = τ 11 0 ∧
  (∀ k, k < 16 → τ' 12 k = τ 12 k) ∧ (∀ k, k < 16 → τ' 13 k = τ 13 k) ∧ (∀ k, k < 16 → τ' 14 k = τ 14 k) ∧ (∀ k, k < 16 → τ' 15 k = τ 15 k) ∧ (∀ k, k < 400 → τ' 16 k = τ 16 k) ∧ (∀ k, k < 400 → τ' 17 k = τ 17 k)
theorem im_A_all {τ' τ : am_SS} (h : ∀ t, t < 1776 → τ' (im_ps t).1 (im_ps t).2 = τ (im_ps t).1 (im_ps t).2) : im_A τ' τ := by
  have g : ∀ t c k, t < 1776 → im_ps t = (c, k) → τ' c k = τ c k := fun t c k ht e => by have := h t ht; rw [e] at this; exact this
  refine ⟨fun k hk => g k 1 k (by omega) (ps_now hk), ⟨g 77 _ _ (by omega) (by decide +kernel), g 78 _ _ (by omega) (by decide +kernel), g 79 _ _ (by omega) (by decide +kernel), g 80 _ _ (by omega) (by decide +kernel), g 81 _ _ (by omega) (by decide +kernel), g 82 _ _ (by omega) (by decide +kernel), g 85 _ _ (by omega) (by decide +kernel), g 86 _ _ (by omega) (by decide +kernel), g 87 _ _ (by omega) (by decide +kernel)⟩,
    ⟨g 83 _ _ (by omega) (by decide +kernel), g 84 _ _ (by omega) (by decide +kernel)⟩,
    fun k hk => ⟨g _ 4 k (by omega) (ps_of (c := 0) hk (by omega)), g _ 5 k (by omega) (ps_of (c := 1) hk (by omega)), g _ 6 k (by omega) (ps_of (c := 2) hk (by omega)), g _ 7 k (by omega) (ps_of (c := 3) hk (by omega))⟩,
    fun k hk => g _ 20 k (by omega) (ps_of (c := 4) hk (by omega)), fun k hk => g _ 21 k (by omega) (ps_of (c := 5) hk (by omega)), fun k hk => g _ 19 k (by omega) (ps_or hk),
    fun k hk => g _ 24 k (by omega) (ps_gu (c := 0) hk (by omega)), fun k hk => g _ 25 k (by omega) (ps_gu (c := 1) hk (by omega)), fun k hk => g _ 26 k (by omega) (ps_gu (c := 2) hk (by omega)), fun k hk => g _ 36 k (by omega) (ps_gu (c := 3) hk (by omega)), fun k hk => g _ 37 k (by omega) (ps_gu (c := 4) hk (by omega)),
    fun k hk => g _ 31 k (by omega) (ps_le hk), fun k hk => g _ 32 k (by omega) (ps_bi hk), fun k hk => g _ 34 k (by omega) (ps_qu hk), fun k hk => g _ 8 k (by omega) (ps_bk hk), g 911 _ _ (by omega) (by decide +kernel),
    fun k hk => g _ 12 k (by omega) (ps_li (c := 0) hk (by omega)), fun k hk => g _ 13 k (by omega) (ps_li (c := 1) hk (by omega)), fun k hk => g _ 14 k (by omega) (ps_li (c := 2) hk (by omega)), fun k hk => g _ 15 k (by omega) (ps_li (c := 3) hk (by omega)),
    fun k hk => g _ 16 k (by omega) (ps_co (c := 0) hk (by omega)), fun k hk => g _ 17 k (by omega) (ps_co (c := 1) hk (by omega))⟩
theorem im_taken {im : Nat → Int32} {τ : am_SS} (h : ∀ t, t < 1776 → im t = τ (im_ps t).1 (im_ps t).2) : im_A (rl_im im) τ := by
  have g : ∀ t c k, t < 1776 → im_ps t = (c, k) → im t = τ c k := fun t c k ht e => by have := h t ht; rw [e] at this; exact this
  exact ⟨fun k hk => ((show rl_im im 1 k = im (k) from rfl).trans (g (k) 1 k (by omega) ((congrArg im_ps (by omega)).trans (ps_now hk)))),
    ⟨((show rl_im im 0 6 = im (77) from rfl).trans (g (77) 0 6 (by omega) (by decide +kernel))), ((show rl_im im 0 7 = im (78) from rfl).trans (g (78) 0 7 (by omega) (by decide +kernel))), ((show rl_im im 0 36 = im (79) from rfl).trans (g (79) 0 36 (by omega) (by decide +kernel))), ((show rl_im im 0 38 = im (80) from rfl).trans (g (80) 0 38 (by omega) (by decide +kernel))), ((show rl_im im 0 40 = im (81) from rfl).trans (g (81) 0 40 (by omega) (by decide +kernel))), ((show rl_im im 0 44 = im (82) from rfl).trans (g (82) 0 44 (by omega) (by decide +kernel))), ((show rl_im im 0 53 = im (85) from rfl).trans (g (85) 0 53 (by omega) (by decide +kernel))), ((show rl_im im 0 56 = im (86) from rfl).trans (g (86) 0 56 (by omega) (by decide +kernel))), ((show rl_im im 0 59 = im (87) from rfl).trans (g (87) 0 59 (by omega) (by decide +kernel)))⟩,
    ⟨((show rl_im im 30 0 = im (83) from rfl).trans (g (83) 30 0 (by omega) (by decide +kernel))), ((show rl_im im 30 1 = im (84) from rfl).trans (g (84) 30 1 (by omega) (by decide +kernel)))⟩,
    fun k hk => ⟨((show rl_im im 4 k = im (88 + 6 * k) from rfl).trans (g (88 + 6 * k) 4 k (by omega) ((congrArg im_ps (by omega)).trans (ps_of (c := 0) hk (by omega))))), ((show rl_im im 5 k = im (89 + 6 * k) from rfl).trans (g (89 + 6 * k) 5 k (by omega) ((congrArg im_ps (by omega)).trans (ps_of (c := 1) hk (by omega))))), ((show rl_im im 6 k = im (90 + 6 * k) from rfl).trans (g (90 + 6 * k) 6 k (by omega) ((congrArg im_ps (by omega)).trans (ps_of (c := 2) hk (by omega))))), ((show rl_im im 7 k = im (91 + 6 * k) from rfl).trans (g (91 + 6 * k) 7 k (by omega) ((congrArg im_ps (by omega)).trans (ps_of (c := 3) hk (by omega)))))⟩,
    fun k hk => ((show rl_im im 20 k = im (92 + 6 * k) from rfl).trans (g (92 + 6 * k) 20 k (by omega) ((congrArg im_ps (by omega)).trans (ps_of (c := 4) hk (by omega))))),
    fun k hk => ((show rl_im im 21 k = im (93 + 6 * k) from rfl).trans (g (93 + 6 * k) 21 k (by omega) ((congrArg im_ps (by omega)).trans (ps_of (c := 5) hk (by omega))))),
    fun k hk => ((show rl_im im 19 k = im (160 + k) from rfl).trans (g (160 + k) 19 k (by omega) ((congrArg im_ps (by omega)).trans (ps_or hk)))),
    fun k hk => ((show rl_im im 24 k = im (224 + 5 * k) from rfl).trans (g (224 + 5 * k) 24 k (by omega) ((congrArg im_ps (by omega)).trans (ps_gu (c := 0) hk (by omega))))),
    fun k hk => ((show rl_im im 25 k = im (225 + 5 * k) from rfl).trans (g (225 + 5 * k) 25 k (by omega) ((congrArg im_ps (by omega)).trans (ps_gu (c := 1) hk (by omega))))),
    fun k hk => ((show rl_im im 26 k = im (226 + 5 * k) from rfl).trans (g (226 + 5 * k) 26 k (by omega) ((congrArg im_ps (by omega)).trans (ps_gu (c := 2) hk (by omega))))),
    fun k hk => ((show rl_im im 36 k = im (227 + 5 * k) from rfl).trans (g (227 + 5 * k) 36 k (by omega) ((congrArg im_ps (by omega)).trans (ps_gu (c := 3) hk (by omega))))),
    fun k hk => ((show rl_im im 37 k = im (228 + 5 * k) from rfl).trans (g (228 + 5 * k) 37 k (by omega) ((congrArg im_ps (by omega)).trans (ps_gu (c := 4) hk (by omega))))),
    fun k hk => ((show rl_im im 31 k = im (264 + k) from rfl).trans (g (264 + k) 31 k (by omega) ((congrArg im_ps (by omega)).trans (ps_le hk)))),
    fun k hk => ((show rl_im im 32 k = im (288 + k) from rfl).trans (g (288 + k) 32 k (by omega) ((congrArg im_ps (by omega)).trans (ps_bi hk)))),
    fun k hk => ((show rl_im im 34 k = im (304 + k) from rfl).trans (g (304 + k) 34 k (by omega) ((congrArg im_ps (by omega)).trans (ps_qu hk)))),
    fun k hk => ((show rl_im im 8 k = im (311 + k) from rfl).trans (g (311 + k) 8 k (by omega) ((congrArg im_ps (by omega)).trans (ps_bk hk)))),
    ((show rl_im im 11 0 = im (911) from rfl).trans (g (911) 11 0 (by omega) (by decide +kernel))),
    fun k hk => ((show rl_im im 12 k = im (912 + 4 * k) from rfl).trans (g (912 + 4 * k) 12 k (by omega) ((congrArg im_ps (by omega)).trans (ps_li (c := 0) hk (by omega))))),
    fun k hk => ((show rl_im im 13 k = im (913 + 4 * k) from rfl).trans (g (913 + 4 * k) 13 k (by omega) ((congrArg im_ps (by omega)).trans (ps_li (c := 1) hk (by omega))))),
    fun k hk => ((show rl_im im 14 k = im (914 + 4 * k) from rfl).trans (g (914 + 4 * k) 14 k (by omega) ((congrArg im_ps (by omega)).trans (ps_li (c := 2) hk (by omega))))),
    fun k hk => ((show rl_im im 15 k = im (915 + 4 * k) from rfl).trans (g (915 + 4 * k) 15 k (by omega) ((congrArg im_ps (by omega)).trans (ps_li (c := 3) hk (by omega))))),
    fun k hk => ((show rl_im im 16 k = im (976 + 2 * k) from rfl).trans (g (976 + 2 * k) 16 k (by omega) ((congrArg im_ps (by omega)).trans (ps_co (c := 0) hk (by omega))))),
    fun k hk => ((show rl_im im 17 k = im (977 + 2 * k) from rfl).trans (g (977 + 2 * k) 17 k (by omega) ((congrArg im_ps (by omega)).trans (ps_co (c := 1) hk (by omega)))))⟩
theorem im_back {im : Nat → Int32} {τ : am_SS} (h : ∀ t, t < 1776 → τ (im_ps t).1 (im_ps t).2 = im t) : im_A τ (rl_im im) := by
  have g : ∀ t c k, t < 1776 → im_ps t = (c, k) → im t = τ c k := fun t c k ht e => by have := h t ht; rw [e] at this; exact this.symm
  exact ⟨fun k hk => ((show rl_im im 1 k = im (k) from rfl).trans (g (k) 1 k (by omega) ((congrArg im_ps (by omega)).trans (ps_now hk)))).symm,
    ⟨((show rl_im im 0 6 = im (77) from rfl).trans (g (77) 0 6 (by omega) (by decide +kernel))).symm, ((show rl_im im 0 7 = im (78) from rfl).trans (g (78) 0 7 (by omega) (by decide +kernel))).symm, ((show rl_im im 0 36 = im (79) from rfl).trans (g (79) 0 36 (by omega) (by decide +kernel))).symm, ((show rl_im im 0 38 = im (80) from rfl).trans (g (80) 0 38 (by omega) (by decide +kernel))).symm, ((show rl_im im 0 40 = im (81) from rfl).trans (g (81) 0 40 (by omega) (by decide +kernel))).symm, ((show rl_im im 0 44 = im (82) from rfl).trans (g (82) 0 44 (by omega) (by decide +kernel))).symm, ((show rl_im im 0 53 = im (85) from rfl).trans (g (85) 0 53 (by omega) (by decide +kernel))).symm, ((show rl_im im 0 56 = im (86) from rfl).trans (g (86) 0 56 (by omega) (by decide +kernel))).symm, ((show rl_im im 0 59 = im (87) from rfl).trans (g (87) 0 59 (by omega) (by decide +kernel))).symm⟩,
    ⟨((show rl_im im 30 0 = im (83) from rfl).trans (g (83) 30 0 (by omega) (by decide +kernel))).symm, ((show rl_im im 30 1 = im (84) from rfl).trans (g (84) 30 1 (by omega) (by decide +kernel))).symm⟩,
    fun k hk => ⟨((show rl_im im 4 k = im (88 + 6 * k) from rfl).trans (g (88 + 6 * k) 4 k (by omega) ((congrArg im_ps (by omega)).trans (ps_of (c := 0) hk (by omega))))).symm, ((show rl_im im 5 k = im (89 + 6 * k) from rfl).trans (g (89 + 6 * k) 5 k (by omega) ((congrArg im_ps (by omega)).trans (ps_of (c := 1) hk (by omega))))).symm, ((show rl_im im 6 k = im (90 + 6 * k) from rfl).trans (g (90 + 6 * k) 6 k (by omega) ((congrArg im_ps (by omega)).trans (ps_of (c := 2) hk (by omega))))).symm, ((show rl_im im 7 k = im (91 + 6 * k) from rfl).trans (g (91 + 6 * k) 7 k (by omega) ((congrArg im_ps (by omega)).trans (ps_of (c := 3) hk (by omega))))).symm⟩,
    fun k hk => ((show rl_im im 20 k = im (92 + 6 * k) from rfl).trans (g (92 + 6 * k) 20 k (by omega) ((congrArg im_ps (by omega)).trans (ps_of (c := 4) hk (by omega))))).symm,
    fun k hk => ((show rl_im im 21 k = im (93 + 6 * k) from rfl).trans (g (93 + 6 * k) 21 k (by omega) ((congrArg im_ps (by omega)).trans (ps_of (c := 5) hk (by omega))))).symm,
    fun k hk => ((show rl_im im 19 k = im (160 + k) from rfl).trans (g (160 + k) 19 k (by omega) ((congrArg im_ps (by omega)).trans (ps_or hk)))).symm,
    fun k hk => ((show rl_im im 24 k = im (224 + 5 * k) from rfl).trans (g (224 + 5 * k) 24 k (by omega) ((congrArg im_ps (by omega)).trans (ps_gu (c := 0) hk (by omega))))).symm,
    fun k hk => ((show rl_im im 25 k = im (225 + 5 * k) from rfl).trans (g (225 + 5 * k) 25 k (by omega) ((congrArg im_ps (by omega)).trans (ps_gu (c := 1) hk (by omega))))).symm,
    fun k hk => ((show rl_im im 26 k = im (226 + 5 * k) from rfl).trans (g (226 + 5 * k) 26 k (by omega) ((congrArg im_ps (by omega)).trans (ps_gu (c := 2) hk (by omega))))).symm,
    fun k hk => ((show rl_im im 36 k = im (227 + 5 * k) from rfl).trans (g (227 + 5 * k) 36 k (by omega) ((congrArg im_ps (by omega)).trans (ps_gu (c := 3) hk (by omega))))).symm,
    fun k hk => ((show rl_im im 37 k = im (228 + 5 * k) from rfl).trans (g (228 + 5 * k) 37 k (by omega) ((congrArg im_ps (by omega)).trans (ps_gu (c := 4) hk (by omega))))).symm,
    fun k hk => ((show rl_im im 31 k = im (264 + k) from rfl).trans (g (264 + k) 31 k (by omega) ((congrArg im_ps (by omega)).trans (ps_le hk)))).symm,
    fun k hk => ((show rl_im im 32 k = im (288 + k) from rfl).trans (g (288 + k) 32 k (by omega) ((congrArg im_ps (by omega)).trans (ps_bi hk)))).symm,
    fun k hk => ((show rl_im im 34 k = im (304 + k) from rfl).trans (g (304 + k) 34 k (by omega) ((congrArg im_ps (by omega)).trans (ps_qu hk)))).symm,
    fun k hk => ((show rl_im im 8 k = im (311 + k) from rfl).trans (g (311 + k) 8 k (by omega) ((congrArg im_ps (by omega)).trans (ps_bk hk)))).symm,
    ((show rl_im im 11 0 = im (911) from rfl).trans (g (911) 11 0 (by omega) (by decide +kernel))).symm,
    fun k hk => ((show rl_im im 12 k = im (912 + 4 * k) from rfl).trans (g (912 + 4 * k) 12 k (by omega) ((congrArg im_ps (by omega)).trans (ps_li (c := 0) hk (by omega))))).symm,
    fun k hk => ((show rl_im im 13 k = im (913 + 4 * k) from rfl).trans (g (913 + 4 * k) 13 k (by omega) ((congrArg im_ps (by omega)).trans (ps_li (c := 1) hk (by omega))))).symm,
    fun k hk => ((show rl_im im 14 k = im (914 + 4 * k) from rfl).trans (g (914 + 4 * k) 14 k (by omega) ((congrArg im_ps (by omega)).trans (ps_li (c := 2) hk (by omega))))).symm,
    fun k hk => ((show rl_im im 15 k = im (915 + 4 * k) from rfl).trans (g (915 + 4 * k) 15 k (by omega) ((congrArg im_ps (by omega)).trans (ps_li (c := 3) hk (by omega))))).symm,
    fun k hk => ((show rl_im im 16 k = im (976 + 2 * k) from rfl).trans (g (976 + 2 * k) 16 k (by omega) ((congrArg im_ps (by omega)).trans (ps_co (c := 0) hk (by omega))))).symm,
    fun k hk => ((show rl_im im 17 k = im (977 + 2 * k) from rfl).trans (g (977 + 2 * k) 17 k (by omega) ((congrArg im_ps (by omega)).trans (ps_co (c := 1) hk (by omega))))).symm⟩
theorem rl_Wc_39 {F : Nat} {σ τ τ' : am_SS} (hF : 2000 ≤ F) (h : rl_W σ 1 τ) (hA : im_A τ' τ) : ∃ σ', C_War_copyFrom F 39 1 σ = some σ' ∧ (∀ c, c ≤ 39 ∨ 76 < c → σ' c = σ c) ∧
    (σ' 51 0 = σ 51 0 ∧ σ' 54 0 = σ 54 0 ∧ σ' 56 0 = σ 56 0 ∧ σ' 59 0 = σ 59 0 ∧ σ' 61 0 = σ 61 0 ∧ σ' 63 0 = σ 63 0 ∧ σ' 65 0 = σ 65 0 ∧ σ' 67 0 = σ 67 0 ∧ σ' 69 0 = σ 69 0 ∧ σ' 71 0 = σ 71 0 ∧ σ' 73 0 = σ 73 0 ∧ σ' 75 0 = σ 75 0) ∧ rl_W σ' 39 τ' := by
  obtain ⟨n, m, hFR, hFS, hIR, hIS, hBK, hGU, hLE, hKY, hBI, hQU, hCO, hOR, hSV, hND, hLW⟩ := h
  obtain ⟨g1, ⟨g06, g07, g36, g38, g40, g44, g53, g56, g59⟩, ⟨g30, g31⟩, g4, g20, g21, g19, g24, g25, g26, gx36, gx37, gx31, gx32, gx34, g8, g11, g12, g13, g14, g15, g16, g17⟩ := hA
  obtain ⟨σ', e, fr, ⟨z0, z8, z12, z13, z14, z15⟩, y4, ⟨a12, b12, c12⟩, ⟨a15, b15, c15⟩, ⟨a17, b17, c17⟩, ⟨a20, b20, c20⟩, ⟨a22, b22, c22⟩, ⟨a24, b24, c24⟩, ⟨a26, b26, c26⟩, ⟨a28, b28, c28⟩, ⟨a30, b30, c30⟩, ⟨a32, b32, c32⟩, ⟨a34, b34, c34⟩, ⟨a36, b36, c36⟩⟩ := wc_39 (F := F) (σ := σ) hF
  have q := fun i (hi : i < 12) k h1 h2 => y4 k h1 h2 i hi
  refine ⟨σ', e, fr, ⟨b12, b15, b17, b20, b22, b24, b26, b28, b30, b32, b34, b36⟩, n, m, ?_, ?_, ?_, ?_, ?_, ?_, ?_, ?_, ?_, ?_, ?_, ?_, ?_, ?_, ?_⟩
  · exact fr_same hFR z12 z13 z14 z15 (fun i hi => ⟨q i hi 3 (by omega) (by omega), q i hi 4 (by omega) (by omega), q i hi 5 (by omega) (by omega), q i hi 6 (by omega) (by omega), q i hi 7 (by omega) (by omega), q i hi 10 (by omega) (by omega)⟩) g1
  · exact fs_cg hFS z0 z8 g06 g07 (fun i hi => ⟨q i hi 1 (by omega) (by omega), q i hi 2 (by omega) (by omega), q i hi 8 (by omega) (by omega), q i hi 9 (by omega) (by omega)⟩) (fun j hj => g4 j hj)
  · exact ir_same hIR g1
  · exact is_cg hIS g06 g07 (fun j hj => g4 j hj)
  · exact bk_cg hBK a12 (g1 2 (by omega)) c12 g8
  · exact gu_cg hGU a26 g44 c26 g24 g25 g26
  · exact le_cg hLE a28 g30 c28 gx31
  · exact ky_cg hKY a30 g31 c30 gx31
  · exact bi_cg hBI a32 g53 c32 gx32
  · exact qu_cg hQU a34 g56 c34 gx34
  · exact co_cg hCO a36 g59 c36 gx36 gx37
  · exact or_cg hOR a20 g36 c20 g19
  · exact sv_cg hSV a22 g38 c22 g20
  · exact nd_cg hND a24 g40 c24 g21
  · exact lw_cg hLW a15 a17 g11 c15 c17 g12 g13 g14 g15 g16 g17
theorem rl_Wc_1 {F : Nat} {σ τ τ' : am_SS} (hF : 2000 ≤ F) (h : rl_W σ 39 τ) (hA : im_A τ' τ) : ∃ σ', C_War_copyFrom F 1 39 σ = some σ' ∧ (∀ c, c ≤ 1 ∨ 38 < c → σ' c = σ c) ∧
    (σ' 13 0 = σ 13 0 ∧ σ' 16 0 = σ 16 0 ∧ σ' 18 0 = σ 18 0 ∧ σ' 21 0 = σ 21 0 ∧ σ' 23 0 = σ 23 0 ∧ σ' 25 0 = σ 25 0 ∧ σ' 27 0 = σ 27 0 ∧ σ' 29 0 = σ 29 0 ∧ σ' 31 0 = σ 31 0 ∧ σ' 33 0 = σ 33 0 ∧ σ' 35 0 = σ 35 0 ∧ σ' 37 0 = σ 37 0) ∧ rl_W σ' 1 τ' := by
  obtain ⟨n, m, hFR, hFS, hIR, hIS, hBK, hGU, hLE, hKY, hBI, hQU, hCO, hOR, hSV, hND, hLW⟩ := h
  obtain ⟨g1, ⟨g06, g07, g36, g38, g40, g44, g53, g56, g59⟩, ⟨g30, g31⟩, g4, g20, g21, g19, g24, g25, g26, gx36, gx37, gx31, gx32, gx34, g8, g11, g12, g13, g14, g15, g16, g17⟩ := hA
  obtain ⟨σ', e, fr, ⟨z0, z8, z12, z13, z14, z15⟩, y4, ⟨a12, b12, c12⟩, ⟨a15, b15, c15⟩, ⟨a17, b17, c17⟩, ⟨a20, b20, c20⟩, ⟨a22, b22, c22⟩, ⟨a24, b24, c24⟩, ⟨a26, b26, c26⟩, ⟨a28, b28, c28⟩, ⟨a30, b30, c30⟩, ⟨a32, b32, c32⟩, ⟨a34, b34, c34⟩, ⟨a36, b36, c36⟩⟩ := wc_1 (F := F) (σ := σ) hF
  have q := fun i (hi : i < 12) k h1 h2 => y4 k h1 h2 i hi
  refine ⟨σ', e, fr, ⟨b12, b15, b17, b20, b22, b24, b26, b28, b30, b32, b34, b36⟩, n, m, ?_, ?_, ?_, ?_, ?_, ?_, ?_, ?_, ?_, ?_, ?_, ?_, ?_, ?_, ?_⟩
  · exact fr_same hFR z12 z13 z14 z15 (fun i hi => ⟨q i hi 3 (by omega) (by omega), q i hi 4 (by omega) (by omega), q i hi 5 (by omega) (by omega), q i hi 6 (by omega) (by omega), q i hi 7 (by omega) (by omega), q i hi 10 (by omega) (by omega)⟩) g1
  · exact fs_cg hFS z0 z8 g06 g07 (fun i hi => ⟨q i hi 1 (by omega) (by omega), q i hi 2 (by omega) (by omega), q i hi 8 (by omega) (by omega), q i hi 9 (by omega) (by omega)⟩) (fun j hj => g4 j hj)
  · exact ir_same hIR g1
  · exact is_cg hIS g06 g07 (fun j hj => g4 j hj)
  · exact bk_cg hBK a12 (g1 2 (by omega)) c12 g8
  · exact gu_cg hGU a26 g44 c26 g24 g25 g26
  · exact le_cg hLE a28 g30 c28 gx31
  · exact ky_cg hKY a30 g31 c30 gx31
  · exact bi_cg hBI a32 g53 c32 gx32
  · exact qu_cg hQU a34 g56 c34 gx34
  · exact co_cg hCO a36 g59 c36 gx36 gx37
  · exact or_cg hOR a20 g36 c20 g19
  · exact sv_cg hSV a22 g38 c22 g20
  · exact nd_cg hND a24 g40 c24 g21
  · exact lw_cg hLW a15 a17 g11 c15 c17 g12 g13 g14 g15 g16 g17
theorem ps_far : ∀ t, t < 1776 → (im_ps t).1 ≠ 9 ∧ (im_ps t).1 ≠ 10 ∧ (im_ps t).1 ≠ 2 ∧ im_ps t ≠ (0, 3) ∧ im_ps t ≠ (0, 5) ∧ im_ps t ≠ (0, 14) ∧ im_ps t ≠ (0, 34) ∧ im_ps t ≠ (0, 35) ∧ im_ps t ≠ (0, 64) := by decide +kernel
theorem ca_37 (F : Nat) (hF : 2000 ≤ F) : aj_S37 F rl_R := by
  intro x σ τ h
  have h := rl_told h 0
  simp only [C_image, M_image, am_let]
  generalize am_up τ 0 0 0 = τ at h ⊢
  have h' := h
  obtain ⟨hK, hN, hPS, hTP, hFT, hIM⟩ := h'
  cases x with
  | true =>
    rw [if_pos rfl, if_pos rfl]
    obtain ⟨τ', m1, m2, m3, m4, -⟩ := im_M (b := true) (F := F) (τ := τ) hF
    obtain ⟨f1, f2⟩ := m4 rfl
    have ag : ∀ c k, c ≠ 39 → ¬ (c = 0 ∧ (k = 63 ∨ k = 64 ∨ k = 65)) → τ' c k = τ c k := fun c k a b => by
      rw [f1 c k a (fun g => b ⟨g.1, .inr (.inr g.2)⟩), am_up_ap, if_neg (fun g => b ⟨g.1, .inr (.inr g.2)⟩), am_up_ap, if_neg (fun g => b ⟨g.1, .inr (.inl g.2)⟩), am_up_ap, if_neg (fun g => b ⟨g.1, .inl g.2⟩)]
    have ag' : ∀ c, c ≠ 39 → c ≠ 0 → τ' c = τ c := fun c a b => by funext k; exact ag c k a (fun g => b g.1)
    have im : ∀ t, t < 1776 → τ' 39 t = τ (im_ps t).1 (im_ps t).2 := fun t ht => by
      rw [f2 t ht, am_up_ap, if_neg, am_up_ap, if_neg, am_up_ap, if_neg]
      all_goals
        have key : ∀ t, t < 1776 → ¬ ((im_ps t).1 = 0 ∧ ((im_ps t).2 = 63 ∨ (im_ps t).2 = 64 ∨ (im_ps t).2 = 65)) := by decide +kernel
        exact fun g => key t ht ⟨g.1, by simp [g.2]⟩
    obtain ⟨σ', e, fr, -, hW⟩ := rl_Wc_39 hF (rl_NW hN) (im_taken im)
    rw [e, Option.bind_some, C_image_p48, show am_up σ' 0 2 1 0 2 = 1 from by simp [am_up_ap], if_neg (by decide), if_pos rfl, m1]
    refine ⟨_, _, rfl, rfl, rfl, ?_⟩
    have fr' : ∀ c, c ≠ 0 → (c ≤ 39 ∨ 76 < c) → am_up σ' 0 2 1 c = σ c := fun c a b => by rw [am_up_ne a, fr c b]
    have pfe : rl_pf (am_up σ' 0 2 1) = rl_pf σ := by
      funext q c k
      simp only [rl_pf]
      by_cases g : q < 6 ∧ c < 11
      · rw [if_pos g, if_pos g, fr' _ (by omega) (by omega)]
      · rw [if_neg g, if_neg g]
    have t64 : τ' 0 64 = 1 := by rw [f1 0 64 (by omega) (by omega)]; simp [am_up_ap]
    rw [im_E, if_pos rfl]
    obtain ⟨n, m, hFR, hFS, hIR, hIS, hBK, hGU, hLE, hKY, hBI, hQU, hCO, hOR, hSV, hND, hLW⟩ := hN
    refine ⟨?_, ⟨n, m, ?_, ?_, ?_, ?_, ?_, ?_, ?_, ?_, ?_, ?_, ?_, ?_, ?_, ?_, ?_⟩, ?_, ?_, ?_, ?_⟩
    · simpa [fr', ag, ag'] using hK
    · simpa [fr', ag, ag'] using hFR
    · simpa [fr', ag, ag'] using hFS
    · simpa [fr', ag, ag'] using hIR
    · simpa [fr', ag, ag'] using hIS
    · simpa [fr', ag, ag'] using hBK
    · simpa [fr', ag, ag'] using hGU
    · simpa [fr', ag, ag'] using hLE
    · simpa [fr', ag, ag'] using hKY
    · simpa [fr', ag, ag'] using hBI
    · simpa [fr', ag, ag'] using hQU
    · simpa [fr', ag, ag'] using hCO
    · simpa [fr', ag, ag'] using hOR
    · simpa [fr', ag, ag'] using hSV
    · simpa [fr', ag, ag'] using hND
    · simpa [fr', ag, ag'] using hLW
    · rw [pfe]; simpa [fr', ag, ag'] using hPS
    · simpa [fr', ag, ag'] using hTP
    · simpa [fr', ag, ag'] using hFT
    · refine ⟨by show _ = τ' 0 64; rw [t64]; simp [am_up_ap], .inr ⟨t64, ?_⟩⟩
      rw [rl_W_up (by omega)]
      exact hW
  | false =>
    rw [if_neg Bool.false_ne_true, if_neg Bool.false_ne_true]
    obtain ⟨i1, i2⟩ := hIM
    rw [i1]
    rcases i2 with i2 | ⟨i2, i3⟩
    · rw [if_pos i2, if_pos i2, C_image_p48, if_pos (i1.trans i2)]
      exact ⟨_, _, rfl, rfl, rfl, h⟩
    · have nz : ¬ τ 0 64 = 0 := by rw [i2]; decide
      rw [if_neg nz, if_neg nz]
      obtain ⟨τ', m1, m2, m3, -, m4⟩ := im_M (b := false) (F := F) (τ := τ) hF
      obtain ⟨f1, f2, f3⟩ := m4 rfl
      have f1' : τ' 39 = τ 39 := by rw [f1, am_up_ne (by omega), am_up_ne (by omega), am_up_ne (by omega)]
      have f2' : ∀ t, t < 1776 → τ' (im_ps t).1 (im_ps t).2 = τ 39 t := fun t ht => by rw [f2 t ht, am_up_ne (by omega), am_up_ne (by omega), am_up_ne (by omega)]
      have ag : ∀ c k, c ≠ 39 → ¬ (c = 0 ∧ (k = 63 ∨ k = 64 ∨ k = 65)) → (∀ t, t < 1776 → im_ps t ≠ (c, k)) → τ' c k = τ c k := fun c k a b d => by
        rw [f3 c k a (fun g => b ⟨g.1, .inr (.inr g.2)⟩) d, am_up_ap, if_neg (fun g => b ⟨g.1, .inr (.inr g.2)⟩), am_up_ap, if_neg (fun g => b ⟨g.1, .inr (.inl g.2)⟩), am_up_ap, if_neg (fun g => b ⟨g.1, .inl g.2⟩)]
      have t9 : τ' 9 = τ 9 := by funext k; exact ag 9 k (by omega) (by omega) (fun t ht g => (ps_far t ht).1 (by rw [g]))
      have t10 : τ' 10 = τ 10 := by funext k; exact ag 10 k (by omega) (by omega) (fun t ht g => (ps_far t ht).2.1 (by rw [g]))
      have t05 : τ' 0 5 = τ 0 5 := ag 0 5 (by omega) (by omega) (fun t ht g => (ps_far t ht).2.2.2.2.1 g)
      have t014 : τ' 0 14 = τ 0 14 := ag 0 14 (by omega) (by omega) (fun t ht g => (ps_far t ht).2.2.2.2.2.1 g)
      have t034 : τ' 0 34 = τ 0 34 := ag 0 34 (by omega) (by omega) (fun t ht g => (ps_far t ht).2.2.2.2.2.2.1 g)
      have t035 : τ' 0 35 = τ 0 35 := ag 0 35 (by omega) (by omega) (fun t ht g => (ps_far t ht).2.2.2.2.2.2.2.1 g)
      have t064 : τ' 0 64 = 1 := by
        rw [f3 0 64 (by omega) (by omega) (fun t ht g => (ps_far t ht).2.2.2.2.2.2.2.2 g)]; simp [am_up_ap]
      obtain ⟨σ', e, fr, ⟨b12, b15, b17, b20, b22, b24, b26, b28, b30, b32, b34, b36⟩, hW⟩ := rl_Wc_1 hF i3 (im_back f2')
      rw [e, Option.bind_some, C_image_p48, C_Past_forget, am_let, show am_up σ' 88 3 0 0 2 = 1 from by rw [am_up_ne (by omega), fr 0 (by omega), i1, i2], if_neg (by decide), if_pos rfl, m1]
      refine ⟨_, _, rfl, rfl, rfl, ?_⟩
      have fr' : ∀ c, c ≠ 88 → (c ≤ 1 ∨ 38 < c) → am_up σ' 88 3 0 c = σ c := fun c a b => by rw [am_up_ne a, fr c b]
      have pfe : rl_pf (am_up σ' 88 3 0) = rl_pf σ := by
        funext q c k
        simp only [rl_pf]
        by_cases g : q < 6 ∧ c < 11
        · rw [if_pos g, if_pos g, fr' _ (by omega) (by omega)]
        · rw [if_neg g, if_neg g]
      rw [im_E, if_neg Bool.false_ne_true]
      show rl_R (am_up σ' 88 3 0) (am_up τ' 0 3 0)
      obtain ⟨n, m, hFR, hFS, hIR, hIS, hBK, hGU, hLE, hKY, hBI, hQU, hCO, hOR, hSV, hND, hLW⟩ := rl_WN hW
      refine ⟨?_, ⟨n, m, ?_, ?_, ?_, ?_, ?_, ?_, ?_, ?_, ?_, ?_, ?_, ?_, ?_, ?_, ?_⟩, ?_, ?_, ?_, ?_⟩
      · obtain ⟨k1, k2, k3, k4, k5, k6, k7, k8, k9, k10, k11, k12, k13, k14, k15, k16, k17⟩ := hK
        refine ⟨?_, ?_, ?_, ?_, ?_, ?_, ?_, ?_, ?_, ?_, ?_, ?_, ?_, ?_, ?_, ?_, ?_⟩
        · rw [am_up_ne (by omega)]; exact b12.trans k1
        · rw [am_up_ne (by omega)]; exact b15.trans k2
        · rw [am_up_ne (by omega)]; exact b17.trans k3
        · rw [am_up_ne (by omega)]; exact b20.trans k4
        · rw [am_up_ne (by omega)]; exact b22.trans k5
        · rw [am_up_ne (by omega)]; exact b24.trans k6
        · rw [am_up_ne (by omega)]; exact b26.trans k7
        · rw [am_up_ne (by omega)]; exact b28.trans k8
        · rw [am_up_ne (by omega)]; exact b30.trans k9
        · rw [am_up_ne (by omega)]; exact b32.trans k10
        · rw [am_up_ne (by omega)]; exact b34.trans k11
        · rw [am_up_ne (by omega)]; exact b36.trans k12
        · rw [fr' 163 (by omega) (by omega)]; exact k13
        · rw [fr' 165 (by omega) (by omega)]; exact k14
        · rw [fr' 168 (by omega) (by omega)]; exact k15
        · rw [am_up_ap, if_neg (by omega), t05]; exact k16
        · rw [am_up_ne (by omega), t10]; exact k17
      · simpa [am_up_ap, am_up_ne] using hFR
      · simpa [am_up_ap, am_up_ne] using hFS
      · simpa [am_up_ap, am_up_ne] using hIR
      · simpa [am_up_ap, am_up_ne] using hIS
      · simpa [am_up_ap, am_up_ne] using hBK
      · simpa [am_up_ap, am_up_ne] using hGU
      · simpa [am_up_ap, am_up_ne] using hLE
      · simpa [am_up_ap, am_up_ne] using hKY
      · simpa [am_up_ap, am_up_ne] using hBI
      · simpa [am_up_ap, am_up_ne] using hQU
      · simpa [am_up_ap, am_up_ne] using hCO
      · simpa [am_up_ap, am_up_ne] using hOR
      · simpa [am_up_ap, am_up_ne] using hSV
      · simpa [am_up_ap, am_up_ne] using hND
      · simpa [am_up_ap, am_up_ne] using hLW
      · rw [pfe, fr' 90 (by omega) (by omega), show am_up σ' 88 3 0 88 2 = σ 88 2 from by rw [am_up_ap, if_neg (by omega), fr 88 (by omega)], show am_up σ' 88 3 0 88 3 = 0 from by simp [am_up_ap], show am_up τ' 0 3 0 0 3 = 0 from by simp [am_up_ap]]
        exact rl_PS_forget hPS ⟨_, hBK.choose_spec.1, by rw [am_up_ne (by omega)]; exact hBK.choose_spec.2.2.1⟩ ⟨_, by rw [am_up_ap, if_neg (by omega)]; exact hIS.2.2.1⟩ ⟨_, by rw [am_up_ap, if_neg (by omega)]; exact hIS.2.2.2.1⟩
      · rw [fr' 157 (by omega) (by omega), fr' 158 (by omega) (by omega), am_up_ap, if_neg (by omega), t014, am_up_ne (by omega), t9]; exact hTP
      · rw [fr' 157 (by omega) (by omega), am_up_ap, if_neg (by omega), t034, am_up_ap, if_neg (by omega), t035]; exact hFT
      · rw [rl_IM_cg (fun c h1 h2 => fr' c (by omega) (by omega)), fr' 0 (by omega) (by omega), show am_up τ' 0 3 0 0 64 = 1 from by rw [am_up_ap, if_neg (by omega)]; exact t064, am_up_ne (by omega), f1']
        exact ⟨by rw [i1, i2], .inr ⟨rfl, i3⟩⟩
