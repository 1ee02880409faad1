theorem tz_copy {σ : am_SS} {a0 : Nat} {v : Int32} {g : Nat → Int32} {a j : Nat} (h : ¬ ((a = a0 ∧ j = 2) ∨ a = a0 + 1)) : am_row (am_up σ a0 2 v) (a0 + 1) g a j = σ a j := by
  rw [am_row_ne (by omega)]; simp only [am_up]; rw [if_neg (by omega)]
theorem tz_law {F : Nat} {σ τ : am_SS} (hF : 2000 ≤ F) (h : rl_R σ τ) : ∃ qC qM, C_text F 0 σ = some qC ∧ M_text F 0 τ = some qM ∧ qC.1 = qM.1 ∧ rl_R qC.2 qM.2 := by
  obtain ⟨c, ch, σc, τr, l, a1, b1, hJ, hl, cC, cM, dM⟩ := tz_start (F := F) hF h
  have hK := h.1
  have eC : C_text F 0 σ = (C_Reader_readLaw_l9 F F 157 0 (am_up (am_up σc 163 2 0) 165 2 0)).bind (fun q_3 => if q_3.1 = true then (C_Law_copyFrom F 15 162 q_3.2).bind (fun q_5 => C_text_p196 F (q_5 16 2) q_5) else C_text_p196 F (-1) q_3.2) := by
    rw [C_text, a1, Option.bind_some, if_pos rfl]; rfl
  have eM : M_text F 0 τ = (M_readLaw_l2 F F 0 τr).bind (fun q_9 => if q_9.1 = (-1) then M_text_p69 F 0 q_9.1 (am_up (am_up q_9.2 0 34 (q_9.2 0 32)) 0 35 (am_up q_9.2 0 34 (q_9.2 0 32) 0 33)) else M_text_p69 F 0 q_9.1 q_9.2) := by
    rw [tz_M6, if_pos (show M_isIn 0 0 3 = true from rfl), M_readsText, am_let, b1, Option.bind_some, if_neg (by decide), if_pos rfl]
    show ((M_readLaw_l2 F F 0 τr).bind _).bind _ = _
    cases M_readLaw_l2 F F 0 τr <;> rfl
  have c0 : tz_C σ (am_up (am_up σc 163 2 0) 165 2 0) := tz_Ct cC (fun a j q => by simp only [am_up]; rw [if_neg (by omega), if_neg (by omega)])
  have hX : tx_X ch c (am_up (am_up σc 163 2 0) 165 2 0) τr l [] 0 := ⟨⟨hJ.1, tx_Aup (by omega) (tx_Aup (by omega) hJ.2.1), hJ.2.2⟩, ⟨by rw [c0 165 0 (by omega)]; exact hK.2.2.2.2.2.2.2.2.2.2.2.2.2.1, by simp [am_up], fun k hk => by simp at hk⟩, ⟨by rw [dM 0 28 (by omega)]; simp [am_up, tz_6], fun k hk => by simp at hk⟩, by simpa using hl⟩
  obtain ⟨b', σ3, r, τ3, u1, u2, u3, u4, u5⟩ := tx_law (F := F) hF 401 F F 0 _ τr l [] (by omega) (by omega) (by omega) (by omega) hX (by rw [c0 163 0 (by omega)]; exact hK.2.2.2.2.2.2.2.2.2.2.2.2.1) (by simp [am_up]) (by rw [dM 0 29 (by omega)]; simp [am_up, tz_6]) (fun i hi => by omega)
  have u1' : C_Reader_readLaw_l9 F F 157 0 (am_up (am_up σc 163 2 0) 165 2 0) = some (b', σ3) := u1
  have u3' : M_readLaw_l2 F F 0 τr = some (r, τ3) := u3
  rw [eC, eM, u1', u3', Option.bind_some, Option.bind_some]
  have cc3 : tz_C σ σ3 := tz_Ct c0 (tz_CL u2)
  have mm3 : tz_M τ τ3 := tz_Mt cM (tz_ML u4)
  rcases u5 with ⟨rfl, rfl, u6⟩ | ⟨rfl, n, L, rfl, hn, v1, v2, v3, v4, v5, v6, v7⟩
  · rw [if_neg (by exact Bool.false_ne_true), if_pos rfl]
    exact tz_no h cc3 mm3 u6
  · rw [if_pos rfl, if_neg (tz_nn hn)]
    obtain ⟨w27, w34, w35⟩ := tz_slot (τ' := τ3) dM (fun j hj => u4 0 j (by omega))
    -- the class copies
    have k1 := tc_copy (F := F) (a0 := 16) (a1 := 163) 64 (σ := σ3) hF (by omega) (by omega) rfl rfl (by omega)
    have k2 := tc_copy (F := F) (a0 := 18) (a1 := 165) 800 (σ := am_row (am_up σ3 16 2 (σ3 163 2)) (16 + 1) (cp_r (σ3 (163 + 1)) (σ3 (16 + 1)) 64)) hF (by omega) (by omega) rfl rfl (by omega)
    generalize hσ4 : am_row (am_up (am_row (am_up σ3 16 2 (σ3 163 2)) (16 + 1) (cp_r (σ3 (163 + 1)) (σ3 (16 + 1)) 64)) 18 2 (am_row (am_up σ3 16 2 (σ3 163 2)) (16 + 1) (cp_r (σ3 (163 + 1)) (σ3 (16 + 1)) 64) 165 2)) (18 + 1) (cp_r (am_row (am_up σ3 16 2 (σ3 163 2)) (16 + 1) (cp_r (σ3 (163 + 1)) (σ3 (16 + 1)) 64) (165 + 1)) (am_row (am_up σ3 16 2 (σ3 163 2)) (16 + 1) (cp_r (σ3 (163 + 1)) (σ3 (16 + 1)) 64) (18 + 1)) 800) = σ4 at k2
    have f4 : ∀ a j, ¬ ((a = 16 ∧ j = 2) ∨ a = 17 ∨ (a = 18 ∧ j = 2) ∨ a = 19) → σ4 a j = σ3 a j := fun a j q => by
      rw [← hσ4, tz_copy (by omega), tz_copy (by omega)]
    have g1 : σ4 16 2 = σ3 163 2 := by rw [← hσ4]; simp [am_row, am_up]
    have g2 : ∀ j, j < 64 → σ4 17 j = σ3 164 j := fun j hj => by rw [← hσ4]; simp [am_row, am_up, cp_r, hj]
    have g3 : σ4 18 2 = σ3 165 2 := by rw [← hσ4]; simp [am_row, am_up]
    have g4 : ∀ j, j < 800 → σ4 19 j = σ3 166 j := fun j hj => by rw [← hσ4]; simp [am_row, am_up, cp_r, hj]
    have eCopy : C_Law_copyFrom F 15 162 σ3 = some σ4 := by
      rw [C_Law_copyFrom, show (15 + 1 : Nat) = 16 from rfl, show (162 + 1 : Nat) = 163 from rfl, k1, Option.bind_some, show (15 + 3 : Nat) = 18 from rfl, show (162 + 3 : Nat) = 165 from rfl, k2, Option.bind_some]
    -- the reference takes
    have t28 : am_up τ3 0 14 0 0 28 = Int32.ofNat (L.flatMap rl_tr).length := by rw [← v3.1]; simp [am_up]
    have t27 : am_up τ3 0 14 0 0 27 = 0 := by rw [← w27]; simp [am_up]
    obtain ⟨τ5, y1, y2, y3, y4, y5, y6⟩ := tl_1 (F := F) hF n 0 F n (L.flatMap rl_tr).length (am_up τ3 0 14 0) (by omega) hn (by omega) v4 t28 t27
    have y1' : M_takesLaw F (Int32.ofNat n) (am_up τ3 0 14 0) = some τ5 := y1
    have up0 : ∀ a j, a ≠ 0 → am_up τ3 0 14 0 a j = τ3 a j := fun a j q => by rw [am_up_ne q]
    refine ⟨(Int32.ofNat n, am_up σ4 157 1 0), (Int32.ofNat n, τ5), ?_, ?_, rfl, ?_⟩
    · rw [eCopy, Option.bind_some, C_text_p196, am_let, g1, v1]
    · rw [M_text_p69, am_let, if_neg (tz_nn hn), if_pos rfl, y1', Option.bind_some]
    · show rl_R (am_up σ4 157 1 0) τ5
      have cx : ∀ a j, ¬ tx_CC a j → am_up σ4 157 1 0 a j = σ a j := fun a j q => by
        unfold tx_CC at q
        simp only [am_up]; rw [if_neg (by omega), f4 a j (by omega), cc3 a j (by omega)]
      have mx : ∀ a j, ¬ tx_MM a j → τ5 a j = τ a j := fun a j q => by
        unfold tx_MM at q
        rw [y5 a j (by omega)]; simp only [am_up]; rw [if_neg (by omega), mm3 a j (by omega)]
      have low : ∀ a j, a < 16 ∨ 19 < a → a < 157 → am_up σ4 157 1 0 a j = σ a j := fun a j q q' => by
        simp only [am_up]; rw [if_neg (by omega), f4 a j (by omega), cc3 a j (by omega)]
      have mlow : ∀ a j, ¬ (11 ≤ a ∧ a ≤ 17) → ¬ ((a = 0 ∧ (j = 0 ∨ (14 ≤ j ∧ j ≤ 18) ∨ (27 ≤ j ∧ j ≤ 35))) ∨ a = 18 ∨ (a = 19 ∧ 64 ≤ j) ∨ ((a = 20 ∨ a = 21) ∧ 12 ≤ j)) → τ5 a j = τ a j := fun a j q q' => by
        rw [y5 a j q]; simp only [am_up]; rw [if_neg (by omega), mm3 a j (by omega)]
      refine tx_gen h cx mx (fun n m k _ _ => ?_) (fun m k _ => ?_) (fun n k _ => ?_) (fun _ => ?_) (.inl ⟨low 88 3 (by omega) (by omega), mlow 0 3 (by omega) (by omega)⟩) ?_ ?_
      · exact tx_keepOR k (low 21 2 (by omega) (by omega)) (mlow 0 36 (by omega) (by omega)) (fun j hj => ⟨low 22 j (by omega) (by omega), mlow 19 j (by omega) (by omega)⟩)
      · exact tx_keepSV k (low 23 2 (by omega) (by omega)) (mlow 0 38 (by omega) (by omega)) (fun j hj => low 24 j (by omega) (by omega)) (fun j hj => mlow 20 j (by omega) (by omega))
      · exact tx_keepND k (low 25 2 (by omega) (by omega)) (mlow 0 40 (by omega) (by omega)) (fun j hj => low 26 j (by omega) (by omega)) (fun j hj => mlow 21 j (by omega) (by omega))
      · have n157 : ∀ a, a ≠ 157 → am_up σ4 157 1 0 a = σ4 a := fun a q => am_up_ne q
        rw [n157 16 (by omega), n157 17 (by omega), n157 18 (by omega), n157 19 (by omega)]
        exact tl_LW hn v1 v2 v3 v4 v5 g1 g2 g3 g4 (fun a i q1 q2 q3 q4 => by rw [y2 a i q1 q2 q3 q4, up0 a _ (by omega)]) (fun i hi => by have := y3 i hi; rw [this.1, this.2, up0 16 _ (by omega), up0 17 _ (by omega)]; exact ⟨rfl, rfl⟩) y4
      · refine tz_TP h.2.2.2.1 (by simp [am_up]) ?_ (funext (fun j => cx 158 j (by unfold tx_CC; omega))) (funext (fun j => mx 9 j (by unfold tx_MM; omega)))
        rw [y5 0 14 (by omega)]; simp [am_up]
      · refine ⟨?_, ?_⟩
        · rw [y5 0 34 (by omega)]
          have e1 : am_up σ4 157 1 0 157 7 = σ4 157 7 := by simp [am_up]
          have e2 : am_up τ3 0 14 0 0 34 = τ3 0 34 := by simp [am_up]
          rw [e1, e2, f4 157 7 (by omega), v6, w34]
        · rw [y5 0 35 (by omega)]
          have e1 : am_up σ4 157 1 0 157 8 = σ4 157 8 := by simp [am_up]
          have e2 : am_up τ3 0 14 0 0 35 = τ3 0 35 := by simp [am_up]
          rw [e1, e2, f4 157 8 (by omega), v7, w35]
theorem tz_q1 {a j T kd : Nat} (hT : T = 21 ∨ T = 23 ∨ T = 25) (q : ¬ tx_CC a j) : ¬ ((a = T ∧ j = 2) ∨ a = T + 1 ∨ (a = 88 ∧ j = 3 ∧ kd ≠ 3) ∨ (a = 157 ∧ j = 1)) := by
  unfold tx_CC at q
  rintro (h | h | h | h)
  · apply q; right; right; left; rcases hT with rfl | rfl | rfl <;> omega
  · apply q; right; right; left; rcases hT with rfl | rfl | rfl <;> omega
  · exact q (.inr (.inr (.inr ⟨h.1, h.2.1⟩)))
  · exact q (.inl h.1)
theorem tz_q2 {a j : Nat} (q : ¬ tx_CC a j) : ¬ (a = 157 ∨ (159 ≤ a ∧ a ≤ 169 ∧ ¬ ((a = 163 ∨ a = 165 ∨ a = 168) ∧ j = 0))) := by
  unfold tx_CC at q
  rintro (h | h)
  · exact q (.inl h)
  · exact q (.inr (.inl h))
theorem tz_q3 {a j kd : Nat} (q : ¬ tx_MM a j) : ¬ ((a = 19 ∧ kd = 1 ∧ j < 64) ∨ (a = 20 ∧ kd = 2 ∧ j < 12) ∨ (a = 21 ∧ kd = 3 ∧ j < 12) ∨ (a = 0 ∧ ((j = 36 ∧ kd = 1) ∨ (j = 38 ∧ kd = 2) ∨ (j = 40 ∧ kd = 3) ∨ (j = 3 ∧ kd ≠ 3) ∨ j = 14))) := by
  unfold tx_MM at q
  rintro (h | h | h | h)
  · exact q (.inr (by omega))
  · exact q (.inr (by omega))
  · exact q (.inr (by omega))
  · exact q (.inl (by omega))
theorem tz_q4 {a j : Nat} (q : ¬ tx_MM a j) : ¬ ((a = 0 ∧ (j = 0 ∨ (14 ≤ j ∧ j ≤ 18) ∨ (27 ≤ j ∧ j ≤ 35))) ∨ (12 ≤ a ∧ a ≤ 15 ∧ 16 ≤ j) ∨ ((a = 16 ∨ a = 17) ∧ 400 ≤ j) ∨ a = 18 ∨ (a = 19 ∧ 64 ≤ j) ∨ ((a = 20 ∨ a = 21) ∧ 12 ≤ j)) := by
  unfold tx_MM at q
  rintro (h | h | h | h | h | h)
  · exact q (.inl (by omega))
  · exact q (.inr (by omega))
  · exact q (.inr (by omega))
  · exact q (.inr (by omega))
  · exact q (.inr (by omega))
  · exact q (.inr (by omega))
theorem tz_q5 {a j T kd : Nat} (q1 : a < 157) (q2 : ¬ (a = T ∧ j = 2)) (q3 : a ≠ T + 1) (q4 : ¬ (a = 88 ∧ j = 3)) : ¬ ((a = T ∧ j = 2) ∨ a = T + 1 ∨ (a = 88 ∧ j = 3 ∧ kd ≠ 3) ∨ (a = 157 ∧ j = 1)) := by
  rintro (h | h | h | h)
  · exact q2 h
  · exact q3 h
  · exact q4 ⟨h.1, h.2.1⟩
  · omega
theorem tz_q6 {a j : Nat} (q1 : a < 157) : ¬ (a = 157 ∨ (159 ≤ a ∧ a ≤ 169 ∧ ¬ ((a = 163 ∨ a = 165 ∨ a = 168) ∧ j = 0))) := by omega
theorem tz_q7 {a j kd : Nat} (q1 : ¬ ((a = 19 ∧ kd = 1 ∧ j < 64) ∨ (a = 20 ∧ kd = 2 ∧ j < 12) ∨ (a = 21 ∧ kd = 3 ∧ j < 12) ∨ (a = 0 ∧ ((j = 36 ∧ kd = 1) ∨ (j = 38 ∧ kd = 2) ∨ (j = 40 ∧ kd = 3) ∨ (j = 3 ∧ kd ≠ 3))))) (q2 : ¬ ((a = 0 ∧ (j = 0 ∨ (14 ≤ j ∧ j ≤ 18) ∨ (27 ≤ j ∧ j ≤ 35))) ∨ (12 ≤ a ∧ a ≤ 15 ∧ 16 ≤ j) ∨ ((a = 16 ∨ a = 17) ∧ 400 ≤ j) ∨ a = 18 ∨ (a = 19 ∧ 64 ≤ j) ∨ ((a = 20 ∨ a = 21) ∧ 12 ≤ j))) :
    ¬ ((a = 19 ∧ kd = 1 ∧ j < 64) ∨ (a = 20 ∧ kd = 2 ∧ j < 12) ∨ (a = 21 ∧ kd = 3 ∧ j < 12) ∨ (a = 0 ∧ ((j = 36 ∧ kd = 1) ∨ (j = 38 ∧ kd = 2) ∨ (j = 40 ∧ kd = 3) ∨ (j = 3 ∧ kd ≠ 3) ∨ j = 14))) := by
  rintro (h | h | h | ⟨h, h1 | h1 | h1 | h1 | h1⟩)
  · exact q1 (.inl h)
  · exact q1 (.inr (.inl h))
  · exact q1 (.inr (.inr (.inl h)))
  · exact q1 (.inr (.inr (.inr ⟨h, .inl h1⟩)))
  · exact q1 (.inr (.inr (.inr ⟨h, .inr (.inl h1)⟩)))
  · exact q1 (.inr (.inr (.inr ⟨h, .inr (.inr (.inl h1))⟩)))
  · exact q1 (.inr (.inr (.inr ⟨h, .inr (.inr (.inr h1))⟩)))
  · exact q2 (.inl ⟨h, by omega⟩)
/-- orders, service and needs: what both take -/
theorem tz_two {F kd T : Nat} {σ τ : am_SS} (hF : 2000 ≤ F) (h : rl_R σ τ) (hk : (kd = 1 ∧ T = 21) ∨ (kd = 2 ∧ T = 23) ∨ (kd = 3 ∧ T = 25)) {σc τr : am_SS} (cC : tz_C σ σc) (cM : tz_M τ τr) (dM : tk_D (am_up (tz_6 τ) 0 27 0) τr) {A : Option (Bool × am_SS)} {B : Option (Int32 × am_SS)} {Q : Nat → am_SS → am_SS → Prop}
    (eC : C_text F (Int32.ofNat kd) σ = A.bind (fun q_8 => if q_8.1 = true then (C_tellRows F T q_8.2).bind (fun q_10 => C_text_p196 F q_10.1 (if kd = 3 then q_10.2 else C_Past_forget 88 q_10.2)) else C_text_p196 F (-1) q_8.2))
    (eM : M_text F (Int32.ofNat kd) τ = B.bind (fun q_9 => if q_9.1 = (-1) then M_text_p69 F (Int32.ofNat kd) q_9.1 (am_up (am_up q_9.2 0 34 (q_9.2 0 32)) 0 35 (am_up q_9.2 0 34 (q_9.2 0 32) 0 33)) else M_text_p69 F (Int32.ofNat kd) q_9.1 q_9.2))
    {σ0 τ0 : am_SS} (c0 : tz_C σc σ0) (m0 : tz_M τr τ0) (m1 : ∀ j, τ0 0 j = τr 0 j) (out : tn_out σ0 τ0 A B Q)
    (tell : ∀ (k : Nat) (σ3 τ3 : am_SS) (cells up19 up20 up21 : Nat → Int32), k ≤ 16 → Q k σ3 τ3 → tn_F σ0 σ3 → tn_G τ0 τ3 → (∀ j, j < 64 → cells j = σ3 169 j) → (kd = 1 → ∀ i, i < 4 * k → up19 i = τ3 19 (64 + i)) → (kd = 2 → ∀ i, i < 12 → up20 i = τ3 20 (12 + i)) → (kd = 3 → ∀ i, i < 12 → up21 i = τ3 21 (12 + i)) →
      (kd = 1 → ∀ n m, (n ≤ 12 ∧ τ 0 6 = Int32.ofNat n) → (m ≤ 12 ∧ τ 0 7 = Int32.ofNat m) → rl_OR (Int32.ofNat k) cells (Int32.ofNat k) up19 n m) ∧ (kd = 2 → ∀ m, (m ≤ 12 ∧ τ 0 7 = Int32.ofNat m) → rl_SV (Int32.ofNat k) cells (Int32.ofNat k) up20 m) ∧ (kd = 3 → ∀ n, (n ≤ 12 ∧ τ 0 6 = Int32.ofNat n) → rl_ND (Int32.ofNat k) cells (Int32.ofNat k) up21 n)) :
    ∃ qC qM, C_text F (Int32.ofNat kd) σ = some qC ∧ M_text F (Int32.ofNat kd) τ = some qM ∧ qC.1 = qM.1 ∧ rl_R qC.2 qM.2 := by
  obtain ⟨b', σ3, r, τ3, u1, u2, u3, u4, u5⟩ := out
  rw [eC, eM, u1, u3, Option.bind_some, Option.bind_some]
  have cc3 : tz_C σ σ3 := tz_Ct (tz_Ct cC c0) (tz_Cn u2)
  have mm3 : tz_M τ τ3 := tz_Mt (tz_Mt cM m0) (tz_Mn u4)
  rcases u5 with ⟨rfl, rfl, u6⟩ | ⟨rfl, k, rfl, hk16, v1, v6, v7, vQ⟩
  · rw [if_neg (by exact Bool.false_ne_true), if_pos rfl]
    exact tz_no h cc3 mm3 u6
  rw [if_pos rfl, if_neg (tz_nn hk16)]
  obtain ⟨w27, w34, w35⟩ := tz_slot (τ' := τ3) dM (fun j hj => by rw [u4 0 j (by omega)]; exact m1 j)
  have T64 : LC.2.1 (T + 1) = 64 := by rcases hk with ⟨_, rfl⟩ | ⟨_, rfl⟩ | ⟨_, rfl⟩ <;> rfl
  have k1 := tc_copy (F := F) (a0 := T) (a1 := 168) 64 (σ := σ3) hF (by omega) (by omega) rfl T64 (by omega)
  have eT : C_tellRows F T σ3 = some (Int32.ofNat k, am_row (am_up σ3 T 2 (σ3 168 2)) (T + 1) (cp_r (σ3 (168 + 1)) (σ3 (T + 1)) 64)) := by
    rw [C_tellRows, k1, Option.bind_some, am_row_ne (by omega)]
    have : am_up σ3 T 2 (σ3 168 2) T 2 = Int32.ofNat k := by rw [v1]; simp [am_up]
    rw [this]
  generalize hσ4 : am_row (am_up σ3 T 2 (σ3 168 2)) (T + 1) (cp_r (σ3 (168 + 1)) (σ3 (T + 1)) 64) = σ4 at eT
  have f4 : ∀ a j, ¬ ((a = T ∧ j = 2) ∨ a = T + 1) → σ4 a j = σ3 a j := fun a j q => by rw [← hσ4, tz_copy q]
  have g1 : σ4 T 2 = Int32.ofNat k := by rw [← hσ4, ← v1, am_row_ne (by omega)]; simp [am_up]
  have g2 : ∀ j, j < 64 → σ4 (T + 1) j = σ3 169 j := fun j hj => by rw [← hσ4, am_row_eq, cp_r, if_pos hj]
  rw [eT, Option.bind_some]
  have up0 : ∀ a j, a ≠ 0 → am_up τ3 0 14 0 a j = τ3 a j := fun a j q => by rw [am_up_ne q]
  have kkd : ∀ x : Nat, x < 4 → (Int32.ofNat kd = Int32.ofNat x ↔ kd = x) := fun x hx => ni_eq (by omega) (by omega)
  -- the reference takes
  have tak : ∃ τ5, M_takesOther F (Int32.ofNat kd) (Int32.ofNat k) (am_up τ3 0 14 0) = some τ5 ∧ (kd = 1 → (∀ i, i < 4 * k → τ5 19 i = τ3 19 (64 + i)) ∧ τ5 0 36 = Int32.ofNat k) ∧ (kd = 2 → (∀ i, i < 12 → τ5 20 i = τ3 20 (12 + i)) ∧ τ5 0 38 = Int32.ofNat k) ∧ (kd = 3 → (∀ i, i < 12 → τ5 21 i = τ3 21 (12 + i)) ∧ τ5 0 40 = Int32.ofNat k) ∧ (kd ≠ 3 → τ5 0 3 = 0) ∧
      (∀ a i, ¬ ((a = 19 ∧ kd = 1 ∧ i < 64) ∨ (a = 20 ∧ kd = 2 ∧ i < 12) ∨ (a = 21 ∧ kd = 3 ∧ i < 12) ∨ (a = 0 ∧ ((i = 36 ∧ kd = 1) ∨ (i = 38 ∧ kd = 2) ∨ (i = 40 ∧ kd = 3) ∨ (i = 3 ∧ kd ≠ 3) ∨ i = 14))) → τ5 a i = τ3 a i) ∧ τ5 0 14 = 0 := by
    rcases hk with ⟨rfl, rfl⟩ | ⟨rfl, rfl⟩ | ⟨rfl, rfl⟩
    · obtain ⟨τ4, y1, y2, y3⟩ := to_7 (F := F) (4 * k) 0 F k (am_up τ3 0 14 0) (by omega) hk16 (by omega)
      obtain ⟨τ5, z1, z2, z3, z4, z5⟩ := to_42 (F := F) (kd := 1) (x2 := Int32.ofNat k) (.inl rfl) 12 0 F (am_up τ4 0 36 (Int32.ofNat k)) (by omega) (by omega)
      have d12 : ¬ (1 : Int32) = 2 := by decide
      have d13 : ¬ (1 : Int32) = 3 := by decide
      refine ⟨τ5, ?_, fun _ => ⟨fun i hi => ?_, ?_⟩, fun e => by omega, fun e => by omega, fun _ => z4 (by decide), fun a i q => ?_, ?_⟩
      · show M_takesOther F 1 _ _ = _
        rw [M_takesOther, if_pos rfl]
        exact y1.trans z1
      · rw [z5 19 i (fun e => by omega), am_up_ne (by omega), y2 i (by omega) hi, up0 19 _ (by omega)]
      · rw [z5 0 36 (fun e => by omega)]; simp [am_up]
      · rw [z5 a i (fun e => by
          rcases e with ⟨_, e, _⟩ | ⟨_, e, _⟩ | ⟨e0, ⟨_, e⟩ | ⟨_, e⟩ | ⟨e1, _⟩⟩
          · exact d12 e
          · exact d13 e
          · exact d12 e
          · exact d13 e
          · omega)]
        simp only [am_up]
        rw [if_neg (by omega), y3 a i (by omega)]
        simp only [am_up]
        rw [if_neg (by omega)]
      · rw [z5 0 14 (fun e => by omega)]
        have : am_up τ4 0 36 (Int32.ofNat k) 0 14 = τ4 0 14 := by simp [am_up]
        rw [this, y3 0 14 (by omega)]; simp [am_up]
    · obtain ⟨τ5, z1, z2, z3, z4, z5⟩ := to_42 (F := F) (kd := 2) (x2 := Int32.ofNat k) (.inr (.inl rfl)) 12 0 F (am_up τ3 0 14 0) (by omega) (by omega)
      have d13 : ¬ (2 : Int32) = 3 := by decide
      refine ⟨τ5, ?_, fun e => by omega, fun _ => ⟨fun i hi => ?_, (z2 rfl).2⟩, fun e => by omega, fun _ => z4 (by decide), fun a i q => ?_, ?_⟩
      · show M_takesOther F 2 _ _ = _
        rw [M_takesOther, if_neg (by decide)]
        exact z1
      · rw [(z2 rfl).1 i (by omega) hi, up0 20 _ (by omega)]
      · rw [z5 a i (fun e => by
          rcases e with ⟨e0, _, _, e1⟩ | ⟨_, e, _⟩ | ⟨e0, ⟨e1, _⟩ | ⟨_, e⟩ | ⟨e1, _⟩⟩
          · omega
          · exact d13 e
          · omega
          · exact d13 e
          · omega)]
        simp only [am_up]
        rw [if_neg (by omega)]
      · rw [z5 0 14 (fun e => by omega)]; simp [am_up]
    · obtain ⟨τ5, z1, z2, z3, z4, z5⟩ := to_42 (F := F) (kd := 3) (x2 := Int32.ofNat k) (.inr (.inr rfl)) 12 0 F (am_up τ3 0 14 0) (by omega) (by omega)
      have d13 : ¬ (3 : Int32) = 2 := by decide
      refine ⟨τ5, ?_, fun e => by omega, fun e => by omega, fun _ => ⟨fun i hi => ?_, (z3 rfl).2⟩, fun e => absurd rfl e, fun a i q => ?_, ?_⟩
      · show M_takesOther F 3 _ _ = _
        rw [M_takesOther, if_neg (by decide)]
        exact z1
      · rw [(z3 rfl).1 i (by omega) hi, up0 21 _ (by omega)]
      · rw [z5 a i (fun e => by
          rcases e with ⟨_, e, _⟩ | ⟨e0, _, _, e1⟩ | ⟨e0, ⟨_, e⟩ | ⟨e1, _⟩ | ⟨_, e⟩⟩
          · exact d13 e
          · omega
          · exact d13 e
          · omega
          · exact e rfl)]
        simp only [am_up]
        rw [if_neg (by omega)]
      · rw [z5 0 14 (fun e => by omega)]; simp [am_up]
  obtain ⟨τ5, y1, y2, y3, y4, y5, y6, y7⟩ := tak
  have kd0 : ¬ Int32.ofNat kd = 0 := fun e => by have := (kkd 0 (by omega)).mp e; omega
  refine ⟨(Int32.ofNat k, am_up (if kd = 3 then σ4 else C_Past_forget 88 σ4) 157 1 0), (Int32.ofNat k, τ5), ?_, ?_, rfl, ?_⟩
  · rw [C_text_p196, am_let]
  · rw [M_text_p69, am_let, if_neg (tz_nn hk16), if_neg kd0, y1, Option.bind_some]
  · show rl_R (am_up (if kd = 3 then σ4 else C_Past_forget 88 σ4) 157 1 0) τ5
    have f5 : ∀ a j, ¬ ((a = T ∧ j = 2) ∨ a = T + 1 ∨ (a = 88 ∧ j = 3 ∧ kd ≠ 3) ∨ (a = 157 ∧ j = 1)) → am_up (if kd = 3 then σ4 else C_Past_forget 88 σ4) 157 1 0 a j = σ3 a j := fun a j q => by
      simp only [am_up]
      rw [if_neg (by omega)]
      by_cases e : kd = 3
      · rw [if_pos e, f4 a j (by omega)]
      · rw [if_neg e, C_Past_forget, am_let]
        simp only [am_up]
        rw [if_neg (by omega), f4 a j (by omega)]
    have f88 : kd ≠ 3 → am_up (if kd = 3 then σ4 else C_Past_forget 88 σ4) 157 1 0 88 3 = 0 := fun e => by
      rw [if_neg e, C_Past_forget, am_let]; simp [am_up]
    have fT : am_up (if kd = 3 then σ4 else C_Past_forget 88 σ4) 157 1 0 T 2 = Int32.ofNat k := by
      rw [am_up_ne (by omega), ← g1]
      by_cases e : kd = 3
      · rw [if_pos e]
      · rw [if_neg e, C_Past_forget, am_let, am_up_ne (by omega)]
    have fR : ∀ j, j < 64 → am_up (if kd = 3 then σ4 else C_Past_forget 88 σ4) 157 1 0 (T + 1) j = σ3 169 j := fun j hj => by
      rw [am_up_ne (by omega), ← g2 j hj]
      by_cases e : kd = 3
      · rw [if_pos e]
      · rw [if_neg e, C_Past_forget, am_let, am_up_ne (by omega)]
    have f157 : am_up (if kd = 3 then σ4 else C_Past_forget 88 σ4) 157 1 0 157 1 = 0 := by simp [am_up]
    generalize am_up (if kd = 3 then σ4 else C_Past_forget 88 σ4) 157 1 0 = σ5 at f5 f88 fT fR f157 ⊢
    obtain ⟨n1, n2, n3⟩ := tell k σ3 τ3 (σ5 (T + 1)) (τ5 19) (τ5 20) (τ5 21) hk16 vQ u2 u4 fR (fun e => (y2 e).1) (fun e => (y3 e).1) (fun e => (y4 e).1)
    have hT : T = 21 ∨ T = 23 ∨ T = 25 := by rcases hk with ⟨_, e⟩ | ⟨_, e⟩ | ⟨_, e⟩
                                             · exact .inl e
                                             · exact .inr (.inl e)
                                             · exact .inr (.inr e)
    have cx : ∀ a j, ¬ tx_CC a j → σ5 a j = σ a j := fun a j q => by
      rw [f5 a j (tz_q1 hT q), cc3 a j (tz_q2 q)]
    have mx : ∀ a j, ¬ tx_MM a j → τ5 a j = τ a j := fun a j q => by
      rw [y6 a j (tz_q3 q), mm3 a j (tz_q4 q)]
    have cl : ∀ a j, a < 157 → ¬ (a = T ∧ j = 2) → a ≠ T + 1 → ¬ (a = 88 ∧ j = 3) → σ5 a j = σ a j := fun a j q1 q2 q3 q4 => by
      rw [f5 a j (tz_q5 q1 q2 q3 q4), cc3 a j (tz_q6 q1)]
    have ml : ∀ a j, ¬ ((a = 19 ∧ kd = 1 ∧ j < 64) ∨ (a = 20 ∧ kd = 2 ∧ j < 12) ∨ (a = 21 ∧ kd = 3 ∧ j < 12) ∨ (a = 0 ∧ ((j = 36 ∧ kd = 1) ∨ (j = 38 ∧ kd = 2) ∨ (j = 40 ∧ kd = 3) ∨ (j = 3 ∧ kd ≠ 3)))) → ¬ ((a = 0 ∧ (j = 0 ∨ (14 ≤ j ∧ j ≤ 18) ∨ (27 ≤ j ∧ j ≤ 35))) ∨ (12 ≤ a ∧ a ≤ 15 ∧ 16 ≤ j) ∨ ((a = 16 ∨ a = 17) ∧ 400 ≤ j) ∨ a = 18 ∨ (a = 19 ∧ 64 ≤ j) ∨ ((a = 20 ∨ a = 21) ∧ 12 ≤ j)) → τ5 a j = τ a j := fun a j q1 q2 => by
      rw [y6 a j (tz_q7 q1 q2), mm3 a j q2]
    refine tx_gen h cx mx (fun n m q e6 e7 => ?_) (fun m q e7 => ?_) (fun n q e6 => ?_) (fun q => ?_) ?_ ?_ ?_
    · by_cases e : kd = 1
      · have eT : T = 21 := by omega
        subst eT
        rw [fT, (y2 e).2]
        exact n1 e n m e6 e7
      · exact tx_keepOR q (cl 21 2 (by omega) (by omega) (by omega) (by omega)) (ml 0 36 (by omega) (by omega)) (fun j hj => ⟨cl 22 j (by omega) (by omega) (by omega) (by omega), ml 19 j (by omega) (by omega)⟩)
    · by_cases e : kd = 2
      · have eT : T = 23 := by omega
        subst eT
        rw [fT, (y3 e).2]
        exact n2 e m e7
      · exact tx_keepSV q (cl 23 2 (by omega) (by omega) (by omega) (by omega)) (ml 0 38 (by omega) (by omega)) (fun j hj => cl 24 j (by omega) (by omega) (by omega) (by omega)) (fun j hj => ml 20 j (by omega) (by omega))
    · by_cases e : kd = 3
      · have eT : T = 25 := by omega
        subst eT
        rw [fT, (y4 e).2]
        exact n3 e n e6
      · exact tx_keepND q (cl 25 2 (by omega) (by omega) (by omega) (by omega)) (ml 0 40 (by omega) (by omega)) (fun j hj => cl 26 j (by omega) (by omega) (by omega) (by omega)) (fun j hj => ml 21 j (by omega) (by omega))
    · exact tx_keepLW q (cl 16 2 (by omega) (by omega) (by omega) (by omega)) (cl 18 2 (by omega) (by omega) (by omega) (by omega)) (ml 11 0 (by omega) (by omega)) (fun j hj => cl 17 j (by omega) (by omega) (by omega) (by omega)) (fun j hj => cl 19 j (by omega) (by omega) (by omega) (by omega)) (fun j hj => ⟨ml 12 j (by omega) (by omega), ml 13 j (by omega) (by omega), ml 14 j (by omega) (by omega), ml 15 j (by omega) (by omega)⟩) (fun j hj => ⟨ml 16 j (by omega) (by omega), ml 17 j (by omega) (by omega)⟩)
    · by_cases e : kd = 3
      · exact .inl ⟨by rw [f5 88 3 (by omega), cc3 88 3 (by omega)], ml 0 3 (by omega) (by omega)⟩
      · exact .inr ⟨f88 e, y5 e⟩
    · exact tz_TP h.2.2.2.1 f157 y7 (funext (fun j => cx 158 j (by unfold tx_CC; omega))) (funext (fun j => mx 9 j (by unfold tx_MM; omega)))
    · exact ⟨by rw [f5 157 7 (by omega), y6 0 34 (by omega), v6, w34], by rw [f5 157 8 (by omega), y6 0 35 (by omega), v7, w35]⟩
theorem tz_ords {F : Nat} {σ τ : am_SS} (hF : 2000 ≤ F) (h : rl_R σ τ) : ∃ qC qM, C_text F 1 σ = some qC ∧ M_text F 1 τ = some qM ∧ qC.1 = qM.1 ∧ rl_R qC.2 qM.2 := by
  obtain ⟨c, ch, σc, τr, l, a1, b1, hJ, hl, cC, cM, dM⟩ := tz_start (F := F) hF h
  have h' := h
  obtain ⟨hK, ⟨n, m, -, hFS, -, hIS, -⟩, -⟩ := h'
  have o6 := hIS.2.2.1
  have o7 := hIS.2.2.2.1
  have c0 : tz_C σc (am_up σc 168 2 0) := fun a j q => by simp only [am_up]; rw [if_neg (by omega)]
  have cc0 : tz_C σ (am_up σc 168 2 0) := tz_Ct cC c0
  have out := tn_ords (F := F) hF hIS.1 hIS.2.1 401 F F 0 (am_up σc 168 2 0) τr l (by omega) (by omega) (by omega) (by omega) ⟨hJ.1, tx_Aup (by omega) hJ.2.1, hJ.2.2⟩ (by rw [cc0 168 0 (by omega)]; exact hK.2.2.2.2.2.2.2.2.2.2.2.2.2.2.1) (by simp [am_up]) (by rw [cc0 2 0 (by omega), hFS.1, o6]) (by rw [cc0 2 8 (by omega), hFS.2.1, o7]) (by rw [cM 0 6 (by omega), o6]) (by rw [cM 0 7 (by omega), o7]) (fun i hi => by omega)
  refine tz_two (F := F) (kd := 1) (T := 21) (σ0 := am_up σc 168 2 0) (τ0 := τr) (A := C_Reader_readOrders_l10 F F 157 2 0 (am_up σc 168 2 0)) (B := M_readOrders_l2 F F 0 τr) hF h (.inl ⟨rfl, rfl⟩) cC cM dM ?_ ?_ c0 (fun _ _ _ => rfl) (fun _ => rfl) out ?_
  · show C_text F 1 σ = _
    rw [C_text, a1, Option.bind_some, if_neg (by decide), if_pos rfl]
    show (C_Reader_readOrders_l10 F F 157 2 0 (am_up σc 168 2 0)).bind _ = _
    rfl
  · show M_text F 1 τ = _
    rw [tz_M6, if_pos (show M_isIn 1 0 3 = true from rfl), M_readsText, am_let, b1, Option.bind_some, if_pos rfl]
    show ((M_readOrders_l2 F F 0 τr).bind _).bind _ = _
    cases M_readOrders_l2 F F 0 τr <;> rfl
  · intro k σ3 τ3 cells up19 up20 up21 hk hQ f1 f2 hc h19 _ _
    refine ⟨fun _ n' m' e6 e7 => ?_, fun e => by omega, fun e => by omega⟩
    have en : n' = n := (ni_eq (by have := e6.1; omega) (by have := hIS.1; omega)).mp (e6.2.symm.trans o6)
    have em : m' = m := (ni_eq (by have := e7.1; omega) (by have := hIS.2.1; omega)).mp (e7.2.symm.trans o7)
    subst en; subst em
    exact ⟨k, hk, rfl, rfl, fun i hi => or_keep (hQ i hi) (fun j h1 h2 => hc j (by omega)) (fun j h1 h2 => h19 rfl j (by omega))⟩
theorem tz_coup {F : Nat} {σ τ : am_SS} (sv : Bool) (hF : 2000 ≤ F) (h : rl_R σ τ) : ∃ qC qM, C_text F (Int32.ofNat (if sv = true then 2 else 3)) σ = some qC ∧ M_text F (Int32.ofNat (if sv = true then 2 else 3)) τ = some qM ∧ qC.1 = qM.1 ∧ rl_R qC.2 qM.2 := by
  obtain ⟨c, ch, σc, τr, l, a1, b1, hJ, hl, cC, cM, dM⟩ := tz_start (F := F) hF h
  have h' := h
  obtain ⟨hK, ⟨n, m, -, hFS, -, hIS, -⟩, -⟩ := h'
  have o6 := hIS.2.2.1
  have o7 := hIS.2.2.2.1
  have c0 : tz_C σc (am_up σc 168 2 0) := fun a j q => by simp only [am_up]; rw [if_neg (by omega)]
  have cc0 : tz_C σ (am_up σc 168 2 0) := tz_Ct cC c0
  obtain ⟨τ0, y1, y2, y3⟩ := to_2 (F := F) (sv := sv) 12 0 F τr (by omega) (by omega)
  have m0 : tz_M τr τ0 := fun a j q => y3 a j (by omega)
  have mm0 : tz_M τ τ0 := tz_Mt cM m0
  have hJ0 : tx_J ch c (am_up σc 168 2 0) τ0 l := by
    obtain ⟨⟨k0, k1, k2, k3⟩, hA, ⟨t, m1, m2, m3, m4⟩⟩ := hJ
    exact ⟨⟨k0, by rw [y3 0 14 (by omega)]; exact k1, fun j hj => by rw [y3 9 j (by omega)]; exact k2 j hj, fun j hj => by rw [y3 10 _ (by omega)]; exact k3 j hj⟩, tx_Aup (by omega) hA, ⟨t, m1, by rw [y3 0 15 (by omega)]; exact m2, m3, by rw [y3 0 16 (by omega), y3 0 17 (by omega), y3 0 18 (by omega)]; exact m4⟩⟩
  have hQ0 : co_Q n m sv 0 (am_up σc 168 2 0) τ0 := by
    cases sv with
    | true =>
      intro o ho
      rw [(y2 o (by omega) ho).1]
      exact ⟨rfl, .inl rfl⟩
    | false => exact ⟨fun o ho => by rw [(y2 o (by omega) ho).2]; rfl, fun i hi => by omega⟩
  have out := tn_coup (F := F) sv hF hIS.1 hIS.2.1 401 F F 0 (am_up σc 168 2 0) τ0 l (by omega) (by omega) (by omega) (by omega) hJ0 (by rw [cc0 168 0 (by omega)]; exact hK.2.2.2.2.2.2.2.2.2.2.2.2.2.2.1) (by simp [am_up]) (by rw [cc0 2 0 (by omega), hFS.1, o6]) (by rw [cc0 2 8 (by omega), hFS.2.1, o7]) (by rw [mm0 0 6 (by omega), o6]) (by rw [mm0 0 7 (by omega), o7])
    (fun j hj => by rw [cc0 3 j (by omega), mm0 4 j (by omega)]; exact (hFS.2.2 j hj).1) (fun j hj => by rw [cc0 10 j (by omega), mm0 6 j (by omega)]; exact (hFS.2.2 j hj).2.2.1) hQ0
  refine tz_two (F := F) (kd := if sv = true then 2 else 3) (T := if sv = true then 23 else 25) (σ0 := am_up σc 168 2 0) (τ0 := τ0) (A := C_Reader_readCouples_l10 F F 157 2 sv 0 (am_up σc 168 2 0)) (B := M_readOfficers_l36 F F sv 0 τ0) hF h ?_ cC cM dM ?_ ?_ c0 m0 (fun j => y3 0 j (by omega)) out ?_
  · cases sv
    · exact .inr (.inr ⟨rfl, rfl⟩)
    · exact .inr (.inl ⟨rfl, rfl⟩)
  · cases sv with
    | true =>
      show C_text F 2 σ = _
      rw [C_text, a1, Option.bind_some, if_neg (by decide), if_neg (by decide), if_pos rfl]
      show (C_Reader_readCouples_l10 F F 157 2 true 0 (am_up σc 168 2 0)).bind _ = _
      rfl
    | false =>
      show C_text F 3 σ = _
      rw [C_text, a1, Option.bind_some, if_neg (by decide), if_neg (by decide), if_neg (by decide), if_pos rfl]
      show (C_Reader_readCouples_l10 F F 157 2 false 0 (am_up σc 168 2 0)).bind _ = _
      rfl
  · have y1' : ∀ s, s = sv → M_readOfficers F s τr = M_readOfficers_l36 F F sv 0 τ0 := fun s e => by rw [e]; exact y1
    cases sv with
    | true =>
      show M_text F 2 τ = _
      rw [tz_M6, if_pos (show M_isIn 2 0 3 = true from rfl), M_readsText, am_let, b1, Option.bind_some, if_neg (by decide), if_neg (by decide), if_pos rfl, M_readsText_p41, y1' true rfl]
      cases M_readOfficers_l36 F F true 0 τ0 <;> rfl
    | false =>
      show M_text F 3 τ = _
      rw [tz_M6, if_pos (show M_isIn 3 0 3 = true from rfl), M_readsText, am_let, b1, Option.bind_some, if_neg (by decide), if_neg (by decide), if_neg (by decide), M_readsText_p41, y1' false rfl]
      cases M_readOfficers_l36 F F false 0 τ0 <;> rfl
  · intro k σ3 τ3 cells up19 up20 up21 hk hQ f1 f2 hc _ h20 h21
    cases sv with
    | true =>
      refine ⟨fun e => absurd e (by decide), fun _ m' e7 => ?_, fun e => absurd e (by decide)⟩
      have em : m' = m := (ni_eq (by have := e7.1; omega) (by have := hIS.2.1; omega)).mp (e7.2.symm.trans o7)
      subst em
      refine ⟨k, hk, rfl, rfl, fun o ho => ?_⟩
      have := hQ o ho
      rw [(tx_lastk k (fun j hj => hc j (by omega))).1, h20 rfl o ho]
      exact this
    | false =>
      refine ⟨fun e => absurd e (by decide), fun e => absurd e (by decide), fun _ n' e6 => ?_⟩
      have en : n' = n := (ni_eq (by have := e6.1; omega) (by have := hIS.1; omega)).mp (e6.2.symm.trans o6)
      subst en
      refine ⟨k, hk, rfl, rfl, fun o ho => ?_, fun i hi => ?_⟩
      · have := hQ.1 o ho
        rw [(tx_lastk k (fun j hj => hc j (by omega))).2, h21 rfl o ho]
        exact this
      · rw [hc _ (by omega)]; exact hQ.2 i hi
theorem ca_8 (F : Nat) (hF : 2000 ≤ F) : aj_S8 F rl_R := by
  intro y σ τ h
  by_cases v : M_isIn y 0 3 = true
  · rcases tz_kd v with rfl | rfl | rfl | rfl
    · exact tz_law hF h
    · exact tz_ords hF h
    · exact tz_coup true hF h
    · exact tz_coup false hF h
  · obtain ⟨c, ch, σc, τr, l, a1, b1, hJ, hl, cC, cM, dM⟩ := tz_start (F := F) hF h
    have n0 : ∀ x : Int32, M_isIn x 0 3 = true → y ≠ x := fun x hx e => v (e ▸ hx)
    refine ⟨(-1, am_up σc 157 1 0), (-1, am_up (tz_6 τ) 0 14 0), ?_, ?_, rfl, ?_⟩
    · rw [C_text, a1, Option.bind_some, if_neg (n0 0 rfl), if_neg (n0 1 rfl), if_neg (n0 2 rfl), if_neg (n0 3 rfl), C_text_p196, am_let]
    · rw [tz_M6, if_neg v, tz_p69]
    · have c1 : tz_C σ (am_up σc 157 1 0) := tz_Ct cC tz_C7
      have m1 : tz_M τ (am_up (tz_6 τ) 0 14 0) := tz_Mt (tz_6M τ) (tz_M0 (by omega))
      have f7 := hJ.2.1.1.2
      refine tz_rel h c1 m1 (tz_TP h.2.2.2.1 (by simp [am_up]) (by simp [am_up]) (tz_158 c1) (tz_9 m1)) ⟨?_, ?_⟩
      · have := f7.1; simpa [am_up, tz_6] using this
      · have := f7.2; simpa [am_up, tz_6] using this
