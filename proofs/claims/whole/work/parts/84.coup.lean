/-! service and needs -/
theorem co_fail {c : Nat} {ch : Nat → Int32} {σ τ : am_SS} {x : Nat × Int32 × Int32} {l : tx_l} {v : Int32} (h : tx_J ch c σ τ (x :: l)) :
    ∃ σ', C_Reader_readCouples_p139 0 157 (am_up (am_up σ 157 6 v) 157 5 (σ 157 5 + 1)) = some (false, σ') ∧ tx_bad σ' (M_errs 2 τ).2 ∧ tn_F σ σ' ∧ tn_G τ (M_errs 2 τ).2 ∧ (M_errs 2 τ).1 = -1 := by
  obtain ⟨h1, ⟨e0, t, e, b, q⟩, ⟨s0, _, _, _, h3⟩⟩ := h
  have pl : σ 159 t = τ 0 16 := by rw [q.1, h3.1]
  have a5 : am_up (am_up σ 157 6 v) 157 5 (σ 157 5 + 1) 157 5 = Int32.ofNat (t + 1) := by rw [e, ni_succ]; simp [am_up]
  refine ⟨am_up (am_up (am_up (am_up σ 157 6 v) 157 5 (σ 157 5 + 1)) 157 7 2) 157 8 (τ 0 16), ?_, ⟨?_, ?_⟩, ?_, ?_, rfl⟩
  · rw [C_Reader_readCouples_p139, a5, ni_pred (by omega), Nat.add_sub_cancel, C_Reader_fail, am_let, if_neg (ni_nn (by omega)), if_pos (show _ < (401 : Int32) from (ni_lt (b := 401) (by omega) (by omega)).mpr (by omega)), ni_rd (by omega) (by omega), Option.bind_some, C_Reader_fail_p32, am_let, am_up_ne (by omega), am_up_ne (by omega), am_up_ne (by omega), ← pl]
    rfl
  · simp [M_errs, am_let, am_up]
  · simp [M_errs, am_let, am_up]
  · intro a j q
    simp only [am_up]; rw [if_neg (by omega), if_neg (by omega), if_neg (by omega), if_neg (by omega)]
  · intro a j q
    simp only [M_errs, am_let, am_up]; rw [if_neg (by omega), if_neg (by omega)]
theorem co_ho {σ : am_SS} {n o : Nat} (hn : n ≤ 12) (h : σ 2 0 = Int32.ofNat n) (ho : o < n) : C_Front_hasOfficer 2 (Int32.ofNat o) σ = true := by
  rw [C_Front_hasOfficer, if_neg (ni_nn (by omega)), h, if_pos ((ni_lt (by omega) (by omega)).mpr ho), if_pos (show _ < (12 : Int32) from (ni_lt (b := 12) (by omega) (by omega)).mpr (by omega))]
theorem co_hb {σ : am_SS} {n o : Nat} (hn : n ≤ 12) (h : σ 2 8 = Int32.ofNat n) (ho : o < n) : C_Front_hasBatman 2 (Int32.ofNat o) σ = true := by
  rw [C_Front_hasBatman, if_neg (ni_nn (by omega)), h, if_pos ((ni_lt (by omega) (by omega)).mpr ho), if_pos (show _ < (12 : Int32) from (ni_lt (b := 12) (by omega) (by omega)).mpr (by omega))]
def co_out (ch : Nat → Int32) (c k o cnt cell : Nat) (sv : Bool) (l : tx_l) (σ τ : am_SS) (rec10 : Nat → Nat → Bool → Int32 → am_SS → Option (Bool × am_SS)) (A : Option (Bool × am_SS)) (B : Option (Int32 × am_SS)) (new : Nat → Int32) : Prop :=
  (∃ σ' τ', A = some (false, σ') ∧ B = some (-1, τ') ∧ tx_bad σ' τ' ∧ tn_F σ σ' ∧ tn_G τ τ') ∨
  (∃ l' σ' τ' b, l'.length < l.length ∧ A = rec10 157 2 sv (Int32.ofNat (k + 1)) σ' ∧ B = some (0, τ') ∧ tx_J ch c σ' τ' l' ∧ σ' 168 0 = 4 ∧ σ' 168 2 = Int32.ofNat (k + 1) ∧ (∀ j, j < 4 * k → σ' 169 j = σ 169 j) ∧ σ' 169 (4 * k) = Int32.ofNat o ∧ σ' 169 (4 * k + 1) = Int32.ofNat b ∧ b < cnt ∧ (∀ j, τ' cell j = if j = 12 + o then new b else τ cell j) ∧ tn_F σ σ' ∧ tn_G τ τ')
/-- the mark, and the class's row; the reference has written new into its cell -/
theorem co_M {F c k o cnt cell b : Nat} {ch : Nat → Int32} {sv : Bool} {σ τ : am_SS} {l0 l : tx_l} {new : Nat → Int32} {rec10 : Nat → Nat → Bool → Int32 → am_SS → Option (Bool × am_SS)} (hF : 2000 ≤ F) (hc : cell = 20 ∨ cell = 21) (hJ : tx_J ch c σ τ l) (h0 : σ 168 0 = 4) (h2 : σ 168 2 = Int32.ofNat k) (hk : k < 16) (h6 : σ 157 6 = Int32.ofNat b) (hb : b < cnt) (hl : l.length ≤ l0.length) (ho : o < 12) :
    co_out ch c k o cnt cell sv l0 σ τ rec10 (C_Reader_readCouples_p151 rec10 F 157 2 sv (Int32.ofNat k) (Int32.ofNat o) σ) ((M_readMark F 59 (am_up τ cell (12 + o) (new b))).bind (fun q_4 => some (q_4.1, q_4.2))) new := by
  have gg : tn_G τ (am_up τ cell (12 + o) (new b)) := fun a j q => by simp only [am_up]; rw [if_neg (by omega)]
  rcases tn_mark (F := F) hF (tn_row (a := cell) (k := 12 + o) (v := new b) (by omega) hJ) with ⟨x, l', τ', e, a1, a2, a3, a4⟩ | ⟨σ', τ', a1, a2, a3, a4, a5⟩
  · right
    have e6 : am_up σ 157 5 (σ 157 5 + 1) 157 6 = Int32.ofNat b := by rw [← h6]; simp [am_up]
    obtain ⟨r, σ2, b1, b2, b3, b4, b5, b6, b7, b8, b9, b10⟩ := tn_add (F := F) (k := k) (x1 := Int32.ofNat o) (x2 := Int32.ofNat b) (x3 := 0) (x4 := 0) hF a3 (by rw [am_up_ne (by omega)]; exact h0) (by rw [am_up_ne (by omega)]; exact h2) hk
    refine ⟨l', σ2, τ', b, by rw [e, List.length_cons] at hl; omega, ?_, by rw [a2]; rfl, b2, b3, b4, fun j hj => by rw [b5 j hj, am_up_ne (by omega)], b6, b7, hb, fun j => ?_, fun a j q => ?_, tn_Gt gg (tn_GD a4)⟩
    · rw [C_Reader_readCouples_p151, a1, Option.bind_some, if_pos rfl]
      dsimp only
      rw [e6]
      show (C_Table_add F 168 _ _ _ _ _).bind _ = _
      rw [b1, Option.bind_some, am_let, ni_succ]
    · rw [a4 cell j (by omega)]
      simp [am_up]
    · rw [b10 a j (by omega)]; simp only [am_up]; rw [if_neg (by omega)]
  · left
    exact ⟨σ', τ', by rw [C_Reader_readCouples_p151, a1, Option.bind_some, if_neg (by exact Bool.false_ne_true)], by rw [a2]; rfl, a3, tn_FF a4, tn_Gt gg (tn_GG a5)⟩
/-- whom a line gives him: of the batmen -/
theorem co_S {F c k n m o : Nat} {ch : Nat → Int32} {σ τ : am_SS} {l : tx_l} {rec10 : Nat → Nat → Bool → Int32 → am_SS → Option (Bool × am_SS)} (hF : 2000 ≤ F) (hn : n ≤ 12) (hm : m ≤ 12) (hJ : tx_J ch c σ τ l) (h0 : σ 168 0 = 4) (h2 : σ 168 2 = Int32.ofNat k) (hk : k < 16) (ho : o < n)
    (s1 : σ 2 0 = Int32.ofNat n) (s2 : σ 2 8 = Int32.ofNat m) (t2 : τ 0 7 = Int32.ofNat m) (s3 : ∀ j, j < 12 → σ 3 j = τ 4 j) (s4 : ∀ j, j < 12 → σ 10 j = τ 6 j) :
    co_out ch c k o m 20 true l σ τ rec10 (C_Reader_readCouples_p96 rec10 F 157 2 true (Int32.ofNat k) (Int32.ofNat o) 157 false (Int32.ofNat m) σ)
      (if (τ 0 17) = 3 then (if (τ 0 18) < (τ 0 7) then (am_rd τ 6 12 (τ 0 18)).bind (fun t_8 => (am_rd τ 4 12 (Int32.ofNat o)).bind (fun t_9 => if t_8 = t_9 then am_let (M_errs 2 τ) (fun q_11 => some (q_11.1, q_11.2)) else M_readService_p83 F (Int32.ofNat o) τ)) else M_readService_p83 F (Int32.ofNat o) τ) else M_readService_p83 F (Int32.ofNat o) τ) (fun b => Int32.ofNat (b + 1)) := by
  have eC : C_Reader_readCouples_p96 rec10 F 157 2 true (Int32.ofNat k) (Int32.ofNat o) 157 false (Int32.ofNat m) σ = (C_Reader_takes 157 0 (Int32.ofNat m - 1) σ).bind (fun q_1 => if q_1.1 = true then (C_Reader_canServe 2 (Int32.ofNat o) (q_1.2 157 6) q_1.2).bind (fun q_6 => if q_6 = true then C_Reader_readCouples_p151 rec10 F 157 2 true (Int32.ofNat k) (Int32.ofNat o) q_1.2 else C_Reader_readCouples_p139 F 157 q_1.2) else some (false, q_1.2)) := by
    rw [C_Reader_readCouples_p96]; rfl
  rw [eC]
  rcases tn_num (F := F) (lo := 0) (hi := Int32.ofNat m - 1) hF hJ with ⟨x, l', b, τ', e, f2, f3, f4, f5, f6, f7, f8, f9, f10⟩ | ⟨σ', τ', kk, f1, f2, f3, f4, f5, f6, f7⟩
  · subst e
    have hb := or_lt hm f2 f4
    have e6 : am_up (am_up σ 157 6 (Int32.ofNat b)) 157 5 ((σ 157 5) + 1) 157 6 = Int32.ofNat b := by simp [am_up]
    have cs : ∀ a, a ≠ 157 → am_up (am_up σ 157 6 (Int32.ofNat b)) 157 5 ((σ 157 5) + 1) a = σ a := fun a q => by rw [am_up_ne q, am_up_ne q]
    rw [f7, Option.bind_some, if_pos rfl]
    dsimp only
    rw [e6]
    have can : C_Reader_canServe 2 (Int32.ofNat o) (Int32.ofNat b) (am_up (am_up σ 157 6 (Int32.ofNat b)) 157 5 ((σ 157 5) + 1)) = some (if τ 4 o = τ 6 b then false else true) := by
      rw [C_Reader_canServe, co_ho hn (by rw [cs 2 (by omega)]; exact s1) ho, if_pos rfl, co_hb hm (by rw [cs 2 (by omega)]; exact s2) hb, if_pos rfl, ni_rd (by omega) (by omega), Option.bind_some, ni_rd (by omega) (by omega), Option.bind_some, cs (2 + 1) (by omega), cs (2 + 8) (by omega), s3 o (by omega), s4 b (by omega)]
      split <;> rfl
    rw [can, Option.bind_some, if_pos f5, f6, t2, if_pos ((ni_lt (by omega) (by omega)).mpr hb), ni_rd (by omega) (by omega), Option.bind_some, ni_rd (by omega) (by omega), Option.bind_some]
    by_cases q : τ 4 o = τ 6 b
    · rw [if_pos q, if_neg (by decide), if_pos q.symm]
      left
      obtain ⟨σ2, a1, a2, a3, a4, a5⟩ := co_fail (v := Int32.ofNat b) hJ
      exact ⟨σ2, (M_errs 2 τ).2, a1, by rw [am_let, a5], a2, a3, a4⟩
    · rw [if_neg q, if_pos rfl, if_neg (fun e => q e.symm), M_readService_p83, t2, f8, Option.bind_some, if_neg (tn_nn b f2), show (12 : Int32) + Int32.ofNat o = Int32.ofNat (12 + o) from ni_add 12 o, ni_wr (by omega) (by omega), Option.bind_some, ni_succ]
      rcases co_M (F := F) (k := k) (cell := 20) (cnt := m) (b := b) (sv := true) (l0 := l') (new := fun b => Int32.ofNat (b + 1)) (rec10 := rec10) hF (.inl rfl) f9 (by rw [cs 168 (by omega)]; exact h0) (by rw [cs 168 (by omega)]; exact h2) hk e6 hb (Nat.le_refl _) (show o < 12 by omega) with ⟨σ2, τ2, a1, a2, a3, a4, a5⟩ | ⟨l2, σ2, τ2, b2, a1, a2, a3, a4, a5, a6, a7, a8, a9, a10, a11, a12, a13⟩
      · exact .inl ⟨σ2, τ2, a1, a2, a3, tn_Ft (tn_FF tx_up7) a4, tn_Gt (tn_GD f10) a5⟩
      · exact .inr ⟨l2, σ2, τ2, b2, by rw [List.length_cons]; omega, a2, a3, a4, a5, a6, fun j hj => by rw [a7 j hj, cs 169 (by omega)], a8, a9, a10, fun j => by rw [a11 j]; split; rfl; exact f10 20 j (by omega), tn_Ft (tn_FF tx_up7) a12, tn_Gt (tn_GD f10) a13⟩
  · left
    have eB : (if (τ 0 17) = 3 then (if (τ 0 18) < (τ 0 7) then (am_rd τ 6 12 (τ 0 18)).bind (fun t_8 => (am_rd τ 4 12 (Int32.ofNat o)).bind (fun t_9 => if t_8 = t_9 then am_let (M_errs 2 τ) (fun q_11 => some (q_11.1, q_11.2)) else M_readService_p83 F (Int32.ofNat o) τ)) else M_readService_p83 F (Int32.ofNat o) τ) else M_readService_p83 F (Int32.ofNat o) τ) = M_readService_p83 F (Int32.ofNat o) τ := by
      rcases f6 with ⟨_, f6⟩ | ⟨_, f6, ⟨w, w1, w2⟩, f8⟩
      · rw [if_neg f6]
      · rw [if_pos f6, if_neg]
        rw [w2, t2]
        intro g
        have := (ni_lt (by omega) (by omega)).mp g
        apply f8
        rw [w2]
        refine ⟨(ni_le (a := 0) (by omega) (by omega)).mpr (by omega), ?_⟩
        rw [ni_pred (by omega)]
        exact (ni_le (by omega) (by omega)).mpr (by omega)
    refine ⟨σ', τ', by rw [f1, Option.bind_some, if_neg (by exact Bool.false_ne_true)], ?_, f3, tn_FF f4, tn_GG f5⟩
    rw [eB, M_readService_p83, t2, f2, Option.bind_some, if_pos rfl]
/-- of the officers -/
theorem co_N {F c k n o : Nat} {ch : Nat → Int32} {σ τ : am_SS} {l : tx_l} {rec10 : Nat → Nat → Bool → Int32 → am_SS → Option (Bool × am_SS)} (hF : 2000 ≤ F) (hn : n ≤ 12) (hJ : tx_J ch c σ τ l) (h0 : σ 168 0 = 4) (h2 : σ 168 2 = Int32.ofNat k) (hk : k < 16) (ho : o < n)
    (s1 : σ 2 0 = Int32.ofNat n) (t1 : τ 0 6 = Int32.ofNat n) (s3 : ∀ j, j < 12 → σ 3 j = τ 4 j) :
    co_out ch c k o n 21 false l σ τ rec10 (C_Reader_readCouples_p96 rec10 F 157 2 false (Int32.ofNat k) (Int32.ofNat o) 157 false (Int32.ofNat n) σ)
      (if (τ 0 17) = 3 then (if (τ 0 18) < (τ 0 6) then (if (τ 0 18) = Int32.ofNat o then M_readNeed_p85 F τ else (am_rd τ 4 12 (τ 0 18)).bind (fun t_9 => (am_rd τ 4 12 (Int32.ofNat o)).bind (fun t_10 => if t_9 = t_10 then M_readNeed_p91 F (Int32.ofNat o) τ else M_readNeed_p85 F τ))) else M_readNeed_p91 F (Int32.ofNat o) τ) else M_readNeed_p91 F (Int32.ofNat o) τ) (fun b => τ 21 (12 + o) ||| (1 <<< (Int32.ofNat b &&& 31))) := by
  have eC : C_Reader_readCouples_p96 rec10 F 157 2 false (Int32.ofNat k) (Int32.ofNat o) 157 false (Int32.ofNat n) σ = (C_Reader_takes 157 0 (Int32.ofNat n - 1) σ).bind (fun q_1 => if q_1.1 = true then (C_Reader_canNeed 2 (Int32.ofNat o) (q_1.2 157 6) q_1.2).bind (fun q_6 => if q_6 = true then C_Reader_readCouples_p151 rec10 F 157 2 false (Int32.ofNat k) (Int32.ofNat o) q_1.2 else C_Reader_readCouples_p139 F 157 q_1.2) else some (false, q_1.2)) := by
    rw [C_Reader_readCouples_p96]; rfl
  rw [eC]
  rcases tn_num (F := F) (lo := 0) (hi := Int32.ofNat n - 1) hF hJ with ⟨x, l', b, τ', e, f2, f3, f4, f5, f6, f7, f8, f9, f10⟩ | ⟨σ', τ', kk, f1, f2, f3, f4, f5, f6, f7⟩
  · subst e
    have hb := or_lt hn f2 f4
    have e6 : am_up (am_up σ 157 6 (Int32.ofNat b)) 157 5 ((σ 157 5) + 1) 157 6 = Int32.ofNat b := by simp [am_up]
    have cs : ∀ a, a ≠ 157 → am_up (am_up σ 157 6 (Int32.ofNat b)) 157 5 ((σ 157 5) + 1) a = σ a := fun a q => by rw [am_up_ne q, am_up_ne q]
    rw [f7, Option.bind_some, if_pos rfl]
    dsimp only
    rw [e6]
    have can : C_Reader_canNeed 2 (Int32.ofNat o) (Int32.ofNat b) (am_up (am_up σ 157 6 (Int32.ofNat b)) 157 5 ((σ 157 5) + 1)) = some (if o = b then false else if τ 4 o = τ 4 b then true else false) := by
      rw [C_Reader_canNeed, co_ho hn (by rw [cs 2 (by omega)]; exact s1) ho, if_pos rfl, co_ho hn (by rw [cs 2 (by omega)]; exact s1) hb, if_pos rfl]
      by_cases q : o = b
      · rw [if_pos (by rw [q]), if_pos q]
      · rw [if_neg (fun g => q ((ni_eq (by omega) (by omega)).mp g)), if_neg q, ni_rd (by omega) (by omega), Option.bind_some, ni_rd (by omega) (by omega), Option.bind_some, cs (2 + 1) (by omega), s3 o (by omega), s3 b (by omega)]
        split <;> rfl
    have bad : co_out ch c k o n 21 false (x :: l') σ τ rec10 (C_Reader_readCouples_p139 F 157 (am_up (am_up σ 157 6 (Int32.ofNat b)) 157 5 ((σ 157 5) + 1))) (M_readNeed_p85 F τ) (fun b => τ 21 (12 + o) ||| (1 <<< (Int32.ofNat b &&& 31))) := by
      left
      obtain ⟨σ2, a1, a2, a3, a4, a5⟩ := co_fail (v := Int32.ofNat b) hJ
      exact ⟨σ2, (M_errs 2 τ).2, a1, by rw [M_readNeed_p85, am_let, a5], a2, a3, a4⟩
    rw [can, Option.bind_some, if_pos f5, f6, t1, if_pos ((ni_lt (by omega) (by omega)).mpr hb)]
    by_cases q0 : o = b
    · rw [if_pos q0, if_neg (by decide), if_pos (show Int32.ofNat b = Int32.ofNat o by rw [q0])]; exact bad
    rw [if_neg q0, if_neg (fun g => q0 ((ni_eq (by omega) (by omega)).mp g).symm), ni_rd (by omega) (by omega), Option.bind_some, ni_rd (by omega) (by omega), Option.bind_some]
    by_cases q : τ 4 o = τ 4 b
    · rw [if_pos q, if_pos rfl, if_pos q.symm, M_readNeed_p91, t1, f8, Option.bind_some, if_neg (tn_nn b f2), show (12 : Int32) + Int32.ofNat o = Int32.ofNat (12 + o) from ni_add 12 o]
      dsimp only
      rw [ni_rd (by omega) (by omega), Option.bind_some, ni_wr (by omega) (by omega), Option.bind_some, f10 21 _ (by omega)]
      rcases co_M (F := F) (k := k) (cell := 21) (cnt := n) (b := b) (sv := false) (l0 := l') (new := fun b => τ 21 (12 + o) ||| (1 <<< (Int32.ofNat b &&& 31))) (rec10 := rec10) hF (.inr rfl) f9 (by rw [cs 168 (by omega)]; exact h0) (by rw [cs 168 (by omega)]; exact h2) hk e6 hb (Nat.le_refl _) (show o < 12 by omega) with ⟨σ2, τ2, a1, a2, a3, a4, a5⟩ | ⟨l2, σ2, τ2, b2, a1, a2, a3, a4, a5, a6, a7, a8, a9, a10, a11, a12, a13⟩
      · exact .inl ⟨σ2, τ2, a1, a2, a3, tn_Ft (tn_FF tx_up7) a4, tn_Gt (tn_GD f10) a5⟩
      · exact .inr ⟨l2, σ2, τ2, b2, by rw [List.length_cons]; omega, a2, a3, a4, a5, a6, fun j hj => by rw [a7 j hj, cs 169 (by omega)], a8, a9, a10, fun j => by rw [a11 j]; split; rfl; exact f10 21 j (by omega), tn_Ft (tn_FF tx_up7) a12, tn_Gt (tn_GD f10) a13⟩
    · rw [if_neg q, if_neg (by decide), if_neg (fun e => q e.symm)]; exact bad
  · left
    have eB : (if (τ 0 17) = 3 then (if (τ 0 18) < (τ 0 6) then (if (τ 0 18) = Int32.ofNat o then M_readNeed_p85 F τ else (am_rd τ 4 12 (τ 0 18)).bind (fun t_9 => (am_rd τ 4 12 (Int32.ofNat o)).bind (fun t_10 => if t_9 = t_10 then M_readNeed_p91 F (Int32.ofNat o) τ else M_readNeed_p85 F τ))) else M_readNeed_p91 F (Int32.ofNat o) τ) else M_readNeed_p91 F (Int32.ofNat o) τ) = M_readNeed_p91 F (Int32.ofNat o) τ := by
      rcases f6 with ⟨_, f6⟩ | ⟨_, f6, ⟨w, w1, w2⟩, f8⟩
      · rw [if_neg f6]
      · rw [if_pos f6, if_neg]
        rw [w2, t1]
        intro g
        have := (ni_lt (by omega) (by omega)).mp g
        apply f8
        rw [w2]
        refine ⟨(ni_le (a := 0) (by omega) (by omega)).mpr (by omega), ?_⟩
        rw [ni_pred (by omega)]
        exact (ni_le (by omega) (by omega)).mpr (by omega)
    refine ⟨σ', τ', by rw [f1, Option.bind_some, if_neg (by exact Bool.false_ne_true)], ?_, f3, tn_FF f4, tn_GG f5⟩
    rw [eB, M_readNeed_p91, t1, f2, Option.bind_some, if_pos rfl]
def co_Q (n m : Nat) (sv : Bool) (k : Nat) (σ τ : am_SS) : Prop := match sv with
  | true => ∀ o, o < 12 → rl_last (σ 169) o k = τ 20 (12 + o) - 1 ∧ (τ 20 (12 + o) = 0 ∨ ∃ b, b < m ∧ τ 20 (12 + o) = Int32.ofNat (b + 1))
  | false => (∀ o, o < 12 → rl_all (σ 169) o k = τ 21 (12 + o)) ∧ ∀ i, i < k → ∃ q, q < n ∧ σ 169 (4 * i + 1) = Int32.ofNat q
def co_new (sv : Bool) (τ : am_SS) (o b : Nat) : Int32 := if sv = true then Int32.ofNat (b + 1) else τ 21 (12 + o) ||| (1 <<< (Int32.ofNat b &&& 31))
theorem co_step {n m k o b : Nat} {sv : Bool} {σ σ' τ τ0 τ' : am_SS} (h : co_Q n m sv k σ τ) (ho : o < 12) (hk : k ≤ 16) (h1 : ∀ j, j < 4 * k → σ' 169 j = σ 169 j) (h2 : σ' 169 (4 * k) = Int32.ofNat o) (h3 : σ' 169 (4 * k + 1) = Int32.ofNat b) (hb : b < (if sv = true then m else n))
    (h0 : ∀ j, τ0 (if sv = true then 20 else 21) j = τ (if sv = true then 20 else 21) j) (h4 : ∀ j, τ' (if sv = true then 20 else 21) j = if j = 12 + o then co_new sv τ0 o b else τ0 (if sv = true then 20 else 21) j) : co_Q n m sv (k + 1) σ' τ' := by
  have ne : ∀ o', o' < 12 → (Int32.ofNat o = Int32.ofNat o' ↔ o = o') := fun o' h' => ni_eq (by omega) (by omega)
  cases sv with
  | true =>
    simp only [if_true] at h0 h4 hb
    intro o' ho'
    rw [rl_last, h2, h3, (tx_lastk k h1).1]
    by_cases q : o = o'
    · subst q
      rw [if_pos rfl, h4, if_pos rfl, co_new, if_pos rfl, ni_pred (by omega), Nat.add_sub_cancel]
      exact ⟨rfl, .inr ⟨b, hb, rfl⟩⟩
    · rw [if_neg (fun g => q ((ne o' ho').mp g)), h4, if_neg (by omega), h0]
      exact h o' ho'
  | false =>
    simp only [Bool.false_eq_true, if_false] at h0 h4 hb
    refine ⟨fun o' ho' => ?_, fun i hi => ?_⟩
    · rw [rl_all, h2, h3, (tx_lastk k h1).2]
      by_cases q : o = o'
      · subst q
        rw [if_pos rfl, h4, if_pos rfl, co_new, if_neg (by decide), h0, h.1 o ho]
      · rw [if_neg (fun g => q ((ne o' ho').mp g)), h4, if_neg (by omega), h0]
        exact h.1 o' ho'
    · by_cases q : i < k
      · rw [h1 _ (by omega)]; exact h.2 i q
      · have e : i = k := by omega
        subst e
        exact ⟨b, hb, h3⟩
theorem tn_coup {F c n m : Nat} {ch : Nat → Int32} (sv : Bool) (hF : 2000 ≤ F) (hn : n ≤ 12) (hm : m ≤ 12) : ∀ (N gC gM k : Nat) (σ τ : am_SS) (l : tx_l), l.length < N → N ≤ gC → N ≤ gM → k ≤ 16 → tx_J ch c σ τ l → σ 168 0 = 4 → σ 168 2 = Int32.ofNat k →
    σ 2 0 = Int32.ofNat n → σ 2 8 = Int32.ofNat m → τ 0 6 = Int32.ofNat n → τ 0 7 = Int32.ofNat m → (∀ j, j < 12 → σ 3 j = τ 4 j) → (∀ j, j < 12 → σ 10 j = τ 6 j) → co_Q n m sv k σ τ →
    tn_out σ τ (C_Reader_readCouples_l10 F gC 157 2 sv (Int32.ofNat k) σ) (M_readOfficers_l36 F gM sv (Int32.ofNat k) τ) (co_Q n m sv) := by
  intro N
  induction N with
  | zero => intro gC gM k σ τ l h; omega
  | succ N ih =>
    intro gC gM k σ τ l hN hgC hgM hk hJ h0 h2 s1 s2 t1 t2 s3 s4 hQ
    obtain ⟨gC, rfl⟩ : ∃ z, gC = z + 1 := ⟨gC - 1, by omega⟩
    obtain ⟨gM, rfl⟩ : ∃ z, gM = z + 1 := ⟨gM - 1, by omega⟩
    have k16 : ¬ (16 : Int32) < Int32.ofNat k := fun g => by have := (ni_lt (a := 16) (by omega) (by omega)).mp g; omega
    cases l with
    | nil =>
      obtain ⟨q1, q2, q3⟩ := tn_word0 (w := 22) hJ
      refine ⟨true, σ, Int32.ofNat k, τ, ?_, tn_F0, ?_, tn_G0, .inr ⟨rfl, k, rfl, hk, h2, hJ.2.1.1.2.1, hJ.2.1.1.2.2, hQ⟩⟩
      · rw [C_Reader_readCouples_l10, if_neg k16, q1, Option.bind_some, if_pos rfl]
      · rw [M_readOfficers_l36, q3, if_neg (by decide), if_pos q2]
    | cons x l1 =>
      obtain ⟨kk, q1, q0⟩ := tx_cons hJ
      have cA : C_Reader_readCouples_l10 F (gC + 1) 157 2 sv (Int32.ofNat k) σ = (C_Reader_opens 157 (Int32.ofNat k) 22 22 σ).bind (fun q_4 =>
        if q_4.1 = true then (
        (C_Reader_takes 157 0 ((q_4.2 2 0) - 1) q_4.2).bind (fun q_6 =>
        if q_6.1 = true then (
        C_Reader_readCouples_p71 (C_Reader_readCouples_l10 F gC) F 157 2 sv (Int32.ofNat k) (q_6.2 157 6) 157 (if sv = true then 23 else 24) q_6.2)
        else (
        some (false, q_6.2))))
        else (
        some (false, q_4.2))) := by
        rw [C_Reader_readCouples_l10, if_neg k16, q1, Option.bind_some, if_neg q0]
        cases sv <;> rfl
      have bad0 : ∀ e : Int32, C_Reader_opens 157 (Int32.ofNat k) 22 22 σ = (C_Reader_fail 157 e (σ 157 5) σ).bind (fun q => some (q.1, q.2)) → M_readOfficers_l36 F (gM + 1) sv (Int32.ofNat k) τ = some ((M_errs e τ).1, (M_errs e τ).2) →
          tn_out σ τ (C_Reader_readCouples_l10 F (gC + 1) 157 2 sv (Int32.ofNat k) σ) (M_readOfficers_l36 F (gM + 1) sv (Int32.ofNat k) τ) (co_Q n m sv) := by
        intro e a b
        obtain ⟨σ', a1, a2, a3, a4, a5, a6⟩ := tn_failJ e hJ
        exact ⟨false, σ', -1, (M_errs e τ).2, by rw [cA, a, a1, Option.bind_some, if_neg (by exact Bool.false_ne_true)], a2, by rw [b, a3], a5, .inl ⟨rfl, rfl, a4⟩⟩
      rcases tn_word (F := F) (w := 22) (by decide) hJ hk with ⟨w1, w2⟩ | ⟨w1, w2, w3⟩
      case inr => exact bad0 1 w3 (by rw [M_readOfficers_l36, w1, if_neg (by decide), if_neg w2]; rfl)
      by_cases wk : k < 16
      case neg =>
        rw [if_neg wk] at w2
        exact bad0 3 w2 (by rw [M_readOfficers_l36, w1, if_pos rfl, if_pos (show Int32.ofNat k = 16 by rw [show k = 16 by omega]; rfl)]; rfl)
      rw [if_pos wk] at w2
      have nk : ¬ Int32.ofNat k = 16 := fun g => by have := (ni_eq (b := 16) (by omega) (by omega)).mp g; omega
      simp only [List.length_cons] at hN
      obtain ⟨τ1, r1, r2, r3⟩ := tx_step (F := F) hF (tx_J6 (v := τ 0 18) hJ)
      have e5 : am_up σ 157 6 (τ 0 18) 157 5 = σ 157 5 := by simp [am_up]
      rw [e5] at r2
      rw [w2, Option.bind_some, if_pos rfl] at cA
      dsimp only at cA
      have c20 : am_up (am_up σ 157 6 (τ 0 18)) 157 5 (σ 157 5 + 1) 2 0 = Int32.ofNat n := by rw [am_up_ne (by omega), am_up_ne (by omega)]; exact s1
      rw [c20] at cA
      -- the reference's line
      have mB : M_readOfficers_l36 F (gM + 1) sv (Int32.ofNat k) τ = (M_readNumber F 0 (Int32.ofNat n - 1) τ1).bind (fun q_1 =>
          if q_1.1 = (-1) then some ((-1), q_1.2)
          else (if (M_isWord (if sv = true then 23 else 24) q_1.2) = true then
            (M_reads F q_1.2).bind (fun q_5 =>
              ((if sv = true then (if (q_5 0 17) = 3 then (if (q_5 0 18) < (q_5 0 7) then (am_rd q_5 6 12 (q_5 0 18)).bind (fun t_8 => (am_rd q_5 4 12 q_1.1).bind (fun t_9 => if t_8 = t_9 then am_let (M_errs 2 q_5) (fun q_11 => some (q_11.1, q_11.2)) else M_readService_p83 F q_1.1 q_5)) else M_readService_p83 F q_1.1 q_5) else M_readService_p83 F q_1.1 q_5)
               else (if (q_5 0 17) = 3 then (if (q_5 0 18) < (q_5 0 6) then (if (q_5 0 18) = q_1.1 then M_readNeed_p85 F q_5 else (am_rd q_5 4 12 (q_5 0 18)).bind (fun t_9 => (am_rd q_5 4 12 q_1.1).bind (fun t_10 => if t_9 = t_10 then M_readNeed_p91 F q_1.1 q_5 else M_readNeed_p85 F q_5))) else M_readNeed_p91 F q_1.1 q_5) else M_readNeed_p91 F q_1.1 q_5))).bind (fun q_8 => M_readOfficers_p72 (M_readOfficers_l36 F gM) F sv (Int32.ofNat k) q_8.1 q_8.2))
            else some ((M_errs 1 q_1.2).1, (M_errs 1 q_1.2).2))) := by
        rw [M_readOfficers_l36, w1, if_pos rfl, if_neg nk]
        cases sv with
        | true =>
          rw [if_pos rfl, M_readService, M_readTold, w1, if_pos rfl, r1, Option.bind_some, t1]
          cases M_readNumber F 0 (Int32.ofNat n - 1) τ1 with
          | none => rfl
          | some X =>
            simp only [Option.bind_some, if_true]
            by_cases g : X.1 = -1
            · rw [if_pos g, if_pos g, Option.bind_some]; rfl
            · rw [if_neg g, if_neg g]
              by_cases g2 : M_isWord 23 X.2 = true
              · rw [if_pos g2, if_pos g2]
                cases M_reads F X.2 with
                | none => rfl
                | some Y => rfl
              · rw [if_neg g2, if_neg g2]; rfl
        | false =>
          rw [if_neg (by decide), M_readNeed, M_readTold, w1, if_pos rfl, r1, Option.bind_some, t1]
          cases M_readNumber F 0 (Int32.ofNat n - 1) τ1 with
          | none => rfl
          | some X =>
            simp only [Option.bind_some, Bool.false_eq_true, if_false]
            by_cases g : X.1 = -1
            · rw [if_pos g, if_pos g, Option.bind_some]; rfl
            · rw [if_neg g, if_neg g]
              by_cases g2 : M_isWord 24 X.2 = true
              · rw [if_pos g2, if_pos g2]
                cases M_reads F X.2 with
                | none => rfl
                | some Y => rfl
              · rw [if_neg g2, if_neg g2]; rfl
      have ff1 : tn_F σ (am_up (am_up σ 157 6 (τ 0 18)) 157 5 (σ 157 5 + 1)) := tn_FF tx_up7
      rcases tn_num (F := F) (lo := 0) (hi := Int32.ofNat n - 1) hF r2 with ⟨y, l2, o, τ2, e, f2, f3, f4, f5, f6, f7, f8, f9, f10⟩ | ⟨σ2, τ2, kk2, f1, f2, f3, f4, f5, f6, f7⟩
      case inr =>
        exact ⟨false, σ2, -1, τ2, by rw [cA, f1, Option.bind_some, if_neg (by exact Bool.false_ne_true)], tn_Ft ff1 (tn_FF f4), by rw [mB, f2, Option.bind_some, if_pos rfl], tn_Gt (tn_GD r3) (tn_GG f5), .inl ⟨rfl, rfl, f3⟩⟩
      subst e
      simp only [List.length_cons] at hN
      have ho := or_lt hn f2 f4
      rw [f7, Option.bind_some, if_pos rfl] at cA
      dsimp only at cA
      generalize hσ2 : am_up (am_up (am_up (am_up σ 157 6 (τ 0 18)) 157 5 (σ 157 5 + 1)) 157 6 (Int32.ofNat o)) 157 5 (am_up (am_up σ 157 6 (τ 0 18)) 157 5 (σ 157 5 + 1) 157 5 + 1) = σ2 at cA f9
      have e6 : σ2 157 6 = Int32.ofNat o := by rw [← hσ2]; simp [am_up]
      have g2 : ∀ a j, a ≠ 157 → σ2 a j = σ a j := fun a j q => by rw [← hσ2]; simp [am_up, q]
      have ff2 : tn_F σ σ2 := by
        intro a j q; rw [← hσ2]; simp only [am_up]; rw [if_neg (by omega), if_neg (by omega), if_neg (by omega), if_neg (by omega)]
      have gg2 : tn_G τ τ2 := tn_Gt (tn_GD r3) (tn_GD f10)
      rw [e6] at cA
      rw [f8, Option.bind_some, if_neg (tn_nn o f2)] at mB
      dsimp only at mB
      have wn : (if sv = true then (23 : Int32) else 24) ≠ -1 := by cases sv <;> decide
      rcases tx_word (s := if sv = true then (23 : Int32) else 24) f9 wn with ⟨z, l3, e, e1, e2, e3, e4, cW, mW⟩ | ⟨cW, mW⟩
      case inr =>
        obtain ⟨σ', a1, a2, a3, a4, a5, a6⟩ := tn_failJ 1 f9
        refine ⟨false, σ', -1, (M_errs 1 τ2).2, ?_, tn_Ft ff2 a2, by rw [mB, if_neg (by rw [mW]; decide), a3], tn_Gt gg2 a5, .inl ⟨rfl, rfl, a4⟩⟩
        rw [cA, C_Reader_readCouples_p71, C_Reader_word, cW, Option.bind_some, if_neg (by decide), a6, Option.bind_some, Option.bind_some, if_neg (by exact Bool.false_ne_true)]
      subst e
      simp only [List.length_cons] at hN
      obtain ⟨τ3, b1, b2, b3⟩ := tx_step (F := F) hF f9
      rw [if_pos mW, b1, Option.bind_some] at mB
      have g3 : ∀ a j, a ≠ 157 → am_up σ2 157 5 (σ2 157 5 + 1) a j = σ a j := fun a j q => by rw [am_up_ne q, g2 a j q]
      have ff3 : tn_F σ (am_up σ2 157 5 (σ2 157 5 + 1)) := tn_Ft ff2 (tn_FF tx_up5)
      have gg3 : tn_G τ τ3 := tn_Gt gg2 (tn_GD b3)
      have cB : C_Reader_readCouples_l10 F (gC + 1) 157 2 sv (Int32.ofNat k) σ = C_Reader_readCouples_p96 (C_Reader_readCouples_l10 F gC) F 157 2 sv (Int32.ofNat k) (Int32.ofNat o) 157 false (if sv = true then Int32.ofNat m else Int32.ofNat n) (am_up σ2 157 5 (σ2 157 5 + 1)) := by
        rw [cA, C_Reader_readCouples_p71, C_Reader_word, cW, Option.bind_some, if_pos rfl, am_let, Option.bind_some, if_pos rfl]
        dsimp only
        rw [g3 2 8 (by omega), g3 2 0 (by omega), s1, s2]
        cases sv <;> rfl
      -- the rest of the line
      have rest : co_out ch c k o (if sv = true then m else n) (if sv = true then 20 else 21) sv l3 (am_up σ2 157 5 (σ2 157 5 + 1)) τ3 (C_Reader_readCouples_l10 F gC) (C_Reader_readCouples_l10 F (gC + 1) 157 2 sv (Int32.ofNat k) σ)
          ((if sv = true then (if (τ3 0 17) = 3 then (if (τ3 0 18) < (τ3 0 7) then (am_rd τ3 6 12 (τ3 0 18)).bind (fun t_8 => (am_rd τ3 4 12 (Int32.ofNat o)).bind (fun t_9 => if t_8 = t_9 then am_let (M_errs 2 τ3) (fun q_11 => some (q_11.1, q_11.2)) else M_readService_p83 F (Int32.ofNat o) τ3)) else M_readService_p83 F (Int32.ofNat o) τ3) else M_readService_p83 F (Int32.ofNat o) τ3)
               else (if (τ3 0 17) = 3 then (if (τ3 0 18) < (τ3 0 6) then (if (τ3 0 18) = Int32.ofNat o then M_readNeed_p85 F τ3 else (am_rd τ3 4 12 (τ3 0 18)).bind (fun t_9 => (am_rd τ3 4 12 (Int32.ofNat o)).bind (fun t_10 => if t_9 = t_10 then M_readNeed_p91 F (Int32.ofNat o) τ3 else M_readNeed_p85 F τ3))) else M_readNeed_p91 F (Int32.ofNat o) τ3) else M_readNeed_p91 F (Int32.ofNat o) τ3))) (co_new sv τ3 o) := by
        rw [cB]
        have x0 : am_up σ2 157 5 (σ2 157 5 + 1) 168 0 = 4 := by rw [g3 168 0 (by omega)]; exact h0
        have x2 : am_up σ2 157 5 (σ2 157 5 + 1) 168 2 = Int32.ofNat k := by rw [g3 168 2 (by omega)]; exact h2
        have x1 : am_up σ2 157 5 (σ2 157 5 + 1) 2 0 = Int32.ofNat n := by rw [g3 2 0 (by omega)]; exact s1
        have x8 : am_up σ2 157 5 (σ2 157 5 + 1) 2 8 = Int32.ofNat m := by rw [g3 2 8 (by omega)]; exact s2
        have y3 : ∀ j, j < 12 → am_up σ2 157 5 (σ2 157 5 + 1) 3 j = τ3 4 j := fun j hj => by rw [g3 3 j (by omega), gg3 4 j (by omega)]; exact s3 j hj
        have y4 : ∀ j, j < 12 → am_up σ2 157 5 (σ2 157 5 + 1) 10 j = τ3 6 j := fun j hj => by rw [g3 10 j (by omega), gg3 6 j (by omega)]; exact s4 j hj
        cases sv with
        | true => exact co_S (F := F) hF hn hm b2 x0 x2 wk ho x1 x8 (by rw [gg3 0 7 (by omega)]; exact t2) y3 y4
        | false => exact co_N (F := F) hF hn b2 x0 x2 wk ho x1 (by rw [gg3 0 6 (by omega)]; exact t1) y3
      rcases rest with ⟨σ', τ', a1, a2, a3, a4, a5⟩ | ⟨l', σ', τ', b, a1, a2, a3, a4, a5, a6, a7, a8, a9, a10, a11, a12, a13⟩
      · refine ⟨false, σ', -1, τ', a1, tn_Ft ff3 a4, ?_, tn_Gt gg3 a5, .inl ⟨rfl, rfl, a3⟩⟩
        rw [mB, a2, Option.bind_some, M_readOfficers_p72, if_pos rfl]
      · have ffT := tn_Ft ff3 a12
        have ggT := tn_Gt gg3 a13
        have cell0 : ∀ j, τ3 (if sv = true then 20 else 21) j = τ (if sv = true then 20 else 21) j := fun j => by
          have u : ∀ a, a = 20 ∨ a = 21 → τ3 a j = τ a j := fun a ha => by rw [b3 a j (by omega), f10 a j (by omega), r3 a j (by omega)]
          cases sv
          · exact u 21 (.inr rfl)
          · exact u 20 (.inl rfl)
        have hQ' := co_step (n := n) (m := m) (sv := sv) (σ' := σ') (τ' := τ') hQ (show o < 12 by omega) hk (fun j hj => by rw [a7 j hj, g3 169 j (by omega)]) a8 a9 a10 cell0 a11
        have z := ih gC gM (k + 1) σ' τ' l' (by omega) (by omega) (by omega) (by omega) a4 a5 a6 (by rw [ffT 2 0 (by omega)]; exact s1) (by rw [ffT 2 8 (by omega)]; exact s2) (by rw [ggT 0 6 (by omega)]; exact t1) (by rw [ggT 0 7 (by omega)]; exact t2) (fun j hj => by rw [ffT 3 j (by omega), ggT 4 j (by omega)]; exact s3 j hj) (fun j hj => by rw [ffT 10 j (by omega), ggT 6 j (by omega)]; exact s4 j hj) hQ'
        obtain ⟨b', σ4, r, τ4, z1, z2, z3, z4, z5⟩ := z
        refine ⟨b', σ4, r, τ4, by rw [a2, z1], tn_Ft ffT z2, ?_, tn_Gt ggT z4, z5⟩
        rw [mB, a3, Option.bind_some, M_readOfficers_p72, if_neg (by exact tx_01), am_let, ni_succ, z3]
