/-! L3: feast, feed -/
theorem ca_22 (F : Nat) : aj_S22 F rl_R := by
  intro y w σ τ h
  have h := rl_told h 0
  simp only [C_feast, M_feast]
  simp only [am_let, C_Sums_feastDay]
  generalize am_up τ 0 0 0 = τ at h ⊢
  by_cases q1 : M_isIn y 1600 2400 = true
  · have q1' := ni_in.mp q1
    rw [if_neg (by grind), if_neg (by grind), if_pos q1]
    by_cases q2 : M_isIn w 0 1 = true
    · have q2' := ni_in.mp q2
      rw [if_neg (by grind), if_neg (by grind), if_pos q2]
      by_cases q3 : w = 0
      · rw [if_pos q3, if_pos q3]; exact ⟨_, _, rfl, rfl, rfl, h⟩
      · rw [if_neg q3, if_neg q3]; exact ⟨_, _, rfl, rfl, rfl, h⟩
    · rw [if_neg q2]
      have := mt ni_in.mpr q2
      by_cases q3 : w < 0
      · rw [if_pos q3]; exact ⟨_, _, rfl, rfl, rfl, h⟩
      · rw [if_neg q3, if_pos (by grind)]; exact ⟨_, _, rfl, rfl, rfl, h⟩
  · rw [if_neg q1]
    have := mt ni_in.mpr q1
    by_cases q3 : y < 1600
    · rw [if_pos q3]; exact ⟨_, _, rfl, rfl, rfl, h⟩
    · rw [if_neg q3, if_pos (by grind)]; exact ⟨_, _, rfl, rfl, rfl, h⟩
/-- a state with one cell's row set -/
def am_row (σ : am_SS) (a : Nat) (g : Nat → Int32) : am_SS := fun b => if b = a then g else σ b
theorem am_row_ne {σ : am_SS} {a b : Nat} {g : Nat → Int32} (h : b ≠ a) : am_row σ a g b = σ b := by simp [am_row, h]
theorem am_row_eq {σ : am_SS} {a : Nat} {g : Nat → Int32} : am_row σ a g a = g := by simp [am_row]
theorem rl_pf_row {σ : am_SS} {a : Nat} {g : Nat → Int32} (h : a < 91 ∨ 156 < a) : rl_pf (am_row σ a g) = rl_pf σ := by
  funext q c j
  simp only [rl_pf]
  by_cases q' : q < 6 ∧ c < 11
  · rw [if_pos q', if_pos q', am_row_ne (by omega)]
  · rw [if_neg q', if_neg q']
theorem rl_W_row {σ : am_SS} {a : Nat} {g : Nat → Int32} {τ : am_SS} (h : a < 39 ∨ 76 < a) : rl_W (am_row σ a g) 39 τ ↔ rl_W σ 39 τ := by
  have e : ∀ c, c < 38 → am_row σ a g (39 + c) = σ (39 + c) := fun c hc => am_row_ne (by omega)
  simp only [rl_W, e 1 (by omega), e 2 (by omega), e 3 (by omega), e 4 (by omega), e 5 (by omega), e 6 (by omega), e 7 (by omega), e 8 (by omega), e 9 (by omega), e 10 (by omega), e 11 (by omega), e 12 (by omega), e 13 (by omega), e 15 (by omega), e 16 (by omega), e 17 (by omega), e 18 (by omega), e 20 (by omega), e 21 (by omega), e 22 (by omega), e 23 (by omega), e 24 (by omega), e 25 (by omega), e 26 (by omega), e 27 (by omega), e 28 (by omega), e 29 (by omega), e 30 (by omega), e 31 (by omega), e 32 (by omega), e 33 (by omega), e 34 (by omega), e 35 (by omega), e 36 (by omega), e 37 (by omega)]
theorem rl_IM_row {has mh : Int32} {σ : am_SS} {a : Nat} {g im : Nat → Int32} (h : a < 39 ∨ 76 < a) : rl_IM has mh (am_row σ a g) im ↔ rl_IM has mh σ im := by
  simp only [rl_IM, rl_W_row h]
/-- the state with another tape -/
def fd_C (σ : am_SS) (c : Int32) (g : Nat → Int32) : am_SS := am_row (am_up σ 157 1 c) 158 g
def fd_M (τ : am_SS) (c : Int32) (g : Nat → Int32) : am_SS := am_row (am_up τ 0 14 c) 9 g
theorem fd_C1 {σ : am_SS} {c : Int32} {g : Nat → Int32} : fd_C σ c g 157 1 = c := by simp [fd_C, am_row, am_up]
theorem fd_C2 {σ : am_SS} {c : Int32} {g : Nat → Int32} : fd_C σ c g 158 = g := by simp [fd_C, am_row]
theorem fd_M1 {σ : am_SS} {c : Int32} {g : Nat → Int32} : fd_M σ c g 0 14 = c := by simp [fd_M, am_row, am_up]
theorem fd_M2 {σ : am_SS} {c : Int32} {g : Nat → Int32} : fd_M σ c g 9 = g := by simp [fd_M, am_row]
theorem fd_C3 {σ : am_SS} {c c' : Int32} {g : Nat → Int32} {k : Nat} {v : Int32} : am_up (am_up (fd_C σ c g) 158 k v) 157 1 c' = fd_C σ c' (upd g k v) := by
  funext b j
  by_cases h : b = 158
  · subst h; simp [fd_C, am_row, am_up, upd]
  · by_cases h' : b = 157 ∧ j = 1
    · obtain ⟨rfl, rfl⟩ := h'; simp [fd_C, am_row, am_up]
    · simp [fd_C, am_row, am_up, h, h']
theorem fd_M3 {σ : am_SS} {c c' : Int32} {g : Nat → Int32} {k : Nat} {v : Int32} : am_up (am_up (fd_M σ c g) 9 k v) 0 14 c' = fd_M σ c' (upd g k v) := by
  funext b j
  by_cases h : b = 9
  · subst h; simp [fd_M, am_row, am_up, upd]
  · by_cases h' : b = 0 ∧ j = 14
    · obtain ⟨rfl, rfl⟩ := h'; simp [fd_M, am_row, am_up]
    · simp [fd_M, am_row, am_up, h, h']
theorem fd_C0 {σ : am_SS} : fd_C σ (σ 157 1) (σ 158) = σ := by
  funext b j
  by_cases h : b = 158
  · subst h; simp [fd_C, am_row, am_up, upd]
  · by_cases h' : b = 157 ∧ j = 1
    · obtain ⟨rfl, rfl⟩ := h'; simp [fd_C, am_row, am_up]
    · simp [fd_C, am_row, am_up, h, h']
theorem fd_M0 {σ : am_SS} : fd_M σ (σ 0 14) (σ 9) = σ := by
  funext b j
  by_cases h : b = 9
  · subst h; simp [fd_M, am_row, am_up, upd]
  · by_cases h' : b = 0 ∧ j = 14
    · obtain ⟨rfl, rfl⟩ := h'; simp [fd_M, am_row, am_up]
    · simp [fd_M, am_row, am_up, h, h']
theorem by_bv (x : BitVec 32) (s : Nat) (hs : s ≤ 24) : (x >>> s) &&& 255#32 = (x.sshiftRight s) &&& 255#32 := by
  apply BitVec.eq_of_getLsbD_eq
  intro i hi
  by_cases h : i < 8
  · simp only [BitVec.getLsbD_and, BitVec.getLsbD_ushiftRight, BitVec.getLsbD_sshiftRight]
    have a : ¬ 32 ≤ i := by omega
    have b : s + i < 32 := by omega
    simp [a, b]
  · have z : (255#32).getLsbD i = false := by
      have : ∀ i : Fin 32, ¬ i.val < 8 → (255#32).getLsbD i.val = false := by decide
      exact this ⟨i, hi⟩ h
    simp [BitVec.getLsbD_and, z]
theorem by_255 (x : Int32) : rl_rg (x &&& 255) 0 255 := by
  have h : (x &&& 255).toBitVec.toNat ≤ 255 := by
    rw [Int32.toBitVec_and, BitVec.toNat_and]
    exact Nat.and_le_right
  have e : x &&& 255 = Int32.ofNat ((x &&& 255).toBitVec.toNat) := by
    apply Int32.toBitVec_inj.mp
    show _ = BitVec.ofNat 32 _
    rw [BitVec.ofNat_toNat, BitVec.setWidth_eq]
  rw [e]
  exact ⟨Int32.not_lt.mp (ni_nn (by omega)), (ni_le (b := 255) (by omega) (by omega)).mpr h⟩
/-- the byte at s -/
def by_s (x s : Int32) : Int32 := (x >>> (s &&& 31)) &&& 255
theorem by_24 (x : Int32) : (((x).toUInt32 >>> ((24 : Int32).toUInt32 &&& Int32.toUInt32 31)).toInt32) &&& 255 = by_s x 24 := by
  apply Int32.toBitVec_inj.mp
  exact by_bv x.toBitVec 24 (by omega)
theorem by_16 (x : Int32) : (((x).toUInt32 >>> ((16 : Int32).toUInt32 &&& Int32.toUInt32 31)).toInt32) &&& 255 = by_s x 16 := by
  apply Int32.toBitVec_inj.mp
  exact by_bv x.toBitVec 16 (by omega)
theorem by_8 (x : Int32) : (((x).toUInt32 >>> ((8 : Int32).toUInt32 &&& Int32.toUInt32 31)).toInt32) &&& 255 = by_s x 8 := by
  apply Int32.toBitVec_inj.mp
  exact by_bv x.toBitVec 8 (by omega)
theorem by_0 (x : Int32) : (((x).toUInt32 >>> ((0 : Int32).toUInt32 &&& Int32.toUInt32 31)).toInt32) &&& 255 = by_s x 0 := by
  apply Int32.toBitVec_inj.mp
  exact by_bv x.toBitVec 0 (by omega)
/-- four bytes behind the tape -/
def fd_4 (g : Nat → Int32) (c : Nat) (x : Int32) : Nat → Int32 := upd (upd (upd (upd g c (by_s x 24)) (c + 1) (by_s x 16)) (c + 2) (by_s x 8)) (c + 3) (by_s x 0)
theorem fd_put {F c : Nat} {σ : am_SS} {g : Nat → Int32} (x : Int32) (hF : 2000 ≤ F) (hc : c + 4 ≤ 400) :
    C_Reader_put F 157 x (fd_C σ (Int32.ofNat c) g) = some (fd_C σ (Int32.ofNat (c + 4)) (fd_4 g c x)) := by
  obtain ⟨k, rfl⟩ : ∃ k, F = k + 5 := ⟨F - 5, by omega⟩
  have st : ∀ (j c' : Nat) (s v : Int32) (g : Nat → Int32), c' < 400 → ¬ s < 0 → (((x).toUInt32 >>> ((s : Int32).toUInt32 &&& Int32.toUInt32 31)).toInt32) &&& 255 = v →
      C_Reader_put_l3 (k + 5) (j + 1) 157 x s (fd_C σ (Int32.ofNat c') g) = C_Reader_put_l3 (k + 5) j 157 x (s + (-8)) (fd_C σ (Int32.ofNat (c' + 1)) (upd g c' v)) := by
    intro j c' s v g hc' hs hv
    rw [C_Reader_put_l3, if_neg hs, fd_C1, if_pos (show _ < (400 : Int32) from (ni_lt (b := 400) (by omega) (by omega)).mpr hc'), hv, ni_wr hc' (by omega), Option.bind_some, am_let, am_let]
    rw [show am_up (fd_C σ (Int32.ofNat c') g) (157 + 1) c' v 157 1 = Int32.ofNat c' from by rw [am_up_ne (by omega)]; exact fd_C1, ni_succ, fd_C3]
  rw [C_Reader_put, st (k + 4) c 24 _ g (by omega) (by decide) (by_24 x), show (24 : Int32) + -8 = 16 from rfl, st (k + 3) (c + 1) 16 _ _ (by omega) (by decide) (by_16 x), show (16 : Int32) + -8 = 8 from rfl, st (k + 2) (c + 1 + 1) 8 _ _ (by omega) (by decide) (by_8 x), show (8 : Int32) + -8 = 0 from rfl, st (k + 1) (c + 1 + 1 + 1) 0 _ _ (by omega) (by decide) (by_0 x),
    C_Reader_put_l3, if_pos (by decide)]
  rfl
theorem fd_types {F c : Nat} {σ : am_SS} {g : Nat → Int32} (x : Int32) (hF : 2000 ≤ F) (hc : c + 4 ≤ 400) :
    M_types F x (fd_M σ (Int32.ofNat c) g) = some (fd_M σ (Int32.ofNat (c + 4)) (fd_4 g c x)) := by
  obtain ⟨k, rfl⟩ : ∃ k, F = k + 5 := ⟨F - 5, by omega⟩
  have st : ∀ (j c' : Nat) (s : Int32) (g : Nat → Int32), c' < 400 → ¬ s < 0 →
      M_types_l3 (k + 5) (j + 1) x s (fd_M σ (Int32.ofNat c') g) = M_types_l3 (k + 5) j x (s + (-8)) (fd_M σ (Int32.ofNat (c' + 1)) (upd g c' (by_s x s))) := by
    intro j c' s g hc' hs
    rw [M_types_l3, if_neg hs, fd_M1, ni_wr hc' (by omega), Option.bind_some, am_let, am_let]
    rw [show am_up (fd_M σ (Int32.ofNat c') g) 9 c' ((x >>> (s &&& 31)) &&& 255) 0 14 = Int32.ofNat c' from by rw [am_up_ne (by omega)]; exact fd_M1, ni_succ, fd_M3]
    rfl
  rw [M_types, st (k + 4) c 24 g (by omega) (by decide), show (24 : Int32) + -8 = 16 from rfl, st (k + 3) (c + 1) 16 _ (by omega) (by decide), show (16 : Int32) + -8 = 8 from rfl, st (k + 2) (c + 1 + 1) 8 _ (by omega) (by decide), show (8 : Int32) + -8 = 0 from rfl, st (k + 1) (c + 1 + 1 + 1) 0 _ (by omega) (by decide),
    M_types_l3, if_pos (by decide)]
  rfl
theorem fd_ok {g g' : Nat → Int32} (x : Int32) {c : Nat} (h : ∀ k, k < 400 → g k = g' k ∧ rl_rg (g' k) 0 255) : ∀ k, k < 400 → fd_4 g c x k = fd_4 g' c x k ∧ rl_rg (fd_4 g' c x k) 0 255 := by
  intro k hk
  have b : ∀ s, rl_rg (by_s x s) 0 255 := fun s => by_255 _
  simp only [fd_4, upd]
  by_cases h3 : k = c + 3
  · simp [h3, b]
  by_cases h2 : k = c + 2
  · simp [h2, b]
  by_cases h1 : k = c + 1
  · simp [h1, b]
  by_cases h0 : k = c
  · simp [h0, b]
  simpa [h0, h1, h2, h3] using h k hk
theorem ca_6 (F : Nat) (hF : 2000 ≤ F) : aj_S6 F rl_R := by
  intro x1 x2 x3 x4 x5 σ τ h
  have h := rl_told h 0
  simp only [C_feed, M_feed, am_let]
  generalize am_up τ 0 0 0 = τ at h ⊢
  have h' := h
  obtain ⟨hK, ⟨n, m, hFR, hFS, hIR, hIS, hBK, hGU, hLE, hKY, hBI, hQU, hCO, hOR, hSV, hND, hLW⟩, hPS, hTP, hFT, hIM⟩ := h'
  obtain ⟨c, hc, e1, e2, e3⟩ := hTP
  rw [e1, e2, show Int32.ofNat c + 20 = Int32.ofNat (c + 20) from ni_add c 20]
  by_cases q : c + 20 ≤ 400
  · rw [if_neg (fun g : (400 : Int32) < _ => absurd ((ni_lt (a := 400) (by omega) (by omega)).mp g) (by omega)), if_neg (fun g : (380 : Int32) < _ => absurd ((ni_lt (a := 380) (by omega) (by omega)).mp g) (by omega))]
    have eC : σ = fd_C σ (Int32.ofNat c) (σ 158) := by rw [← e1]; exact fd_C0.symm
    have eM : τ = fd_M τ (Int32.ofNat c) (τ 9) := by rw [← e2]; exact fd_M0.symm
    have pC : (C_Reader_put F 157 x1 σ).bind (fun q_2 => (C_Reader_put F 157 x2 q_2).bind (fun q_3 => (C_Reader_put F 157 x3 q_3).bind (fun q_4 => (C_Reader_put F 157 x4 q_4).bind (fun q_5 => (C_Reader_put F 157 x5 q_5).bind (fun q_6 => some ((q_6 157 1), q_6)))))) =
        some (Int32.ofNat (c + 4 + 4 + 4 + 4 + 4), fd_C σ (Int32.ofNat (c + 4 + 4 + 4 + 4 + 4)) (fd_4 (fd_4 (fd_4 (fd_4 (fd_4 (σ 158) c x1) (c + 4) x2) (c + 4 + 4) x3) (c + 4 + 4 + 4) x4) (c + 4 + 4 + 4 + 4) x5)) := by
      conv => lhs; rw [eC]
      rw [fd_put x1 hF (by omega), Option.bind_some, fd_put x2 hF (by omega), Option.bind_some, fd_put x3 hF (by omega), Option.bind_some, fd_put x4 hF (by omega), Option.bind_some, fd_put x5 hF (by omega), Option.bind_some, fd_C1]
    have pM : (M_types F x1 τ).bind (fun q_2 => (M_types F x2 q_2).bind (fun q_3 => (M_types F x3 q_3).bind (fun q_4 => (M_types F x4 q_4).bind (fun q_5 => (M_types F x5 q_5).bind (fun q_6 => some ((q_6 0 14), q_6)))))) =
        some (Int32.ofNat (c + 4 + 4 + 4 + 4 + 4), fd_M τ (Int32.ofNat (c + 4 + 4 + 4 + 4 + 4)) (fd_4 (fd_4 (fd_4 (fd_4 (fd_4 (τ 9) c x1) (c + 4) x2) (c + 4 + 4) x3) (c + 4 + 4 + 4) x4) (c + 4 + 4 + 4 + 4) x5)) := by
      conv => lhs; rw [eM]
      rw [fd_types x1 hF (by omega), Option.bind_some, fd_types x2 hF (by omega), Option.bind_some, fd_types x3 hF (by omega), Option.bind_some, fd_types x4 hF (by omega), Option.bind_some, fd_types x5 hF (by omega), Option.bind_some, fd_M1]
    rw [pC, pM]
    refine ⟨_, _, rfl, rfl, rfl, ?_⟩
    simp only [fd_C, fd_M]
    refine ⟨?_, ⟨n, m, ?_, ?_, ?_, ?_, ?_, ?_, ?_, ?_, ?_, ?_, ?_, ?_, ?_, ?_, ?_⟩, ?_, ?_, ?_, ?_⟩
    · simpa [am_row_ne, am_up_ap, am_up_ne, am_up_row] using hK
    · simpa [am_row_ne, am_up_ap, am_up_ne, am_up_row] using hFR
    · simpa [am_row_ne, am_up_ap, am_up_ne, am_up_row] using hFS
    · simpa [am_row_ne, am_up_ap, am_up_ne, am_up_row] using hIR
    · simpa [am_row_ne, am_up_ap, am_up_ne, am_up_row] using hIS
    · simpa [am_row_ne, am_up_ap, am_up_ne, am_up_row] using hBK
    · simpa [am_row_ne, am_up_ap, am_up_ne, am_up_row] using hGU
    · simpa [am_row_ne, am_up_ap, am_up_ne, am_up_row] using hLE
    · simpa [am_row_ne, am_up_ap, am_up_ne, am_up_row] using hKY
    · simpa [am_row_ne, am_up_ap, am_up_ne, am_up_row] using hBI
    · simpa [am_row_ne, am_up_ap, am_up_ne, am_up_row] using hQU
    · simpa [am_row_ne, am_up_ap, am_up_ne, am_up_row] using hCO
    · simpa [am_row_ne, am_up_ap, am_up_ne, am_up_row] using hOR
    · simpa [am_row_ne, am_up_ap, am_up_ne, am_up_row] using hSV
    · simpa [am_row_ne, am_up_ap, am_up_ne, am_up_row] using hND
    · simpa [am_row_ne, am_up_ap, am_up_ne, am_up_row] using hLW
    · simpa [am_row_ne, am_up_ap, am_up_ne, am_up_row, rl_pf_row, rl_pf_up] using hPS
    · refine ⟨c + 4 + 4 + 4 + 4 + 4, by omega, by simp [am_row_ne, am_up_ap], by simp [am_row_ne, am_up_ap], ?_⟩
      rw [am_row_eq, am_row_eq]
      exact fd_ok x5 (fd_ok x4 (fd_ok x3 (fd_ok x2 (fd_ok x1 e3))))
    · simpa [am_row_ne, am_up_ap, am_up_ne, am_up_row] using hFT
    · simpa [am_row_ne, am_up_ap, am_up_ne, am_up_row, rl_IM_row, rl_IM_up] using hIM
  · rw [if_pos (show (400 : Int32) < _ from (ni_lt (a := 400) (by omega) (by omega)).mpr (by omega)), if_pos (show (380 : Int32) < _ from (ni_lt (a := 380) (by omega) (by omega)).mpr (by omega))]
    exact ⟨_, _, rfl, rfl, rfl, h⟩
