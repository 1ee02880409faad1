/-! L3: area, within -/
theorem wy_at {c i : Nat} {σ : am_SS} (hc : c ≤ 8) (w : σ 37 0 = 2) (e1 : σ 37 2 = Int32.ofNat c) (hi : i < c) :
    C_Table_at 37 (Int32.ofNat i) 0 σ = some (σ 38 (2 * i)) ∧ C_Table_at 37 (Int32.ofNat i) 1 σ = some (σ 38 (2 * i + 1)) := by
  constructor
  · rw [show (0 : Int32) = Int32.ofNat 0 from rfl, tb_at (w := 2) 16 e1 w rfl hi (by omega) (by omega) (by omega) (by omega) (by omega), Nat.mul_comm i 2]; rfl
  · rw [show (1 : Int32) = Int32.ofNat 1 from rfl, tb_at (w := 2) 16 e1 w rfl hi (by omega) (by omega) (by omega) (by omega) (by omega), Nat.mul_comm i 2]
theorem wy_next {c i : Nat} {τ : am_SS} (hc : c ≤ 8) (e2 : τ 0 59 = Int32.ofNat c) (hi : i < c) : M_nextCorner (Int32.ofNat i) τ = some (Int32.ofNat (if i + 1 < c then i + 1 else 0)) := by
  rw [M_nextCorner, e2, if_neg (fun g : _ = (0 : Int32) => absurd ((ni_eq (b := 0) (by omega) (by omega)).mp g) (by omega)), ni_succ, ni_mod (by omega) (by omega)]
  congr 2
  split
  · next q => exact Nat.mod_eq_of_lt q
  · next q => rw [show i + 1 = c from by omega, Nat.mod_self]
theorem ar_loop {F c : Nat} {σ τ : am_SS} (hc : c ≤ 8) (hc2 : 2 < c) (w : σ 37 0 = 2) (e1 : σ 37 2 = Int32.ofNat c) (e2 : τ 0 59 = Int32.ofNat c)
    (e3 : ∀ k, k < 8 → σ 38 (2 * k) = τ 36 k ∧ σ 38 (2 * k + 1) = τ 37 k) :
    ∀ (d j k k' : Nat) (acc : Int32), j + d = c → d < k → d < k' → ∃ r, C_Ways_twiceArea_l4 F k 37 acc (Int32.ofNat j) σ = some r ∧ M_area_l9 F k' acc (Int32.ofNat j) τ = some (r, τ) := by
  intro d
  induction d with
  | zero =>
    intro j k k' acc hj hk hk'
    obtain ⟨k, rfl⟩ : ∃ n', k = n' + 1 := ⟨k - 1, by omega⟩
    obtain ⟨k', rfl⟩ : ∃ n', k' = n' + 1 := ⟨k' - 1, by omega⟩
    rw [C_Ways_twiceArea_l4, M_area_l9, e1, e2, if_neg (fun g => absurd ((ni_lt (by omega) (by omega)).mp g) (by omega)), if_neg (fun g => absurd ((ni_lt (by omega) (by omega)).mp g) (by omega))]
    exact ⟨_, rfl, rfl⟩
  | succ d ih =>
    intro j k k' acc hj hk hk'
    obtain ⟨k, rfl⟩ : ∃ n', k = n' + 1 := ⟨k - 1, by omega⟩
    obtain ⟨k', rfl⟩ : ∃ n', k' = n' + 1 := ⟨k' - 1, by omega⟩
    have hj' : j < c := by omega
    have hn : (if j + 1 < c then j + 1 else 0) < c := by split <;> omega
    rw [C_Ways_twiceArea_l4, M_area_l9, e1, e2, if_pos ((ni_lt (by omega) (by omega)).mpr hj'), if_pos ((ni_lt (by omega) (by omega)).mpr hj'), if_pos (show (2 : Int32) < _ from (ni_lt (a := 2) (by omega) (by omega)).mpr hc2)]
    have eC : (if Int32.ofNat j + 1 < Int32.ofNat c then C_Ways_twiceArea_p29 (C_Ways_twiceArea_l4 F k) F 37 acc (Int32.ofNat j) (Int32.ofNat j + 1) σ else C_Ways_twiceArea_p29 (C_Ways_twiceArea_l4 F k) F 37 acc (Int32.ofNat j) 0 σ)
        = C_Ways_twiceArea_p29 (C_Ways_twiceArea_l4 F k) F 37 acc (Int32.ofNat j) (Int32.ofNat (if j + 1 < c then j + 1 else 0)) σ := by
      rw [ni_succ]
      by_cases q : j + 1 < c
      · rw [if_pos ((ni_lt (by omega) (by omega)).mpr q), if_pos q]
      · rw [if_neg (fun g => q ((ni_lt (by omega) (by omega)).mp g)), if_neg q]; rfl
    rw [eC, C_Ways_twiceArea_p29, (wy_at hc w e1 hj').1, (wy_at hc w e1 hj').2, (wy_at hc w e1 hn).1, (wy_at hc w e1 hn).2, wy_next hc e2 hj']
    generalize (if j + 1 < c then j + 1 else 0) = s at hn ⊢
    simp only [Option.bind_some, am_let, ni_succ]
    rw [ni_rd (by omega) (by omega), ni_rd (by omega) (by omega), ni_rd (by omega) (by omega), ni_rd (by omega) (by omega)]
    simp only [Option.bind_some]
    rw [(e3 j (by omega)).1, (e3 j (by omega)).2, (e3 s (by omega)).1, (e3 s (by omega)).2]
    rw [show acc + (τ 36 j * τ 37 s - τ 36 s * τ 37 j) = acc + τ 36 j * τ 37 s - τ 36 s * τ 37 j from by grind]
    exact ih (j + 1) k k' _ (by omega) (by omega) (by omega)
theorem ca_32 (F : Nat) (hF : 2000 ≤ F) : aj_S32 F rl_R := by
  intro σ τ h
  have h := rl_told h 0
  simp only [C_area, M_area, am_let]
  generalize am_up τ 0 0 0 = τ at h ⊢
  have h' := h
  obtain ⟨hK, ⟨n, m, hFR, hFS, hIR, hIS, hBK, hGU, hLE, hKY, hBI, hQU, hCO, hOR, hSV, hND, hLW⟩, hPS, hTP, hFT, hIM⟩ := h'
  obtain ⟨c, hc, e1, e2, e3⟩ := hCO
  have w : σ 37 0 = 2 := hK.2.2.2.2.2.2.2.2.2.2.2.1
  by_cases q : 2 < c
  · obtain ⟨r, r1, r2⟩ := ar_loop (F := F) hc q w e1 e2 (fun k hk => ⟨(e3 k hk).1, (e3 k hk).2.1⟩) c 0 F F 0 (by omega) (by omega) (by omega)
    rw [show Int32.ofNat 0 = 0 from rfl] at r1 r2
    rw [C_Ways_twiceArea, r1, r2]
    exact ⟨_, _, rfl, rfl, rfl, h⟩
  · have eM : M_area_l9 F F 0 0 τ = some (0, τ) := by
      obtain ⟨k, rfl⟩ : ∃ k, F = k + 1 := ⟨F - 1, by omega⟩
      rw [M_area_l9, e2]
      by_cases q0 : (0 : Int32) < Int32.ofNat c
      · rw [if_pos q0, if_neg (fun g : (2 : Int32) < _ => q ((ni_lt (a := 2) (by omega) (by omega)).mp g))]
      · rw [if_neg q0]
    have eC : C_Ways_twiceArea F 37 σ = some 0 := by
      obtain ⟨k, rfl⟩ : ∃ k, F = k + 3 := ⟨F - 3, by omega⟩
      rw [C_Ways_twiceArea]
      rcases (by omega : c = 0 ∨ c = 1 ∨ c = 2) with rfl | rfl | rfl
      · rw [C_Ways_twiceArea_l4, e1, if_neg (by decide)]
      · have a := wy_at (i := 0) hc w e1 (by omega)
        rw [show Int32.ofNat 0 = 0 from rfl] at a
        rw [C_Ways_twiceArea_l4, e1, if_pos (by decide), if_neg (by decide), C_Ways_twiceArea_p29, a.1, a.2]
        simp only [Option.bind_some, am_let]
        rw [C_Ways_twiceArea_l4, e1, if_neg (by decide)]
        congr 1; grind
      · have a := wy_at (i := 0) hc w e1 (by omega)
        have b := wy_at (i := 1) hc w e1 (by omega)
        rw [show Int32.ofNat 0 = 0 from rfl] at a
        rw [show Int32.ofNat 1 = 1 from rfl] at b
        rw [C_Ways_twiceArea_l4, e1, if_pos (by decide), if_pos (by decide), C_Ways_twiceArea_p29, show (0 : Int32) + 1 = 1 from rfl, a.1, a.2, b.1, b.2]
        simp only [Option.bind_some, am_let]
        rw [C_Ways_twiceArea_l4, e1, if_pos (by decide), if_neg (by decide), C_Ways_twiceArea_p29, a.1, a.2, b.1, b.2]
        simp only [Option.bind_some, am_let]
        rw [C_Ways_twiceArea_l4, e1, if_neg (by decide)]
        congr 1; grind
    rw [eC, eM]
    exact ⟨_, _, rfl, rfl, rfl, h⟩
theorem wi_btw {x a b : Int32} : C_Ways_isBetween x a b = M_isIn x (M_lesser a b) (M_greater a b) := by
  unfold C_Ways_isBetween M_isIn M_lesser M_greater J_min J_max
  repeat' split
  all_goals first | rfl | (exfalso; grind)
/-- whether the edge is met -/
def wi_met (y yi ys z : Int32) : Bool :=
  if (yi ≤ y ∧ y < ys) ∨ (ys ≤ y ∧ y < yi) then (if yi < ys then decide (0 < z) else decide (z < 0)) else false
theorem wi_C {rec5 : Nat → Int32 → Int32 → Bool → Int32 → am_SS → Option Int32} {F a : Nat} {x y : Int32} {b : Bool} {i yi ys z : Int32} {σ : am_SS} :
    C_Ways_meets_p123 rec5 F a x y b i yi ys z σ = rec5 a x y (if wi_met y yi ys z = true then !b else b) (i + 1) σ := by
  simp only [C_Ways_meets_p123, C_Ways_meets_p135, C_Ways_meets_p147, C_Ways_meets_p151, C_Ways_meets_p152, C_Ways_meets_p179, C_Ways_meets_p188, C_Ways_meets_p189, am_let, wi_met]
  by_cases q1 : y < yi
  · have q1' : ¬ yi ≤ y := by grind
    by_cases q2 : y < ys
    · have q2' : ¬ ys ≤ y := by grind
      simp [q1, q2, q1', q2']
    · have q2' : ys ≤ y := by grind
      have q3 : ¬ yi < ys := by grind
      by_cases q5 : z < 0 <;> cases b <;> simp [q1, q2, q1', q2', q3, q5]
  · have q1' : yi ≤ y := by grind
    by_cases q2 : y < ys
    · have q2' : ¬ ys ≤ y := by grind
      have q3 : yi < ys := by grind
      by_cases q4 : 0 < z <;> cases b <;> simp [q1, q2, q1', q2', q3, q4]
    · have q2' : ys ≤ y := by grind
      simp [q1, q2, q1', q2']
theorem wi_M {c i : Nat} {x y : Int32} {τ : am_SS} (hc : c ≤ 8) (e2 : τ 0 59 = Int32.ofNat c) (hi : i < c) (hy : -50 ≤ y ∧ y ≤ 50)
    (hr : ∀ k, k < 8 → rl_rg (τ 37 k) (-50) 50) :
    M_isMet (Int32.ofNat i) x y τ = some (wi_met y (τ 37 i) (τ 37 (if i + 1 < c then i + 1 else 0)) ((τ 36 (if i + 1 < c then i + 1 else 0) - τ 36 i) * (y - τ 37 i) - (τ 37 (if i + 1 < c then i + 1 else 0) - τ 37 i) * (x - τ 36 i))) := by
  have hn : (if i + 1 < c then i + 1 else 0) < c := by split <;> omega
  rw [M_isMet, M_sideOf, wy_next hc e2 hi]
  generalize (if i + 1 < c then i + 1 else 0) = s at hn ⊢
  simp only [Option.bind_some]
  rw [ni_rd (by omega) (by omega), ni_rd (by omega) (by omega), ni_rd (by omega) (by omega), ni_rd (by omega) (by omega)]
  simp only [Option.bind_some]
  have r1 := hr i (by omega)
  have r2 := hr s (by omega)
  generalize (τ 36 s - τ 36 i) * (y - τ 37 i) - (τ 37 s - τ 37 i) * (x - τ 36 i) = z
  generalize τ 37 i = yi at r1 ⊢
  generalize τ 37 s = ys at r2 ⊢
  clear hr hi hn e2
  unfold rl_rg at r1 r2
  have e : M_isIn y (M_lesser yi ys) (M_greater yi ys - 1) = true ↔ ((yi ≤ y ∧ y < ys) ∨ (ys ≤ y ∧ y < yi)) := by
    rw [ni_in]
    unfold M_lesser M_greater
    by_cases q : yi < ys
    · have q' : ¬ ys < yi := by grind
      simp only [q, q', if_true, if_false]
      constructor
      · intro g; left; constructor <;> grind
      · rintro (g | g) <;> constructor <;> grind
    · simp only [q, if_false]
      by_cases q' : ys < yi
      · simp only [q', if_true]
        constructor
        · intro g; right; constructor <;> grind
        · rintro (g | g) <;> constructor <;> grind
      · simp only [q', if_false]
        constructor
        · intro g; exfalso; grind
        · rintro (g | g) <;> exfalso <;> grind
  rw [wi_met]
  by_cases q : (yi ≤ y ∧ y < ys) ∨ (ys ≤ y ∧ y < yi)
  · rw [if_pos (e.mpr q), if_pos q]
    by_cases q' : yi < ys
    · rw [if_pos q', if_pos q']
      by_cases q'' : 0 < z <;> simp [q'']
    · rw [if_neg q', if_neg q']
      by_cases q'' : z < 0 <;> simp [q'']
  · rw [if_neg (fun g => q (e.mp g)), if_neg q]
theorem wi_loop {F c : Nat} {x y : Int32} {σ τ : am_SS} (hc : c ≤ 8) (hy : -50 ≤ y ∧ y ≤ 50) (w : σ 37 0 = 2) (e1 : σ 37 2 = Int32.ofNat c) (e2 : τ 0 59 = Int32.ofNat c)
    (e3 : ∀ k, k < 8 → σ 38 (2 * k) = τ 36 k ∧ σ 38 (2 * k + 1) = τ 37 k ∧ rl_rg (τ 36 k) (-50) 50 ∧ rl_rg (τ 37 k) (-50) 50) :
    ∀ (d j k k' t : Nat) (b : Bool), j + d = c → d < k → d < k' → t ≤ j → (b = true ↔ t % 2 = 1) →
    ∃ r, C_Ways_meets_l5 F k 37 x y b (Int32.ofNat j) σ = some r ∧ M_within_l36 F k' x y (Int32.ofNat t) (Int32.ofNat j) τ = some (r, τ) := by
  intro d
  induction d with
  | zero =>
    intro j k k' t b hj hk hk' ht hb
    obtain ⟨k, rfl⟩ : ∃ n', k = n' + 1 := ⟨k - 1, by omega⟩
    obtain ⟨k', rfl⟩ : ∃ n', k' = n' + 1 := ⟨k' - 1, by omega⟩
    rw [C_Ways_meets_l5, M_within_l36, e1, e2, if_neg (fun g => absurd ((ni_lt (by omega) (by omega)).mp g) (by omega)), if_neg (fun g => absurd ((ni_lt (by omega) (by omega)).mp g) (by omega))]
    rw [show Int32.ofNat t % 2 = Int32.ofNat (t % 2) from ni_mod (b := 2) (by omega) (by omega)]
    by_cases q : b = true
    · rw [if_pos q, hb.mp q]; exact ⟨1, rfl, rfl⟩
    · rw [if_neg q, show t % 2 = 0 from by have := mt hb.mpr q; omega]; exact ⟨0, rfl, rfl⟩
  | succ d ih =>
    intro j k k' t b hj hk hk' ht hb
    obtain ⟨k, rfl⟩ : ∃ n', k = n' + 1 := ⟨k - 1, by omega⟩
    obtain ⟨k', rfl⟩ : ∃ n', k' = n' + 1 := ⟨k' - 1, by omega⟩
    have hj' : j < c := by omega
    have hn : (if j + 1 < c then j + 1 else 0) < c := by split <;> omega
    rw [C_Ways_meets_l5, M_within_l36, e1, e2, if_pos ((ni_lt (by omega) (by omega)).mpr hj'), if_pos ((ni_lt (by omega) (by omega)).mpr hj')]
    have eC : (if Int32.ofNat j + 1 < Int32.ofNat c then C_Ways_meets_p33 (C_Ways_meets_l5 F k) F 37 x y b (Int32.ofNat j) (Int32.ofNat j + 1) σ else C_Ways_meets_p33 (C_Ways_meets_l5 F k) F 37 x y b (Int32.ofNat j) 0 σ)
        = C_Ways_meets_p33 (C_Ways_meets_l5 F k) F 37 x y b (Int32.ofNat j) (Int32.ofNat (if j + 1 < c then j + 1 else 0)) σ := by
      rw [ni_succ]
      by_cases q : j + 1 < c
      · rw [if_pos ((ni_lt (by omega) (by omega)).mpr q), if_pos q]
      · rw [if_neg (fun g => q ((ni_lt (by omega) (by omega)).mp g)), if_neg q]; rfl
    rw [eC, C_Ways_meets_p33, (wy_at hc w e1 hj').1, (wy_at hc w e1 hj').2, (wy_at hc w e1 hn).1, (wy_at hc w e1 hn).2, wi_M hc e2 hj' hy (fun k hk => (e3 k hk).2.2.2), M_isOnEdge, M_sideOf, wy_next hc e2 hj']
    generalize (if j + 1 < c then j + 1 else 0) = s at hn ⊢
    simp only [Option.bind_some, am_let]
    rw [ni_rd (by omega) (by omega), ni_rd (by omega) (by omega), ni_rd (by omega) (by omega), ni_rd (by omega) (by omega)]
    simp only [Option.bind_some]
    rw [(e3 j (by omega)).1, (e3 j (by omega)).2.1, (e3 s (by omega)).1, (e3 s (by omega)).2.1, wi_C, wi_btw, wi_btw]
    simp only [Int32.mul_comm (x - τ 36 j)]
    have go : ∃ r, C_Ways_meets_l5 F k 37 x y (if wi_met y (τ 37 j) (τ 37 s) ((τ 36 s - τ 36 j) * (y - τ 37 j) - (τ 37 s - τ 37 j) * (x - τ 36 j)) = true then !b else b) (Int32.ofNat j + 1) σ = some r ∧
        (if wi_met y (τ 37 j) (τ 37 s) ((τ 36 s - τ 36 j) * (y - τ 37 j) - (τ 37 s - τ 37 j) * (x - τ 36 j)) = true then M_within_p73 (M_within_l36 F k') F x y (Int32.ofNat t + 1) (Int32.ofNat j) τ else M_within_p73 (M_within_l36 F k') F x y (Int32.ofNat t) (Int32.ofNat j) τ) = some (r, τ) := by
      by_cases q : wi_met y (τ 37 j) (τ 37 s) ((τ 36 s - τ 36 j) * (y - τ 37 j) - (τ 37 s - τ 37 j) * (x - τ 36 j)) = true
      · rw [if_pos q, if_pos q, M_within_p73, am_let, ni_succ, ni_succ]
        exact ih (j + 1) k k' (t + 1) _ (by omega) (by omega) (by omega) (by omega) (by cases b <;> simp at hb ⊢ <;> omega)
      · rw [if_neg q, if_neg q, M_within_p73, am_let, ni_succ]
        exact ih (j + 1) k k' t _ (by omega) (by omega) (by omega) (by omega) hb
    by_cases z : (τ 36 s - τ 36 j) * (y - τ 37 j) - (τ 37 s - τ 37 j) * (x - τ 36 j) = 0
    · rw [if_pos z, if_pos z]
      by_cases i1 : M_isIn x (M_lesser (τ 36 j) (τ 36 s)) (M_greater (τ 36 j) (τ 36 s)) = true
      · rw [if_pos i1, if_pos i1]
        by_cases i2 : M_isIn y (M_lesser (τ 37 j) (τ 37 s)) (M_greater (τ 37 j) (τ 37 s)) = true
        · rw [if_pos i2, if_pos i2]
          exact ⟨2, rfl, rfl⟩
        · rw [if_neg i2, if_neg i2]
          simpa using go
      · rw [if_neg i1, if_neg i1]
        simpa using go
    · rw [if_neg z, if_neg z]
      simpa using go
theorem ca_31 (F : Nat) (hF : 2000 ≤ F) : aj_S31 F rl_R := by
  intro x y σ τ h
  have h := rl_told h 0
  simp only [C_within, M_within, am_let]
  generalize am_up τ 0 0 0 = τ at h ⊢
  have h' := h
  obtain ⟨hK, ⟨n, m, hFR, hFS, hIR, hIS, hBK, hGU, hLE, hKY, hBI, hQU, hCO, hOR, hSV, hND, hLW⟩, hPS, hTP, hFT, hIM⟩ := h'
  obtain ⟨c, hc, e1, e2, e3⟩ := hCO
  have w : σ 37 0 = 2 := hK.2.2.2.2.2.2.2.2.2.2.2.1
  by_cases v : (-50 ≤ x ∧ x ≤ 50) ∧ (-50 ≤ y ∧ y ≤ 50)
  · rw [if_pos (ni_in.mpr v.1), if_pos (ni_in.mpr v.2), if_pos (by unfold C_Ways_isPoint; rw [if_neg (by grind), if_neg (by grind), if_neg (by grind), if_neg (by grind)])]
    obtain ⟨r, r1, r2⟩ := wi_loop (F := F) hc v.2 w e1 e2 e3 c 0 F F 0 false (by omega) (by omega) (by omega) (by omega) (by simp)
    rw [show Int32.ofNat 0 = 0 from rfl] at r1 r2
    rw [C_Ways_meets, r1, r2]
    exact ⟨_, _, rfl, rfl, rfl, h⟩
  · have e4 : C_Ways_isPoint x y = false := by
      unfold C_Ways_isPoint
      repeat' split
      all_goals first | rfl | (exfalso; grind)
    rw [e4, if_neg (by simp)]
    by_cases q1 : M_isIn x (-50) 50 = true
    · rw [if_pos q1, if_neg (fun g => v ⟨ni_in.mp q1, ni_in.mp g⟩)]
      exact ⟨_, _, rfl, rfl, rfl, h⟩
    · rw [if_neg q1]
      exact ⟨_, _, rfl, rfl, rfl, h⟩
