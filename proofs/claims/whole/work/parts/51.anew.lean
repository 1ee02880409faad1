/-! L3: anew -/
def hs_in (g : Nat → Int32) (x : Int32) : Nat → Nat → Bool
  | _, 0 => false
  | i, d + 1 => decide (g i = x) || hs_in g x (i + 1) d
theorem hs_cg {g g' : Nat → Int32} {x : Int32} : ∀ (d i : Nat), (∀ k, i ≤ k → k < i + d → g k = g' k) → hs_in g x i d = hs_in g' x i d := by
  intro d
  induction d with
  | zero => intro i _; rfl
  | succ d ih => intro i h; rw [hs_in, hs_in, h i (by omega) (by omega), ih (i + 1) (fun k h1 h2 => h k (by omega) (by omega))]
theorem pc_C {row : Nat → Int32} {x : Int32} {p : Nat} (hp : p ≤ 16) : ∀ (d i n : Nat), i + d = p → d < n → C_Nights_stands_l row (Int32.ofNat p) x n (Int32.ofNat i) = some (hs_in row x i d) := by
  intro d
  induction d with
  | zero =>
    intro i n hi hn
    obtain ⟨n, rfl⟩ : ∃ n', n = n' + 1 := ⟨n - 1, by omega⟩
    rw [C_Nights_stands_l, if_neg (fun g => absurd ((ni_lt (by omega) (by omega)).mp g) (by omega))]; rfl
  | succ d ih =>
    intro i n hi hn
    obtain ⟨n, rfl⟩ : ∃ n', n = n' + 1 := ⟨n - 1, by omega⟩
    rw [C_Nights_stands_l, if_pos ((ni_lt (by omega) (by omega)).mpr (by omega)), if_pos (show _ < (16 : Int32) from (ni_lt (b := 16) (by omega) (by omega)).mpr (by omega)), ni_rd (by omega) (by omega), Option.bind_some, hs_in]
    by_cases q : row i = x
    · rw [if_pos q]; simp [q]
    · rw [if_neg q, am_let, ni_succ, ih (i + 1) n (by omega) (by omega)]; simp [q]
theorem pc_M {F p : Nat} {x v3 : Int32} {τ : am_SS} {rec6 : Int32 → Int32 → Int32 → am_SS → Option (Int32 × am_SS)} (hp : p ≤ 16) : ∀ (d i n : Nat) (f : Bool), i + d = p → d < n →
    M_cutPieces_l31 rec6 F n (Int32.ofNat p) x v3 f (Int32.ofNat i) τ = (if (f || hs_in (τ 33) x i d) = true then (if v3 < ((τ 0 53) - 1) then M_cutPieces_p88 rec6 F (Int32.ofNat p) x v3 τ else M_cutPieces_p75 rec6 F (Int32.ofNat p) x v3 τ) else M_cutPieces_p75 rec6 F (Int32.ofNat p) x v3 τ) := by
  intro d
  induction d with
  | zero =>
    intro i n f hi hn
    obtain ⟨n, rfl⟩ : ∃ n', n = n' + 1 := ⟨n - 1, by omega⟩
    rw [M_cutPieces_l31, if_neg (fun g => absurd ((ni_lt (by omega) (by omega)).mp g) (by omega)), hs_in, Bool.or_false]
  | succ d ih =>
    intro i n f hi hn
    obtain ⟨n, rfl⟩ : ∃ n', n = n' + 1 := ⟨n - 1, by omega⟩
    rw [M_cutPieces_l31, if_pos ((ni_lt (by omega) (by omega)).mpr (by omega)), ni_rd (by omega) (by omega), Option.bind_some, M_cutPieces_p51, M_cutPieces_p51, am_let, am_let, ni_succ, ih (i + 1) n _ (by omega) (by omega), ih (i + 1) n _ (by omega) (by omega), hs_in]
    by_cases q : τ 33 i = x
    · rw [if_pos q]; simp [q]
    · rw [if_neg q]; simp [q]
theorem bi_at {c j : Nat} {σ : am_SS} (hc : c ≤ 16) (w : σ 33 0 = 1) (e1 : σ 33 2 = Int32.ofNat c) (hj : j < c) : C_Table_at 33 (Int32.ofNat j) 0 σ = some (σ 34 j) := by
  rw [show (0 : Int32) = Int32.ofNat 0 from rfl, tb_at (w := 1) 16 e1 w rfl hj (by omega) (by omega) (by omega) (by omega) (by omega)]; simp
theorem am_row_up {τ : am_SS} {a k : Nat} {v : Int32} {g : Nat → Int32} : am_up (am_row τ a g) a k v = am_row τ a (upd g k v) := by
  funext b j; simp only [am_row, am_up, upd]
  by_cases h : b = a
  · subst h; simp [upd]
  · simp [h]
theorem am_row_id {τ : am_SS} {a : Nat} : am_row τ a (τ a) = τ := by
  funext b j; simp only [am_row]; split
  · next h => rw [h]
  · rfl
theorem pc_loop {F c : Nat} {σ τ : am_SS} (hF : 2000 ≤ F) (hc : c ≤ 16) (w : σ 33 0 = 1) (e1 : σ 33 2 = Int32.ofNat c) (e2 : τ 0 53 = Int32.ofNat c) (e3 : ∀ k, k < 16 → σ 34 k = τ 32 k ∧ rl_rg (τ 32 k) 0 1) :
    ∀ (d j k k' p v : Nat) (row g : Nat → Int32), j + (d + 1) = c → d + 1 < k → d + 1 < k' → p ≤ j → 1 ≤ v → v < 2 ^ (j + 1) → (∀ i, i < p → row i = g i) →
    ∃ r g', C_Nights_pieces_l F 33 k row (Int32.ofNat p) (Int32.ofNat v) (Int32.ofNat j) σ = some r ∧ M_cutPieces_l6 F k' (Int32.ofNat p) (Int32.ofNat v) (Int32.ofNat j) (am_row τ 33 g) = some (r, am_row τ 33 g') := by
  intro d
  induction d with
  | zero =>
    intro j k k' p v row g hj hk hk' hp hv1 hv2 hrow
    obtain ⟨k, rfl⟩ : ∃ n', k = n' + 1 + 1 := ⟨k - 2, by omega⟩
    obtain ⟨k', rfl⟩ : ∃ n', k' = n' + 1 + 1 := ⟨k' - 2, by omega⟩
    have hv3 : v < 131072 := Nat.lt_of_lt_of_le hv2 (Nat.pow_le_pow_right (by omega) (show j + 1 ≤ 17 by omega))
    obtain ⟨b, hb, eb⟩ : ∃ b : Nat, b ≤ 1 ∧ τ 32 j = Int32.ofNat b := by
      have h3 := (e3 j (by omega)).2
      obtain ⟨b, hb, eb⟩ := ni_of (x := τ 32 j) (by unfold rl_rg at h3; grind)
      exact ⟨b, (ni_le (b := 1) hb (by omega)).mp (by rw [← eb]; exact h3.2), eb⟩
    have eg : am_row τ 33 g 0 53 = Int32.ofNat c := by rw [am_row_ne (by omega)]; exact e2
    have eg2 : am_row τ 33 g 32 j = Int32.ofNat b := by rw [am_row_ne (by omega)]; exact eb
    have mst : M_cutPieces_l6 F (k' + 1 + 1) (Int32.ofNat p) (Int32.ofNat v) (Int32.ofNat j) (am_row τ 33 g) = M_cutPieces_l31 (M_cutPieces_l6 F (k' + 1)) F F (Int32.ofNat p) (Int32.ofNat (v * 2 + b)) (Int32.ofNat j) false (Int32.ofNat 0) (am_row τ 33 g) := by
      rw [M_cutPieces_l6, eg, if_pos ((ni_lt (by omega) (by omega)).mpr (by omega)), ni_rd (by omega) (by omega), Option.bind_some, eg2, am_let, show (2 : Int32) * Int32.ofNat v + Int32.ofNat b = Int32.ofNat (v * 2 + b) from by rw [show (2 : Int32) = Int32.ofNat 2 from rfl, ni_mul, ni_add, Nat.mul_comm]]
      rfl
    rw [C_Nights_pieces_l, mst, e1, if_pos ((ni_lt (by omega) (by omega)).mpr (by omega)), bi_at hc w e1 (by omega), Option.bind_some, (e3 j (by omega)).1, eb, am_let]
    rw [show Int32.ofNat v * 2 + Int32.ofNat b = Int32.ofNat (v * 2 + b) from by rw [show (2 : Int32) = Int32.ofNat 2 from rfl, ni_mul, ni_add]]
    have hcg : hs_in row (Int32.ofNat (v * 2 + b)) 0 p = hs_in g (Int32.ofNat (v * 2 + b)) 0 p := hs_cg p 0 (fun i _ h2 => hrow i (by omega))
    rw [C_Nights_stands, show C_Nights_stands_l row (Int32.ofNat p) (Int32.ofNat (v * 2 + b)) F 0 = C_Nights_stands_l row (Int32.ofNat p) (Int32.ofNat (v * 2 + b)) F (Int32.ofNat 0) from rfl, pc_C (by omega) p 0 F (by omega) (by omega), Option.bind_some, pc_M (by omega) p 0 F false (by omega) (by omega), Bool.false_or, am_row_eq, hcg, eg]
    have last : ¬ Int32.ofNat j < Int32.ofNat c - 1 := by rw [ni_pred (by omega)]; exact fun g => absurd ((ni_lt (by omega) (by omega)).mp g) (by omega)
    have endM : ∃ g', M_cutPieces_p75 (M_cutPieces_l6 F (k' + 1)) F (Int32.ofNat p) (Int32.ofNat (v * 2 + b)) (Int32.ofNat j) (am_row τ 33 g) = some (Int32.ofNat (p + 1), am_row τ 33 g') := by
      rw [M_cutPieces_p75, ni_wr (by omega) (by omega), Option.bind_some, am_row_up, am_let, M_cutPieces_p88, am_let, ni_succ, ni_succ, M_cutPieces_l6, show am_row τ 33 (upd g p (Int32.ofNat (v * 2 + b))) 0 53 = Int32.ofNat c from by rw [am_row_ne (by omega)]; exact e2, if_neg (fun g => absurd ((ni_lt (by omega) (by omega)).mp g) (by omega))]
      exact ⟨_, rfl⟩
    obtain ⟨g', hM⟩ := endM
    have cend : ∀ (row : Nat → Int32) (p : Nat) (v : Int32), C_Nights_pieces_l F 33 (k + 1) row (Int32.ofNat p) v (Int32.ofNat (j + 1)) σ = if v = 1 then some (Int32.ofNat p) else some (Int32.ofNat p + 1) := by
      intro row p v
      rw [C_Nights_pieces_l, e1, if_neg (fun g => absurd ((ni_lt (by omega) (by omega)).mp g) (by omega))]
    refine ⟨Int32.ofNat (p + 1), g', ?_, ?_⟩
    · by_cases q : hs_in g (Int32.ofNat (v * 2 + b)) 0 p = true
      · rw [if_pos q, am_let, ni_succ, cend, if_neg (fun g : _ = (1 : Int32) => absurd ((ni_eq (b := 1) (by omega) (by omega)).mp g) (by omega)), ni_succ]
      · rw [if_neg q, if_pos (show _ < (16 : Int32) from (ni_lt (b := 16) (by omega) (by omega)).mpr (by omega)), if_neg (by rw [ni_tn (by omega)]; exact fun g => g.elim (ni_nn (by omega)) (fun g => absurd g (by omega))), am_let, am_let, ni_succ, ni_succ, cend, if_pos rfl]
    · by_cases q : hs_in g (Int32.ofNat (v * 2 + b)) 0 p = true
      · rw [if_pos q, if_neg last, hM]
      · rw [if_neg q, hM]
  | succ d ih =>
    intro j k k' p v row g hj hk hk' hp hv1 hv2 hrow
    obtain ⟨k, rfl⟩ : ∃ n', k = n' + 1 := ⟨k - 1, by omega⟩
    obtain ⟨k', rfl⟩ : ∃ n', k' = n' + 1 := ⟨k' - 1, by omega⟩
    have hv3 : v < 131072 := Nat.lt_of_lt_of_le hv2 (Nat.pow_le_pow_right (by omega) (show j + 1 ≤ 17 by omega))
    obtain ⟨b, hb, eb⟩ : ∃ b : Nat, b ≤ 1 ∧ τ 32 j = Int32.ofNat b := by
      have h3 := (e3 j (by omega)).2
      obtain ⟨b, hb, eb⟩ := ni_of (x := τ 32 j) (by unfold rl_rg at h3; grind)
      exact ⟨b, (ni_le (b := 1) hb (by omega)).mp (by rw [← eb]; exact h3.2), eb⟩
    have eg : am_row τ 33 g 0 53 = Int32.ofNat c := by rw [am_row_ne (by omega)]; exact e2
    have eg2 : am_row τ 33 g 32 j = Int32.ofNat b := by rw [am_row_ne (by omega)]; exact eb
    have mst : M_cutPieces_l6 F (k' + 1) (Int32.ofNat p) (Int32.ofNat v) (Int32.ofNat j) (am_row τ 33 g) = M_cutPieces_l31 (M_cutPieces_l6 F (k')) F F (Int32.ofNat p) (Int32.ofNat (v * 2 + b)) (Int32.ofNat j) false (Int32.ofNat 0) (am_row τ 33 g) := by
      rw [M_cutPieces_l6, eg, if_pos ((ni_lt (by omega) (by omega)).mpr (by omega)), ni_rd (by omega) (by omega), Option.bind_some, eg2, am_let, show (2 : Int32) * Int32.ofNat v + Int32.ofNat b = Int32.ofNat (v * 2 + b) from by rw [show (2 : Int32) = Int32.ofNat 2 from rfl, ni_mul, ni_add, Nat.mul_comm]]
      rfl
    rw [C_Nights_pieces_l, mst, e1, if_pos ((ni_lt (by omega) (by omega)).mpr (by omega)), bi_at hc w e1 (by omega), Option.bind_some, (e3 j (by omega)).1, eb, am_let]
    rw [show Int32.ofNat v * 2 + Int32.ofNat b = Int32.ofNat (v * 2 + b) from by rw [show (2 : Int32) = Int32.ofNat 2 from rfl, ni_mul, ni_add]]
    have hcg : hs_in row (Int32.ofNat (v * 2 + b)) 0 p = hs_in g (Int32.ofNat (v * 2 + b)) 0 p := hs_cg p 0 (fun i _ h2 => hrow i (by omega))
    rw [C_Nights_stands, show C_Nights_stands_l row (Int32.ofNat p) (Int32.ofNat (v * 2 + b)) F 0 = C_Nights_stands_l row (Int32.ofNat p) (Int32.ofNat (v * 2 + b)) F (Int32.ofNat 0) from rfl, pc_C (by omega) p 0 F (by omega) (by omega), Option.bind_some, pc_M (by omega) p 0 F false (by omega) (by omega), Bool.false_or, am_row_eq, hcg, eg]
    have nlast : Int32.ofNat j < Int32.ofNat c - 1 := by rw [ni_pred (by omega)]; exact (ni_lt (by omega) (by omega)).mpr (by omega)
    have hp2 : 2 ^ (j + 1 + 1) = 2 ^ (j + 1) * 2 := Nat.pow_succ ..
    by_cases q : hs_in g (Int32.ofNat (v * 2 + b)) 0 p = true
    · rw [if_pos q, if_pos q, if_pos nlast, am_let, M_cutPieces_p88, am_let, ni_succ]
      exact ih (j + 1) k k' p (v * 2 + b) row g (by omega) (by omega) (by omega) (by omega) (by omega) (by omega) hrow
    · rw [if_neg q, if_neg q, if_pos (show _ < (16 : Int32) from (ni_lt (b := 16) (by omega) (by omega)).mpr (by omega)), if_neg (by rw [ni_tn (by omega)]; exact fun g => g.elim (ni_nn (by omega)) (fun g => absurd g (by omega))), am_let, am_let, ni_succ, ni_succ,
        M_cutPieces_p75, ni_wr (by omega) (by omega), Option.bind_some, am_row_up, am_let, M_cutPieces_p88, am_let, ni_succ, ni_succ, ni_tn (by omega)]
      have h1 : (1 : Nat) < 2 ^ (j + 1 + 1) := Nat.one_lt_two_pow (by omega)
      exact ih (j + 1) k k' (p + 1) 1 _ _ (by omega) (by omega) (by omega) (by omega) (by omega) h1 (fun i hi => by
        simp only [upd]
        by_cases qi : i = p
        · rw [if_pos qi, if_pos qi]
        · rw [if_neg qi, if_neg qi]; exact hrow i (by omega))
section
variable {F c : Nat} {σ τ : am_SS}
theorem al_C (hc : c ≤ 16) (w : σ 33 0 = 1) (e1 : σ 33 2 = Int32.ofNat c) {a b : Nat} (ha : a < 100) (hb : b < c) : ∀ (d i n : Nat), i + d = 16 → d < n → i ≤ b →
    ∃ r, C_Nights_readsAlike_l2 F n 33 (Int32.ofNat a) (Int32.ofNat b) (Int32.ofNat i) σ = some r ∧ (r = true ↔ ∀ k, i ≤ k → a + k < b - k → σ 34 (a + k) = σ 34 (b - k)) := by
  intro d
  induction d with
  | zero => intro i n hi hn hib; omega
  | succ d ih =>
    intro i n hi hn hib
    obtain ⟨n, rfl⟩ : ∃ n', n = n' + 1 := ⟨n - 1, by omega⟩
    rw [C_Nights_readsAlike_l2, ni_add, ni_sub hib]
    by_cases q : a + i < b - i
    · rw [if_pos ((ni_lt (by omega) (by omega)).mpr q), bi_at hc w e1 (by omega), Option.bind_some, bi_at hc w e1 (by omega), Option.bind_some]
      by_cases q' : σ 34 (a + i) = σ 34 (b - i)
      · rw [if_pos q', am_let, ni_succ]
        obtain ⟨r, r1, r2⟩ := ih (i + 1) n (by omega) (by omega) (by omega)
        refine ⟨r, r1, r2.trans ⟨fun h k hk => ?_, fun h k hk => h k (by omega)⟩⟩
        by_cases e : k = i
        · subst e; exact fun _ => q'
        · exact h k (by omega)
      · rw [if_neg q']
        exact ⟨false, rfl, ⟨fun g => (Bool.noConfusion g), fun h => absurd (h i (by omega) q) q'⟩⟩
    · rw [if_neg (fun g => q ((ni_lt (by omega) (by omega)).mp g))]
      exact ⟨true, rfl, ⟨fun _ k hk hk' => absurd hk' (by omega), fun _ => rfl⟩⟩
theorem al_M (hc : c ≤ 16) {p len : Nat} (hl : p + len ≤ c) : ∀ (d i n : Nat), i + d = len → d < n →
    ∃ r, M_readsAlike_l2 F n (Int32.ofNat p) (Int32.ofNat len) (Int32.ofNat i) τ = some r ∧ (r = true ↔ ∀ k, i ≤ k → k < len → τ 32 (p + k) = τ 32 (p + len - 1 - k)) := by
  intro d
  induction d with
  | zero =>
    intro i n hi hn
    obtain ⟨n, rfl⟩ : ∃ n', n = n' + 1 := ⟨n - 1, by omega⟩
    rw [M_readsAlike_l2, if_neg (fun g => absurd ((ni_lt (by omega) (by omega)).mp g) (by omega))]
    exact ⟨true, rfl, ⟨fun _ k hk hk' => absurd hk' (by omega), fun _ => rfl⟩⟩
  | succ d ih =>
    intro i n hi hn
    obtain ⟨n, rfl⟩ : ∃ n', n = n' + 1 := ⟨n - 1, by omega⟩
    rw [M_readsAlike_l2, if_pos ((ni_lt (by omega) (by omega)).mpr (by omega)), ni_add, ni_add, ni_pred (by omega), ni_sub (by omega), ni_rd (by omega) (by omega), Option.bind_some, ni_rd (by omega) (by omega), Option.bind_some]
    by_cases q' : τ 32 (p + i) = τ 32 (p + len - 1 - i)
    · rw [if_pos q', am_let, ni_succ]
      obtain ⟨r, r1, r2⟩ := ih (i + 1) n (by omega) (by omega)
      refine ⟨r, r1, r2.trans ⟨fun h k hk => ?_, fun h k hk => h k (by omega)⟩⟩
      by_cases e : k = i
      · subst e; exact fun _ => q'
      · exact h k (by omega)
    · rw [if_neg q']
      exact ⟨false, rfl, ⟨fun g => (Bool.noConfusion g), fun h => absurd (h i (by omega) (by omega)) q'⟩⟩
theorem al_eq (hF : 2000 ≤ F) (hc : c ≤ 16) (w : σ 33 0 = 1) (e1 : σ 33 2 = Int32.ofNat c) (e3 : ∀ k, k < 16 → σ 34 k = τ 32 k) {p len : Nat} (h0 : 0 < len) (hl : p + len ≤ c) :
    ∃ r, C_Nights_readsAlike F 33 (Int32.ofNat p) (Int32.ofNat p + Int32.ofNat len - 1) σ = some r ∧ M_readsAlike F (Int32.ofNat p) (Int32.ofNat len) τ = some r := by
  obtain ⟨r, r1, r2⟩ := al_C (F := F) hc w e1 (a := p) (b := p + len - 1) (by omega) (by omega) 16 0 F (by omega) (by omega) (by omega)
  obtain ⟨r', r1', r2'⟩ := al_M (F := F) (τ := τ) hc hl len 0 F (by omega) (by omega)
  rw [show Int32.ofNat 0 = 0 from rfl] at r1 r1'
  have : r = r' := by
    rw [Bool.eq_iff_iff, r2, r2']
    constructor
    · intro h k _ hk
      rw [← e3 _ (by omega), ← e3 _ (by omega)]
      by_cases q : p + k < p + len - 1 - k
      · exact h k (by omega) q
      · by_cases q' : p + k = p + len - 1 - k
        · rw [← q']
        · have := h (len - 1 - k) (by omega) (by omega)
          rw [show p + (len - 1 - k) = p + len - 1 - k from by omega, show p + len - 1 - (len - 1 - k) = p + k from by omega] at this
          exact this.symm
    · intro h k _ hk
      have := h k (by omega) (by omega)
      rw [← e3 _ (by omega), ← e3 _ (by omega)] at this
      exact this
  rw [C_Nights_readsAlike, M_readsAlike, ni_add, ni_pred (by omega), r1, r1', this]
  exact ⟨r', rfl, rfl⟩
theorem al_first (hF : 2000 ≤ F) (hc : c ≤ 16) (w : σ 33 0 = 1) (e1 : σ 33 2 = Int32.ofNat c) (e2 : τ 0 53 = Int32.ofNat c) (e3 : ∀ k, k < 16 → σ 34 k = τ 32 k) {x : Int32} {len : Nat} (h0 : 0 < len) (hl : len ≤ c)
    {recM : Int32 → Int32 → am_SS → Option (Int32 × am_SS)} : ∀ (d p k k' : Nat), p + d = c + 1 - len → d < k → d < k' →
    ∃ q, C_Nights_firstAlike_l2 F k 33 (Int32.ofNat len) (Int32.ofNat p) σ = some q ∧
      ((q = -1 ∧ M_anew_l37 recM F k' x (Int32.ofNat len) (Int32.ofNat p) τ = recM x (Int32.ofNat (len - 1)) τ) ∨
       (q ≠ -1 ∧ M_anew_l37 recM F k' x (Int32.ofNat len) (Int32.ofNat p) τ = some (if x = 1 then Int32.ofNat len else q, τ))) := by
  intro d
  induction d with
  | zero =>
    intro p k k' hp hk hk'
    obtain ⟨k, rfl⟩ : ∃ n', k = n' + 1 := ⟨k - 1, by omega⟩
    obtain ⟨k', rfl⟩ : ∃ n', k' = n' + 1 := ⟨k' - 1, by omega⟩
    rw [C_Nights_firstAlike_l2, M_anew_l37, if_pos (show (0 : Int32) < _ from (ni_lt (a := 0) (by omega) (by omega)).mpr h0), e1, e2, ni_add, if_pos ((ni_lt (by omega) (by omega)).mpr (by omega)), if_pos ((ni_lt (by omega) (by omega)).mpr (by omega)), am_let]
    refine ⟨_, rfl, .inl ⟨rfl, ?_⟩⟩
    rw [show Int32.ofNat len + -1 = Int32.ofNat len - 1 from by grind, ni_pred h0]
  | succ d ih =>
    intro p k k' hp hk hk'
    obtain ⟨k, rfl⟩ : ∃ n', k = n' + 1 := ⟨k - 1, by omega⟩
    obtain ⟨k', rfl⟩ : ∃ n', k' = n' + 1 := ⟨k' - 1, by omega⟩
    rw [C_Nights_firstAlike_l2, M_anew_l37, if_pos (show (0 : Int32) < _ from (ni_lt (a := 0) (by omega) (by omega)).mpr h0), e1, e2]
    obtain ⟨r, r1, r2⟩ := al_eq (F := F) (σ := σ) (τ := τ) hF hc w e1 e3 (p := p) h0 (by omega)
    rw [r1, r2, Option.bind_some, Option.bind_some, ni_add, if_neg (fun g => absurd ((ni_lt (by omega) (by omega)).mp g) (by omega)), if_neg (fun g => absurd ((ni_lt (by omega) (by omega)).mp g) (by omega))]
    by_cases q : r = true
    · rw [if_pos q, if_pos q]
      refine ⟨_, rfl, .inr ⟨?_, ?_⟩⟩
      · intro g
        have := ni_nn (a := p) (by omega)
        rw [g] at this
        exact this (by decide)
      · by_cases qx : x = 1
        · rw [if_pos qx, if_pos qx]
        · rw [if_neg qx, if_neg qx]
    · rw [if_neg q, if_neg q, am_let, am_let, ni_succ]
      exact ih (p + 1) k k' (by omega) (by omega) (by omega)
theorem al_long (hF : 2000 ≤ F) (hc : c ≤ 16) (w : σ 33 0 = 1) (e1 : σ 33 2 = Int32.ofNat c) (e2 : τ 0 53 = Int32.ofNat c) (e3 : ∀ k, k < 16 → σ 34 k = τ 32 k) {x : Int32} : ∀ (len k k' : Nat), len ≤ c → len < k → len < k' →
    ∃ L q, C_Nights_longestAlike_l5 F k 33 (Int32.ofNat len) σ = some L ∧ C_Nights_firstAlike F 33 L σ = some q ∧ M_anew_l31 F k' x (Int32.ofNat len) τ = some (if x = 1 then L else q, τ) := by
  intro len
  induction len with
  | zero =>
    intro k k' hl hk hk'
    obtain ⟨k, rfl⟩ : ∃ n', k = n' + 1 := ⟨k - 1, by omega⟩
    obtain ⟨k', rfl⟩ : ∃ n', k' = n' + 1 := ⟨k' - 1, by omega⟩
    obtain ⟨f, rfl⟩ : ∃ f, F = f + 1 := ⟨F - 1, by omega⟩
    refine ⟨0, -1, ?_, ?_, ?_⟩
    · rw [C_Nights_longestAlike_l5, if_neg (by decide)]
    · rw [C_Nights_firstAlike, C_Nights_firstAlike_l2, if_neg (by decide)]
    · rw [M_anew_l31, if_neg (by decide)]
      by_cases qx : x = 1
      · rw [if_pos qx, if_pos qx]
      · rw [if_neg qx, if_neg qx]
  | succ len ih =>
    intro k k' hl hk hk'
    obtain ⟨k, rfl⟩ : ∃ n', k = n' + 1 := ⟨k - 1, by omega⟩
    obtain ⟨k', rfl⟩ : ∃ n', k' = n' + 1 := ⟨k' - 1, by omega⟩
    obtain ⟨q, q1, q2⟩ := al_first (F := F) (σ := σ) (τ := τ) hF hc w e1 e2 e3 (x := x) (len := len + 1) (by omega) hl (recM := M_anew_l31 F k') (c + 1 - (len + 1)) 0 F F (by omega) (by omega) (by omega)
    rw [show Int32.ofNat 0 = 0 from rfl] at q1 q2
    have q1' : C_Nights_firstAlike F 33 (Int32.ofNat (len + 1)) σ = some q := q1
    rw [C_Nights_longestAlike_l5, M_anew_l31, if_pos (show (0 : Int32) < _ from (ni_lt (a := 0) (by omega) (by omega)).mpr (by omega)), if_pos (show (0 : Int32) < _ from (ni_lt (a := 0) (by omega) (by omega)).mpr (by omega)), q1', Option.bind_some]
    rcases q2 with ⟨z, q2⟩ | ⟨z, q2⟩
    · rw [if_pos z, am_let, q2, show Int32.ofNat (len + 1) + -1 = Int32.ofNat (len + 1) - 1 from by grind, ni_pred (by omega)]
      exact ih k k' (by omega) (by omega) (by omega)
    · rw [if_neg z, q2]
      exact ⟨_, q, rfl, q1', rfl⟩
end
theorem ca_27 (F : Nat) (hF : 2000 ≤ F) : aj_S27 F rl_R := by
  intro x σ τ h
  have h := rl_told h 0
  simp only [C_anew, M_anew, am_let]
  generalize am_up τ 0 0 0 = τ at h ⊢
  have h' := h
  obtain ⟨hK, ⟨n, m, hFR, hFS, hIR, hIS, hBK, hGU, hLE, hKY, hBI, hQU, hCO, hOR, hSV, hND, hLW⟩, hPS, hTP, hFT, hIM⟩ := h'
  obtain ⟨c, hc, e1, e2, e3⟩ := hBI
  have w : σ 33 0 = 1 := hK.2.2.2.2.2.2.2.2.2.1
  by_cases x0 : x = 0
  · subst x0
    rw [if_pos rfl, if_pos (by decide), if_pos rfl, C_Nights_pieces, M_cutPieces]
    by_cases c0 : c = 0
    · subst c0
      obtain ⟨f, rfl⟩ : ∃ f, F = f + 1 := ⟨F - 1, by omega⟩
      rw [C_Nights_pieces_l, M_cutPieces_l6, e1, e2, if_neg (by decide), if_pos rfl, if_neg (by decide)]
      exact ⟨_, _, rfl, rfl, rfl, h⟩
    · obtain ⟨r, g', r1, r2⟩ := pc_loop hF hc w e1 e2 e3 (c - 1) 0 F F 0 1 (fun _ => 0) (τ 33) (by omega) (by omega) (by omega) (by omega) (by omega) (by decide) (fun i hi => absurd hi (by omega))
      rw [am_row_id, show Int32.ofNat 0 = 0 from rfl, show Int32.ofNat 1 = 1 from rfl] at r2
      rw [show Int32.ofNat 0 = 0 from rfl, show Int32.ofNat 1 = 1 from rfl] at r1
      rw [r1, r2]
      refine ⟨_, _, rfl, rfl, rfl, ?_⟩
      simpa [rl_R, rl_N, am_row_ne] using h
  · rw [if_neg x0]
    obtain ⟨L, q, l1, l2, l3⟩ := al_long (F := F) (σ := σ) (τ := τ) hF hc w e1 e2 (fun k hk => (e3 k hk).1) (x := x) c F F (by omega) (by omega) (by omega)
    rw [C_Nights_longestAlike, am_let, e1, l1, e2]
    by_cases x1 : x = 1
    · subst x1
      rw [if_pos rfl, if_pos (by decide), if_neg x0, l3, if_pos rfl]
      exact ⟨_, _, rfl, rfl, rfl, h⟩
    · rw [if_neg x1]
      by_cases x2 : x = 2
      · subst x2
        rw [if_pos rfl, if_pos (by decide), if_neg x0, l3, Option.bind_some, l2, if_neg x1]
        exact ⟨_, _, rfl, rfl, rfl, h⟩
      · rw [if_neg x2, if_neg (fun g => by have := ni_in.mp g; grind)]
        exact ⟨_, _, rfl, rfl, rfl, h⟩
