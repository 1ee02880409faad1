/-! L3: billets, ahead -/
def st2 : Nat → Nat → Nat
  | 0, 0 => 1
  | 0, _ + 1 => 0
  | _ + 1, 0 => 0
  | n + 1, k + 1 => st2 n k + (k + 1) * st2 n (k + 1)
def st_sum (n : Nat) : Nat → Nat
  | 0 => 0
  | c + 1 => st_sum n c + st2 n c
theorem bl_C : ∀ n, n < 11 → (∀ k, k < 11 → C_billets 2000000 (Int32.ofNat n) (Int32.ofNat k) = some (Int32.ofNat (st2 n k))) ∧ C_billets 2000000 (Int32.ofNat n) (-1) = some (Int32.ofNat (st_sum n 11)) := by decide +kernel
section
variable {F N : Nat} {τ : am_SS} {x2 : Int32}
theorem bl_in (hN : N ≤ 10) {i : Nat} (hi : i ≤ N) {rec34 : Int32 → Int32 → Int32 → Int32 → am_SS → Option (Int32 × am_SS)} : ∀ (d j n : Nat) (g : Nat → Int32), j + d = 11 → d < n → (∀ a c, a < i → c < 11 → g (11 * a + c) = Int32.ofNat (st2 a c)) → (∀ c, c < j → g (11 * i + c) = Int32.ofNat (st2 i c)) →
    ∃ g', M_billets_l43 rec34 F n (Int32.ofNat N) x2 (if i = N then Int32.ofNat (st_sum N j) else 0) (Int32.ofNat i) (Int32.ofNat j) (am_row τ 28 g) = rec34 (Int32.ofNat N) x2 (if i = N then Int32.ofNat (st_sum N 11) else 0) (Int32.ofNat (i + 1)) (am_row τ 28 g') ∧
      ∀ a c, a < i + 1 → c < 11 → g' (11 * a + c) = Int32.ofNat (st2 a c) := by
  intro d
  induction d with
  | zero =>
    intro j n g hj hn h1 h2
    obtain ⟨n, rfl⟩ : ∃ n', n = n' + 1 := ⟨n - 1, by omega⟩
    have ej : j = 11 := by omega
    subst ej
    rw [M_billets_l43, if_neg (fun q : _ < (11 : Int32) => absurd ((ni_lt (b := 11) (by omega) (by omega)).mp q) (by omega)), am_let, ni_succ]
    refine ⟨g, rfl, fun a c ha hc => ?_⟩
    by_cases q : a = i
    · rw [q]; exact h2 c hc
    · exact h1 a c (by omega) hc
  | succ d ih =>
    intro j n g hj hn h1 h2
    obtain ⟨n, rfl⟩ : ∃ n', n = n' + 1 := ⟨n - 1, by omega⟩
    have go : ∀ v, v = Int32.ofNat (st2 i j) → M_billets_p115 rec34 (M_billets_l43 rec34 F n) F (Int32.ofNat N) x2 (if i = N then Int32.ofNat (st_sum N j) else 0) (Int32.ofNat i) (Int32.ofNat j) v (am_row τ 28 g) =
        M_billets_l43 rec34 F n (Int32.ofNat N) x2 (if i = N then Int32.ofNat (st_sum N (j + 1)) else 0) (Int32.ofNat i) (Int32.ofNat (j + 1)) (am_row τ 28 (upd g (11 * i + j) v)) := by
      intro v hv
      rw [M_billets_p115, show (11 : Int32) * Int32.ofNat i = Int32.ofNat (11 * i) from ni_mul 11 i, ni_add, ni_wr (by omega) (by omega), Option.bind_some, am_row_up]
      by_cases q : i = N
      · rw [if_pos (show Int32.ofNat i = Int32.ofNat N from by rw [q]), if_pos q, if_pos q, am_let, M_billets_p141, am_let, ni_succ, hv, ni_add, st_sum, q]
      · rw [if_neg (fun e => q ((ni_eq (by omega) (by omega)).mp e)), if_neg q, if_neg q, M_billets_p141, am_let, ni_succ]
    have nx : ∀ v, v = Int32.ofNat (st2 i j) → ∃ g', M_billets_p115 rec34 (M_billets_l43 rec34 F n) F (Int32.ofNat N) x2 (if i = N then Int32.ofNat (st_sum N j) else 0) (Int32.ofNat i) (Int32.ofNat j) v (am_row τ 28 g) =
        rec34 (Int32.ofNat N) x2 (if i = N then Int32.ofNat (st_sum N 11) else 0) (Int32.ofNat (i + 1)) (am_row τ 28 g') ∧ ∀ a c, a < i + 1 → c < 11 → g' (11 * a + c) = Int32.ofNat (st2 a c) := by
      intro v hv
      rw [go v hv]
      refine ih (j + 1) n _ (by omega) (by omega) (fun a c ha hc => ?_) (fun c hc => ?_)
      · rw [upd_ne (by omega)]; exact h1 a c ha hc
      · by_cases q : c = j
        · rw [q, upd_eq, hv]
        · rw [upd_ne (by omega)]; exact h2 c (by omega)
    rw [M_billets_l43, if_pos (show _ < (11 : Int32) from (ni_lt (b := 11) (by omega) (by omega)).mpr (by omega))]
    cases i with
    | zero =>
      rw [if_pos (show Int32.ofNat 0 = 0 from rfl)]
      cases j with
      | zero =>
        rw [if_pos (show Int32.ofNat 0 = 0 from rfl), M_billets_p65, if_neg (show ¬ 0 < Int32.ofNat 0 from by decide)]
        exact nx _ rfl
      | succ j =>
        rw [if_neg (fun q : _ = (0 : Int32) => absurd ((ni_eq (b := 0) (by omega) (by omega)).mp q) (by omega)), M_billets_p64, M_billets_p65, if_neg (show ¬ 0 < Int32.ofNat 0 from by decide)]
        exact nx _ rfl
    | succ i =>
      rw [if_neg (fun q : _ = (0 : Int32) => absurd ((ni_eq (b := 0) (by omega) (by omega)).mp q) (by omega)), M_billets_p64, M_billets_p65, if_pos (show (0 : Int32) < _ from (ni_lt (a := 0) (by omega) (by omega)).mpr (by omega))]
      cases j with
      | zero =>
        rw [if_neg (show ¬ 0 < Int32.ofNat 0 from by decide)]
        exact nx _ rfl
      | succ j =>
        rw [if_pos (show (0 : Int32) < _ from (ni_lt (a := 0) (by omega) (by omega)).mpr (by omega)), ni_pred (by omega), show i + 1 - 1 = i from rfl, show (11 : Int32) * Int32.ofNat i = Int32.ofNat (11 * i) from ni_mul 11 i, ni_add, ni_pred (by omega), show 11 * i + (j + 1) - 1 = 11 * i + j from rfl,
          ni_rd (by omega) (by omega), Option.bind_some, ni_rd (by omega) (by omega), Option.bind_some, am_row_eq, h1 i j (by omega) (by omega), h1 i (j + 1) (by omega) (by omega), am_let, ni_mul, ni_add]
        exact nx _ rfl
theorem bl_out (hF : 2000 ≤ F) (hN : N ≤ 10) (hx : x2 = -1 ∨ ∃ k, k < 11 ∧ x2 = Int32.ofNat k) : ∀ (d i n : Nat) (g : Nat → Int32), i + d = N + 1 → d < n → (∀ a c, a < i → c < 11 → g (11 * a + c) = Int32.ofNat (st2 a c)) →
    ∃ g', M_billets_l34 F n (Int32.ofNat N) x2 (if i = N + 1 then Int32.ofNat (st_sum N 11) else 0) (Int32.ofNat i) (am_row τ 28 g) = some (if x2 = -1 then Int32.ofNat (st_sum N 11) else Int32.ofNat (st2 N x2.toNatClampNeg), am_row τ 28 g') := by
  intro d
  induction d with
  | zero =>
    intro i n g hi hn h1
    obtain ⟨n, rfl⟩ : ∃ n', n = n' + 1 := ⟨n - 1, by omega⟩
    have ei : i = N + 1 := by omega
    subst ei
    rw [M_billets_l34, if_pos ((ni_lt (by omega) (by omega)).mpr (by omega)), if_pos rfl]
    rcases hx with rfl | ⟨k, hk, rfl⟩
    · exact ⟨g, by rw [if_pos rfl, if_pos rfl]⟩
    · refine ⟨g, ?_⟩
      rw [if_neg (ni_m1 (by omega)), if_neg (ni_m1 (by omega)), show (11 : Int32) * Int32.ofNat N = Int32.ofNat (11 * N) from ni_mul 11 N, ni_add, ni_rd (by omega) (by omega), Option.bind_some, am_row_eq, h1 N k (by omega) hk, ni_tn (by omega)]
  | succ d ih =>
    intro i n g hi hn h1
    obtain ⟨n, rfl⟩ : ∃ n', n = n' + 1 := ⟨n - 1, by omega⟩
    rw [M_billets_l34, if_neg (fun q => absurd ((ni_lt (by omega) (by omega)).mp q) (by omega)), if_neg (by omega)]
    obtain ⟨g1, e1, e2⟩ := bl_in (F := F) (τ := τ) (x2 := x2) hN (i := i) (by omega) (rec34 := M_billets_l34 F n) 11 0 F g (by omega) (by omega) h1 (fun c hc => absurd hc (by omega))
    rw [show (if i = N then Int32.ofNat (st_sum N 0) else 0) = 0 from by split <;> rfl, show Int32.ofNat 0 = 0 from rfl] at e1
    rw [e1]
    obtain ⟨g2, e3⟩ := ih (i + 1) n g1 (by omega) (by omega) e2
    refine ⟨g2, ?_⟩
    rw [← e3]
    by_cases q : i = N
    · rw [if_pos q, if_pos (by omega)]
    · rw [if_neg q, if_neg (by omega)]
end
theorem rl_junk28 {σ τ : am_SS} {g : Nat → Int32} (h : rl_R σ τ) : rl_R σ (am_row τ 28 g) := by simpa [rl_R, rl_N, am_row_ne] using h
theorem rl_junk29 {σ τ : am_SS} {g : Nat → Int32} (h : rl_R σ τ) : rl_R σ (am_row τ 29 g) := by simpa [rl_R, rl_N, am_row_ne] using h
theorem ca_19 : aj_S19 2000000 rl_R := by
  intro x y σ τ h
  have h := rl_told h 0
  simp only [M_billets, am_let]
  generalize am_up τ 0 0 0 = τ at h ⊢
  by_cases v : rl_rg x 0 10
  case neg =>
    rw [if_neg (fun g => v (ni_in.mp g)), C_billets]
    by_cases q : x < 0
    · rw [if_pos q]; exact ⟨_, _, rfl, rfl, rfl, h⟩
    · rw [if_neg q, if_pos (Decidable.byContradiction (fun g => v ⟨Int32.not_lt.mp q, Int32.not_lt.mp g⟩))]
      exact ⟨_, _, rfl, rfl, rfl, h⟩
  by_cases w : rl_rg y (-1) 10
  case neg =>
    rw [if_pos (ni_in.mpr v), if_neg (fun g => w (ni_in.mp g)), C_billets, if_neg (Int32.not_lt.mpr v.1), if_neg (Int32.not_lt.mpr v.2)]
    by_cases q : y < -1
    · rw [if_pos q]; exact ⟨_, _, rfl, rfl, rfl, h⟩
    · rw [if_neg q, if_pos (Decidable.byContradiction (fun g => w ⟨Int32.not_lt.mp q, Int32.not_lt.mp g⟩))]
      exact ⟨_, _, rfl, rfl, rfl, h⟩
  rw [if_pos (ni_in.mpr v), if_pos (ni_in.mpr w)]
  obtain ⟨n, hn, rfl⟩ := ni_of (x := x) (Int32.not_lt.mpr v.1)
  have hn10 : n ≤ 10 := (ni_le (b := 10) hn (by omega)).mp v.2
  have hy : y = -1 ∨ ∃ k, k < 11 ∧ y = Int32.ofNat k := by
    by_cases q : y = -1
    · exact .inl q
    · obtain ⟨k, hk, rfl⟩ := ni_of (x := y) (by have := w.1; grind)
      exact .inr ⟨k, by have := (ni_le (b := 10) hk (by omega)).mp w.2; omega, rfl⟩
  obtain ⟨g', e⟩ := bl_out (F := 2000000) (τ := τ) (x2 := y) (by omega) hn10 hy (n + 1) 0 2000000 (τ 28) (by omega) (by omega) (fun a c ha _ => absurd ha (by omega))
  rw [am_row_id, if_neg (by omega), show Int32.ofNat 0 = 0 from rfl] at e
  rw [e]
  obtain ⟨c1, c2⟩ := bl_C n (by omega)
  rcases hy with rfl | ⟨k, hk, rfl⟩
  · rw [c2, if_pos rfl]; exact ⟨_, _, rfl, rfl, rfl, rl_junk28 h⟩
  · rw [c1 k hk, if_neg (ni_m1 (by omega)), ni_tn (by omega)]; exact ⟨_, _, rfl, rfl, rfl, rl_junk28 h⟩
/-! ahead -/
def ah_r (i : Nat) (p : Nat → Nat) : Nat → Nat
  | 0 => p 0
  | j + 1 => if j + 1 < i then p (j + 1) + ah_r i p j else 0
def ah : Nat → Nat → Nat
  | 0 => fun j => if j = 0 then 1 else 0
  | i + 1 => ah_r (i + 1) (ah i)
def ah_fin (L a b : Nat) (w : Int32) : Option Int32 :=
  (M_chosen L (Int32.ofNat a + Int32.ofNat b) (Int32.ofNat b)).bind (fun q3 => (M_common L (Int32.ofNat (ah a b)) q3).bind (fun q4 =>
    if w = 0 then some (Int32.ofNat (ah a b)) else if w = 1 then (if q4 = 0 then none else some (Int32.ofNat (ah a b) / q4)) else (if q4 = 0 then none else some (q3 / q4))))
theorem ah_C : ∀ a, a < 13 → ∀ b, b < a → ∀ w : Fin 3, C_ahead 2000000 (Int32.ofNat a) (Int32.ofNat b) (Int32.ofNat w.val) = ah_fin 2000000 a b (Int32.ofNat w.val) ∧ (ah_fin 2000000 a b (Int32.ofNat w.val)).isSome = true := by decide +kernel
section
variable {F A B : Nat} {τ : am_SS} {x3 : Int32}
theorem ah_in (hA : A ≤ 12) (hB : B ≤ 12) {i : Nat} (hi : i ≤ A) {rec47 : Int32 → Int32 → Int32 → Int32 → am_SS → Option (Int32 × am_SS)} : ∀ (d j n : Nat) (g : Nat → Int32), j + d = B + 1 → d < n → (∀ a c, a < i → c ≤ B → g (13 * a + c) = Int32.ofNat (ah a c)) → (∀ c, c < j → g (13 * i + c) = Int32.ofNat (ah i c)) →
    ∃ g', M_ahead_l56 rec47 F n (Int32.ofNat A) (Int32.ofNat B) x3 (Int32.ofNat i) (Int32.ofNat j) (am_row τ 29 g) = rec47 (Int32.ofNat A) (Int32.ofNat B) x3 (Int32.ofNat (i + 1)) (am_row τ 29 g') ∧
      ∀ a c, a < i + 1 → c ≤ B → g' (13 * a + c) = Int32.ofNat (ah a c) := by
  intro d
  induction d with
  | zero =>
    intro j n g hj hn h1 h2
    obtain ⟨n, rfl⟩ : ∃ n', n = n' + 1 := ⟨n - 1, by omega⟩
    rw [M_ahead_l56, if_pos ((ni_lt (by omega) (by omega)).mpr (by omega)), am_let, ni_succ]
    refine ⟨g, rfl, fun a c ha hc => ?_⟩
    by_cases q : a = i
    · rw [q]; exact h2 c (by omega)
    · exact h1 a c (by omega) hc
  | succ d ih =>
    intro j n g hj hn h1 h2
    obtain ⟨n, rfl⟩ : ∃ n', n = n' + 1 := ⟨n - 1, by omega⟩
    have nx : ∀ v, v = Int32.ofNat (ah i j) → ∃ g', M_ahead_p128 rec47 (M_ahead_l56 rec47 F n) F (Int32.ofNat A) (Int32.ofNat B) x3 (Int32.ofNat i) (Int32.ofNat j) v (am_row τ 29 g) = rec47 (Int32.ofNat A) (Int32.ofNat B) x3 (Int32.ofNat (i + 1)) (am_row τ 29 g') ∧
        ∀ a c, a < i + 1 → c ≤ B → g' (13 * a + c) = Int32.ofNat (ah a c) := by
      intro v hv
      rw [M_ahead_p128, show (13 : Int32) * Int32.ofNat i = Int32.ofNat (13 * i) from ni_mul 13 i, ni_add, ni_wr (by omega) (by omega), Option.bind_some, am_row_up, am_let, ni_succ]
      refine ih (j + 1) n _ (by omega) (by omega) (fun a c ha hc => ?_) (fun c hc => ?_)
      · rw [upd_ne (by omega)]; exact h1 a c ha hc
      · by_cases q : c = j
        · rw [q, upd_eq, hv]
        · rw [upd_ne (by omega)]; exact h2 c (by omega)
    rw [M_ahead_l56, if_neg (fun q => absurd ((ni_lt (by omega) (by omega)).mp q) (by omega))]
    cases i with
    | zero =>
      rw [if_pos (show Int32.ofNat 0 = 0 from rfl)]
      cases j with
      | zero =>
        rw [if_pos (show Int32.ofNat 0 = 0 from rfl), M_ahead_p77, if_neg (by decide)]
        exact nx _ rfl
      | succ j =>
        rw [if_neg (fun q : _ = (0 : Int32) => absurd ((ni_eq (b := 0) (by omega) (by omega)).mp q) (by omega)), M_ahead_p76, M_ahead_p77, if_neg (fun q => absurd ((ni_lt (by omega) (by omega)).mp q) (by omega))]
        exact nx _ rfl
    | succ i =>
      rw [if_neg (fun q : _ = (0 : Int32) => absurd ((ni_eq (b := 0) (by omega) (by omega)).mp q) (by omega)), M_ahead_p76, M_ahead_p77]
      cases j with
      | zero =>
        rw [if_pos ((ni_lt (by omega) (by omega)).mpr (by omega)), ni_pred (by omega), show i + 1 - 1 = i from rfl, show (13 : Int32) * Int32.ofNat i = Int32.ofNat (13 * i) from ni_mul 13 i, ni_add, ni_rd (by omega) (by omega), Option.bind_some, am_row_eq, h1 i 0 (by omega) (by omega), if_pos (show Int32.ofNat 0 = 0 from rfl), M_ahead_p125, am_let]
        exact nx _ (by simp [ah, ah_r])
      | succ j =>
        by_cases q : j + 1 < i + 1
        · rw [if_pos ((ni_lt (by omega) (by omega)).mpr q), ni_pred (by omega), show i + 1 - 1 = i from rfl, show (13 : Int32) * Int32.ofNat i = Int32.ofNat (13 * i) from ni_mul 13 i, ni_add, ni_rd (by omega) (by omega), Option.bind_some, am_row_eq, h1 i (j + 1) (by omega) (by omega),
            if_neg (fun q : _ = (0 : Int32) => absurd ((ni_eq (b := 0) (by omega) (by omega)).mp q) (by omega)), show (13 : Int32) * Int32.ofNat (i + 1) = Int32.ofNat (13 * (i + 1)) from ni_mul 13 (i + 1), ni_add, ni_pred (by omega), show 13 * (i + 1) + (j + 1) - 1 = 13 * (i + 1) + j from rfl, ni_rd (by omega) (by omega), Option.bind_some, am_row_eq, h2 j (by omega), M_ahead_p125, am_let, ni_add]
          refine nx _ ?_
          rw [show ah (i + 1) (j + 1) = ah i (j + 1) + ah (i + 1) j from by simp only [ah, ah_r]; rw [if_pos q]]
        · rw [if_neg (fun g => q ((ni_lt (by omega) (by omega)).mp g))]
          refine nx _ ?_
          rw [show ah (i + 1) (j + 1) = 0 from by simp only [ah, ah_r]; rw [if_neg q]]
          rfl
theorem ah_out (hF : 2000 ≤ F) (hA : A ≤ 12) (hB : B ≤ 12) : ∀ (d i n : Nat) (g : Nat → Int32), i + d = A + 1 → d < n → (∀ a c, a < i → c ≤ B → g (13 * a + c) = Int32.ofNat (ah a c)) →
    ∃ g', M_ahead_l47 F n (Int32.ofNat A) (Int32.ofNat B) x3 (Int32.ofNat i) (am_row τ 29 g) = (ah_fin F A B x3).map (fun v => (v, am_row τ 29 g')) := by
  intro d
  induction d with
  | zero =>
    intro i n g hi hn h1
    obtain ⟨n, rfl⟩ : ∃ n', n = n' + 1 := ⟨n - 1, by omega⟩
    refine ⟨g, ?_⟩
    rw [M_ahead_l47, if_pos ((ni_lt (by omega) (by omega)).mpr (by omega)), show (13 : Int32) * Int32.ofNat A = Int32.ofNat (13 * A) from ni_mul 13 A, ni_add (13 * A) B, ni_rd (by omega) (by omega), Option.bind_some, am_row_eq, h1 A B (by omega) (by omega), ah_fin]
    cases M_chosen F (Int32.ofNat A + Int32.ofNat B) (Int32.ofNat B) with
    | none => rfl
    | some q3 =>
      rw [Option.bind_some, Option.bind_some]
      cases M_common F (Int32.ofNat (ah A B)) q3 with
      | none => rfl
      | some q4 =>
        rw [Option.bind_some, Option.bind_some]
        by_cases w0 : x3 = 0
        · rw [if_pos w0, if_pos w0]; rfl
        · rw [if_neg w0, if_neg w0]
          by_cases w1 : x3 = 1
          · rw [if_pos w1, if_pos w1]; by_cases z : q4 = 0
            · rw [if_pos z, if_pos z]; rfl
            · rw [if_neg z, if_neg z]; rfl
          · rw [if_neg w1, if_neg w1]; by_cases z : q4 = 0
            · rw [if_pos z, if_pos z]; rfl
            · rw [if_neg z, if_neg z]; rfl
  | succ d ih =>
    intro i n g hi hn h1
    obtain ⟨n, rfl⟩ : ∃ n', n = n' + 1 := ⟨n - 1, by omega⟩
    rw [M_ahead_l47, if_neg (fun q => absurd ((ni_lt (by omega) (by omega)).mp q) (by omega))]
    obtain ⟨g1, e1, e2⟩ := ah_in (F := F) (τ := τ) (x3 := x3) hA hB (i := i) (by omega) (rec47 := M_ahead_l47 F n) (B + 1) 0 F g (by omega) (by omega) h1 (fun c hc => absurd hc (by omega))
    rw [show Int32.ofNat 0 = 0 from rfl] at e1
    rw [e1]
    exact ih (i + 1) n g1 (by omega) (by omega) e2
end
theorem ca_21 : aj_S21 2000000 rl_R := by
  intro x y z σ τ h
  have h := rl_told h 0
  simp only [M_ahead, am_let]
  generalize am_up τ 0 0 0 = τ at h ⊢
  by_cases v : rl_rg x 0 12 ∧ rl_rg y 0 12 ∧ y < x ∧ rl_rg z 0 2
  · obtain ⟨v1, v2, v3, v4⟩ := v
    rw [if_pos (ni_in.mpr v1), if_pos (ni_in.mpr v2), if_pos v3, if_pos (ni_in.mpr v4)]
    obtain ⟨a, ha, rfl⟩ := ni_of (x := x) (Int32.not_lt.mpr v1.1)
    obtain ⟨b, hb, rfl⟩ := ni_of (x := y) (Int32.not_lt.mpr v2.1)
    obtain ⟨c, hc, rfl⟩ := ni_of (x := z) (Int32.not_lt.mpr v4.1)
    have ha' : a ≤ 12 := (ni_le (b := 12) ha (by omega)).mp v1.2
    have hb' : b ≤ 12 := (ni_le (b := 12) hb (by omega)).mp v2.2
    have hc' : c ≤ 2 := (ni_le (b := 2) hc (by omega)).mp v4.2
    have hba : b < a := (ni_lt hb ha).mp v3
    obtain ⟨e1, e2⟩ := ah_C a (by omega) b hba ⟨c, by omega⟩
    simp only at e1 e2
    obtain ⟨r, hr⟩ := Option.isSome_iff_exists.mp e2
    obtain ⟨g', e⟩ := ah_out (F := 2000000) (τ := τ) (x3 := Int32.ofNat c) (by omega) ha' hb' (a + 1) 0 2000000 (τ 29) (by omega) (by omega) (fun _ _ q _ => absurd q (by omega))
    rw [am_row_id, show Int32.ofNat 0 = 0 from rfl, hr] at e
    rw [e1, hr, e]
    exact ⟨_, _, rfl, rfl, rfl, rl_junk29 h⟩
  · have eC : C_ahead 2000000 x y z = some (-1) := by
      unfold C_ahead rl_rg at *
      split <;> try rfl
      split <;> try rfl
      split <;> try rfl
      split <;> try rfl
      split <;> try rfl
      split <;> try rfl
      exact absurd (by refine ⟨⟨?_, ?_⟩, ⟨?_, ?_⟩, ?_, ?_, ?_⟩ <;> grind) v
    have eM : ∀ A : Option (Int32 × am_SS), (if M_isIn x 0 12 = true then (if M_isIn y 0 12 = true then (if y < x then (if M_isIn z 0 2 = true then A else some (-1, τ)) else some (-1, τ)) else some (-1, τ)) else some (-1, τ)) = some (-1, τ) := by
      intro A
      split <;> try rfl
      split <;> try rfl
      split <;> try rfl
      split <;> try rfl
      next a b c d => exact absurd ⟨ni_in.mp a, ni_in.mp b, c, ni_in.mp d⟩ v
    rw [eC, eM]
    exact ⟨_, _, rfl, rfl, rfl, h⟩
