/-! L3: parts -/
def sm (g : Nat → Nat) : Nat → Nat
  | 0 => 0
  | N + 1 => sm g N + g (N + 1)
theorem sm_cg {g h : Nat → Nat} : ∀ N, (∀ d, 1 ≤ d → d ≤ N → g d = h d) → sm g N = sm h N := by
  intro N
  induction N with
  | zero => intro _; rfl
  | succ N ih => intro e; rw [sm, sm, ih (fun d a b => e d a (by omega)), e (N + 1) (by omega) (by omega)]
theorem sm_add {g h : Nat → Nat} : ∀ N, sm (fun d => g d + h d) N = sm g N + sm h N := by
  intro N
  induction N with
  | zero => rfl
  | succ N ih => rw [sm, sm, sm, ih]; omega
theorem sm_mulc {g : Nat → Nat} {c : Nat} : ∀ N, sm (fun d => c * g d) N = c * sm g N := by
  intro N
  induction N with
  | zero => rfl
  | succ N ih => rw [sm, sm, ih, Nat.mul_add]
theorem sm_gap {g : Nat → Nat} {a : Nat} : ∀ k, (∀ i, 1 ≤ i → i ≤ k → g (a + i) = 0) → sm g (a + k) = sm g a := by
  intro k
  induction k with
  | zero => intro _; rfl
  | succ k ih => intro h; rw [← Nat.add_assoc, sm, ih (fun i x y => h i x (by omega)), Nat.add_assoc, h (k + 1) (by omega) (by omega), Nat.add_zero]
theorem sm_far {g : Nat → Nat} {n N : Nat} (hN : n ≤ N) (h : ∀ d, n < d → g d = 0) : sm g N = sm g n := by
  obtain ⟨k, rfl⟩ : ∃ k, N = n + k := ⟨N - n, by omega⟩
  exact sm_gap k (fun i x y => h _ (by omega))
theorem sm_mul {g : Nat → Nat} {p : Nat} (hp : 0 < p) (h : ∀ d, ¬ d % p = 0 → g d = 0) : ∀ M, sm g (p * M) = sm (fun d => g (p * d)) M := by
  intro M
  induction M with
  | zero => rfl
  | succ M ih =>
    obtain ⟨q, rfl⟩ : ∃ q, p = q + 1 := ⟨p - 1, by omega⟩
    rw [Nat.mul_succ, ← Nat.add_assoc, sm, sm_gap q (fun i x y => h _ (by rw [Nat.mul_add_mod, Nat.mod_eq_of_lt (by omega)]; omega)), ih, sm, Nat.add_assoc, ← Nat.mul_succ]
/-- the sum of f over the divisors of n -/
def sd (f : Nat → Nat) (n : Nat) : Nat := sm (fun d => if n % d = 0 then f d else 0) n
def pr (p : Nat) : Prop := 2 ≤ p ∧ ∀ d, d ∣ p → d = 1 ∨ d = p
theorem pr_cop {p d : Nat} (hp : pr p) (h : ¬ p ∣ d) : Nat.Coprime d p := by
  have g := Nat.gcd_dvd_right d p
  rcases hp.2 _ g with e | e
  · exact e
  · exact absurd (e ▸ Nat.gcd_dvd_left d p) h
theorem pr_mul {p a b : Nat} (hp : pr p) (h : p ∣ a * b) : p ∣ a ∨ p ∣ b := by
  by_cases q : p ∣ a
  · exact .inl q
  · exact .inr ((Nat.Coprime.symm (pr_cop hp q)).dvd_of_dvd_mul_left h)
theorem sd_far {f : Nat → Nat} {n N : Nat} (hn : 0 < n) (hN : n ≤ N) : sm (fun d => if n % d = 0 then f d else 0) N = sd f n :=
  sm_far hN (fun d hd => by rw [if_neg]; rw [Nat.mod_eq_of_lt hd]; omega)
theorem sd_step {f : Nat → Nat} {p r e : Nat} (hp : pr p) (hr : 0 < r) (hpr : ¬ p ∣ r) : sd f (p * (r * p ^ e)) = sd f r + sd (fun d => f (p * d)) (r * p ^ e) := by
  have p0 : 0 < p := by have := hp.1; omega
  have m0 : 0 < r * p ^ e := Nat.mul_pos hr (Nat.pow_pos p0)
  have split : sd f (p * (r * p ^ e)) = sm (fun d => (if r % d = 0 then f d else 0) + (if d % p = 0 ∧ (p * (r * p ^ e)) % d = 0 then f d else 0)) (p * (r * p ^ e)) := by
    refine sm_cg _ (fun d hd1 hd2 => ?_)
    by_cases q : d % p = 0
    · have nr : ¬ r % d = 0 := fun g => hpr (Nat.dvd_trans (Nat.dvd_of_mod_eq_zero q) (Nat.dvd_of_mod_eq_zero g))
      rw [if_neg nr]; simp [q]
    · have npd : ¬ p ∣ d := fun g => q (Nat.mod_eq_zero_of_dvd g)
      have cop := pr_cop hp npd
      have iffd : (p * (r * p ^ e)) % d = 0 ↔ r % d = 0 := by
        constructor
        · intro g
          have g1 := cop.dvd_of_dvd_mul_left (Nat.dvd_of_mod_eq_zero g)
          exact Nat.mod_eq_zero_of_dvd ((Nat.Coprime.pow_right e cop).dvd_of_dvd_mul_right g1)
        · intro g
          exact Nat.mod_eq_zero_of_dvd (Nat.dvd_trans (Nat.dvd_of_mod_eq_zero g) (Nat.dvd_trans (Nat.dvd_mul_right r _) (Nat.dvd_mul_left _ p)))
      by_cases g : r % d = 0
      · have gg := iffd.mpr g; simp [g, gg, q]
      · have gg : ¬ (p * (r * p ^ e)) % d = 0 := fun x => g (iffd.mp x)
        simp [g, gg, q]
  rw [split, sm_add]
  congr 1
  · exact sd_far hr (Nat.le_trans (Nat.le_mul_of_pos_right r (Nat.pow_pos p0)) (Nat.le_mul_of_pos_left _ p0))
  · rw [sm_mul p0 (fun d hd => by rw [if_neg (fun g => hd g.1)])]
    refine sm_cg _ (fun d hd1 hd2 => ?_)
    have e1 : p * d % p = 0 := Nat.mul_mod_right p d
    have e2 : p * (r * p ^ e) % (p * d) = p * (r * p ^ e % d) := Nat.mul_mod_mul_left ..
    by_cases g : r * p ^ e % d = 0
    · rw [if_pos g, if_pos ⟨e1, by rw [e2, g, Nat.mul_zero]⟩]
    · rw [if_neg g, if_neg]
      rintro ⟨-, x⟩
      rw [e2] at x
      rcases Nat.mul_eq_zero.mp x with y | y
      · omega
      · exact g y
def geo (p : Nat) : Nat → Nat
  | 0 => 1
  | e + 1 => geo p e * p + 1
theorem sd_1 {p r : Nat} (hp : pr p) (hr : 0 < r) (hpr : ¬ p ∣ r) : ∀ e, sd (fun _ => 1) (r * p ^ e) = sd (fun _ => 1) r * (e + 1) := by
  intro e
  induction e with
  | zero => simp
  | succ e ih =>
    rw [Nat.pow_succ, ← Nat.mul_assoc, Nat.mul_comm (r * p ^ e) p, sd_step hp hr hpr, ih, Nat.mul_succ _ (e + 1)]; omega
theorem sd_id {p r : Nat} (hp : pr p) (hr : 0 < r) (hpr : ¬ p ∣ r) : ∀ e, sd (fun d => d) (r * p ^ e) = sd (fun d => d) r * geo p e := by
  intro e
  induction e with
  | zero => simp [geo]
  | succ e ih =>
    rw [Nat.pow_succ, ← Nat.mul_assoc, Nat.mul_comm (r * p ^ e) p, sd_step hp hr hpr]
    have c : sd (fun d => p * d) (r * p ^ e) = p * sd (fun d => d) (r * p ^ e) := by
      unfold sd
      rw [← sm_mulc]
      refine sm_cg _ (fun d _ _ => ?_)
      by_cases g : r * p ^ e % d = 0
      · rw [if_pos g, if_pos g]
      · rw [if_neg g, if_neg g, Nat.mul_zero]
    rw [c, ih, geo, Nat.mul_add, Nat.mul_one, Nat.mul_comm p, Nat.mul_assoc, Nat.add_comm]
theorem pt_lt1 {a : Nat} (h : a < 2147483648) (h1 : 1 < a) : (1 : Int32) < Int32.ofNat a := (ni_lt (a := 1) (by omega) h).mpr h1
theorem pt_lt0 {a : Nat} (h : a < 2147483648) (h1 : 0 < a) : (0 : Int32) < Int32.ofNat a := (ni_lt (a := 0) (by omega) h).mpr h1
def rough (ρ d : Nat) : Prop := ∀ c, c ∣ ρ → 1 < c → d ≤ c
theorem pt_fac {d : Nat} (hd : 2 ≤ d) : ∀ ρ, 0 < ρ → ∃ r e, ρ = r * d ^ e ∧ ¬ d ∣ r ∧ 0 < r := by
  intro ρ
  induction ρ using Nat.strongRecOn with
  | ind ρ ih =>
    intro h0
    by_cases q : d ∣ ρ
    · obtain ⟨c, rfl⟩ := q
      have c0 : 0 < c := by rcases Nat.eq_zero_or_pos c with g | g; (subst g; simp at h0); exact g
      have cl : c < d * c := by
        have := Nat.mul_le_mul_right c hd; omega
      obtain ⟨r, e, a1, a2, a3⟩ := ih c cl c0
      exact ⟨r, e + 1, by rw [Nat.pow_succ, ← Nat.mul_assoc, ← a1, Nat.mul_comm], a2, a3⟩
    · exact ⟨ρ, 0, by simp, q, h0⟩
theorem pt_prime {ρ d : Nat} (h1 : 1 < ρ) (hr : rough ρ d) (hd : ρ < d * d) : pr ρ := by
  refine ⟨h1, fun c hc => ?_⟩
  obtain ⟨b, hb⟩ := hc
  by_cases c1 : c = 1
  · exact .inl c1
  by_cases b1 : b = 1
  · subst b1; right; omega
  have c0 : c ≠ 0 := by intro g; subst g; omega
  have b0 : b ≠ 0 := by intro g; subst g; omega
  have x := hr c ⟨b, hb⟩ (by omega)
  have y := hr b ⟨c, by rw [hb, Nat.mul_comm]⟩ (by omega)
  have := Nat.mul_le_mul x y
  omega
theorem pt_d {ρ d : Nat} (hd : 2 ≤ d) (hr : rough ρ d) (h : d ∣ ρ) : pr d := by
  refine ⟨hd, fun c hc => ?_⟩
  have le := Nat.le_of_dvd (by omega) hc
  have c0 : 0 < c := Nat.pos_of_dvd_of_pos hc (by omega)
  by_cases c1 : c = 1
  · exact .inl c1
  · have := hr c (Nat.dvd_trans hc h) (by omega)
    right; omega
theorem pt_rough {r d e : Nat} (hr : rough (r * d ^ e) d) (hn : ¬ d ∣ r) : rough r (d + 1) := fun c hc h1 => by
  have a := hr c (Nat.dvd_trans hc (Nat.dvd_mul_right r _)) h1
  have b : c ≠ d := fun g => hn (g ▸ hc)
  omega
theorem pt_mod {r d e : Nat} : (r * d ^ (e + 1)) % d = 0 := by
  rw [Nat.pow_succ, ← Nat.mul_assoc]; exact Nat.mul_mod_left _ _
theorem pt_div {r d e : Nat} (hd : 2 ≤ d) : (r * d ^ (e + 1)) / d = r * d ^ e := by
  rw [Nat.pow_succ, ← Nat.mul_assoc]; exact Nat.mul_div_cancel _ (by omega)
theorem pt_le {r d e : Nat} (hd : 2 ≤ d) : r * d ^ e ≤ r * d ^ (e + 1) := by
  rw [Nat.pow_succ, ← Nat.mul_assoc]; exact Nat.le_mul_of_pos_right _ (by omega)
theorem pt_big {r d e : Nat} (hd : 2 ≤ d) (hr : 0 < r) : 1 < r * d ^ (e + 1) := by
  have := Nat.mul_le_mul (show 1 ≤ r * d ^ e from Nat.mul_pos hr (Nat.pow_pos (by omega))) hd
  rw [Nat.pow_succ, ← Nat.mul_assoc]; omega
theorem pt_elt {r d e : Nat} (hd : 2 ≤ d) (hr : 0 < r) : e < r * d ^ e := by
  have a : e < d ^ e := Nat.lt_pow_self (by omega)
  have := Nat.mul_le_mul (show 1 ≤ r from hr) (Nat.le_refl (d ^ e))
  omega
theorem pt_M46 {F : Nat} {rec40 : Int32 → Int32 → Int32 → Int32 → Int32 → Int32 → am_SS → Option (Int32 × am_SS)} {x1 x2 : Int32} {τ : am_SS} {r d : Nat} (hd : 2 ≤ d) (hd2 : d < 100001) (hr : ¬ d ∣ r) (hr2 : 0 < r) : ∀ (e n k : Nat) (l : Int32), e < n → r * d ^ e < 100000 →
    M_parts_l46 rec40 F n x1 x2 (Int32.ofNat k) l (Int32.ofNat (r * d ^ e)) (Int32.ofNat d) τ = rec40 x1 x2 (Int32.ofNat (k + e)) (if e = 0 then l else Int32.ofNat d) (Int32.ofNat r) (Int32.ofNat (d + 1)) τ := by
  have d0 : ¬ Int32.ofNat d = 0 := fun g => absurd ((ni_eq (b := 0) (by omega) (by omega)).mp g) (by omega)
  intro e
  induction e with
  | zero =>
    intro n k l hn hb
    obtain ⟨n, rfl⟩ : ∃ m, n = m + 1 := ⟨n - 1, by omega⟩
    rw [Nat.pow_zero, Nat.mul_one] at hb ⊢
    have m : ¬ Int32.ofNat (r % d) = 0 := fun g => hr (Nat.dvd_of_mod_eq_zero ((ni_eq (b := 0) (by have := Nat.mod_le r d; omega) (by omega)).mp g))
    rw [M_parts_l46, if_neg d0, ni_mod (by omega) (by omega), if_neg m, if_pos rfl, Nat.add_zero, am_let, ni_succ]
  | succ e ih =>
    intro n k l hn hb
    obtain ⟨n, rfl⟩ : ∃ m, n = m + 1 := ⟨n - 1, by omega⟩
    have le := pt_le (r := r) (e := e) hd
    rw [M_parts_l46, if_neg d0, ni_mod (by omega) (by omega), pt_mod, if_pos (show Int32.ofNat 0 = 0 from rfl), if_neg d0, ni_div (by omega) (by omega), pt_div hd, am_let, am_let, ni_succ]
    rw [ih n (k + 1) _ (by omega) (by omega), if_neg (Nat.succ_ne_zero e), Nat.add_assoc, Nat.add_comm 1 e, ite_self]
theorem pt_C45 {F : Nat} {rec16 : Int32 → Int32 → Int32 → Int32 → Int32 → Int32 → Int32 → Int32 → Option Int32} {x0 x1 x3 x4 x5 x6 : Int32} {r d : Nat} (hd : 2 ≤ d) (hd2 : d < 100001) (hr : ¬ d ∣ r) (hr2 : 0 < r) : ∀ (e n j : Nat), e < n → r * d ^ e < 100000 →
    C_Sums_ofPrimes_l45 rec16 F n x0 x1 (Int32.ofNat (r * d ^ e)) x3 x4 x5 x6 (Int32.ofNat d) (Int32.ofNat j) (Int32.ofNat (geo d j)) = C_Sums_ofPrimes_p77 rec16 F x0 x1 (Int32.ofNat r) x3 x4 x5 x6 (Int32.ofNat d) (Int32.ofNat (j + e)) (Int32.ofNat (geo d (j + e))) := by
  have d0 : ¬ Int32.ofNat d = 0 := fun g => absurd ((ni_eq (b := 0) (by omega) (by omega)).mp g) (by omega)
  intro e
  induction e with
  | zero =>
    intro n j hn hb
    obtain ⟨n, rfl⟩ : ∃ m, n = m + 1 := ⟨n - 1, by omega⟩
    rw [Nat.pow_zero, Nat.mul_one] at hb ⊢
    have m : ¬ Int32.ofNat (r % d) = 0 := fun g => hr (Nat.dvd_of_mod_eq_zero ((ni_eq (b := 0) (by have := Nat.mod_le r d; omega) (by omega)).mp g))
    rw [C_Sums_ofPrimes_l45, if_neg d0, ni_mod (by omega) (by omega), if_neg m, ite_self]
    rfl
  | succ e ih =>
    intro n j hn hb
    obtain ⟨n, rfl⟩ : ∃ m, n = m + 1 := ⟨n - 1, by omega⟩
    have le := pt_le (r := r) (e := e) hd
    have big := pt_big (r := r) (e := e) hd hr2
    rw [C_Sums_ofPrimes_l45, if_pos (pt_lt1 (by omega) big), if_neg d0, ni_mod (by omega) (by omega), pt_mod, if_pos (show Int32.ofNat 0 = 0 from rfl), am_let, am_let, if_neg d0, ni_div (by omega) (by omega), pt_div hd, am_let, ni_mul, ni_succ, ni_succ, show geo d j * d + 1 = geo d (j + 1) from rfl]
    rw [ih n (j + 1) (by omega) (by omega), Nat.add_assoc, Nat.add_comm 1 e]
/-- the reference's last act -/
def ptM (F : Nat) (x1 x2 k l : Int32) (τ : am_SS) : Option (Int32 × am_SS) :=
  if x2 < 2 then (if x2 = 0 then some (k, τ) else some (l, τ)) else M_parts_l103 F F x1 x2 0 0 1 τ
theorem pt_M1 {F n : Nat} {x1 x2 k l d : Int32} {τ : am_SS} (hn : 0 < n) : M_parts_l40 F n x1 x2 k l 1 d τ = ptM F x1 x2 k l τ := by
  obtain ⟨n, rfl⟩ : ∃ m, n = m + 1 := ⟨n - 1, by omega⟩
  rw [M_parts_l40, if_neg (by decide)]; rfl
theorem pt_C1 {F n : Nat} {x0 x1 x3 x4 x5 x6 x7 : Int32} (hn : 0 < n) : C_Sums_ofPrimes_l16 F n x0 x1 1 x3 x4 x5 x6 x7 = C_Sums_ofPrimes_p118 F x1 x3 x4 x5 x6 := by
  obtain ⟨n, rfl⟩ : ∃ m, n = m + 1 := ⟨n - 1, by omega⟩
  rw [C_Sums_ofPrimes_l16, if_neg (by decide)]
theorem pt_Mstep {F n : Nat} {x1 x2 l : Int32} {τ : am_SS} {r d e k : Nat} (hF : 100000 ≤ F) (hd : 2 ≤ d) (hd2 : d < 100001) (hr : ¬ d ∣ r) (hr2 : 0 < r) (hb : r * d ^ e < 100000) (h1 : 1 < r * d ^ e) :
    M_parts_l40 F (n + 1) x1 x2 (Int32.ofNat k) l (Int32.ofNat (r * d ^ e)) (Int32.ofNat d) τ = M_parts_l40 F n x1 x2 (Int32.ofNat (k + e)) (if e = 0 then l else Int32.ofNat d) (Int32.ofNat r) (Int32.ofNat (d + 1)) τ := by
  have := pt_elt (r := r) (e := e) hd hr2
  rw [M_parts_l40, if_pos (pt_lt1 (by omega) h1), pt_M46 hd hd2 hr hr2 e F k l (by omega) hb]
theorem pt_Cstep {F n : Nat} {x0 x1 l : Int32} {r d e k A B : Nat} (hF : 100000 ≤ F) (hd : 2 ≤ d) (hd2 : d < 100001) (hr : ¬ d ∣ r) (hr2 : 0 < r) (hb : r * d ^ e < 100000) :
    C_Sums_ofPrimes_p39 (C_Sums_ofPrimes_l16 F n) F x0 x1 (Int32.ofNat (r * d ^ e)) (Int32.ofNat k) l (Int32.ofNat A) (Int32.ofNat B) (Int32.ofNat d) = C_Sums_ofPrimes_l16 F n x0 x1 (Int32.ofNat r) (Int32.ofNat (k + e)) (if e = 0 then l else Int32.ofNat d) (Int32.ofNat (A * (e + 1))) (Int32.ofNat (B * geo d e)) (Int32.ofNat (d + 1)) := by
  have he := pt_elt (r := r) (e := e) hd hr2
  have a := pt_C45 (F := F) (rec16 := C_Sums_ofPrimes_l16 F n) (x0 := x0) (x1 := x1) (x3 := Int32.ofNat k) (x4 := l) (x5 := Int32.ofNat A) (x6 := Int32.ofNat B) hd hd2 hr hr2 e F 0 (by omega) hb
  rw [Nat.zero_add] at a
  refine Eq.trans a ?_
  rw [C_Sums_ofPrimes_p77, am_let, ni_add]
  by_cases q : e = 0
  · subst q
    rw [if_pos rfl, if_neg (by decide), C_Sums_ofPrimes_p94, am_let, am_let, am_let, ni_succ, ni_succ, ni_mul, ni_mul]
  · rw [if_neg q, if_pos (pt_lt0 (by omega) (Nat.pos_of_ne_zero q)), C_Sums_ofPrimes_p94, am_let, am_let, am_let, ni_succ, ni_succ, ni_mul, ni_mul]
theorem sd_one {f : Nat → Nat} : sd f 1 = f 1 := by simp [sd, sm]
theorem pt_Mprime {F : Nat} {x1 x2 : Int32} {τ : am_SS} {ρ : Nat} (hF : 100000 ≤ F) (hp : pr ρ) (hb : ρ < 100000) : ∀ (j n d k : Nat) (l : Int32), d + j = ρ → 2 ≤ d → j + 2 ≤ n →
    M_parts_l40 F n x1 x2 (Int32.ofNat k) l (Int32.ofNat ρ) (Int32.ofNat d) τ = ptM F x1 x2 (Int32.ofNat (k + 1)) (Int32.ofNat ρ) τ := by
  intro j
  induction j with
  | zero =>
    intro n d k l hj hd hn
    obtain ⟨n, rfl⟩ : ∃ m, n = m + 1 := ⟨n - 1, by omega⟩
    have e : d = ρ := by omega
    subst e
    have a := pt_Mstep (F := F) (n := n) (x1 := x1) (x2 := x2) (l := l) (τ := τ) (r := 1) (d := d) (e := 1) (k := k) hF hd (by omega) (fun g => by have := Nat.le_of_dvd (by omega) g; omega) (by omega) (by rw [Nat.pow_one]; omega) (by rw [Nat.pow_one]; omega)
    rw [Nat.pow_one, Nat.one_mul, if_neg (by omega)] at a
    exact a.trans (pt_M1 (by omega))
  | succ j ih =>
    intro n d k l hj hd hn
    obtain ⟨n, rfl⟩ : ∃ m, n = m + 1 := ⟨n - 1, by omega⟩
    have nd : ¬ d ∣ ρ := fun g => by rcases hp.2 d g with x | x <;> omega
    have a := pt_Mstep (F := F) (n := n) (x1 := x1) (x2 := x2) (l := l) (τ := τ) (r := ρ) (d := d) (e := 0) (k := k) hF hd (by omega) nd (by omega) (by rw [Nat.pow_zero]; omega) (by rw [Nat.pow_zero]; omega)
    rw [Nat.pow_zero, Nat.mul_one, if_pos rfl, Nat.add_zero] at a
    rw [a]
    exact ih n (d + 1) k l (by omega) (by omega) (by omega)
theorem pt_run {F N : Nat} {x2 : Int32} {τ : am_SS} (hF : 100000 ≤ F) (hN : N < 100000) : ∀ (n ρ d k A B : Nat) (l l2 : Int32), (ρ = 1 → l = l2) → 1 ≤ n → ρ + 2 ≤ n + d → 0 < ρ → ρ ≤ N → 2 ≤ d → d ≤ 317 → rough ρ d →
    ∃ k' l', M_parts_l40 F n (Int32.ofNat N) x2 (Int32.ofNat k) l (Int32.ofNat ρ) (Int32.ofNat d) τ = ptM F (Int32.ofNat N) x2 k' l' τ ∧
      C_Sums_ofPrimes_l16 F n (Int32.ofNat N) x2 (Int32.ofNat ρ) (Int32.ofNat k) l2 (Int32.ofNat A) (Int32.ofNat B) (Int32.ofNat d) = C_Sums_ofPrimes_p118 F x2 k' l' (Int32.ofNat (A * sd (fun _ => 1) ρ)) (Int32.ofNat (B * sd (fun d => d) ρ)) := by
  intro n
  induction n with
  | zero => intro ρ d k A B l l2 _ h; omega
  | succ n ih =>
    intro ρ d k A B l l2 hl hn hm h0 hle hd hd2 hr
    by_cases q1 : ρ = 1
    · have := hl q1; subst this; subst q1
      refine ⟨_, _, pt_M1 (by omega), ?_⟩
      rw [sd_one, sd_one, Nat.mul_one, Nat.mul_one]
      exact pt_C1 (by omega)
    have h1 : 1 < ρ := by omega
    have hdr : d ≤ ρ := hr ρ (Nat.dvd_refl ρ) h1
    have c1 : (1 : Int32) < Int32.ofNat ρ := (ni_lt (a := 1) (by omega) (by omega)).mpr h1
    have c2 : ¬ Int32.ofNat N < Int32.ofNat d := fun g => by have := (ni_lt (by omega) (by omega)).mp g; omega
    have dd : d * d ≤ 317 * 317 := Nat.mul_le_mul hd2 hd2
    rw [C_Sums_ofPrimes_l16, if_pos c1, if_neg c2, ni_mul]
    by_cases q2 : ρ < d * d
    · rw [if_pos ((ni_lt (by omega) (by omega)).mpr q2)]
      have hp := pt_prime h1 hr q2
      have n1 : ¬ ρ ∣ 1 := fun g => by have := Nat.le_of_dvd (by omega) g; omega
      refine ⟨_, _, pt_Mprime hF hp (by omega) (ρ - d) (n + 1) d k l (by omega) hd (by omega), ?_⟩
      have a := pt_Cstep (F := F) (n := n) (x0 := Int32.ofNat N) (x1 := x2) (l := l2) (r := 1) (d := ρ) (e := 1) (k := k) (A := A) (B := B) hF (by omega) (by omega) n1 (by omega) (by rw [Nat.pow_one]; omega)
      rw [Nat.pow_one, Nat.one_mul, if_neg (by omega)] at a
      rw [a]
      refine (pt_C1 (by omega)).trans ?_
      have s1 := sd_1 hp (r := 1) (by omega) n1 1
      have s2 := sd_id hp (r := 1) (by omega) n1 1
      rw [Nat.pow_one, Nat.one_mul, sd_one, Nat.one_mul] at s1 s2
      rw [s1, s2]
    · rw [if_neg (fun g => q2 ((ni_lt (by omega) (by omega)).mp g))]
      obtain ⟨r, e, er, nd, r0⟩ := pt_fac hd ρ h0
      subst er
      have rle : r ≤ r * d ^ e := Nat.le_mul_of_pos_right r (Nat.pow_pos (by omega))
      have d316 : d ≤ 316 := Decidable.byContradiction (fun g => by have := Nat.mul_le_mul (show 317 ≤ d by omega) (show 317 ≤ d by omega); omega)
      have hh : ∀ f : Nat → Nat, True := fun _ => trivial
      obtain ⟨k', l', a1, a2⟩ := ih r (d + 1) (k + e) (A * (e + 1)) (B * geo d e) (if e = 0 then l else Int32.ofNat d) (if e = 0 then l2 else Int32.ofNat d) (fun r1 => by
        by_cases q3 : e = 0
        · subst q3; subst r1; rw [Nat.pow_zero] at h1; omega
        · rw [if_neg q3, if_neg q3]) (by omega) (by omega) r0 (by omega) (by omega) (by omega) (pt_rough hr nd)
      refine ⟨k', l', ?_, ?_⟩
      · rw [pt_Mstep hF hd (by omega) nd r0 (by omega) h1]; exact a1
      · rw [pt_Cstep hF hd (by omega) nd r0 (by omega)]
        refine a2.trans ?_
        by_cases q3 : e = 0
        · subst q3; simp [geo]
        · obtain ⟨e, rfl⟩ : ∃ m, e = m + 1 := ⟨e - 1, by omega⟩
          have hp := pt_d hd hr (Nat.dvd_of_mod_eq_zero pt_mod)
          rw [sd_1 hp r0 nd, sd_id hp r0 nd, Nat.mul_assoc, Nat.mul_assoc, Nat.mul_comm (e + 1 + 1), Nat.mul_comm (geo d (e + 1))]
theorem pt_M103 {F N : Nat} {x2 : Int32} {τ : am_SS} (hN : N < 100000) : ∀ (j n d : Nat), d + j = N → j + 2 ≤ n →
    M_parts_l103 F n (Int32.ofNat N) x2 (Int32.ofNat (sm (fun d => if N % d = 0 then 1 else 0) d)) (Int32.ofNat (sm (fun d => if N % d = 0 then d else 0) d)) (Int32.ofNat (d + 1)) τ = if x2 = 2 then some (Int32.ofNat (sd (fun _ => 1) N), τ) else some (Int32.ofNat (sd (fun d => d) N), τ) := by
  intro j
  induction j with
  | zero =>
    intro n d hj hn
    obtain ⟨n, rfl⟩ : ∃ m, n = m + 1 := ⟨n - 1, by omega⟩
    have e : N = d := by omega
    subst e
    rw [M_parts_l103, if_pos ((ni_lt (by omega) (by omega)).mpr (by omega))]; rfl
  | succ j ih =>
    intro n d hj hn
    obtain ⟨n, rfl⟩ : ∃ m, n = m + 1 := ⟨n - 1, by omega⟩
    have b := ih n (d + 1) (by omega) (by omega)
    have d0 : ¬ Int32.ofNat (d + 1) = 0 := fun g => absurd ((ni_eq (b := 0) (by omega) (by omega)).mp g) (by omega)
    rw [M_parts_l103, if_neg (fun g => by have := (ni_lt (by omega) (by omega)).mp g; omega), if_neg d0, ni_mod (by omega) (by omega)]
    rw [sm, sm] at b
    by_cases q : N % (d + 1) = 0
    · rw [q, if_pos (show Int32.ofNat 0 = 0 from rfl), am_let, am_let, M_parts_p132, am_let, ni_succ, ni_succ, ni_add]
      rw [if_pos q, if_pos q] at b
      exact b
    · have nq : ¬ Int32.ofNat (N % (d + 1)) = 0 := fun g => q ((ni_eq (b := 0) (by have := Nat.mod_le N (d + 1); omega) (by omega)).mp g)
      rw [if_neg nq, M_parts_p132, am_let, ni_succ]
      rw [if_neg q, if_neg q, Nat.add_zero, Nat.add_zero] at b
      exact b
theorem ca_33 : aj_S33 2000000 rl_R := by
  intro x y σ τ h
  have h := rl_told h 0
  simp only [C_parts, M_parts, am_let]
  generalize am_up τ 0 0 0 = τ at h ⊢
  by_cases v : rl_rg x 2 99999
  case neg =>
    rw [if_neg (fun g => v (ni_in.mp g))]
    by_cases q : x < 2
    · rw [if_pos q]; exact ⟨_, _, rfl, rfl, rfl, h⟩
    · rw [if_neg q, if_pos (Decidable.byContradiction (fun g => v ⟨Int32.not_lt.mp q, Int32.not_lt.mp g⟩))]
      exact ⟨_, _, rfl, rfl, rfl, h⟩
  rw [if_neg (Int32.not_lt.mpr v.1), if_neg (Int32.not_lt.mpr v.2), if_pos (ni_in.mpr v)]
  by_cases w : rl_rg y 0 3
  case neg =>
    rw [if_neg (fun g => w (ni_in.mp g))]
    by_cases q : y < 0
    · rw [if_pos q]; exact ⟨_, _, rfl, rfl, rfl, h⟩
    · rw [if_neg q, if_pos (Decidable.byContradiction (fun g => w ⟨Int32.not_lt.mp q, Int32.not_lt.mp g⟩))]
      exact ⟨_, _, rfl, rfl, rfl, h⟩
  rw [if_neg (Int32.not_lt.mpr w.1), if_neg (Int32.not_lt.mpr w.2), if_pos (ni_in.mpr w)]
  obtain ⟨N, hN, rfl⟩ := ni_of (x := x) (fun g => by have := v.1; grind)
  have hN1 : N ≤ 99999 := (ni_le (b := 99999) hN (by omega)).mp v.2
  have hN2 : 2 ≤ N := (ni_le (a := 2) (by omega) hN).mp v.1
  have hy : y = 0 ∨ y = 1 ∨ y = 2 ∨ y = 3 := by have := w.1; have := w.2; grind
  obtain ⟨k', l', a, b⟩ := pt_run (F := 2000000) (N := N) (x2 := y) (τ := τ) (by omega) (by omega) 2000000 N 2 0 1 1 0 1 (fun g => by omega) (by omega) (by omega) (by omega) (Nat.le_refl _) (by omega) (by omega) (fun c _ h => h)
  have m := pt_M103 (F := 2000000) (N := N) (x2 := y) (τ := τ) (by omega) N 2000000 0 (by omega) (by omega)
  rw [C_Sums_ofPrimes]
  rw [Nat.one_mul, Nat.one_mul] at b
  have a' : M_parts_l40 2000000 2000000 (Int32.ofNat N) y 0 0 (Int32.ofNat N) 2 τ = ptM 2000000 (Int32.ofNat N) y k' l' τ := a
  have b' : C_Sums_ofPrimes_l16 2000000 2000000 (Int32.ofNat N) y (Int32.ofNat N) 0 1 1 1 2 = C_Sums_ofPrimes_p118 2000000 y k' l' (Int32.ofNat (sd (fun _ => 1) N)) (Int32.ofNat (sd (fun d => d) N)) := b
  have m' : M_parts_l103 2000000 2000000 (Int32.ofNat N) y 0 0 1 τ = if y = 2 then some (Int32.ofNat (sd (fun _ => 1) N), τ) else some (Int32.ofNat (sd (fun d => d) N), τ) := m
  rw [a', b', ptM, m', C_Sums_ofPrimes_p118]
  rcases hy with rfl | rfl | rfl | rfl
  all_goals exact ⟨_, _, rfl, rfl, rfl, h⟩
