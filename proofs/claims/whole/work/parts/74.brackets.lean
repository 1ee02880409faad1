/-! L3: brackets -/
theorem shr_nat {x l : Nat} (hx : x < 2147483648) (hl : l < 32) : Int32.ofNat x >>> (Int32.ofNat l &&& 31) = Int32.ofNat (x / 2 ^ l) := by
  apply Int32.toBitVec_inj.mp
  have e : (Int32.ofNat l &&& 31).toBitVec.smod 32 = BitVec.ofNat 32 l := (by decide +kernel : ∀ l, l < 32 → (Int32.ofNat l &&& 31).toBitVec.smod 32 = BitVec.ofNat 32 l) l hl
  rw [Int32.toBitVec_shiftRight, e]
  show (BitVec.ofNat 32 x).sshiftRight (BitVec.ofNat 32 l).toNat = BitVec.ofNat 32 (x / 2 ^ l)
  have hd : x / 2 ^ l ≤ x := Nat.div_le_self _ _
  rw [BitVec.toNat_ofNat, Nat.mod_eq_of_lt (show l < 2 ^ 32 by omega), BitVec.sshiftRight_eq_of_msb_false (by rw [BitVec.msb_eq_decide, BitVec.toNat_ofNat]; simp; omega)]
  apply BitVec.eq_of_toNat_eq
  rw [BitVec.toNat_ushiftRight, BitVec.toNat_ofNat, BitVec.toNat_ofNat, Nat.shiftRight_eq_div_pow, Nat.mod_eq_of_lt (show x < 2 ^ 32 by omega), Nat.mod_eq_of_lt (show x / 2 ^ l < 2 ^ 32 by omega)]
theorem and_nat {y : Nat} (hy : y < 2147483648) : Int32.ofNat y &&& 1 = Int32.ofNat (y % 2) := by
  apply Int32.toBitVec_inj.mp
  rw [Int32.toBitVec_and]
  show BitVec.ofNat 32 y &&& 1#32 = BitVec.ofNat 32 (y % 2)
  apply BitVec.eq_of_toNat_eq
  rw [BitVec.toNat_and]
  show (BitVec.ofNat 32 y).toNat &&& 1 = (BitVec.ofNat 32 (y % 2)).toNat
  rw [BitVec.toNat_ofNat, BitVec.toNat_ofNat, Nat.mod_eq_of_lt (show y < 2 ^ 32 by omega), Nat.and_one_is_mod, Nat.mod_eq_of_lt (show y % 2 < 2 ^ 32 by omega)]
theorem bit_nat {x l : Nat} (hx : x < 2147483648) (hl : l < 32) : ((Int32.ofNat x >>> (Int32.ofNat l &&& 31)) &&& 1 = 1) ↔ x / 2 ^ l % 2 = 1 := by
  have hd : x / 2 ^ l ≤ x := Nat.div_le_self _ _
  rw [shr_nat hx hl, and_nat (by omega)]
  exact ni_eq (b := 1) (by omega) (by omega)
def cn_t : List (List Nat) := [[1, 0, 0, 0, 0, 0, 0, 0, 0, 0, 0, 0, 0, 0, 0, 0, 0, 0, 0, 0], [0, 1, 0, 0, 0, 0, 0, 0, 0, 0, 0, 0, 0, 0, 0, 0, 0, 0, 0, 0], [1, 0, 1, 0, 0, 0, 0, 0, 0, 0, 0, 0, 0, 0, 0, 0, 0, 0, 0, 0], [0, 2, 0, 1, 0, 0, 0, 0, 0, 0, 0, 0, 0, 0, 0, 0, 0, 0, 0, 0], [2, 0, 3, 0, 1, 0, 0, 0, 0, 0, 0, 0, 0, 0, 0, 0, 0, 0, 0, 0], [0, 5, 0, 4, 0, 1, 0, 0, 0, 0, 0, 0, 0, 0, 0, 0, 0, 0, 0, 0], [5, 0, 9, 0, 5, 0, 1, 0, 0, 0, 0, 0, 0, 0, 0, 0, 0, 0, 0, 0], [0, 14, 0, 14, 0, 6, 0, 1, 0, 0, 0, 0, 0, 0, 0, 0, 0, 0, 0, 0], [14, 0, 28, 0, 20, 0, 7, 0, 1, 0, 0, 0, 0, 0, 0, 0, 0, 0, 0, 0], [0, 42, 0, 48, 0, 27, 0, 8, 0, 1, 0, 0, 0, 0, 0, 0, 0, 0, 0, 0], [42, 0, 90, 0, 75, 0, 35, 0, 9, 0, 1, 0, 0, 0, 0, 0, 0, 0, 0, 0], [0, 132, 0, 165, 0, 110, 0, 44, 0, 10, 0, 1, 0, 0, 0, 0, 0, 0, 0, 0], [132, 0, 297, 0, 275, 0, 154, 0, 54, 0, 11, 0, 1, 0, 0, 0, 0, 0, 0, 0], [0, 429, 0, 572, 0, 429, 0, 208, 0, 65, 0, 12, 0, 1, 0, 0, 0, 0, 0, 0], [429, 0, 1001, 0, 1001, 0, 637, 0, 273, 0, 77, 0, 13, 0, 1, 0, 0, 0, 0, 0], [0, 1430, 0, 2002, 0, 1638, 0, 910, 0, 350, 0, 90, 0, 14, 0, 1, 0, 0, 0, 0], [1430, 0, 3432, 0, 3640, 0, 2548, 0, 1260, 0, 440, 0, 104, 0, 15, 0, 1, 0, 0, 0]]
/-- how many rows of l bits lead from height h to 0, never below -/
def cn (l h : Nat) : Nat := (cn_t.getD l []).getD h 0
theorem cn_fact : ∀ l, l < 16 → ∀ h, h < 18 → cn (l + 1) h = cn l (h + 1) + (if h = 0 then 0 else cn l (h - 1)) := by decide +kernel
theorem cn_0 : ∀ h, h < 19 → cn 0 h = if h = 0 then 1 else 0 := by decide +kernel
theorem cn_C : ∀ l, l < 17 → ∀ h, h < 18 → C_Sums_closings 2000000 (Int32.ofNat l) (Int32.ofNat h) = some (Int32.ofNat (cn l h)) := by decide +kernel
theorem cn_le : ∀ l, l < 17 → ∀ h, h < 18 → cn l h ≤ 12870 := by decide +kernel
/-- well set from height h on -/
def iw : Nat → Nat → Nat → Bool
  | 0, h, _ => h == 0
  | l + 1, h, x => if x / 2 ^ l % 2 = 1 then iw l (h + 1) x else (h != 0 && iw l (h - 1) x)
theorem iw_mod : ∀ l h x q, iw l h (x + 2 ^ l * q) = iw l h x := by
  intro l
  induction l with
  | zero => intro h x q; rfl
  | succ l ih =>
    intro h x q
    have hp : 0 < 2 ^ l := Nat.pow_pos (by omega)
    have e : 2 ^ (l + 1) * q = 2 ^ l * (2 * q) := by rw [Nat.pow_succ, Nat.mul_assoc]
    rw [iw, iw, e, ih, ih, Nat.add_mul_div_left _ _ hp, Nat.add_mul_mod_self_left]
/-- how many of the greatest t rows are well set -/
def ct (l h : Nat) : Nat → Nat
  | 0 => 0
  | t + 1 => ct l h t + (if iw l h (2 ^ l - 1 - t) = true then 1 else 0)
theorem ct_A (l h : Nat) : ∀ t, t ≤ 2 ^ l → ct (l + 1) h t = ct l (h + 1) t := by
  intro t
  induction t with
  | zero => intro _; rfl
  | succ t ih =>
    intro ht
    have hp : 0 < 2 ^ l := Nat.pow_pos (by omega)
    have e2 : 2 ^ (l + 1) = 2 ^ l * 2 := Nat.pow_succ ..
    have ex : 2 ^ (l + 1) - 1 - t = (2 ^ l - 1 - t) + 2 ^ l * 1 := by omega
    have hb : ((2 ^ l - 1 - t) + 2 ^ l * 1) / 2 ^ l % 2 = 1 := by
      rw [Nat.add_mul_div_left _ _ hp, Nat.div_eq_of_lt (by omega)]
    rw [ct, ct, ih (by omega), ex, iw, if_pos hb, iw_mod]
theorem ct_B (l h : Nat) : ∀ t, t ≤ 2 ^ l → ct (l + 1) h (2 ^ l + t) = ct l (h + 1) (2 ^ l) + (if h = 0 then 0 else ct l (h - 1) t) := by
  intro t
  induction t with
  | zero =>
    intro _
    show ct (l + 1) h (2 ^ l) = _
    rw [ct_A l h _ (Nat.le_refl _)]
    by_cases q : h = 0
    · rw [if_pos q]; rfl
    · rw [if_neg q]; rfl
  | succ t ih =>
    intro ht
    have hp : 0 < 2 ^ l := Nat.pow_pos (by omega)
    have e2 : 2 ^ (l + 1) = 2 ^ l * 2 := Nat.pow_succ ..
    have ex : 2 ^ (l + 1) - 1 - (2 ^ l + t) = 2 ^ l - 1 - t := by omega
    have hb : ¬ (2 ^ l - 1 - t) / 2 ^ l % 2 = 1 := by
      rw [Nat.div_eq_of_lt (by omega)]; omega
    rw [← Nat.add_assoc, ct, ih (by omega), ex, iw, if_neg hb]
    by_cases q : h = 0
    · simp [q]
    · rw [if_neg q, if_neg q, ct, Nat.add_assoc]
      congr 2
      have : (h != 0) = true := by simp [q]
      rw [this, Bool.true_and]
theorem ct_all : ∀ l, l ≤ 16 → ∀ h, h + l < 18 → ct l h (2 ^ l) = cn l h := by
  intro l
  induction l with
  | zero =>
    intro _ h hh
    rw [cn_0 h (by omega), Nat.pow_zero, ct, ct, iw]
    by_cases q : h = 0 <;> simp [q]
  | succ l ih =>
    intro hl h hh
    have e2 : 2 ^ (l + 1) = 2 ^ l + 2 ^ l := by rw [Nat.pow_succ]; omega
    rw [e2, ct_B l h _ (Nat.le_refl _), ih (by omega) (h + 1) (by omega), cn_fact l (by omega) h (by omega)]
    by_cases q : h = 0
    · rw [if_pos q, if_pos q]
    · rw [if_neg q, if_neg q, ih (by omega) (h - 1) (by omega)]
theorem ct_mono {l h : Nat} : ∀ t s, t ≤ s → ct l h t ≤ ct l h s := by
  intro t s hts
  induction s with
  | zero => rw [show t = 0 from by omega]; exact Nat.le_refl _
  | succ s ih =>
    by_cases q : t = s + 1
    · rw [q]; exact Nat.le_refl _
    · have := ih (by omega)
      rw [ct]; omega
/-- the place of a row, from height h on -/
def pl : Nat → Nat → Nat → Nat
  | 0, _, _ => 0
  | l + 1, h, x => if x / 2 ^ l % 2 = 1 then pl l (h + 1) x else cn l (h + 1) + pl l (h - 1) x
theorem pl_ct : ∀ l, l ≤ 16 → ∀ h, h + l < 18 → ∀ x, x < 2 ^ l → iw l h x = true → pl l h x = ct l h (2 ^ l - 1 - x) := by
  have pm : ∀ l h x q, pl l h (x + 2 ^ l * q) = pl l h x := by
    intro l
    induction l with
    | zero => intro h x q; rfl
    | succ l ih =>
      intro h x q
      have hp : 0 < 2 ^ l := Nat.pow_pos (by omega)
      have e : 2 ^ (l + 1) * q = 2 ^ l * (2 * q) := by rw [Nat.pow_succ, Nat.mul_assoc]
      rw [pl, pl, e, ih, ih, Nat.add_mul_div_left _ _ hp, Nat.add_mul_mod_self_left]
  intro l
  induction l with
  | zero => intro _ h _ x hx _; rw [Nat.pow_zero] at hx; rw [show x = 0 from by omega]; rfl
  | succ l ih =>
    intro hl h hh x hx hw
    have hp : 0 < 2 ^ l := Nat.pow_pos (by omega)
    have e2 : 2 ^ (l + 1) = 2 ^ l * 2 := Nat.pow_succ ..
    rw [pl]
    rw [iw] at hw
    by_cases q : 2 ^ l ≤ x
    · obtain ⟨y, rfl⟩ : ∃ y, x = y + 2 ^ l * 1 := ⟨x - 2 ^ l, by omega⟩
      have hb : (y + 2 ^ l * 1) / 2 ^ l % 2 = 1 := by rw [Nat.add_mul_div_left _ _ hp, Nat.div_eq_of_lt (by omega)]
      rw [if_pos hb] at hw ⊢
      rw [iw_mod] at hw
      rw [pm, ih (by omega) (h + 1) (by omega) y (by omega) hw, show 2 ^ (l + 1) - 1 - (y + 2 ^ l * 1) = 2 ^ l - 1 - y from by omega, ct_A l h _ (by omega)]
    · have hb : ¬ x / 2 ^ l % 2 = 1 := by rw [Nat.div_eq_of_lt (by omega)]; omega
      rw [if_neg hb] at hw ⊢
      have hw2 : h ≠ 0 ∧ iw l (h - 1) x = true := by simpa using hw
      rw [ih (by omega) (h - 1) (by omega) x (by omega) hw2.2, show 2 ^ (l + 1) - 1 - x = 2 ^ l + (2 ^ l - 1 - x) from by omega, ct_B l h _ (by omega), if_neg hw2.1, ct_all l (by omega) (h + 1) (by omega)]
/-- the row at place k, from height h on -/
def ur : Nat → Nat → Nat → Nat
  | 0, _, _ => 0
  | l + 1, h, k => if k < cn l (h + 1) then 2 ^ l + ur l (h + 1) k else ur l (h - 1) (k - cn l (h + 1))
theorem ur_ok : ∀ l, l ≤ 16 → ∀ h, h + l < 18 → ∀ k, k < cn l h → ur l h k < 2 ^ l ∧ iw l h (ur l h k) = true ∧ ct l h (2 ^ l - 1 - ur l h k) = k := by
  intro l
  induction l with
  | zero =>
    intro _ h hh k hk
    rw [cn_0 h (by omega)] at hk
    by_cases q : h = 0
    · rw [if_pos q] at hk; subst q; rw [show k = 0 from by omega]; exact ⟨by decide, rfl, rfl⟩
    · rw [if_neg q] at hk; omega
  | succ l ih =>
    intro hl h hh k hk
    have hp : 0 < 2 ^ l := Nat.pow_pos (by omega)
    have e2 : 2 ^ (l + 1) = 2 ^ l * 2 := Nat.pow_succ ..
    rw [cn_fact l (by omega) h (by omega)] at hk
    rw [ur]
    by_cases q : k < cn l (h + 1)
    · rw [if_pos q]
      obtain ⟨a, b, c⟩ := ih (by omega) (h + 1) (by omega) k q
      have hb : (ur l (h + 1) k + 2 ^ l * 1) / 2 ^ l % 2 = 1 := by rw [Nat.add_mul_div_left _ _ hp, Nat.div_eq_of_lt a]
      rw [show 2 ^ l + ur l (h + 1) k = ur l (h + 1) k + 2 ^ l * 1 from by omega]
      refine ⟨by omega, by rw [iw, if_pos hb, iw_mod]; exact b, ?_⟩
      rw [show 2 ^ (l + 1) - 1 - (ur l (h + 1) k + 2 ^ l * 1) = 2 ^ l - 1 - ur l (h + 1) k from by omega, ct_A l h _ (by omega)]
      exact c
    · rw [if_neg q]
      have h0 : h ≠ 0 := fun g => by rw [if_pos g] at hk; omega
      rw [if_neg h0] at hk
      obtain ⟨a, b, c⟩ := ih (by omega) (h - 1) (by omega) (k - cn l (h + 1)) (by omega)
      have hb : ¬ ur l (h - 1) (k - cn l (h + 1)) / 2 ^ l % 2 = 1 := by rw [Nat.div_eq_of_lt a]; omega
      refine ⟨by omega, by rw [iw, if_neg hb]; simp [h0, b], ?_⟩
      rw [show 2 ^ (l + 1) - 1 - ur l (h - 1) (k - cn l (h + 1)) = 2 ^ l + (2 ^ l - 1 - ur l (h - 1) (k - cn l (h + 1))) from by omega, ct_B l h _ (by omega), if_neg h0, c, ct_all l (by omega) (h + 1) (by omega)]
      omega
/-! the loops -/
theorem wl_M {F x : Nat} (hx : x < 65536) : ∀ (l h k : Nat), l ≤ 16 → h ≤ 40 → l < k → h + l ≤ 40 → M_isWellSet_l9 F k (Int32.ofNat x) (Int32.ofNat h) (Int32.ofNat l - 1) = some (iw l h x) := by
  intro l
  induction l with
  | zero =>
    intro h k hl hh hk _
    obtain ⟨k, rfl⟩ : ∃ n, k = n + 1 := ⟨k - 1, by omega⟩
    rw [M_isWellSet_l9, if_pos (by decide), iw]
    by_cases q : h = 0
    · rw [q, if_pos (show Int32.ofNat 0 = 0 from rfl)]; rfl
    · rw [if_neg (fun g : _ = (0 : Int32) => q ((ni_eq (b := 0) (by omega) (by omega)).mp g))]; simp [q]
  | succ l ih =>
    intro h k hl hh hk hs
    obtain ⟨k, rfl⟩ : ∃ n, k = n + 1 := ⟨k - 1, by omega⟩
    have m1 : Int32.ofNat l + -1 = Int32.ofNat l - 1 := by grind
    rw [ni_pred (by omega), show l + 1 - 1 = l from rfl, M_isWellSet_l9, if_neg (ni_nn (by omega)), iw]
    by_cases q : x / 2 ^ l % 2 = 1
    · rw [if_pos (has_iff.mpr ((bit_nat (by omega) (by omega)).mpr q)), if_pos q, M_isWellSet_p30, am_let, ni_succ, if_neg (ni_nn (by omega)), am_let, m1]
      exact ih (h + 1) k (by omega) (by omega) (by omega) (by omega)
    · rw [if_neg (fun g => q ((bit_nat (by omega) (by omega)).mp (has_iff.mp g))), if_neg q, M_isWellSet_p30, am_let, show Int32.ofNat h + -1 = Int32.ofNat h - 1 from by grind]
      by_cases h0 : h = 0
      · rw [h0, if_pos (by decide)]; rfl
      · rw [ni_pred (by omega), if_neg (ni_nn (by omega)), am_let, m1, ih (h - 1) k (by omega) (by omega) (by omega) (by omega)]
        simp [h0]
theorem wp_C {x : Nat} (hx : x < 65536) : ∀ (l h k acc : Nat), l ≤ 16 → l < k → h + l < 18 → C_Sums_bracketPlace_l11 2000000 k (Int32.ofNat x) (Int32.ofNat acc) (Int32.ofNat h) (Int32.ofNat l - 1) = some (if iw l h x = true then Int32.ofNat (acc + pl l h x) else -1) := by
  intro l
  induction l with
  | zero =>
    intro h k acc hl hk _
    obtain ⟨k, rfl⟩ : ∃ n, k = n + 1 := ⟨k - 1, by omega⟩
    rw [C_Sums_bracketPlace_l11, if_pos (by decide), iw, pl]
    by_cases q : h = 0
    · rw [q, if_pos (show Int32.ofNat 0 = 0 from rfl)]; rfl
    · rw [if_neg (fun g : _ = (0 : Int32) => q ((ni_eq (b := 0) (by omega) (by omega)).mp g))]; simp [q]
  | succ l ih =>
    intro h k acc hl hk hh
    obtain ⟨k, rfl⟩ : ∃ n, k = n + 1 := ⟨k - 1, by omega⟩
    have m1 : Int32.ofNat l + -1 = Int32.ofNat l - 1 := by grind
    rw [ni_pred (by omega), show l + 1 - 1 = l from rfl, C_Sums_bracketPlace_l11, if_neg (ni_nn (by omega)), iw, pl]
    by_cases q : x / 2 ^ l % 2 = 1
    · rw [if_pos ((bit_nat (by omega) (by omega)).mpr q), if_pos q, if_pos q, C_Sums_bracketPlace_p31, if_pos rfl, C_Sums_bracketPlace_p51, am_let, if_pos rfl, C_Sums_bracketPlace_p64, am_let, ni_succ, if_neg (ni_nn (by omega)), am_let, m1, show Int32.ofNat acc + 0 = Int32.ofNat acc from by simp]
      rw [ih (h + 1) k acc (by omega) (by omega) (by omega)]
    · have hcn := cn_le l (by omega) (h + 1) (by omega)
      rw [if_neg (fun g => q ((bit_nat (by omega) (by omega)).mp g)), if_neg q, if_neg q, C_Sums_bracketPlace_p31, if_neg (by simp), ni_succ, cn_C l (by omega) (h + 1) (by omega), Option.bind_some, C_Sums_bracketPlace_p51, am_let, if_neg (by simp), C_Sums_bracketPlace_p64, am_let, show Int32.ofNat h + -1 = Int32.ofNat h - 1 from by grind, ni_add]
      by_cases h0 : h = 0
      · rw [h0, if_pos (by decide)]; rfl
      · rw [ni_pred (by omega), if_neg (ni_nn (by omega)), am_let, m1, ih (h - 1) k (acc + cn l (h + 1)) (by omega) (by omega) (by omega), Nat.add_assoc]
        simp [h0]
theorem wr_C : ∀ (l h k r acc : Nat), l ≤ 16 → l < k → h + l < 18 → r < cn l h → C_Sums_bracketRow_l14 2000000 k (Int32.ofNat acc) (Int32.ofNat h) (Int32.ofNat r) (Int32.ofNat l - 1) = some (Int32.ofNat (acc * 2 ^ l + ur l h r)) := by
  intro l
  induction l with
  | zero =>
    intro h k r acc hl hk _ _
    obtain ⟨k, rfl⟩ : ∃ n, k = n + 1 := ⟨k - 1, by omega⟩
    rw [C_Sums_bracketRow_l14, if_pos (by decide), ur]; simp
  | succ l ih =>
    intro h k r acc hl hk hh hr
    have hr0 := hr
    obtain ⟨k, rfl⟩ : ∃ n, k = n + 1 := ⟨k - 1, by omega⟩
    have m1 : Int32.ofNat l + -1 = Int32.ofNat l - 1 := by grind
    have hcn := cn_le l (by omega) (h + 1) (by omega)
    have hcn2 := cn_le (l + 1) (by omega) h (by omega)
    have hpw : acc * 2 ^ (l + 1) = acc * 2 * 2 ^ l := by rw [Nat.pow_succ, Nat.mul_comm (2 ^ l) 2, Nat.mul_assoc]
    have f := cn_fact l (by omega) h (by omega)
    rw [f] at hr
    rw [ni_pred (by omega), show l + 1 - 1 = l from rfl, C_Sums_bracketRow_l14, if_neg (ni_nn (by omega)), ni_succ, cn_C l (by omega) (h + 1) (by omega), Option.bind_some, ur]
    by_cases q : r < cn l (h + 1)
    · rw [if_pos ((ni_lt (by omega) (by omega)).mpr q), if_pos q, C_Sums_bracketRow_p41, if_pos rfl, C_Sums_bracketRow_p56, am_let, if_pos rfl, C_Sums_bracketRow_p69, am_let, if_pos rfl, C_Sums_bracketRow_p84, am_let, am_let, m1, ni_succ, show Int32.ofNat r - 0 = Int32.ofNat r from by simp,
        show Int32.ofNat acc * 2 + am_bI true = Int32.ofNat (acc * 2 + 1) from by rw [show Int32.ofNat acc * 2 = Int32.ofNat (acc * 2) from ni_mul acc 2]; exact ni_succ _]
      have hp : 0 < 2 ^ l := Nat.pow_pos (by omega)
      have hp16 : 2 ^ l ≤ 2 ^ 15 := Nat.pow_le_pow_right (by omega) (by omega)
      have e : (acc * 2 + 1) * 2 ^ l = acc * 2 * 2 ^ l + 2 ^ l := by rw [Nat.add_mul, Nat.one_mul]
      rw [ih (h + 1) k r (acc * 2 + 1) (by omega) (by omega) (by omega) q, hpw, e, Nat.add_assoc]
    · have h0 : h ≠ 0 := fun g => by rw [if_pos g] at hr; omega
      rw [if_neg h0] at hr
      rw [if_neg (fun g => q ((ni_lt (by omega) (by omega)).mp g)), if_neg q, C_Sums_bracketRow_p41, if_neg (by simp), C_Sums_bracketRow_p56, am_let, if_neg (by simp), C_Sums_bracketRow_p69, am_let, if_neg (by simp), C_Sums_bracketRow_p84, am_let, am_let, m1, show Int32.ofNat h + -1 = Int32.ofNat h - 1 from by grind, ni_pred (by omega), ni_sub (by omega),
        show Int32.ofNat acc * 2 + am_bI false = Int32.ofNat (acc * 2) from by rw [show Int32.ofNat acc * 2 = Int32.ofNat (acc * 2) from ni_mul acc 2, show am_bI false = 0 from rfl]; simp]
      rw [ih (h - 1) k (r - cn l (h + 1)) (acc * 2) (by omega) (by omega) (by omega) (by omega), hpw]
section
variable {F : Nat} {τ : am_SS}
/-- the reference counts down from the greatest row -/
theorem br_M {L N : Nat} (hF : 100000 ≤ F) (hL : L = 2 * N) (hN : N ≤ 8) {k w : Int32} (hw : w = 0 ∨ w = 1 ∨ w = 2) :
    ∀ (d t n : Nat), t + d = 2 ^ L → d < n → (∀ s, s < t → ¬ (iw L 0 (2 ^ L - 1 - s) = true ∧ ((w = 1 ∧ Int32.ofNat (ct L 0 s) = k) ∨ (w = 2 ∧ Int32.ofNat (2 ^ L - 1 - s) = k)))) →
    (∃ s, s < 2 ^ L ∧ iw L 0 (2 ^ L - 1 - s) = true ∧ (∀ s', s' < s → ¬ (iw L 0 (2 ^ L - 1 - s') = true ∧ ((w = 1 ∧ Int32.ofNat (ct L 0 s') = k) ∨ (w = 2 ∧ Int32.ofNat (2 ^ L - 1 - s') = k)))) ∧
      ((w = 1 ∧ Int32.ofNat (ct L 0 s) = k ∧ M_brackets_l72 F n (Int32.ofNat N) k w (Int32.ofNat (ct L 0 t)) (Int32.ofNat (2 ^ L - t) - 1) τ = some (Int32.ofNat (2 ^ L - 1 - s), τ)) ∨
       (w = 2 ∧ Int32.ofNat (2 ^ L - 1 - s) = k ∧ M_brackets_l72 F n (Int32.ofNat N) k w (Int32.ofNat (ct L 0 t)) (Int32.ofNat (2 ^ L - t) - 1) τ = some (Int32.ofNat (ct L 0 s), τ)))) ∨
    ((∀ s, s < 2 ^ L → ¬ (iw L 0 (2 ^ L - 1 - s) = true ∧ ((w = 1 ∧ Int32.ofNat (ct L 0 s) = k) ∨ (w = 2 ∧ Int32.ofNat (2 ^ L - 1 - s) = k)))) ∧
      M_brackets_l72 F n (Int32.ofNat N) k w (Int32.ofNat (ct L 0 t)) (Int32.ofNat (2 ^ L - t) - 1) τ = some (if w = 0 then Int32.ofNat (ct L 0 (2 ^ L)) else -1, τ)) := by
  have hp : 2 ^ L ≤ 65536 := by
    have := Nat.pow_le_pow_right (show 0 < 2 by omega) (show L ≤ 16 by omega)
    exact this
  intro d
  induction d with
  | zero =>
    intro t n ht hn hno
    obtain ⟨n, rfl⟩ : ∃ m, n = m + 1 := ⟨n - 1, by omega⟩
    have e : t = 2 ^ L := by omega
    subst e
    right
    refine ⟨hno, ?_⟩
    rw [Nat.sub_self, M_brackets_l72, if_pos (by decide)]
    by_cases q : w = 0
    · rw [if_pos q, if_pos q]
    · rw [if_neg q, if_neg q]
  | succ d ih =>
    intro t n ht hn hno
    obtain ⟨n, rfl⟩ : ∃ m, n = m + 1 := ⟨n - 1, by omega⟩
    have ex : 2 ^ L - t - 1 = 2 ^ L - 1 - t := by omega
    have m1 : Int32.ofNat (2 ^ L - 1 - t) + -1 = Int32.ofNat (2 ^ L - (t + 1)) - 1 := by
      rw [show 2 ^ L - (t + 1) = 2 ^ L - 1 - t from by omega]; grind
    have well : M_isWellSet F (Int32.ofNat (2 ^ L - 1 - t)) (Int32.ofNat N) = some (iw L 0 (2 ^ L - 1 - t)) := by
      rw [M_isWellSet, am_let, show (2 : Int32) * Int32.ofNat N = Int32.ofNat L from by rw [hL]; exact ni_mul 2 N]
      exact wl_M (by omega) L 0 F (by omega) (by omega) (by omega) (by omega)
    rw [ni_pred (by omega), ex, M_brackets_l72, if_neg (ni_nn (by omega)), well, Option.bind_some]
    by_cases q : iw L 0 (2 ^ L - 1 - t) = true
    · have ec : ct L 0 (t + 1) = ct L 0 t + 1 := by rw [ct, if_pos q]
      rw [if_pos q]
      have next : (¬ ((w = 1 ∧ Int32.ofNat (ct L 0 t) = k) ∨ (w = 2 ∧ Int32.ofNat (2 ^ L - 1 - t) = k))) → _ := fun hnot =>
        ih (t + 1) n (by omega) (by omega) (fun s hs => by
          by_cases g : s = t
          · rw [g]; exact fun gg => hnot gg.2
          · exact hno s (by omega))
      rw [ec] at next
      by_cases w1 : w = 1
      · rw [if_pos w1]
        by_cases qk : Int32.ofNat (ct L 0 t) = k
        · rw [if_pos qk]
          exact .inl ⟨t, by omega, q, hno, .inl ⟨w1, qk, rfl⟩⟩
        · rw [if_neg qk, M_brackets_p104, if_neg (by rw [w1]; decide), M_brackets_p118, am_let, M_brackets_p124, am_let, m1, ni_succ]
          exact next (by rintro (⟨_, g⟩ | ⟨g, _⟩); exact qk g; rw [w1] at g; exact absurd g (by decide))
      · rw [if_neg w1, M_brackets_p104]
        by_cases w2 : w = 2
        · rw [if_pos w2]
          by_cases qk : Int32.ofNat (2 ^ L - 1 - t) = k
          · rw [if_pos qk]
            exact .inl ⟨t, by omega, q, hno, .inr ⟨w2, qk, rfl⟩⟩
          · rw [if_neg qk, M_brackets_p118, am_let, M_brackets_p124, am_let, m1, ni_succ]
            exact next (by rintro (⟨g, _⟩ | ⟨_, g⟩); exact w1 g; exact qk g)
        · rw [if_neg w2, M_brackets_p118, am_let, M_brackets_p124, am_let, m1, ni_succ]
          exact next (by rintro (⟨g, _⟩ | ⟨g, _⟩); exact w1 g; exact w2 g)
    · have ec : ct L 0 (t + 1) = ct L 0 t := by rw [ct, if_neg q]; rfl
      rw [if_neg q, M_brackets_p124, am_let, m1, ← ec]
      exact ih (t + 1) n (by omega) (by omega) (fun s hs => by
        by_cases g : s = t
        · rw [g]; exact fun gg => q gg.1
        · exact hno s (by omega))
end
theorem ca_34 : aj_S34 2000000 rl_R := by
  intro x y z σ τ h
  have h := rl_told h 0
  simp only [C_brackets, M_brackets, am_let, C_brackets_p63, C_brackets_p86]
  generalize am_up τ 0 0 0 = τ at h ⊢
  by_cases v : rl_rg x 0 8
  case neg =>
    rw [if_neg (fun g => v (ni_in.mp g))]
    by_cases q : x < 0
    · rw [if_pos q]; exact ⟨_, _, rfl, rfl, rfl, h⟩
    · rw [if_neg q, if_pos (Decidable.byContradiction (fun g => v ⟨Int32.not_lt.mp q, Int32.not_lt.mp g⟩))]
      exact ⟨_, _, rfl, rfl, rfl, h⟩
  rw [if_neg (Int32.not_lt.mpr v.1), if_neg (Int32.not_lt.mpr v.2), if_pos (ni_in.mpr v)]
  obtain ⟨N, hN, rfl⟩ := ni_of (x := x) (Int32.not_lt.mpr v.1)
  have hN8 : N ≤ 8 := (ni_le (b := 8) hN (by omega)).mp v.2
  have e2N : (2 : Int32) * Int32.ofNat N = Int32.ofNat (2 * N) := ni_mul 2 N
  have hp : 2 ^ (2 * N) ≤ 65536 := Nat.pow_le_pow_right (show 0 < 2 by omega) (show 2 * N ≤ 16 by omega)
  have hp0 : 0 < 2 ^ (2 * N) := Nat.pow_pos (by omega)
  have e1N : (1 : Int32) <<< (Int32.ofNat (2 * N) &&& 31) = Int32.ofNat (2 ^ (2 * N)) := bt_1 (2 * N) (by omega)
  have tot : ct (2 * N) 0 (2 ^ (2 * N)) = cn (2 * N) 0 := ct_all (2 * N) (by omega) 0 (by omega)
  have clos : C_Sums_closings 2000000 (Int32.ofNat (2 * N)) 0 = some (Int32.ofNat (cn (2 * N) 0)) := cn_C (2 * N) (by omega) 0 (by omega)
  have hcn := cn_le (2 * N) (by omega) 0 (by omega)
  have run := fun w hw => br_M (F := 2000000) (τ := τ) (L := 2 * N) (N := N) (k := y) (w := w) (by omega) rfl hN8 hw (2 ^ (2 * N)) 0 2000000 (by omega) (by omega) (fun s hs => absurd hs (by omega))
  have p60 : ∀ w, M_brackets_p60 2000000 (Int32.ofNat N) y w τ = M_brackets_l72 2000000 2000000 (Int32.ofNat N) y w (Int32.ofNat (ct (2 * N) 0 0)) (Int32.ofNat (2 ^ (2 * N) - 0) - 1) τ := fun w => by
    rw [M_brackets_p60, am_let, e2N, e1N]; rfl
  rw [e2N, clos, e1N]
  by_cases z0 : z = 0
  · subst z0
    rw [if_pos rfl, if_pos (show M_isIn 0 0 2 = true from by decide), if_neg (show ¬ (0 : Int32) = 2 from by decide), p60]
    rcases run 0 (.inl rfl) with ⟨s, _, _, _, ⟨g, _⟩ | ⟨g, _⟩⟩ | ⟨_, r⟩
    · exact absurd g (by decide)
    · exact absurd g (by decide)
    · rw [r, if_pos rfl, tot, Option.bind_some]; exact ⟨_, _, rfl, rfl, rfl, h⟩
  rw [if_neg z0]
  by_cases z1 : z = 1
  · subst z1
    rw [if_pos rfl, if_pos (show M_isIn 1 0 2 = true from by decide), if_neg (show ¬ (1 : Int32) = 2 from by decide), p60]
    by_cases y0 : y < 0
    · rw [if_pos y0]
      rcases run 1 (.inr (.inl rfl)) with ⟨s, hs, _, _, ⟨_, g, _⟩ | ⟨g, _⟩⟩ | ⟨_, r⟩
      · have := ct_mono (l := 2 * N) (h := 0) s (2 ^ (2 * N)) (by omega)
        rw [← g] at y0
        exact absurd y0 (ni_nn (by omega))
      · exact absurd g (by decide)
      · rw [r]; exact ⟨_, _, rfl, rfl, rfl, h⟩
    · rw [if_neg y0, Option.bind_some]
      obtain ⟨k, hk, rfl⟩ := ni_of y0
      by_cases q : k < cn (2 * N) 0
      · rw [if_pos ((ni_lt hk (by omega)).mpr q)]
        obtain ⟨u1, u2, u3⟩ := ur_ok (2 * N) (by omega) 0 (by omega) k q
        have rC := wr_C (2 * N) 0 2000000 k 0 (by omega) (by omega) (by omega) q
        rw [Nat.zero_mul, Nat.zero_add, show Int32.ofNat 0 = 0 from rfl] at rC
        rw [C_Sums_bracketRow, am_let, e2N, rC, Option.bind_some]
        rcases run 1 (.inr (.inl rfl)) with ⟨s, hs, a, b, ⟨_, g, r⟩ | ⟨g, _⟩⟩ | ⟨no, r⟩
        · have hm := ct_mono (l := 2 * N) (h := 0) s (2 ^ (2 * N)) (by omega)
          have g' : ct (2 * N) 0 s = k := (ni_eq (by omega) hk).mp g
          have hs' : s = 2 ^ (2 * N) - 1 - ur (2 * N) 0 k := by
            rcases Nat.lt_trichotomy s (2 ^ (2 * N) - 1 - ur (2 * N) 0 k) with c | c | c
            · have m := ct_mono (l := 2 * N) (h := 0) (s + 1) _ c
              rw [ct, if_pos a, u3] at m; omega
            · exact c
            · have m := ct_mono (l := 2 * N) (h := 0) (2 ^ (2 * N) - 1 - ur (2 * N) 0 k + 1) s c
              rw [ct, if_pos (by rw [show 2 ^ (2 * N) - 1 - (2 ^ (2 * N) - 1 - ur (2 * N) 0 k) = ur (2 * N) 0 k from by omega]; exact u2), u3] at m; omega
          rw [r, hs', show 2 ^ (2 * N) - 1 - (2 ^ (2 * N) - 1 - ur (2 * N) 0 k) = ur (2 * N) 0 k from by omega]
          exact ⟨_, _, rfl, rfl, rfl, h⟩
        · exact absurd g (by decide)
        · exact absurd ⟨by rw [show 2 ^ (2 * N) - 1 - (2 ^ (2 * N) - 1 - ur (2 * N) 0 k) = ur (2 * N) 0 k from by omega]; exact u2, .inl ⟨rfl, by rw [u3]⟩⟩ (no (2 ^ (2 * N) - 1 - ur (2 * N) 0 k) (by omega))
      · rw [if_neg (fun g => q ((ni_lt hk (by omega)).mp g))]
        rcases run 1 (.inr (.inl rfl)) with ⟨s, hs, a, b, ⟨_, g, r⟩ | ⟨g, _⟩⟩ | ⟨no, r⟩
        · have m := ct_mono (l := 2 * N) (h := 0) (s + 1) (2 ^ (2 * N)) (by omega)
          rw [ct, if_pos a, tot] at m
          have g' : ct (2 * N) 0 s = k := (ni_eq (by omega) hk).mp g
          omega
        · exact absurd g (by decide)
        · rw [r]; exact ⟨_, _, rfl, rfl, rfl, h⟩
  rw [if_neg z1]
  by_cases z2 : z = 2
  · subst z2
    rw [if_pos rfl, if_pos (show M_isIn 2 0 2 = true from by decide), if_pos (show (2 : Int32) = 2 from rfl)]
    by_cases w : ¬ y < 0 ∧ y < Int32.ofNat (2 ^ (2 * N))
    · rw [if_neg w.1, if_pos w.2, if_pos ((isin_pred (Int32.not_lt.mp (ni_nn (by omega)))).mpr w)]
      obtain ⟨k, hk, rfl⟩ := (ni_iff (by omega)).mp w
      have well : M_isWellSet 2000000 (Int32.ofNat k) (Int32.ofNat N) = some (iw (2 * N) 0 k) := by
        rw [M_isWellSet, am_let, e2N]
        exact wl_M (by omega) (2 * N) 0 2000000 (by omega) (by omega) (by omega) (by omega)
      have rC := wp_C (x := k) (by omega) (2 * N) 0 2000000 0 (by omega) (by omega) (by omega)
      rw [show Int32.ofNat 0 = 0 from rfl, Nat.zero_add] at rC
      rw [C_Sums_bracketPlace, am_let, e2N, rC, Option.bind_some, well, Option.bind_some]
      by_cases q : iw (2 * N) 0 k = true
      · rw [if_pos q, if_pos q, p60, pl_ct (2 * N) (by omega) 0 (by omega) k hk q]
        rcases run 2 (.inr (.inr rfl)) with ⟨s, hs, a, b, ⟨g, _⟩ | ⟨_, g, r⟩⟩ | ⟨no, r⟩
        · exact absurd g (by decide)
        · have g' : 2 ^ (2 * N) - 1 - s = k := (ni_eq (by omega) (by omega)).mp g
          rw [r, show s = 2 ^ (2 * N) - 1 - k from by omega]
          exact ⟨_, _, rfl, rfl, rfl, h⟩
        · exact absurd ⟨by rw [show 2 ^ (2 * N) - 1 - (2 ^ (2 * N) - 1 - k) = k from by omega]; exact q, .inr ⟨rfl, by rw [show 2 ^ (2 * N) - 1 - (2 ^ (2 * N) - 1 - k) = k from by omega]⟩⟩ (no (2 ^ (2 * N) - 1 - k) (by omega))
      · rw [if_neg q, if_neg q]; exact ⟨_, _, rfl, rfl, rfl, h⟩
    · rw [if_neg (fun g => w ((isin_pred (Int32.not_lt.mp (ni_nn (by omega)))).mp g))]
      by_cases y0 : y < 0
      · rw [if_pos y0]; exact ⟨_, _, rfl, rfl, rfl, h⟩
      · rw [if_neg y0, if_neg (fun g => w ⟨y0, g⟩)]; exact ⟨_, _, rfl, rfl, rfl, h⟩
  have z02 : ¬ rl_rg z 0 2 := fun g => by
    have a := g.1; have b := g.2
    have : z = 0 ∨ z = 1 ∨ z = 2 := by grind
    rcases this with q | q | q
    · exact z0 q
    · exact z1 q
    · exact z2 q
  rw [if_neg z2, if_neg (fun g => z02 (ni_in.mp g))]
  exact ⟨_, _, rfl, rfl, rfl, h⟩
