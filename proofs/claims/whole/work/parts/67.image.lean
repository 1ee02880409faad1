/-! L3: the image, in the reference -/
/-- place t of an image: cell and slot -/
def im_ps (t : Nat) : Nat × Nat :=
  if t < 77 then (1, t)
  else if t = 77 then (0, 6) else if t = 78 then (0, 7) else if t = 79 then (0, 36) else if t = 80 then (0, 38) else if t = 81 then (0, 40) else if t = 82 then (0, 44)
  else if t < 85 then (30, t - 83) else if t = 85 then (0, 53) else if t = 86 then (0, 56) else if t = 87 then (0, 59)
  else if t < 160 then (if (t - 88) % 6 < 4 then 4 + (t - 88) % 6 else 16 + (t - 88) % 6, (t - 88) / 6)
  else if t < 224 then (19, t - 160)
  else if t < 264 then (if (t - 224) % 5 < 3 then 24 + (t - 224) % 5 else 33 + (t - 224) % 5, (t - 224) / 5)
  else if t < 288 then (31, t - 264)
  else if t < 304 then (32, t - 288)
  else if t < 311 then (34, t - 304)
  else if t < 911 then (8, t - 311)
  else if t = 911 then (11, 0)
  else if t < 976 then (12 + (t - 912) % 4, (t - 912) / 4)
  else (16 + (t - 976) % 2, (t - 976) / 2)
def im_pq (c k : Nat) : Nat :=
  if c = 0 then (if k = 6 then 77 else if k = 7 then 78 else if k = 36 then 79 else if k = 38 then 80 else if k = 40 then 81 else if k = 44 then 82 else if k = 53 then 85 else if k = 56 then 86 else 87)
  else if c = 30 then 83 + k
  else if c = 1 then k
  else if c ≤ 7 then 88 + 6 * k + (c - 4)
  else if c = 20 ∨ c = 21 then 88 + 6 * k + (c - 16)
  else if c = 19 then 160 + k
  else if 24 ≤ c ∧ c ≤ 26 then 224 + 5 * k + (c - 24)
  else if c = 36 ∨ c = 37 then 224 + 5 * k + (c - 33)
  else if c = 31 then 264 + k
  else if c = 32 then 288 + k
  else if c = 34 then 304 + k
  else if c = 8 then 311 + k
  else if c = 11 then 911
  else if c ≤ 15 then 912 + 4 * k + (c - 12)
  else 976 + 2 * k + (c - 16)
theorem im_inv : ∀ t, t < 1776 → im_pq (im_ps t).1 (im_ps t).2 = t := by decide +kernel
theorem im_inj {s t : Nat} (hs : s < 1776) (ht : t < 1776) (h : im_ps s = im_ps t) : s = t := by
  rw [← im_inv s hs, h, im_inv t ht]
/-- how far an image is taken (b), or gone back to -/
def im_I (b : Bool) (τ0 τ : am_SS) (i : Nat) : Prop :=
  τ 0 65 = Int32.ofNat i ∧ τ 0 63 = am_bI b ∧
  (b = true → (∀ c k, c ≠ 39 → ¬ (c = 0 ∧ k = 65) → τ c k = τ0 c k) ∧ ∀ t, t < i → τ 39 t = τ0 (im_ps t).1 (im_ps t).2) ∧
  (b = false → τ 39 = τ0 39 ∧ (∀ t, t < i → τ (im_ps t).1 (im_ps t).2 = τ0 39 t) ∧ ∀ c k, c ≠ 39 → ¬ (c = 0 ∧ k = 65) → (∀ t, t < i → im_ps t ≠ (c, k)) → τ c k = τ0 c k)
section
variable {b : Bool} {τ0 τ : am_SS} {i a k : Nat}
/-- the state behind one place -/
def im_st (b : Bool) (τ : am_SS) (i a k : Nat) : am_SS := if b = true then am_up (am_up (am_up τ 0 65 (Int32.ofNat (i + 1))) 39 i (τ a k)) a k (τ a k) else am_up (am_up τ 0 65 (Int32.ofNat (i + 1))) a k (τ 39 i)
theorem im_keeps (h : im_I b τ0 τ i) (hi : i < 1776) (x : Int32) : M_keeps x τ = some (if b = true then (x, am_up (am_up τ 0 65 (Int32.ofNat (i + 1))) 39 i x) else (τ 39 i, am_up τ 0 65 (Int32.ofNat (i + 1)))) := by
  obtain ⟨h1, h2, -, -⟩ := h
  rw [M_keeps, am_let, h1, ni_succ, show am_up τ 0 65 (Int32.ofNat (i + 1)) 0 63 = am_bI b from by rw [am_up_ap, if_neg (by omega)]; exact h2, show am_up τ 0 65 (Int32.ofNat (i + 1)) 0 65 = Int32.ofNat (i + 1) from by simp [am_up_ap], ni_pred (by omega), show i + 1 - 1 = i from rfl]
  cases b with
  | true => rw [if_neg (by decide), if_pos rfl, ni_wr (by omega) (by omega), Option.bind_some]
  | false => rw [if_pos (by decide), if_neg (by simp), ni_rd (by omega) (by omega), Option.bind_some, am_up_ne (by omega)]
theorem im_step (h : im_I b τ0 τ i) (hi : i < 1776) (hp : im_ps i = (a, k)) (ha : a ≠ 39) (h65 : ¬ (a = 0 ∧ (k = 65 ∨ k = 63))) : im_I b τ0 (im_st b τ i a k) (i + 1) := by
  obtain ⟨h1, h2, h3, h4⟩ := h
  unfold im_st
  cases b with
  | true =>
    obtain ⟨g1, g2⟩ := h3 rfl
    have hv : τ a k = τ0 a k := g1 a k ha (fun g => h65 ⟨g.1, .inl g.2⟩)
    rw [if_pos rfl]
    have e : am_up (am_up (am_up τ 0 65 (Int32.ofNat (i + 1))) 39 i (τ a k)) a k (τ a k) = am_up (am_up τ 0 65 (Int32.ofNat (i + 1))) 39 i (τ a k) := am_up_id (by rw [am_up_ne ha, am_up_ap, if_neg (fun g => h65 ⟨g.1, .inl g.2⟩)])
    rw [e]
    refine ⟨by simp [am_up_ap], by rw [am_up_ne (by omega), am_up_ap, if_neg (by omega)]; exact h2, fun _ => ⟨fun c k' q1 q2 => by rw [am_up_ne q1, am_up_ap, if_neg q2]; exact g1 c k' q1 q2, fun t ht => ?_⟩, fun g => Bool.noConfusion g⟩
    rw [am_up_ap]
    by_cases q : t = i
    · rw [if_pos ⟨rfl, q⟩, q, hp, hv]
    · rw [if_neg (fun g => q g.2), am_up_ne (by omega)]; exact g2 t (by omega)
  | false =>
    obtain ⟨g1, g2, g3⟩ := h4 rfl
    rw [if_neg (by simp)]
    refine ⟨?_, ?_, fun g => Bool.noConfusion g, fun _ => ⟨?_, fun t ht => ?_, fun c k' q1 q2 q3 => ?_⟩⟩
    · rw [am_up_ap, if_neg (fun g => h65 ⟨g.1.symm, .inl g.2.symm⟩)]; simp [am_up_ap]
    · rw [am_up_ap, if_neg (fun g => h65 ⟨g.1.symm, .inr g.2.symm⟩), am_up_ap, if_neg (by omega)]; exact h2
    · rw [am_up_ne (fun g => ha g.symm), am_up_ne (by omega)]; exact g1
    · by_cases q : t = i
      · subst q
        rw [hp, am_up_ap, if_pos ⟨rfl, rfl⟩, g1]
      · have hne : im_ps t ≠ (a, k) := fun g => q (im_inj (by omega) hi (g.trans hp.symm))
        rw [am_up_ap, if_neg (fun g => hne (Prod.ext g.1 g.2)), am_up_ap, if_neg]
        · exact g2 t (by omega)
        · intro g
          have h0 : ∀ t, t < 1776 → ¬ ((im_ps t).1 = 0 ∧ (im_ps t).2 = 65) := by decide +kernel
          exact h0 t (by omega) g
    · have hne := q3 i (by omega)
      rw [hp] at hne
      rw [am_up_ap, if_neg (fun g => hne (by rw [g.1, g.2])), am_up_ap, if_neg q2]
      exact g3 c k' q1 q2 (fun t ht => q3 t (by omega))
/-- one place of an array -/
theorem im_arr {β : Type} {N : Nat} {x : Int32} (h : im_I b τ0 τ i) (hi : i < 1776) (hx : x = Int32.ofNat k) (hk : k < N) (hN : N ≤ 2000) (ha : a ≠ 39) (h0 : a ≠ 0) (K : am_SS → Option β) :
    (am_rd τ a N x).bind (fun t => (M_keeps t τ).bind (fun q => (am_wr q.2 a N x q.1).bind K)) = K (im_st b τ i a k) := by
  rw [hx, ni_rd hk (by omega), Option.bind_some, im_keeps h hi, Option.bind_some]
  unfold im_st
  cases b with
  | true => rw [if_pos rfl, if_pos rfl, ni_wr hk (by omega), Option.bind_some]
  | false => rw [if_neg (by simp), if_neg (by simp), ni_wr hk (by omega), Option.bind_some]
/-- one slot of the reference itself -/
theorem im_slot {β : Type} (h : im_I b τ0 τ i) (hi : i < 1776) (K : am_SS → Option β) :
    (M_keeps (τ 0 k) τ).bind (fun q => am_let (am_up q.2 0 k q.1) K) = K (im_st b τ i 0 k) := by
  rw [im_keeps h hi, Option.bind_some]
  unfold im_st
  cases b with
  | true => rw [if_pos rfl, if_pos rfl, am_let]
  | false => rw [if_neg (by simp), if_neg (by simp), am_let]
end
section
variable {b : Bool} {τ0 : am_SS} {F : Nat}
theorem ps_now {j : Nat} (hj : j < 77) : im_ps j = (1, j) := by unfold im_ps; rw [if_pos hj]
theorem ps_of {j c : Nat} (hj : j < 12) (hc : c < 6) : im_ps (88 + 6 * j + c) = (if c < 4 then 4 + c else 16 + c, j) := by
  have key : ∀ j : Fin 12, ∀ c : Fin 6, im_ps (88 + 6 * j.val + c.val) = (if c.val < 4 then 4 + c.val else 16 + c.val, j.val) := by decide +kernel
  exact key ⟨j, hj⟩ ⟨c, hc⟩
theorem ps_or {j : Nat} (hj : j < 64) : im_ps (160 + j) = (19, j) := by
  have key : ∀ j : Fin 64, im_ps (160 + j.val) = (19, j.val) := by decide +kernel
  exact key ⟨j, hj⟩
theorem ps_gu {j c : Nat} (hj : j < 8) (hc : c < 5) : im_ps (224 + 5 * j + c) = (if c < 3 then 24 + c else 33 + c, j) := by
  have key : ∀ j : Fin 8, ∀ c : Fin 5, im_ps (224 + 5 * j.val + c.val) = (if c.val < 3 then 24 + c.val else 33 + c.val, j.val) := by decide +kernel
  exact key ⟨j, hj⟩ ⟨c, hc⟩
theorem ps_le {j : Nat} (hj : j < 24) : im_ps (264 + j) = (31, j) := by
  have key : ∀ j : Fin 24, im_ps (264 + j.val) = (31, j.val) := by decide +kernel
  exact key ⟨j, hj⟩
theorem ps_bi {j : Nat} (hj : j < 16) : im_ps (288 + j) = (32, j) := by
  have key : ∀ j : Fin 16, im_ps (288 + j.val) = (32, j.val) := by decide +kernel
  exact key ⟨j, hj⟩
theorem ps_qu {j : Nat} (hj : j < 7) : im_ps (304 + j) = (34, j) := by
  have key : ∀ j : Fin 7, im_ps (304 + j.val) = (34, j.val) := by decide +kernel
  exact key ⟨j, hj⟩
theorem ps_bk {j : Nat} (hj : j < 600) : im_ps (311 + j) = (8, j) := by
  have key : ∀ j : Fin 600, im_ps (311 + j.val) = (8, j.val) := by decide +kernel
  exact key ⟨j, hj⟩
theorem ps_li {j c : Nat} (hj : j < 16) (hc : c < 4) : im_ps (912 + 4 * j + c) = (12 + c, j) := by
  have key : ∀ j : Fin 16, ∀ c : Fin 4, im_ps (912 + 4 * j.val + c.val) = (12 + c.val, j.val) := by decide +kernel
  exact key ⟨j, hj⟩ ⟨c, hc⟩
theorem ps_co {j c : Nat} (hj : j < 400) (hc : c < 2) : im_ps (976 + 2 * j + c) = (16 + c, j) := by
  have key : ∀ j : Fin 400, ∀ c : Fin 2, im_ps (976 + 2 * j.val + c.val) = (16 + c.val, j.val) := by decide +kernel
  exact key ⟨j, hj⟩ ⟨c, hc⟩
theorem im_lawc : ∀ (d j n : Nat) (τ : am_SS), im_I b τ0 τ (976 + 2 * j) → j + d = 400 → d < n → ∃ τ', M_keepsLaw_l96 F n (Int32.ofNat j) τ = some τ' ∧ im_I b τ0 τ' 1776 := by
  intro d
  induction d with
  | zero =>
    intro j n τ h hj hn
    obtain ⟨n, rfl⟩ : ∃ n', n = n' + 1 := ⟨n - 1, by omega⟩
    rw [M_keepsLaw_l96, if_neg (fun g : _ < (400 : Int32) => absurd ((ni_lt (b := 400) (by omega) (by omega)).mp g) (by omega))]
    exact ⟨τ, rfl, by rw [show 976 + 2 * j = 1776 from by omega] at h; exact h⟩
  | succ d ih =>
    intro j n τ h hj hn
    obtain ⟨n, rfl⟩ : ∃ n', n = n' + 1 := ⟨n - 1, by omega⟩
    have s1 := im_step h (by omega) (ps_co (j := j) (c := 0) (by omega) (by omega)) (by omega) (by omega)
    have s2 := im_step s1 (by omega) (ps_co (j := j) (c := 1) (by omega) (by omega)) (by omega) (by omega)
    rw [M_keepsLaw_l96, if_pos (show _ < (400 : Int32) from (ni_lt (b := 400) (by omega) (by omega)).mpr (by omega)), im_arr (a := 16) h (by omega) rfl (by omega) (by omega) (by omega) (by omega), im_arr (a := 17) s1 (by omega) rfl (by omega) (by omega) (by omega) (by omega), am_let, ni_succ]
    exact ih (j + 1) n _ s2 (by omega) (by omega)
theorem im_lawl (hF : 2000 ≤ F) : ∀ (d j n : Nat) (τ : am_SS), im_I b τ0 τ (912 + 4 * j) → j + d = 16 → d < n → ∃ τ', M_keepsLaw_l18 F n (Int32.ofNat j) τ = some τ' ∧ im_I b τ0 τ' 1776 := by
  intro d
  induction d with
  | zero =>
    intro j n τ h hj hn
    obtain ⟨n, rfl⟩ : ∃ n', n = n' + 1 := ⟨n - 1, by omega⟩
    rw [M_keepsLaw_l18, if_neg (fun g : _ < (16 : Int32) => absurd ((ni_lt (b := 16) (by omega) (by omega)).mp g) (by omega))]
    exact im_lawc 400 0 F τ (by rw [show 912 + 4 * j = 976 + 2 * 0 from by omega] at h; exact h) (by omega) (by omega)
  | succ d ih =>
    intro j n τ h hj hn
    obtain ⟨n, rfl⟩ : ∃ n', n = n' + 1 := ⟨n - 1, by omega⟩
    have s1 := im_step h (by omega) (ps_li (j := j) (c := 0) (by omega) (by omega)) (by omega) (by omega)
    have s2 := im_step s1 (by omega) (ps_li (j := j) (c := 1) (by omega) (by omega)) (by omega) (by omega)
    have s3 := im_step s2 (by omega) (ps_li (j := j) (c := 2) (by omega) (by omega)) (by omega) (by omega)
    have s4 := im_step s3 (by omega) (ps_li (j := j) (c := 3) (by omega) (by omega)) (by omega) (by omega)
    rw [M_keepsLaw_l18, if_pos (show _ < (16 : Int32) from (ni_lt (b := 16) (by omega) (by omega)).mpr (by omega)), im_arr (a := 12) h (by omega) rfl (by omega) (by omega) (by omega) (by omega), im_arr (a := 13) s1 (by omega) rfl (by omega) (by omega) (by omega) (by omega),
      im_arr (a := 14) s2 (by omega) rfl (by omega) (by omega) (by omega) (by omega), im_arr (a := 15) s3 (by omega) rfl (by omega) (by omega) (by omega) (by omega), am_let, ni_succ]
    exact ih (j + 1) n _ s4 (by omega) (by omega)
theorem im_law (hF : 2000 ≤ F) {τ : am_SS} (h : im_I b τ0 τ 911) : ∃ τ', M_keepsLaw F τ = some τ' ∧ im_I b τ0 τ' 1776 := by
  have s1 := im_step h (by omega) (show im_ps 911 = (11, 0) from by decide +kernel) (by omega) (by omega)
  rw [M_keepsLaw, im_arr (a := 11) (k := 0) (x := 0) h (by omega) rfl (by omega) (by omega) (by omega) (by omega)]
  exact im_lawl hF 16 0 F _ s1 (by omega) (by omega)
/-- what the reference does behind its book -/
def im_E (b : Bool) (τ : am_SS) : am_SS := if b = true then τ else am_up τ 0 3 0
theorem im_book (hF : 2000 ≤ F) : ∀ (d j n : Nat) (τ : am_SS), im_I b τ0 τ (311 + j) → j + d = 600 → d < n → ∃ τ', M_image_l69 F n b (Int32.ofNat j) τ = some (true, im_E b τ') ∧ im_I b τ0 τ' 1776 := by
  intro d
  induction d with
  | zero =>
    intro j n τ h hj hn
    obtain ⟨n, rfl⟩ : ∃ n', n = n' + 1 := ⟨n - 1, by omega⟩
    rw [M_image_l69, if_neg (fun g : _ < (600 : Int32) => absurd ((ni_lt (b := 600) (by omega) (by omega)).mp g) (by omega))]
    rw [show 311 + j = 911 from by omega] at h
    obtain ⟨τ', r1, r2⟩ := im_law hF h
    rw [r1, Option.bind_some]
    refine ⟨τ', ?_, r2⟩
    unfold im_E
    cases b with
    | true => rw [if_pos rfl, if_pos rfl]
    | false => rw [if_neg (by simp), if_neg (by simp), am_let]
  | succ d ih =>
    intro j n τ h hj hn
    obtain ⟨n, rfl⟩ : ∃ n', n = n' + 1 := ⟨n - 1, by omega⟩
    have s1 := im_step h (by omega) (ps_bk (j := j) (by omega)) (by omega) (by omega)
    rw [M_image_l69, if_pos (show _ < (600 : Int32) from (ni_lt (b := 600) (by omega) (by omega)).mpr (by omega)), im_arr (a := 8) h (by omega) rfl (by omega) (by omega) (by omega) (by omega), am_let, ni_succ]
    exact ih (j + 1) n _ s1 (by omega) (by omega)
theorem im_qu : ∀ (d j n : Nat) (τ : am_SS), im_I b τ0 τ (304 + j) → j + d = 7 → d < n → ∃ τ', M_keepsTold_l436 F n (Int32.ofNat j) τ = some τ' ∧ im_I b τ0 τ' 311 := by
  intro d
  induction d with
  | zero =>
    intro j n τ h hj hn
    obtain ⟨n, rfl⟩ : ∃ n', n = n' + 1 := ⟨n - 1, by omega⟩
    rw [M_keepsTold_l436, if_neg (fun g : _ < (7 : Int32) => absurd ((ni_lt (b := 7) (by omega) (by omega)).mp g) (by omega))]
    exact ⟨τ, rfl, by rw [show 304 + j = 311 from by omega] at h; exact h⟩
  | succ d ih =>
    intro j n τ h hj hn
    obtain ⟨n, rfl⟩ : ∃ n', n = n' + 1 := ⟨n - 1, by omega⟩
    have s1 := im_step h (by omega) (ps_qu (j := j) (by omega)) (by omega) (by omega)
    rw [M_keepsTold_l436, if_pos (show _ < (7 : Int32) from (ni_lt (b := 7) (by omega) (by omega)).mpr (by omega)), im_arr (a := 34) h (by omega) rfl (by omega) (by omega) (by omega) (by omega), am_let, ni_succ]
    exact ih (j + 1) n _ s1 (by omega) (by omega)
theorem im_bi (hF : 2000 ≤ F) : ∀ (d j n : Nat) (τ : am_SS), im_I b τ0 τ (288 + j) → j + d = 16 → d < n → ∃ τ', M_keepsTold_l406 F n (Int32.ofNat j) τ = some τ' ∧ im_I b τ0 τ' 311 := by
  intro d
  induction d with
  | zero =>
    intro j n τ h hj hn
    obtain ⟨n, rfl⟩ : ∃ n', n = n' + 1 := ⟨n - 1, by omega⟩
    rw [M_keepsTold_l406, if_neg (fun g : _ < (16 : Int32) => absurd ((ni_lt (b := 16) (by omega) (by omega)).mp g) (by omega))]
    exact im_qu 7 0 F τ (by rw [show 288 + j = 304 + 0 from by omega] at h; exact h) (by omega) (by omega)
  | succ d ih =>
    intro j n τ h hj hn
    obtain ⟨n, rfl⟩ : ∃ n', n = n' + 1 := ⟨n - 1, by omega⟩
    have s1 := im_step h (by omega) (ps_bi (j := j) (by omega)) (by omega) (by omega)
    rw [M_keepsTold_l406, if_pos (show _ < (16 : Int32) from (ni_lt (b := 16) (by omega) (by omega)).mpr (by omega)), im_arr (a := 32) h (by omega) rfl (by omega) (by omega) (by omega) (by omega), am_let, ni_succ]
    exact ih (j + 1) n _ s1 (by omega) (by omega)
theorem im_le (hF : 2000 ≤ F) : ∀ (d j n : Nat) (τ : am_SS), im_I b τ0 τ (264 + j) → j + d = 24 → d < n → ∃ τ', M_keepsTold_l376 F n (Int32.ofNat j) τ = some τ' ∧ im_I b τ0 τ' 311 := by
  intro d
  induction d with
  | zero =>
    intro j n τ h hj hn
    obtain ⟨n, rfl⟩ : ∃ n', n = n' + 1 := ⟨n - 1, by omega⟩
    rw [M_keepsTold_l376, if_neg (fun g : _ < (24 : Int32) => absurd ((ni_lt (b := 24) (by omega) (by omega)).mp g) (by omega))]
    exact im_bi hF 16 0 F τ (by rw [show 264 + j = 288 + 0 from by omega] at h; exact h) (by omega) (by omega)
  | succ d ih =>
    intro j n τ h hj hn
    obtain ⟨n, rfl⟩ : ∃ n', n = n' + 1 := ⟨n - 1, by omega⟩
    have s1 := im_step h (by omega) (ps_le (j := j) (by omega)) (by omega) (by omega)
    rw [M_keepsTold_l376, if_pos (show _ < (24 : Int32) from (ni_lt (b := 24) (by omega) (by omega)).mpr (by omega)), im_arr (a := 31) h (by omega) rfl (by omega) (by omega) (by omega) (by omega), am_let, ni_succ]
    exact ih (j + 1) n _ s1 (by omega) (by omega)
theorem im_gu (hF : 2000 ≤ F) : ∀ (d j n : Nat) (τ : am_SS), im_I b τ0 τ (224 + 5 * j) → j + d = 8 → d < n → ∃ τ', M_keepsTold_l282 F n (Int32.ofNat j) τ = some τ' ∧ im_I b τ0 τ' 311 := by
  intro d
  induction d with
  | zero =>
    intro j n τ h hj hn
    obtain ⟨n, rfl⟩ : ∃ n', n = n' + 1 := ⟨n - 1, by omega⟩
    rw [M_keepsTold_l282, if_neg (fun g : _ < (8 : Int32) => absurd ((ni_lt (b := 8) (by omega) (by omega)).mp g) (by omega))]
    exact im_le hF 24 0 F τ (by rw [show 224 + 5 * j = 264 + 0 from by omega] at h; exact h) (by omega) (by omega)
  | succ d ih =>
    intro j n τ h hj hn
    obtain ⟨n, rfl⟩ : ∃ n', n = n' + 1 := ⟨n - 1, by omega⟩
    have s1 := im_step h (by omega) (show im_ps (224 + 5 * j) = (24, j) from ps_gu (j := j) (c := 0) (by omega) (by omega)) (by omega) (by omega)
    have s2 := im_step s1 (by omega) (show im_ps (224 + 5 * j + 1) = (25, j) from ps_gu (j := j) (c := 1) (by omega) (by omega)) (by omega) (by omega)
    have s3 := im_step s2 (by omega) (show im_ps (224 + 5 * j + 1 + 1) = (26, j) from ps_gu (j := j) (c := 2) (by omega) (by omega)) (by omega) (by omega)
    have s4 := im_step s3 (by omega) (show im_ps (224 + 5 * j + 1 + 1 + 1) = (36, j) from ps_gu (j := j) (c := 3) (by omega) (by omega)) (by omega) (by omega)
    have s5 := im_step s4 (by omega) (show im_ps (224 + 5 * j + 1 + 1 + 1 + 1) = (37, j) from ps_gu (j := j) (c := 4) (by omega) (by omega)) (by omega) (by omega)
    rw [M_keepsTold_l282, if_pos (show _ < (8 : Int32) from (ni_lt (b := 8) (by omega) (by omega)).mpr (by omega)), im_arr (a := 24) h (by omega) rfl (by omega) (by omega) (by omega) (by omega), im_arr (a := 25) s1 (by omega) rfl (by omega) (by omega) (by omega) (by omega),
      im_arr (a := 26) s2 (by omega) rfl (by omega) (by omega) (by omega) (by omega), im_arr (a := 36) s3 (by omega) rfl (by omega) (by omega) (by omega) (by omega), im_arr (a := 37) s4 (by omega) rfl (by omega) (by omega) (by omega) (by omega), am_let, ni_succ]
    exact ih (j + 1) n _ s5 (by omega) (by omega)
theorem im_or (hF : 2000 ≤ F) : ∀ (d j n : Nat) (τ : am_SS), im_I b τ0 τ (160 + j) → j + d = 64 → d < n → ∃ τ', M_keepsTold_l252 F n (Int32.ofNat j) τ = some τ' ∧ im_I b τ0 τ' 311 := by
  intro d
  induction d with
  | zero =>
    intro j n τ h hj hn
    obtain ⟨n, rfl⟩ : ∃ n', n = n' + 1 := ⟨n - 1, by omega⟩
    rw [M_keepsTold_l252, if_neg (fun g : _ < (64 : Int32) => absurd ((ni_lt (b := 64) (by omega) (by omega)).mp g) (by omega))]
    exact im_gu hF 8 0 F τ (by rw [show 160 + j = 224 + 5 * 0 from by omega] at h; exact h) (by omega) (by omega)
  | succ d ih =>
    intro j n τ h hj hn
    obtain ⟨n, rfl⟩ : ∃ n', n = n' + 1 := ⟨n - 1, by omega⟩
    have s1 := im_step h (by omega) (ps_or (j := j) (by omega)) (by omega) (by omega)
    rw [M_keepsTold_l252, if_pos (show _ < (64 : Int32) from (ni_lt (b := 64) (by omega) (by omega)).mpr (by omega)), im_arr (a := 19) h (by omega) rfl (by omega) (by omega) (by omega) (by omega), am_let, ni_succ]
    exact ih (j + 1) n _ s1 (by omega) (by omega)
theorem im_of (hF : 2000 ≤ F) : ∀ (d j n : Nat) (τ : am_SS), im_I b τ0 τ (88 + 6 * j) → j + d = 12 → d < n → ∃ τ', M_keepsTold_l142 F n (Int32.ofNat j) τ = some τ' ∧ im_I b τ0 τ' 311 := by
  intro d
  induction d with
  | zero =>
    intro j n τ h hj hn
    obtain ⟨n, rfl⟩ : ∃ n', n = n' + 1 := ⟨n - 1, by omega⟩
    rw [M_keepsTold_l142, if_neg (fun g : _ < (12 : Int32) => absurd ((ni_lt (b := 12) (by omega) (by omega)).mp g) (by omega))]
    exact im_or hF 64 0 F τ (by rw [show 88 + 6 * j = 160 + 0 from by omega] at h; exact h) (by omega) (by omega)
  | succ d ih =>
    intro j n τ h hj hn
    obtain ⟨n, rfl⟩ : ∃ n', n = n' + 1 := ⟨n - 1, by omega⟩
    have s1 := im_step h (by omega) (show im_ps (88 + 6 * j) = (4, j) from ps_of (j := j) (c := 0) (by omega) (by omega)) (by omega) (by omega)
    have s2 := im_step s1 (by omega) (show im_ps (88 + 6 * j + 1) = (5, j) from ps_of (j := j) (c := 1) (by omega) (by omega)) (by omega) (by omega)
    have s3 := im_step s2 (by omega) (show im_ps (88 + 6 * j + 1 + 1) = (6, j) from ps_of (j := j) (c := 2) (by omega) (by omega)) (by omega) (by omega)
    have s4 := im_step s3 (by omega) (show im_ps (88 + 6 * j + 1 + 1 + 1) = (7, j) from ps_of (j := j) (c := 3) (by omega) (by omega)) (by omega) (by omega)
    have s5 := im_step s4 (by omega) (show im_ps (88 + 6 * j + 1 + 1 + 1 + 1) = (20, j) from ps_of (j := j) (c := 4) (by omega) (by omega)) (by omega) (by omega)
    have s6 := im_step s5 (by omega) (show im_ps (88 + 6 * j + 1 + 1 + 1 + 1 + 1) = (21, j) from ps_of (j := j) (c := 5) (by omega) (by omega)) (by omega) (by omega)
    rw [M_keepsTold_l142, if_pos (show _ < (12 : Int32) from (ni_lt (b := 12) (by omega) (by omega)).mpr (by omega)), im_arr (a := 4) h (by omega) rfl (by omega) (by omega) (by omega) (by omega), im_arr (a := 5) s1 (by omega) rfl (by omega) (by omega) (by omega) (by omega),
      im_arr (a := 6) s2 (by omega) rfl (by omega) (by omega) (by omega) (by omega), im_arr (a := 7) s3 (by omega) rfl (by omega) (by omega) (by omega) (by omega), im_arr (a := 20) s4 (by omega) rfl (by omega) (by omega) (by omega) (by omega), im_arr (a := 21) s5 (by omega) rfl (by omega) (by omega) (by omega) (by omega), am_let, ni_succ]
    exact ih (j + 1) n _ s6 (by omega) (by omega)
theorem im_told (hF : 2000 ≤ F) {τ : am_SS} (h : im_I b τ0 τ 77) : ∃ τ', M_keepsTold F τ = some τ' ∧ im_I b τ0 τ' 311 := by
  have s1 := im_step h (by omega) (show im_ps 77 = (0, 6) from by decide +kernel) (by omega) (by omega)
  have s2 := im_step s1 (by omega) (show im_ps 78 = (0, 7) from by decide +kernel) (by omega) (by omega)
  have s3 := im_step s2 (by omega) (show im_ps 79 = (0, 36) from by decide +kernel) (by omega) (by omega)
  have s4 := im_step s3 (by omega) (show im_ps 80 = (0, 38) from by decide +kernel) (by omega) (by omega)
  have s5 := im_step s4 (by omega) (show im_ps 81 = (0, 40) from by decide +kernel) (by omega) (by omega)
  have s6 := im_step s5 (by omega) (show im_ps 82 = (0, 44) from by decide +kernel) (by omega) (by omega)
  have s7 := im_step s6 (by omega) (show im_ps 83 = (30, 0) from by decide +kernel) (by omega) (by omega)
  have s8 := im_step s7 (by omega) (show im_ps 84 = (30, 1) from by decide +kernel) (by omega) (by omega)
  have s9 := im_step s8 (by omega) (show im_ps 85 = (0, 53) from by decide +kernel) (by omega) (by omega)
  have s10 := im_step s9 (by omega) (show im_ps 86 = (0, 56) from by decide +kernel) (by omega) (by omega)
  have s11 := im_step s10 (by omega) (show im_ps 87 = (0, 59) from by decide +kernel) (by omega) (by omega)
  rw [M_keepsTold, im_slot h (by omega), im_slot s1 (by omega), im_slot s2 (by omega), im_slot s3 (by omega), im_slot s4 (by omega), im_slot s5 (by omega),
    im_arr (a := 30) (k := 0) (x := 0) s6 (by omega) rfl (by omega) (by omega) (by omega) (by omega), im_arr (a := 30) (k := 1) (x := 1) s7 (by omega) rfl (by omega) (by omega) (by omega) (by omega), im_slot s8 (by omega), im_slot s9 (by omega), im_slot s10 (by omega)]
  exact im_of hF 12 0 F _ s11 (by omega) (by omega)
theorem im_now (hF : 2000 ≤ F) : ∀ (d j n : Nat) (τ : am_SS), im_I b τ0 τ j → j + d = 77 → d < n → ∃ τ', M_image_l35 F n b (Int32.ofNat j) τ = some (true, im_E b τ') ∧ im_I b τ0 τ' 1776 := by
  intro d
  induction d with
  | zero =>
    intro j n τ h hj hn
    obtain ⟨n, rfl⟩ : ∃ n', n = n' + 1 := ⟨n - 1, by omega⟩
    rw [M_image_l35, if_neg (fun g : _ < (77 : Int32) => absurd ((ni_lt (b := 77) (by omega) (by omega)).mp g) (by omega))]
    rw [show j = 77 from by omega] at h
    obtain ⟨τ', r1, r2⟩ := im_told hF h
    rw [r1, Option.bind_some]
    exact im_book hF 600 0 F τ' r2 (by omega) (by omega)
  | succ d ih =>
    intro j n τ h hj hn
    obtain ⟨n, rfl⟩ : ∃ n', n = n' + 1 := ⟨n - 1, by omega⟩
    have s1 := im_step h (by omega) (ps_now (j := j) (by omega)) (by omega) (by omega)
    rw [M_image_l35, if_pos (show _ < (77 : Int32) from (ni_lt (b := 77) (by omega) (by omega)).mpr (by omega)), im_arr (a := 1) h (by omega) rfl (by omega) (by omega) (by omega) (by omega), am_let, ni_succ]
    exact ih (j + 1) n _ s1 (by omega) (by omega)
theorem im_M (hF : 2000 ≤ F) {τ : am_SS} : ∃ τ', M_image_p18 F b τ = some (true, im_E b τ') ∧ im_I b (am_up (am_up (am_up τ 0 63 (am_bI b)) 0 64 1) 0 65 0) τ' 1776 := by
  rw [M_image_p18, am_let, am_let, am_let]
  exact im_now hF 77 0 F _ ⟨by simp [am_up_ap], by simp [am_up_ap], fun _ => ⟨fun _ _ _ _ => rfl, fun t ht => absurd ht (by omega)⟩, fun _ => ⟨rfl, fun t ht => absurd ht (by omega), fun _ _ _ _ _ => rfl⟩⟩ (by omega) (by omega)
end
