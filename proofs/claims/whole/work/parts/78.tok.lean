/-! L3: texts: the keywords -/
def kw_W : List (List Int32) := [[112, 114, 101, 115, 115, 101, 115], [114, 101, 115, 116, 115], [114, 101, 97, 100, 115], [119, 104, 101, 110], [111, 114], [97, 110, 100], [110, 111, 116], [115, 107, 105, 108, 108], [115, 108, 101, 101, 112], [112, 108, 97, 110], [104, 111, 108, 101], [99, 97, 114, 101], [119, 101, 97, 114], [108, 105, 110, 101], [115, 105, 100, 101], [100, 111, 110, 101], [100, 97, 121], [111, 110], [109, 97, 114, 99, 104], [115, 111, 108, 101], [110, 101, 119], [116, 114, 117, 99, 101], [111, 102, 102, 105, 99, 101, 114], [98, 97, 116, 109, 97, 110], [110, 101, 101, 100, 115]]
def kw_s (W : List (List Int32)) : List Int32 := W.flatMap (fun w => w ++ [32])
theorem kw_wl : rl_wl = 32 :: kw_s kw_W := by decide +kernel
theorem kw_ok : ∀ w, w ∈ kw_W → ∀ a, a ∈ w → a ≠ 32 := by decide +kernel
def kw_m (ch : Nat → Int32) (e : Nat) : List Int32 → Nat → Bool
  | [], q => q == e
  | a :: u, q => decide (q < e) && (ch q == a && kw_m ch e u (q + 1))
def kw_f (ch : Nat → Int32) (e p : Nat) : Nat → List (List Int32) → Int32
  | _, [] => -1
  | n, w :: W => if kw_m ch e w p = true then Int32.ofNat n else kw_f ch e p (n + 1) W
theorem kw_fr {ch : Nat → Int32} {e p : Nat} : ∀ (W : List (List Int32)) (n : Nat), kw_f ch e p n W = -1 ∨ ∃ j, n ≤ j ∧ j < n + W.length ∧ kw_f ch e p n W = Int32.ofNat j := by
  intro W
  induction W with
  | nil => intro n; exact .inl rfl
  | cons w W ih =>
    intro n
    rw [kw_f]
    by_cases q : kw_m ch e w p = true
    · rw [if_pos q]; exact .inr ⟨n, by omega, by simp, rfl⟩
    · rw [if_neg q]
      rcases ih (n + 1) with h | ⟨j, h1, h2, h3⟩
      · exact .inl h
      · exact .inr ⟨j, by omega, by simp only [List.length_cons]; omega, h3⟩
theorem kw_C1 {F a0 e p c : Nat} {σ : am_SS} {ch : Nat → Int32} {n : Int32} {S : List Int32} (hS : S.length = 132) (H : ∀ k, k < 132 → am_ch (Int32.ofNat k) = some (S.getD k 0)) (he : e ≤ c) (hc : c ≤ 400) (hch : ∀ k, k < 400 → σ (a0 + 1) k = ch k) (hp : p ≤ e) :
    ∀ (u pre rest : List Int32) (q : Nat) (b : Bool) (g : Nat), S = pre ++ (u ++ 32 :: rest) → (∀ a, a ∈ u → a ≠ 32) → q + u.length ≤ 600 → u.length + rest.length + 2 ≤ g → ∃ g', rest.length + 1 ≤ g' ∧
      C_Reader_keyword_l18 F g a0 (Int32.ofNat p) (Int32.ofNat e) n (Int32.ofNat q) b (Int32.ofNat pre.length) σ = if (b && kw_m ch e u q) = true then some n else C_Reader_keyword_l18 F g' a0 (Int32.ofNat p) (Int32.ofNat e) (n + 1) (Int32.ofNat p) true (Int32.ofNat (pre.length + u.length + 1)) σ := by
  intro u
  induction u with
  | nil =>
    intro pre rest q b g hs hu hq hg
    obtain ⟨g, rfl⟩ : ∃ z, g = z + 1 := ⟨g - 1, by omega⟩
    have hl : pre.length + 1 + rest.length = 132 := by rw [hs] at hS; simp at hS; omega
    have r : am_ch (Int32.ofNat pre.length) = some 32 := by
      rw [H _ (by omega), hs]; simp [List.getD]
    refine ⟨g, by simp at hg; omega, ?_⟩
    rw [C_Reader_keyword_l18, if_pos (show _ < (132 : Int32) from (ni_lt (b := 132) (by omega) (by omega)).mpr (by omega)), r, Option.bind_some, if_pos rfl]
    simp only [C_Reader_keyword_p93, C_Reader_keyword_p102, am_let]
    rw [ni_succ, kw_m, List.length_nil, Nat.add_zero]
    cases b with
    | false => simp
    | true =>
      by_cases w : q = e
      · subst w; simp
      · have : ¬ Int32.ofNat q = Int32.ofNat e := fun g => w ((ni_eq (by omega) (by omega)).mp g)
        simp [this, w]
  | cons a u ih =>
    intro pre rest q b g hs hu hq hg
    obtain ⟨g, rfl⟩ : ∃ z, g = z + 1 := ⟨g - 1, by omega⟩
    have hl : pre.length + 1 + u.length + 1 + rest.length = 132 := by rw [hs] at hS; simp at hS; omega
    have r : am_ch (Int32.ofNat pre.length) = some a := by
      rw [H _ (by omega), hs]; simp [List.getD]
    have a32 : ¬ a = 32 := hu a List.mem_cons_self
    have ih' := fun b => ih (pre ++ [a]) rest (q + 1) b g (by rw [hs]; simp) (fun x hx => hu x (List.mem_cons_of_mem a hx)) 
    have e1 : (pre ++ [a]).length = pre.length + 1 := by simp
    rw [e1] at ih'
    have e2 : pre.length + 1 + u.length + 1 = pre.length + (a :: u).length + 1 := by simp; omega
    rw [C_Reader_keyword_l18, if_pos (show _ < (132 : Int32) from (ni_lt (b := 132) (by omega) (by omega)).mpr (by omega)), r, Option.bind_some, if_neg a32]
    simp only [C_Reader_keyword_p72, C_Reader_keyword_p71, C_Reader_keyword_p102, am_let]
    simp only [ni_succ]
    simp only [List.length_cons] at hq hg ih' e2 ⊢
    rw [kw_m, ← e2]
    have no : (∃ g', rest.length + 1 ≤ g' ∧ C_Reader_keyword_l18 F g a0 (Int32.ofNat p) (Int32.ofNat e) n (Int32.ofNat (q + 1)) false (Int32.ofNat (pre.length + 1)) σ = C_Reader_keyword_l18 F g' a0 (Int32.ofNat p) (Int32.ofNat e) (n + 1) (Int32.ofNat p) true (Int32.ofNat (pre.length + 1 + u.length + 1)) σ) := by
      obtain ⟨g', h1, h2⟩ := ih' false (by omega) (by omega)
      exact ⟨g', h1, by rw [h2]; simp⟩
    cases b with
    | false =>
      obtain ⟨g', h1, h2⟩ := no
      exact ⟨g', h1, by simpa using h2⟩
    | true =>
      rw [if_pos rfl]
      by_cases w : q < e
      · rw [if_pos ((ni_lt (by omega) (by omega)).mpr w), ni_rd (by omega) (by omega), Option.bind_some, hch q (by omega)]
        by_cases v : ch q = a
        · rw [if_pos v]
          obtain ⟨g', h1, h2⟩ := ih' true (by omega) (by omega)
          exact ⟨g', h1, by rw [h2]; simp [w, v]⟩
        · rw [if_neg v]
          obtain ⟨g', h1, h2⟩ := no
          exact ⟨g', h1, by rw [h2]; simp [v]⟩
      · rw [if_neg (fun g => w ((ni_lt (by omega) (by omega)).mp g))]
        obtain ⟨g', h1, h2⟩ := no
        exact ⟨g', h1, by rw [h2]; simp [w]⟩
theorem kw_C2 {F a0 e p c : Nat} {σ : am_SS} {ch : Nat → Int32} {S : List Int32} (hS : S.length = 132) (H : ∀ k, k < 132 → am_ch (Int32.ofNat k) = some (S.getD k 0)) (he : e ≤ c) (hc : c ≤ 400) (hch : ∀ k, k < 400 → σ (a0 + 1) k = ch k) (hp : p ≤ e) :
    ∀ (W : List (List Int32)) (pre : List Int32) (n g : Nat), S = pre ++ kw_s W → (∀ w, w ∈ W → ∀ a, a ∈ w → a ≠ 32) → (kw_s W).length + 1 ≤ g →
      C_Reader_keyword_l18 F g a0 (Int32.ofNat p) (Int32.ofNat e) (Int32.ofNat n) (Int32.ofNat p) true (Int32.ofNat pre.length) σ = some (kw_f ch e p n W) := by
  intro W
  induction W with
  | nil =>
    intro pre n g hs hw hg
    obtain ⟨g, rfl⟩ : ∃ z, g = z + 1 := ⟨g - 1, by omega⟩
    have hl : pre.length = 132 := by rw [hs] at hS; simpa [kw_s] using hS
    rw [C_Reader_keyword_l18, if_neg (fun q : _ < (132 : Int32) => by have := (ni_lt (b := 132) (by omega) (by omega)).mp q; omega)]
    rfl
  | cons w W ih =>
    intro pre n g hs hw hg
    have e1 : kw_s (w :: W) = w ++ 32 :: kw_s W := by simp [kw_s]
    rw [e1] at hs hg
    obtain ⟨g', h1, h2⟩ := kw_C1 (F := F) (n := Int32.ofNat n) hS H he hc hch hp w pre (kw_s W) p true g hs (hw w List.mem_cons_self) (by rw [hs] at hS; simp at hS; omega) (by simp at hg; omega)
    rw [h2, kw_f, Bool.true_and]
    by_cases q : kw_m ch e w p = true
    · rw [if_pos q, if_pos q]
    · rw [if_neg q, if_neg q, ni_succ]
      have := ih (pre ++ w ++ [32]) (n + 1) g' (by rw [hs]; simp) (fun w' h => hw w' (List.mem_cons_of_mem w h)) h1
      have ll : (pre ++ w ++ [(32 : Int32)]).length = pre.length + w.length + 1 := by simp only [List.length_append, List.length_cons, List.length_nil]
      rw [ll] at this
      exact this
theorem kw_M1 {F e p c k : Nat} {τ : am_SS} {ch : Nat → Int32} {n : Int32} {S : List Int32} {rec5 : Int32 → Int32 → Int32 → Int32 → am_SS → Option Int32} (hS : S.length = 132) (H : ∀ k, k < 132 → τ 10 (k + 1) = S.getD k 0) (he : e ≤ c) (hc : c ≤ 400) (hch : ∀ k, k < 400 → τ 9 k = ch k) (hp : p ≤ e) (h32 : ∀ q, p ≤ q → q < e → ch q ≠ 32) :
    ∀ (u w1 rest : List Int32) (g : Nat) (pre : List Int32), pre.length = k → S = pre ++ (w1 ++ (u ++ 32 :: rest)) → (∀ a, a ∈ u → a ≠ 32) → p + w1.length ≤ e → u.length + 1 ≤ g →
      M_wordAt_l20 rec5 F g (Int32.ofNat p) (Int32.ofNat e) n (Int32.ofNat k) (Int32.ofNat w1.length) τ = if kw_m ch e u (p + w1.length) = true then some n else M_wordAt_p88 rec5 F (Int32.ofNat p) (Int32.ofNat e) n (Int32.ofNat k) τ := by
  intro u
  induction u with
  | nil =>
    intro w1 rest g pre hk hs hu hq hg
    obtain ⟨g, rfl⟩ : ∃ z, g = z + 1 := ⟨g - 1, by omega⟩
    have hl : k + w1.length + 1 + rest.length = 132 := by rw [hs] at hS; simp at hS; omega
    have r : τ 10 (k + 1 + w1.length) = 32 := by
      rw [show k + 1 + w1.length = (k + w1.length) + 1 by omega, H _ (by omega), hs, ← hk]; simp [List.getD]
    rw [M_wordAt_l20]
    simp only [ni_succ, ni_add]
    rw [kw_m, ni_rd (a := 10) (by omega) (by omega), Option.bind_some, r]
    simp only [M_wordAt_p61]
    simp only [ni_succ, ni_add]
    rw [ni_rd (a := 10) (by omega) (by omega), Option.bind_some, r, if_pos rfl]
    by_cases w : p + w1.length < e
    · rw [if_pos ((ni_lt (by omega) (by omega)).mpr w), ni_rd (by omega) (by omega), Option.bind_some, if_neg (fun g => h32 _ (by omega) w (by rw [← hch _ (by omega), ← g])), if_neg (fun g => by have := (ni_eq (by omega) (by omega)).mp g; omega), if_neg (fun g => by have := beq_iff_eq.mp g; omega)]
    · have e1 : p + w1.length = e := by omega
      rw [if_neg (fun g => w ((ni_lt (by omega) (by omega)).mp g)), e1, if_pos rfl, if_pos (by simp)]
  | cons a u ih =>
    intro w1 rest g pre hk hs hu hq hg
    obtain ⟨g, rfl⟩ : ∃ z, g = z + 1 := ⟨g - 1, by omega⟩
    have hl : k + w1.length + 1 + u.length + 1 + rest.length = 132 := by rw [hs] at hS; simp at hS; omega
    have a32 : ¬ a = 32 := hu a List.mem_cons_self
    have r : τ 10 (k + 1 + w1.length) = a := by
      rw [show k + 1 + w1.length = (k + w1.length) + 1 by omega, H _ (by omega), hs, ← hk]; simp [List.getD]
    rw [M_wordAt_l20]
    simp only [ni_succ, ni_add]
    rw [kw_m, ni_rd (a := 10) (by omega) (by omega), Option.bind_some, r]
    simp only [M_wordAt_p61, am_let]
    simp only [ni_succ, ni_add]
    rw [ni_rd (a := 10) (by omega) (by omega), Option.bind_some, r, if_neg a32]
    by_cases w : p + w1.length < e
    · rw [if_pos ((ni_lt (by omega) (by omega)).mpr w), ni_rd (by omega) (by omega), Option.bind_some, hch _ (by omega)]
      by_cases v : ch (p + w1.length) = a
      · have b := ih (w1 ++ [a]) rest g pre hk (by rw [hs]; simp) (fun x hx => hu x (List.mem_cons_of_mem a hx)) (by simp; omega) (by simp at hg; omega)
        rw [show (w1 ++ [a]).length = w1.length + 1 by simp] at b
        rw [if_pos v.symm, b]
        simp [w, v, Nat.add_assoc]
      · rw [if_neg (fun g => v g.symm), if_neg (fun g => by have := (ni_eq (by omega) (by omega)).mp g; omega)]
        simp [v]
    · rw [if_neg (fun g => w ((ni_lt (by omega) (by omega)).mp g))]
      simp [w]
theorem kw_M2 {F : Nat} {a b n : Int32} {τ : am_SS} {S : List Int32} {rec5 : Int32 → Int32 → Int32 → Int32 → am_SS → Option Int32} (hS : S.length = 132) (H : ∀ k, k < 132 → τ 10 (k + 1) = S.getD k 0) :
    ∀ (u pre rest : List Int32) (g : Nat), S = pre ++ (u ++ 32 :: rest) → (∀ a, a ∈ u → a ≠ 32) → u.length + 1 ≤ g →
      M_wordAt_l94 rec5 F g a b n (Int32.ofNat (pre.length + 1)) τ = rec5 a b n (Int32.ofNat (pre.length + u.length + 1)) τ := by
  intro u
  induction u with
  | nil =>
    intro pre rest g hs hu hg
    obtain ⟨g, rfl⟩ : ∃ z, g = z + 1 := ⟨g - 1, by omega⟩
    have hl : pre.length + 1 + rest.length = 132 := by rw [hs] at hS; simp at hS; omega
    have r : τ 10 (pre.length + 1) = 32 := by rw [H _ (by omega), hs]; simp [List.getD]
    rw [M_wordAt_l94, ni_rd (by omega) (by omega), Option.bind_some, r, if_pos rfl]; rfl
  | cons c u ih =>
    intro pre rest g hs hu hg
    obtain ⟨g, rfl⟩ : ∃ z, g = z + 1 := ⟨g - 1, by omega⟩
    have hl : pre.length + 1 + u.length + 1 + rest.length = 132 := by rw [hs] at hS; simp at hS; omega
    have r : τ 10 (pre.length + 1) = c := by rw [H _ (by omega), hs]; simp [List.getD]
    have b := ih (pre ++ [c]) rest g (by rw [hs]; simp) (fun x hx => hu x (List.mem_cons_of_mem c hx)) (by simp at hg; omega)
    rw [show (pre ++ [c]).length = pre.length + 1 by simp] at b
    rw [M_wordAt_l94, ni_rd (by omega) (by omega), Option.bind_some, r, if_neg (hu c List.mem_cons_self), am_let, ni_succ, b]
    congr 2; simp; omega
theorem kw_M3 {F e p c : Nat} {τ : am_SS} {ch : Nat → Int32} {S : List Int32} (hF : 2000 ≤ F) (hS : S.length = 132) (H : ∀ k, k < 132 → τ 10 (k + 1) = S.getD k 0) (he : e ≤ c) (hc : c ≤ 400) (hch : ∀ k, k < 400 → τ 9 k = ch k) (hp : p ≤ e) (h32 : ∀ q, p ≤ q → q < e → ch q ≠ 32) :
    ∀ (W : List (List Int32)) (pre : List Int32) (n g : Nat) (n' : Int32), n' + 1 = Int32.ofNat n → S = pre ++ kw_s W → (∀ w, w ∈ W → ∀ a, a ∈ w → a ≠ 32) → W.length + 1 ≤ g →
      M_wordAt_l5 F g (Int32.ofNat p) (Int32.ofNat e) n' (Int32.ofNat pre.length) τ = some (kw_f ch e p n W) := by
  intro W
  induction W with
  | nil =>
    intro pre n g n' hn hs hw hg
    obtain ⟨g, rfl⟩ : ∃ z, g = z + 1 := ⟨g - 1, by omega⟩
    have hl : pre.length = 132 := by rw [hs] at hS; simpa [kw_s] using hS
    rw [M_wordAt_l5, if_neg (fun q : _ < (132 : Int32) => by have := (ni_lt (b := 132) (by omega) (by omega)).mp q; omega)]
    rfl
  | cons w W ih =>
    intro pre n g n' hn hs hw hg
    obtain ⟨g, rfl⟩ : ∃ z, g = z + 1 := ⟨g - 1, by omega⟩
    have e1 : kw_s (w :: W) = w ++ 32 :: kw_s W := by simp [kw_s]
    rw [e1] at hs
    have hl : pre.length + w.length + 1 + (kw_s W).length = 132 := by rw [hs] at hS; simp at hS; omega
    have a := kw_M1 (F := F) (rec5 := M_wordAt_l5 F g) (n := Int32.ofNat n) hS H he hc hch hp h32 w [] (kw_s W) F pre rfl (by simpa using hs) (hw w List.mem_cons_self) (by simpa using hp) (by omega)
    have a' : M_wordAt_l20 (M_wordAt_l5 F g) F F (Int32.ofNat p) (Int32.ofNat e) (Int32.ofNat n) (Int32.ofNat pre.length) 0 τ = _ := a
    rw [M_wordAt_l5, if_pos (show _ < (132 : Int32) from (ni_lt (b := 132) (by omega) (by omega)).mpr (by omega)), am_let, hn, a', kw_f, List.length_nil, Nat.add_zero]
    by_cases q : kw_m ch e w p = true
    · rw [if_pos q, if_pos q]
    · rw [if_neg q, if_neg q, M_wordAt_p88, am_let, ni_succ, kw_M2 (F := F) hS H w pre (kw_s W) F hs (hw w List.mem_cons_self) (by omega)]
      have := ih (pre ++ w ++ [32]) (n + 1) g (Int32.ofNat n) (ni_succ n) (by rw [hs]; simp) (fun w' h => hw w' (List.mem_cons_of_mem w h)) (by simp at hg; omega)
      have ll : (pre ++ w ++ [(32 : Int32)]).length = pre.length + w.length + 1 := by simp only [List.length_append, List.length_cons, List.length_nil]
      rw [ll] at this
      exact this
/-! tokens -/
abbrev tk_K := C_Reader_kindOf
theorem tk_k4 (v : Int32) : tk_K v = 1 ∨ tk_K v = 2 ∨ tk_K v = 3 ∨ tk_K v = 4 := by
  simp only [tk_K, C_Reader_kindOf, C_Reader_kindOf_p26, C_Reader_kindOf_p40]
  repeat' split
  all_goals simp
theorem tk_k1 (v : Int32) : tk_K v = 1 ↔ v = 32 ∨ v = 10 := by
  simp only [tk_K, C_Reader_kindOf, C_Reader_kindOf_p26, C_Reader_kindOf_p40]
  repeat' split
  all_goals simp_all
theorem tk_k3 (v : Int32) : tk_K v = 3 ↔ ¬ v < 48 ∧ ¬ 57 < v := by
  simp only [tk_K, C_Reader_kindOf, C_Reader_kindOf_p26, C_Reader_kindOf_p40]
  repeat' split
  all_goals first
    | (simp; done)
    | (simp_all; done)
    | (simp; grind)
theorem tk_k2 (v : Int32) : tk_K v = 2 ↔ M_isLetter v = true := by
  simp only [tk_K, C_Reader_kindOf, C_Reader_kindOf_p26, C_Reader_kindOf_p40, M_isLetter, M_isLetter_p24, M_isIn]
  repeat' split
  all_goals first
    | (simp; done)
    | (simp_all; done)
    | (simp; grind)
theorem tk_d3 (v : Int32) : M_isDigit v = true ↔ tk_K v = 3 := by
  rw [tk_k3, M_isDigit, M_isIn]
  by_cases p : v < 48 <;> by_cases q : 57 < v <;> simp [p, q]
/-- behind the run of kind k from s on, m steps at most -/
def tk_r (ch : Nat → Int32) (k : Int32) : Nat → Nat → Nat
  | 0, s => s
  | m + 1, s => if tk_K (ch s) = k then tk_r ch k m (s + 1) else s
theorem tk_rb {ch : Nat → Int32} {k : Int32} : ∀ m s, s ≤ tk_r ch k m s ∧ tk_r ch k m s ≤ s + m ∧ (∀ q, s ≤ q → q < tk_r ch k m s → tk_K (ch q) = k) ∧ (tk_r ch k m s < s + m → tk_K (ch (tk_r ch k m s)) ≠ k) := by
  intro m
  induction m with
  | zero => intro s; exact ⟨Nat.le_refl _, Nat.le_refl _, fun q h1 h2 => by simp only [tk_r] at h2; omega, fun h => by simp only [tk_r] at h; omega⟩
  | succ m ih =>
    intro s
    rw [tk_r]
    by_cases c : tk_K (ch s) = k
    · rw [if_pos c]
      obtain ⟨h1, h2, h3, h4⟩ := ih (s + 1)
      refine ⟨by omega, by omega, fun q a b => ?_, fun h => h4 (by omega)⟩
      by_cases e : q = s
      · rw [e]; exact c
      · exact h3 q (by omega) b
    · rw [if_neg c]
      exact ⟨by omega, by omega, fun q a b => by omega, fun _ => c⟩
theorem tk_C {F c : Nat} {k : Int32} {σ : am_SS} {ch : Nat → Int32} (hc : c ≤ 400) (e1 : σ 157 1 = Int32.ofNat c) (hch : ∀ k, k < 400 → σ 158 k = ch k) :
    ∀ (m s g : Nat), s + m = c → m < g → C_Reader_behind_l2 F g 157 k (Int32.ofNat s) σ = some (Int32.ofNat (tk_r ch k m s)) := by
  intro m
  induction m with
  | zero =>
    intro s g hs hg
    obtain ⟨g, rfl⟩ : ∃ z, g = z + 1 := ⟨g - 1, by omega⟩
    rw [C_Reader_behind_l2, e1, if_neg (fun q => by have := (ni_lt (by omega) (by omega)).mp q; omega)]; rfl
  | succ m ih =>
    intro s g hs hg
    obtain ⟨g, rfl⟩ : ∃ z, g = z + 1 := ⟨g - 1, by omega⟩
    rw [C_Reader_behind_l2, e1, if_pos ((ni_lt (by omega) (by omega)).mpr (by omega)), if_pos (show _ < (400 : Int32) from (ni_lt (b := 400) (by omega) (by omega)).mpr (by omega)), ni_rd (by omega) (by omega), Option.bind_some, hch s (by omega), tk_r]
    by_cases c : tk_K (ch s) = k
    · rw [if_pos c, if_pos c, am_let, ni_succ, ih (s + 1) g (by omega) (by omega)]
    · rw [if_neg c, if_neg c]
/-- the number of j digits from p on -/
def tk_v (ch : Nat → Int32) (p : Nat) : Nat → Nat
  | 0 => 0
  | j + 1 => 10 * tk_v ch p j + ((ch (p + j)).toNatClampNeg - 48)
theorem tk_dg {v : Int32} (h : tk_K v = 3) : ∃ d, d ≤ 9 ∧ v = Int32.ofNat (48 + d) ∧ v.toNatClampNeg - 48 = d := by
  obtain ⟨h1, h2⟩ := (tk_k3 v).mp h
  obtain ⟨j, hj, rfl⟩ := ni_of (x := v) (by grind)
  have a : ¬ j < 48 := fun g => h1 ((ni_lt (b := 48) hj (by omega)).mpr g)
  have b : ¬ 57 < j := fun g => h2 ((ni_lt (a := 57) (by omega) hj).mpr g)
  rw [ni_tn hj]
  exact ⟨j - 48, by omega, by rw [show 48 + (j - 48) = j by omega], rfl⟩
theorem tk_vb {ch : Nat → Int32} {p : Nat} : ∀ j, (∀ q, p ≤ q → q < p + j → tk_K (ch q) = 3) → tk_v ch p j < 10 ^ j := by
  intro j
  induction j with
  | zero => intro _; exact Nat.zero_lt_one
  | succ j ih =>
    intro h
    have a := ih (fun q h1 h2 => h q h1 (by omega))
    obtain ⟨d, h1, h2, h3⟩ := tk_dg (h (p + j) (by omega) (by omega))
    rw [tk_v, h3, Nat.pow_succ]
    omega
theorem tk_i1 (a d : Nat) : Int32.ofNat a * 10 + Int32.ofNat (48 + d) - 48 = Int32.ofNat (10 * a + d) := by
  rw [show (10 : Int32) = Int32.ofNat 10 from rfl, ni_mul, ni_add, Nat.mul_comm a 10, show 10 * a + (48 + d) = (10 * a + d) + 48 by omega, ← ni_add]
  grind
theorem tk_N {F p e c : Nat} {σ : am_SS} {ch : Nat → Int32} (he : e ≤ c) (hc : c ≤ 400) (hch : ∀ k, k < 400 → σ 158 k = ch k) (hd : ∀ q, p ≤ q → q < e → tk_K (ch q) = 3) :
    ∀ (m j g : Nat), j + m = 4 → p + j ≤ e → m < g → C_Reader_number_l12 F g 157 (Int32.ofNat p) (Int32.ofNat e) (Int32.ofNat (tk_v ch p j)) (Int32.ofNat (p + j)) σ = some (if 4 < e - p then -1 else Int32.ofNat (tk_v ch p (e - p))) := by
  have fin : p ≤ e → ∀ v, C_Reader_number_p48 F (Int32.ofNat p) (Int32.ofNat e) v σ = some (if 4 < e - p then -1 else v) := by
    intro q v
    rw [C_Reader_number_p48, ni_sub q]
    by_cases w : 4 < e - p
    · rw [if_pos (show (4 : Int32) < _ from (ni_lt (a := 4) (by omega) (by omega)).mpr w), if_pos w]
    · rw [if_neg (fun g : (4 : Int32) < _ => w ((ni_lt (a := 4) (by omega) (by omega)).mp g)), if_neg w]
  intro m
  induction m with
  | zero =>
    intro j g hj hp hg
    obtain ⟨g, rfl⟩ : ∃ z, g = z + 1 := ⟨g - 1, by omega⟩
    have e4 : j = 4 := by omega
    subst e4
    have n4 : ¬ Int32.ofNat (p + 4) < Int32.ofNat p + 4 := fun g => by
      rw [show (4 : Int32) = Int32.ofNat 4 from rfl, ni_add] at g
      have := (ni_lt (by omega) (by omega)).mp g; omega
    rw [C_Reader_number_l12, if_neg n4, ite_self, fin (by omega)]
    by_cases w : 4 < e - p
    · rw [if_pos w, if_pos w]
    · rw [if_neg w, if_neg w, show e - p = 4 by omega]
  | succ m ih =>
    intro j g hj hp hg
    obtain ⟨g, rfl⟩ : ∃ z, g = z + 1 := ⟨g - 1, by omega⟩
    rw [C_Reader_number_l12]
    by_cases w : p + j < e
    · obtain ⟨d, h1, h2, h3⟩ := tk_dg (hd (p + j) (by omega) w)
      have b := ih (j + 1) g (by omega) (by omega) (by omega)
      rw [tk_v, h3] at b
      rw [if_pos ((ni_lt (by omega) (by omega)).mpr w), show (4 : Int32) = Int32.ofNat 4 from rfl, ni_add, if_pos ((ni_lt (by omega) (by omega)).mpr (by omega)), ni_rd (by omega) (by omega), Option.bind_some, hch _ (by omega), h2, am_let, tk_i1, am_let, ni_succ]
      exact b
    · have e4 : e = p + j := by omega
      rw [if_neg (fun g => w ((ni_lt (by omega) (by omega)).mp g)), fin (by omega), if_neg (by omega), if_neg (by omega), show e - p = j by omega]
def tk_nx (ch : Nat → Int32) (c s : Nat) : Nat := if tk_K (ch s) = 2 ∨ tk_K (ch s) = 3 then tk_r ch (tk_K (ch s)) (c - (s + 1)) (s + 1) else s + 1
def tk_w (ch : Nat → Int32) (c s : Nat) : Int32 := if tk_K (ch s) = 2 then kw_f ch (tk_nx ch c s) s 0 kw_W else if tk_K (ch s) = 3 then (if 4 < tk_nx ch c s - s then -1 else Int32.ofNat (tk_v ch s (tk_nx ch c s - s))) else ch s
def tk_l (ch : Nat → Int32) (c : Nat) : Nat → Nat → List (Nat × Int32 × Int32)
  | 0, _ => []
  | m + 1, s => if c ≤ s then [] else if tk_K (ch s) = 1 then tk_l ch c m (s + 1) else (s, tk_K (ch s), tk_w ch c s) :: tk_l ch c m (tk_nx ch c s)
theorem tk_nxb {ch : Nat → Int32} {c s : Nat} (h : s < c) : s < tk_nx ch c s ∧ tk_nx ch c s ≤ c := by
  unfold tk_nx
  have := tk_rb (ch := ch) (k := tk_K (ch s)) (c - (s + 1)) (s + 1)
  split <;> omega
theorem tk_lf {ch : Nat → Int32} {c : Nat} : ∀ (m m' s : Nat), c ≤ s + m → c ≤ s + m' → tk_l ch c m s = tk_l ch c m' s := by
  intro m
  induction m with
  | zero =>
    intro m' s h h'
    cases m' with
    | zero => rfl
    | succ m' => rw [tk_l, tk_l, if_pos (by omega)]
  | succ m ih =>
    intro m' s h h'
    cases m' with
    | zero => rw [tk_l, tk_l, if_pos (by omega)]
    | succ m' =>
      rw [tk_l, tk_l]
      by_cases q : c ≤ s
      · rw [if_pos q, if_pos q]
      · have := tk_nxb (ch := ch) (c := c) (s := s) (by omega)
        rw [if_neg q, if_neg q, ih m' (s + 1) (by omega) (by omega), ih m' (tk_nx ch c s) (by omega) (by omega)]
theorem tk_ll {ch : Nat → Int32} {c : Nat} : ∀ (m s : Nat), s ≤ c → (tk_l ch c m s).length ≤ c - s := by
  intro m
  induction m with
  | zero => intro s _; rw [tk_l]; exact Nat.zero_le _
  | succ m ih =>
    intro s hs
    rw [tk_l]
    by_cases q : c ≤ s
    · rw [if_pos q]; exact Nat.zero_le _
    · rw [if_neg q]
      have := tk_nxb (ch := ch) (c := c) (s := s) (by omega)
      by_cases w : tk_K (ch s) = 1
      · rw [if_pos w]; have := ih (s + 1) (by omega); omega
      · rw [if_neg w, List.length_cons]; have := ih (tk_nx ch c s) (by omega); omega
/-- class's token against reference's -/
def tk_R (k v t w : Int32) : Prop :=
  (k = 2 ∧ v = -1 ∧ t = 1) ∨ (k = 2 ∧ (∃ n, n < 25 ∧ v = Int32.ofNat n) ∧ t = 2 ∧ w = v) ∨ (k = 3 ∧ v = -1 ∧ t = 1) ∨ (k = 3 ∧ (∃ n, n < 10000 ∧ v = Int32.ofNat n) ∧ t = 3 ∧ w = v) ∨
  (k = 4 ∧ M_isMarkSign v = true ∧ t = 4 ∧ w = v) ∨ (k = 4 ∧ M_isMarkSign v = false ∧ t = 1)
def tk_h (c : Nat) (f t w : Int32) : List (Nat × Int32 × Int32) → Prop
  | [] => t = 0 ∧ f = Int32.ofNat c
  | x :: _ => f = Int32.ofNat x.1 ∧ tk_R x.2.1 x.2.2 t w
def tk_M (ch : Nat → Int32) (c : Nat) (τ : am_SS) (l : List (Nat × Int32 × Int32)) : Prop :=
  ∃ s, s ≤ c ∧ τ 0 15 = Int32.ofNat s ∧ tk_l ch c 400 s = l.tail ∧ tk_h c (τ 0 16) (τ 0 17) (τ 0 18) l
def tk_T (ch : Nat → Int32) (c : Nat) (τ : am_SS) : Prop :=
  c ≤ 400 ∧ τ 0 14 = Int32.ofNat c ∧ (∀ k, k < 400 → τ 9 k = ch k ∧ rl_rg (ch k) 0 255) ∧ ∀ k, k < 132 → τ 10 (k + 1) = (kw_s kw_W).getD k 0
def tk_D (τ τ' : am_SS) : Prop := ∀ a j, ¬ (a = 0 ∧ 15 ≤ j ∧ j ≤ 18) → τ' a j = τ a j
theorem tk_TD {ch : Nat → Int32} {c : Nat} {τ τ' : am_SS} (h : tk_T ch c τ) (d : tk_D τ τ') : tk_T ch c τ' := by
  obtain ⟨h0, h1, h2, h3⟩ := h
  exact ⟨h0, by rw [d 0 14 (by omega)]; exact h1, fun k hk => by rw [d 9 k (by omega)]; exact h2 k hk, fun k hk => by rw [d 10 _ (by omega)]; exact h3 k hk⟩
def tk_s (τ : am_SS) (x y z w : Int32) : am_SS := fun a j => if a = 0 ∧ j = 15 then x else if a = 0 ∧ j = 16 then y else if a = 0 ∧ j = 17 then z else if a = 0 ∧ j = 18 then w else τ a j
theorem tk_s15 {τ : am_SS} {x y z w : Int32} : tk_s τ x y z w 0 15 = x := rfl
theorem tk_s16 {τ : am_SS} {x y z w : Int32} : tk_s τ x y z w 0 16 = y := rfl
theorem tk_s17 {τ : am_SS} {x y z w : Int32} : tk_s τ x y z w 0 17 = z := rfl
theorem tk_s18 {τ : am_SS} {x y z w : Int32} : tk_s τ x y z w 0 18 = w := rfl
theorem tk_sD {τ : am_SS} {x y z w : Int32} : tk_D τ (tk_s τ x y z w) := by
  intro a j h
  simp only [tk_s]
  rw [if_neg (by omega), if_neg (by omega), if_neg (by omega), if_neg (by omega)]
theorem tk_u15 {τ : am_SS} {x y z w v : Int32} : am_up (tk_s τ x y z w) 0 15 v = tk_s τ v y z w := by
  funext a j; simp only [am_up, tk_s]; by_cases q : a = 0 ∧ j = 15
  · simp [q]
  · simp only [q, if_false]
theorem tk_u16 {τ : am_SS} {x y z w v : Int32} : am_up (tk_s τ x y z w) 0 16 v = tk_s τ x v z w := by
  funext a j; simp only [am_up, tk_s]; by_cases q : a = 0 ∧ j = 16
  · simp [q]
  · simp only [q, if_false]
theorem tk_u17 {τ : am_SS} {x y z w v : Int32} : am_up (tk_s τ x y z w) 0 17 v = tk_s τ x y v w := by
  funext a j; simp only [am_up, tk_s]; by_cases q : a = 0 ∧ j = 17
  · simp [q]
  · simp only [q, if_false]
theorem tk_u18 {τ : am_SS} {x y z w v : Int32} : am_up (tk_s τ x y z w) 0 18 v = tk_s τ x y z v := by
  funext a j; simp only [am_up, tk_s]; by_cases q : a = 0 ∧ j = 18
  · simp [q]
  · simp only [q, if_false]
theorem tk_s0 (τ : am_SS) : τ = tk_s τ (τ 0 15) (τ 0 16) (τ 0 17) (τ 0 18) := by
  funext a j; simp only [tk_s]
  split
  · rename_i h; rw [h.1, h.2]
  split
  · rename_i h; rw [h.1, h.2]
  split
  · rename_i h; rw [h.1, h.2]
  split
  · rename_i h; rw [h.1, h.2]
  rfl
theorem tk_raw {ch : Nat → Int32} {c s : Nat} {τ : am_SS} (h : tk_T ch c τ) (hs : s ≤ c) : M_raw (Int32.ofNat s) τ = some (if s < c then ch s else -1) := by
  obtain ⟨h0, h1, h2, h3⟩ := h
  rw [M_raw, h1]
  by_cases q : s < c
  · rw [if_pos ((ni_lt (by omega) (by omega)).mpr q), ni_rd (by omega) (by omega), Option.bind_some, (h2 s (by omega)).1, if_pos q]
  · rw [if_neg (fun g => q ((ni_lt (by omega) (by omega)).mp g)), if_neg q]
theorem tk_L {F c p : Nat} {ch : Nat → Int32} {τ : am_SS} {z : Int32} (hF : 2000 ≤ F) (h : tk_T ch c τ) :
    ∀ (m s g : Nat) (x : Int32), s + m = c → m < g → p ≤ s → (∀ q, p ≤ q → q < s → tk_K (ch q) = 2) → M_reads_l95 F g (tk_s τ (Int32.ofNat s) (Int32.ofNat p) z x) = some (if kw_f ch (tk_r ch 2 m s) p 0 kw_W = -1 then tk_s τ (Int32.ofNat (tk_r ch 2 m s)) (Int32.ofNat p) z (kw_f ch (tk_r ch 2 m s) p 0 kw_W) else tk_s τ (Int32.ofNat (tk_r ch 2 m s)) (Int32.ofNat p) 2 (kw_f ch (tk_r ch 2 m s) p 0 kw_W)) := by
  have fin : ∀ (s : Nat) (x : Int32), s ≤ c → p ≤ s → (∀ q, p ≤ q → q < s → tk_K (ch q) = 2) → ((M_wordAt F (tk_s τ (Int32.ofNat s) (Int32.ofNat p) z x 0 16) (tk_s τ (Int32.ofNat s) (Int32.ofNat p) z x 0 15) (tk_s τ (Int32.ofNat s) (Int32.ofNat p) z x)).bind (fun q_4 =>
    am_let (am_up (tk_s τ (Int32.ofNat s) (Int32.ofNat p) z x) 0 18 q_4) (fun σ_5 =>
    if (σ_5 0 18) = (-1) then (
      some σ_5)
    else (
      am_let (am_up σ_5 0 17 2) (fun σ_7 =>
      some σ_7))))) = some (if kw_f ch s p 0 kw_W = -1 then tk_s τ (Int32.ofNat s) (Int32.ofNat p) z (kw_f ch s p 0 kw_W) else tk_s τ (Int32.ofNat s) (Int32.ofNat p) 2 (kw_f ch s p 0 kw_W)) := by
    intro s x hs hp hk
    have hT := tk_TD h (tk_sD (τ := τ) (x := Int32.ofNat s) (y := Int32.ofNat p) (z := z) (w := x))
    obtain ⟨h0, h1, h2, h3⟩ := hT
    have hS : (kw_s kw_W).length = 132 := by decide +kernel
    have w := kw_M3 (F := F) (e := s) (p := p) (c := c) (ch := ch) hF hS h3 hs h0 (fun k hk => (h2 k hk).1) hp (fun q a b e => by
      have := hk q a b
      rw [e] at this
      exact absurd this (by decide)) kw_W [] 0 F (-1) (by decide) rfl kw_ok (by have : kw_W.length = 25 := by decide +kernel
                                                                                omega)
    have w' : M_wordAt F (tk_s τ (Int32.ofNat s) (Int32.ofNat p) z x 0 16) (tk_s τ (Int32.ofNat s) (Int32.ofNat p) z x 0 15) (tk_s τ (Int32.ofNat s) (Int32.ofNat p) z x) = _ := w
    rw [w', Option.bind_some, am_let, tk_u18, tk_s18]
    split <;> simp only [am_let, tk_u17]
  intro m
  induction m with
  | zero =>
    intro s g x hs hg hp hk
    obtain ⟨g, rfl⟩ : ∃ z, g = z + 1 := ⟨g - 1, by omega⟩
    rw [M_reads_l95, tk_s15, tk_raw (tk_TD h tk_sD) (by omega), Option.bind_some, if_neg (by omega : ¬ s < c), if_neg (by decide)]
    exact fin s x (by omega) hp hk
  | succ m ih =>
    intro s g x hs hg hp hk
    obtain ⟨g, rfl⟩ : ∃ z, g = z + 1 := ⟨g - 1, by omega⟩
    rw [M_reads_l95, tk_s15, tk_raw (tk_TD h tk_sD) (by omega), Option.bind_some, if_pos (by omega : s < c), tk_r]
    by_cases q : tk_K (ch s) = 2
    · rw [if_pos q, if_pos ((tk_k2 _).mp q), am_let, tk_u15, ni_succ]
      exact ih (s + 1) g x (by omega) (by omega) (by omega) (fun r a b => by
        by_cases e : r = s
        · rw [e]; exact q
        · exact hk r a (by omega))
    · rw [if_neg q, if_neg (fun g => q ((tk_k2 _).mpr g))]
      exact fin s x (by omega) hp hk
theorem tk_i2 (a d : Nat) : 10 * Int32.ofNat a + Int32.ofNat (48 + d) - 48 = Int32.ofNat (10 * a + d) := by
  have := tk_i1 a d
  grind
theorem tk_Dg {F c p : Nat} {ch : Nat → Int32} {τ : am_SS} (h : tk_T ch c τ) :
    ∀ (m j g : Nat) (x : Int32), p + j + m = c → m < g → (∀ q, p ≤ q → q < p + j → tk_K (ch q) = 3) → (j ≤ 4 → x = Int32.ofNat (tk_v ch p j)) → ∃ x', (tk_r ch 3 m (p + j) - p ≤ 4 → x' = Int32.ofNat (tk_v ch p (tk_r ch 3 m (p + j) - p))) ∧
      M_reads_l171 F g (tk_s τ (Int32.ofNat (p + j)) (Int32.ofNat p) 1 x) = some (tk_s τ (Int32.ofNat (tk_r ch 3 m (p + j))) (Int32.ofNat p) (if tk_r ch 3 m (p + j) - p < 5 then 3 else 1) x') := by
  have hc := h.1
  have fin : ∀ (j : Nat) (x : Int32), p + j ≤ c → (if ((tk_s τ (Int32.ofNat (p + j)) (Int32.ofNat p) 1 x 0 15) - (tk_s τ (Int32.ofNat (p + j)) (Int32.ofNat p) 1 x 0 16)) < 5 then (
      am_let (am_up (tk_s τ (Int32.ofNat (p + j)) (Int32.ofNat p) 1 x) 0 17 3) (fun σ_5 =>
      some σ_5))
    else (
      some (tk_s τ (Int32.ofNat (p + j)) (Int32.ofNat p) 1 x))) = some (tk_s τ (Int32.ofNat (p + j)) (Int32.ofNat p) (if p + j - p < 5 then 3 else 1) x) := by
    intro j x hj
    rw [tk_s15, tk_s16, ni_sub (by omega)]
    by_cases q : p + j - p < 5
    · rw [if_pos (show _ < (5 : Int32) from (ni_lt (b := 5) (by omega) (by omega)).mpr q), if_pos q, am_let, tk_u17]
    · rw [if_neg (fun g : _ < (5 : Int32) => q ((ni_lt (b := 5) (by omega) (by omega)).mp g)), if_neg q]
  intro m
  induction m with
  | zero =>
    intro j g x hs hg hk hx
    obtain ⟨g, rfl⟩ : ∃ z, g = z + 1 := ⟨g - 1, by omega⟩
    refine ⟨x, fun q => ?_, ?_⟩
    · rw [tk_r] at q ⊢; rw [hx (by omega), show p + j - p = j by omega]
    · rw [M_reads_l171, tk_s15, tk_raw (tk_TD h tk_sD) (by omega), Option.bind_some, if_neg (by omega : ¬ p + j < c), if_neg (by decide)]
      exact fin j x (by omega)
  | succ m ih =>
    intro j g x hs hg hk hx
    obtain ⟨g, rfl⟩ : ∃ z, g = z + 1 := ⟨g - 1, by omega⟩
    rw [tk_r]
    by_cases q : tk_K (ch (p + j)) = 3
    · rw [if_pos q]
      obtain ⟨d, h1, h2, h3⟩ := tk_dg q
      have hk' : ∀ r, p ≤ r → r < p + (j + 1) → tk_K (ch r) = 3 := fun r a b => by
        by_cases e : r = p + j
        · rw [e]; exact q
        · exact hk r a (by omega)
      have goal : ∀ y, (j + 1 ≤ 4 → y = Int32.ofNat (tk_v ch p (j + 1))) → ∃ x', (tk_r ch 3 m (p + j + 1) - p ≤ 4 → x' = Int32.ofNat (tk_v ch p (tk_r ch 3 m (p + j + 1) - p))) ∧
          M_reads_p223 (M_reads_l171 F g) F y (tk_s τ (Int32.ofNat (p + j)) (Int32.ofNat p) 1 x) = some (tk_s τ (Int32.ofNat (tk_r ch 3 m (p + j + 1))) (Int32.ofNat p) (if tk_r ch 3 m (p + j + 1) - p < 5 then 3 else 1) x') := by
        intro y hy
        obtain ⟨x', a, b⟩ := ih (j + 1) g y (by omega) (by omega) hk' hy
        refine ⟨x', a, ?_⟩
        rw [M_reads_p223, am_let, am_let, tk_u18, tk_s15, tk_u15, ni_succ]
        exact b
      rw [M_reads_l171, tk_s15, tk_raw (tk_TD h tk_sD) (by omega), Option.bind_some, if_pos (by omega : p + j < c), if_pos ((tk_d3 _).mpr q), Option.bind_some, tk_s18]
      by_cases w : x < 10000
      · rw [if_pos w]
        refine goal _ (fun hj => ?_)
        rw [hx (by omega), h2, tk_i2, tk_v, h3]
      · rw [if_neg w]
        refine goal _ (fun hj => ?_)
        exfalso
        apply w
        rw [hx (by omega)]
        have b := tk_vb (ch := ch) (p := p) j hk
        have : 10 ^ j ≤ 10 ^ 3 := Nat.pow_le_pow_right (by omega) (by omega)
        exact (ni_lt (b := 10000) (by omega) (by omega)).mpr (by omega)
    · rw [if_neg q]
      refine ⟨x, fun w => ?_, ?_⟩
      · rw [hx (by omega), show p + j - p = j by omega]
      · rw [M_reads_l171, tk_s15, tk_raw (tk_TD h tk_sD) (by omega), Option.bind_some, if_pos (by omega : p + j < c), if_neg (fun g => q ((tk_d3 _).mp g))]
        exact fin j x (by omega)
theorem tk_lb {ch : Nat → Int32} {c s : Nat} (hc : c ≤ 400) (hs : s < c) (k : tk_K (ch s) = 1) : tk_l ch c 400 s = tk_l ch c 400 (s + 1) := by
  rw [show tk_l ch c 400 s = tk_l ch c (399 + 1) s from rfl, tk_l, if_neg (by omega), if_pos k]
  exact tk_lf _ _ _ (by omega) (by omega)
theorem tk_lt {ch : Nat → Int32} {c s : Nat} (hc : c ≤ 400) (hs : s < c) (k : ¬ tk_K (ch s) = 1) : tk_l ch c 400 s = (s, tk_K (ch s), tk_w ch c s) :: tk_l ch c 400 (tk_nx ch c s) := by
  have := tk_nxb (ch := ch) hs
  rw [show tk_l ch c 400 s = tk_l ch c (399 + 1) s from rfl, tk_l, if_neg (by omega), if_neg k, tk_lf 399 400 _ (by omega) (by omega)]
theorem tk_le {ch : Nat → Int32} {c : Nat} : tk_l ch c 400 c = [] := by
  rw [show tk_l ch c 400 c = tk_l ch c (399 + 1) c from rfl, tk_l, if_pos (Nat.le_refl _)]
theorem tk_kwl : kw_W.length = 25 := by decide +kernel
theorem tk_rd {F c : Nat} {ch : Nat → Int32} {τ : am_SS} (hF : 2000 ≤ F) (h : tk_T ch c τ) :
    ∀ (m s g : Nat) (a b d : Int32), s + m = c → m < g → ∃ τ', M_reads_l0 F g (tk_s τ (Int32.ofNat s) a b d) = some τ' ∧ tk_M ch c τ' (tk_l ch c 400 s) ∧ tk_D τ τ' := by
  have hc := h.1
  intro m
  induction m with
  | zero =>
    intro s g a b d hs hg
    obtain ⟨g, rfl⟩ : ∃ z, g = z + 1 := ⟨g - 1, by omega⟩
    have e : s = c := by omega
    subst e
    have r : ∀ x y z, M_raw (Int32.ofNat s) (tk_s τ (Int32.ofNat s) x y z) = some (-1) := fun x y z => by
      rw [tk_raw (tk_TD h tk_sD) (Nat.le_refl _), if_neg (by omega)]
    refine ⟨tk_s τ (Int32.ofNat s) (Int32.ofNat s) 0 d, ?_, ⟨s, Nat.le_refl _, tk_s15, by rw [tk_le]; rfl, by rw [tk_le]; exact ⟨rfl, rfl⟩⟩, tk_sD⟩
    rw [M_reads_l0, tk_s15, r, Option.bind_some, if_neg (by decide), Option.bind_some, if_neg (by decide), am_let, tk_u16, am_let, tk_u17, tk_s15, r, Option.bind_some, if_pos rfl, am_let, tk_u17]
  | succ m ih =>
    intro s g a b d hs hg
    obtain ⟨g, rfl⟩ : ∃ z, g = z + 1 := ⟨g - 1, by omega⟩
    have r : ∀ x y z, M_raw (Int32.ofNat s) (tk_s τ (Int32.ofNat s) x y z) = some (ch s) := fun x y z => by
      rw [tk_raw (tk_TD h tk_sD) (by omega), if_pos (by omega)]
    have n1 : ¬ ch s = -1 := fun e => by
      have := (h.2.2.1 s (by omega)).2.1
      rw [e] at this
      exact absurd this (by decide)
    rw [M_reads_l0, tk_s15, r, Option.bind_some]
    by_cases k : tk_K (ch s) = 1
    · have b0 : M_reads_p26 (M_reads_l0 F g) F (tk_s τ (Int32.ofNat s) a b d) = M_reads_l0 F g (tk_s τ (Int32.ofNat (s + 1)) a b d) := by
        rw [M_reads_p26, am_let, tk_s15, tk_u15, ni_succ]
      rw [tk_lb hc (by omega) k, Option.bind_some]
      rcases (tk_k1 _).mp k with e | e
      · rw [if_pos e, b0]; exact ih (s + 1) g a b d (by omega) (by omega)
      · rw [if_neg (by rw [e]; decide), if_pos e, b0]; exact ih (s + 1) g a b d (by omega) (by omega)
    · have k1 : ¬ ch s = 32 := fun e => k ((tk_k1 _).mpr (.inl e))
      have k2 : ¬ ch s = 10 := fun e => k ((tk_k1 _).mpr (.inr e))
      have nb := tk_nxb (ch := ch) (c := c) (s := s) (by omega)
      rw [tk_lt hc (by omega) k, if_neg k1, Option.bind_some, if_neg k2, am_let, tk_u16, am_let, tk_u17, tk_s15, r, Option.bind_some, if_neg n1, am_let, tk_u15, am_let, tk_u18, ni_succ]
      rcases tk_k4 (ch s) with w | w | w | w
      · exact absurd w k
      · have nx : tk_nx ch c s = tk_r ch 2 m (s + 1) := by
          unfold tk_nx; rw [if_pos (.inl w), w, show c - (s + 1) = m by omega]
        have L := tk_L (F := F) (p := s) (z := 1) hF h m (s + 1) F (ch s) (by omega) (by omega) (by omega) (fun q x y => by rw [show q = s by omega]; exact w)
        rw [if_pos ((tk_k2 _).mp w), L, ← nx]
        have fr := kw_fr (ch := ch) (e := tk_nx ch c s) (p := s) kw_W 0
        have ww : tk_w ch c s = kw_f ch (tk_nx ch c s) s 0 kw_W := by unfold tk_w; rw [if_pos w]
        by_cases v : kw_f ch (tk_nx ch c s) s 0 kw_W = -1
        · rw [if_pos v]
          exact ⟨_, rfl, ⟨tk_nx ch c s, nb.2, tk_s15, rfl, tk_s16, by rw [tk_s17, tk_s18, ww]; exact .inl ⟨w, v, rfl⟩⟩, tk_sD⟩
        · rw [if_neg v]
          refine ⟨_, rfl, ⟨tk_nx ch c s, nb.2, tk_s15, rfl, tk_s16, ?_⟩, tk_sD⟩
          rw [tk_s17, tk_s18, ww]
          refine .inr (.inl ⟨w, ?_, rfl, rfl⟩)
          rcases fr with e | ⟨j, _, j2, j3⟩
          · exact absurd e v
          · rw [tk_kwl] at j2; exact ⟨j, by omega, j3⟩
      · have nx : tk_nx ch c s = tk_r ch 3 m (s + 1) := by
          unfold tk_nx; rw [if_pos (.inr w), w, show c - (s + 1) = m by omega]
        obtain ⟨dd, h1, h2, h3⟩ := tk_dg w
        have nl : ¬ M_isLetter (ch s) = true := fun e => by have := (tk_k2 _).mpr e; rw [w] at this; exact absurd this (by decide)
        obtain ⟨x', X1, X2⟩ := tk_Dg (F := F) (p := s) h m 1 F (ch s - 48) (by omega) (by omega) (fun q x y => by rw [show q = s by omega]; exact w) (fun _ => by
          rw [tk_v, tk_v, Nat.add_zero, h3, Nat.mul_zero, Nat.zero_add, h2]
          have := tk_i2 0 dd
          simpa using this)
        rw [if_neg nl, if_pos ((tk_d3 _).mpr w), am_let, tk_u18, X2, ← nx]
        refine ⟨_, rfl, ⟨tk_nx ch c s, nb.2, tk_s15, rfl, tk_s16, ?_⟩, tk_sD⟩
        rw [tk_s17, tk_s18]
        have ww : tk_w ch c s = if 4 < tk_nx ch c s - s then -1 else Int32.ofNat (tk_v ch s (tk_nx ch c s - s)) := by
          unfold tk_w; rw [if_neg (by rw [w]; decide), if_pos w]
        rw [← nx] at X1
        by_cases q : tk_nx ch c s - s < 5
        · refine .inr (.inr (.inr (.inl ⟨w, ⟨tk_v ch s (tk_nx ch c s - s), ?_, ?_⟩, ?_, ?_⟩)))
          · have b := tk_vb (ch := ch) (p := s) (tk_nx ch c s - s) (fun r x y => by
              by_cases e : r = s
              · rw [e]; exact w
              · exact (tk_rb (ch := ch) (k := 3) m (s + 1)).2.2.1 r (by omega) (by rw [← nx]; omega))
            have : 10 ^ (tk_nx ch c s - s) ≤ 10 ^ 4 := Nat.pow_le_pow_right (by omega) (by omega)
            omega
          · show tk_w ch c s = _
            rw [ww, if_neg (by omega)]
          · rw [if_pos q]
          · rw [X1 (by omega)]
            show _ = tk_w ch c s
            rw [ww, if_neg (by omega)]
        · refine .inr (.inr (.inl ⟨w, ?_, ?_⟩))
          · show tk_w ch c s = _
            rw [ww, if_pos (by omega)]
          · rw [if_neg q]
      · have nx : tk_nx ch c s = s + 1 := by
          unfold tk_nx; rw [if_neg (by rw [w]; decide)]
        have nl : ¬ M_isLetter (ch s) = true := fun e => by have := (tk_k2 _).mpr e; rw [w] at this; exact absurd this (by decide)
        have nd : ¬ M_isDigit (ch s) = true := fun e => by have := (tk_d3 _).mp e; rw [w] at this; exact absurd this (by decide)
        have ww : tk_w ch c s = ch s := by unfold tk_w; rw [if_neg (by rw [w]; decide), if_neg (by rw [w]; decide)]
        rw [if_neg nl, if_neg nd, nx]
        by_cases q : M_isMarkSign (ch s) = true
        · rw [if_pos q, am_let, tk_u17]
          exact ⟨_, rfl, ⟨s + 1, by omega, tk_s15, rfl, tk_s16, by rw [tk_s17, tk_s18, ww]; exact .inr (.inr (.inr (.inr (.inl ⟨w, q, rfl, rfl⟩))))⟩, tk_sD⟩
        · rw [if_neg q]
          exact ⟨_, rfl, ⟨s + 1, by omega, tk_s15, rfl, tk_s16, by rw [tk_s17, tk_s18, ww]; exact .inr (.inr (.inr (.inr (.inr ⟨w, by simpa using q, rfl⟩))))⟩, tk_sD⟩
theorem tk_reads {F c s : Nat} {ch : Nat → Int32} {τ : am_SS} (hF : 2000 ≤ F) (h : tk_T ch c τ) (hs : s ≤ c) (e : τ 0 15 = Int32.ofNat s) : ∃ τ', M_reads F τ = some τ' ∧ tk_M ch c τ' (tk_l ch c 400 s) ∧ tk_D τ τ' := by
  have hc := h.1
  have := tk_rd hF h (c - s) s F (τ 0 16) (τ 0 17) (τ 0 18) (by omega) (by omega)
  rw [← e, ← tk_s0] at this
  exact this
/-- the next token -/
theorem tk_next {F c : Nat} {ch : Nat → Int32} {τ : am_SS} {x : Nat × Int32 × Int32} {l : List (Nat × Int32 × Int32)} (hF : 2000 ≤ F) (h : tk_T ch c τ) (m : tk_M ch c τ (x :: l)) : ∃ τ', M_reads F τ = some τ' ∧ tk_M ch c τ' l ∧ tk_D τ τ' := by
  obtain ⟨s, h1, h2, h3, _⟩ := m
  have := tk_reads hF h h1 h2
  rw [h3] at this
  exact this
/-! the class cuts all at once -/
theorem tk_LC : LC.2.1 161 = 401 := rfl
def tk_e (c : Nat) (σ : am_SS) : Nat → List (Nat × Int32 × Int32) → Prop
  | t, [] => σ 159 t = Int32.ofNat c ∧ σ 160 t = 0
  | t, x :: l => σ 159 t = Int32.ofNat x.1 ∧ σ 160 t = x.2.1 ∧ σ 161 t = x.2.2 ∧ tk_e c σ (t + 1) l
theorem tk_ef {c : Nat} {σ σ' : am_SS} : ∀ (l : List (Nat × Int32 × Int32)) (t : Nat), (∀ a j, 159 ≤ a → a ≤ 161 → t ≤ j → σ' a j = σ a j) → tk_e c σ t l → tk_e c σ' t l := by
  intro l
  induction l with
  | nil => intro t h e; exact ⟨by rw [h 159 t (by omega) (by omega) (by omega)]; exact e.1, by rw [h 160 t (by omega) (by omega) (by omega)]; exact e.2⟩
  | cons x l ih =>
    intro t h e
    exact ⟨by rw [h 159 t (by omega) (by omega) (by omega)]; exact e.1, by rw [h 160 t (by omega) (by omega) (by omega)]; exact e.2.1, by rw [h 161 t (by omega) (by omega) (by omega)]; exact e.2.2.1, ih (t + 1) (fun a j h1 h2 h3 => h a j h1 h2 (by omega)) e.2.2.2⟩
def tk_S (ch : Nat → Int32) (c : Nat) (σ : am_SS) : Prop := c ≤ 400 ∧ σ 157 1 = Int32.ofNat c ∧ ∀ k, k < 400 → σ 158 k = ch k
theorem tk_kw {F c s m : Nat} {ch : Nat → Int32} {σ : am_SS} (hF : 2000 ≤ F) (H : ∀ k, k < 132 → am_ch (Int32.ofNat k) = some ((kw_s kw_W).getD k 0)) (h : tk_S ch c σ) (hs : s + (m + 1) = c) (k : tk_K (ch s) = 2) : C_Reader_keyword F 157 (Int32.ofNat s) σ = some (tk_w ch c s) := by
  obtain ⟨h0, h1, h2⟩ := h
  have nb := tk_nxb (ch := ch) (c := c) (s := s) (by omega)
  have nx : tk_nx ch c s = tk_r ch 2 m (s + 1) := by
    unfold tk_nx; rw [if_pos (.inl k), k, show c - (s + 1) = m by omega]
  have ww : tk_w ch c s = kw_f ch (tk_nx ch c s) s 0 kw_W := by unfold tk_w; rw [if_pos k]
  have hS : (kw_s kw_W).length = 132 := by decide +kernel
  have a := kw_C2 (F := F) (a0 := 157) (e := tk_nx ch c s) (p := s) (c := c) (σ := σ) (ch := ch) hS H nb.2 h0 h2 (by omega) kw_W [] 0 F rfl kw_ok (by omega)
  rw [C_Reader_keyword, C_Reader_behind, tk_C h0 h1 h2 (m + 1) s F hs (by omega), Option.bind_some, tk_r, if_pos k, ← nx, ww]
  exact a
theorem tk_nu {F c s m : Nat} {ch : Nat → Int32} {σ : am_SS} (hF : 2000 ≤ F) (h : tk_S ch c σ) (hs : s + (m + 1) = c) (k : tk_K (ch s) = 3) : C_Reader_number F 157 (Int32.ofNat s) σ = some (tk_w ch c s) := by
  obtain ⟨h0, h1, h2⟩ := h
  have nb := tk_nxb (ch := ch) (c := c) (s := s) (by omega)
  have nx : tk_nx ch c s = tk_r ch 3 m (s + 1) := by
    unfold tk_nx; rw [if_pos (.inr k), k, show c - (s + 1) = m by omega]
  have ww : tk_w ch c s = if 4 < tk_nx ch c s - s then -1 else Int32.ofNat (tk_v ch s (tk_nx ch c s - s)) := by
    unfold tk_w; rw [if_neg (by rw [k]; decide), if_pos k]
  have a := tk_N (F := F) (p := s) (e := tk_nx ch c s) (c := c) (σ := σ) (ch := ch) nb.2 h0 h2 (fun r x y => by
    by_cases e : r = s
    · rw [e]; exact k
    · exact (tk_rb (ch := ch) (k := 3) m (s + 1)).2.2.1 r (by omega) (by rw [← nx]; omega)) 4 0 F (by omega) (by omega) (by omega)
  rw [C_Reader_number, C_Reader_behind, tk_C h0 h1 h2 (m + 1) s F hs (by omega), Option.bind_some, tk_r, if_pos k, ← nx, ww]
  exact a
def tk_sk (ch : Nat → Int32) (k : Int32) (m s : Nat) : Nat := if k = 2 ∨ k = 3 then tk_r ch k m s else s
theorem tk_cut {F c : Nat} {ch : Nat → Int32} (hF : 2000 ≤ F) (H : ∀ k, k < 132 → am_ch (Int32.ofNat k) = some ((kw_s kw_W).getD k 0)) :
    ∀ (m s t g : Nat) (k : Int32) (σ : am_SS), tk_S ch c σ → s + m = c → m < g → t ≤ s → ∃ σ', C_Reader_cut_l21 F g 157 (Int32.ofNat t) k (Int32.ofNat s) σ = some σ' ∧ tk_e c σ' t (tk_l ch c 400 (tk_sk ch k m s)) ∧ ∀ a j, ¬ (159 ≤ a ∧ a ≤ 161 ∧ t ≤ j) → σ' a j = σ a j := by
  intro m
  induction m with
  | zero =>
    intro s t g k σ h hs hg ht
    obtain ⟨g, rfl⟩ : ∃ z, g = z + 1 := ⟨g - 1, by omega⟩
    obtain ⟨h0, h1, h2⟩ := h
    have e : s = c := by omega
    subst e
    have sk : tk_sk ch k 0 s = s := by unfold tk_sk; split <;> rfl
    rw [C_Reader_cut_l21, h1, if_neg (fun q => by have := (ni_lt (by omega) (by omega)).mp q; omega), C_Reader_cut_p157, h1, ni_wr (by omega) (by omega), Option.bind_some, ni_wr (by omega) (by omega), Option.bind_some, ni_wr (by omega) (by omega), Option.bind_some, sk, tk_le]
    refine ⟨_, rfl, ⟨?_, ?_⟩, fun a j q => ?_⟩
    · simp [am_up]
    · simp [am_up]
    · simp only [am_up]
      rw [if_neg (by omega), if_neg (by omega), if_neg (by omega)]
  | succ m ih =>
    intro s t g k σ h hs hg ht
    obtain ⟨g, rfl⟩ : ∃ z, g = z + 1 := ⟨g - 1, by omega⟩
    have h' := h
    obtain ⟨h0, h1, h2⟩ := h'
    rw [C_Reader_cut_l21, h1, if_pos ((ni_lt (by omega) (by omega)).mpr (by omega)), if_pos (show _ < (400 : Int32) from (ni_lt (b := 400) (by omega) (by omega)).mpr (by omega)), ni_rd (by omega) (by omega), Option.bind_some, h2 s (by omega), am_let]
    by_cases same : tk_K (ch s) = k ∧ (k = 2 ∨ k = 3)
    · obtain ⟨e, e2⟩ := same
      have sk : tk_sk ch k (m + 1) s = tk_sk ch k m (s + 1) := by unfold tk_sk; rw [if_pos e2, if_pos e2, tk_r, if_pos e]
      rw [sk]
      obtain ⟨σ', a, b, d⟩ := ih (s + 1) t g k σ h (by omega) (by omega) (by omega)
      refine ⟨σ', ?_, b, d⟩
      have e' : C_Reader_kindOf (ch s) = k := e
      rw [if_pos e', e']
      have n1 : ¬ k = 1 := by rcases e2 with q | q <;> rw [q] <;> decide
      rw [← a]
      rcases e2 with q | q
      · rw [if_pos q, C_Reader_cut_p65, C_Reader_cut_p70, if_neg n1, if_pos rfl, C_Reader_cut_p148, am_let, ni_succ]
      · rw [if_neg (by rw [q]; decide), if_pos q, C_Reader_cut_p65, C_Reader_cut_p70, if_neg n1, if_pos rfl, C_Reader_cut_p148, am_let, ni_succ]
    · have sk : tk_sk ch k (m + 1) s = s := by
        unfold tk_sk
        by_cases q : k = 2 ∨ k = 3
        · rw [if_pos q, tk_r, if_neg (fun e => same ⟨e, q⟩)]
        · rw [if_neg q]
      rw [sk]
      have go : (if C_Reader_kindOf (ch s) = k then (
        if C_Reader_kindOf (ch s) = 2 then (
          C_Reader_cut_p65 (C_Reader_cut_l21 F g) F 157 (Int32.ofNat t) (Int32.ofNat s) (C_Reader_kindOf (ch s)) σ)
        else (
          if C_Reader_kindOf (ch s) = 3 then (
            C_Reader_cut_p65 (C_Reader_cut_l21 F g) F 157 (Int32.ofNat t) (Int32.ofNat s) (C_Reader_kindOf (ch s)) σ)
          else (
            C_Reader_cut_p69 (C_Reader_cut_l21 F g) F 157 (Int32.ofNat t) (Int32.ofNat s) (C_Reader_kindOf (ch s)) σ)))
      else (
        C_Reader_cut_p69 (C_Reader_cut_l21 F g) F 157 (Int32.ofNat t) (Int32.ofNat s) (C_Reader_kindOf (ch s)) σ)) = C_Reader_cut_p70 (C_Reader_cut_l21 F g) F 157 (Int32.ofNat t) (Int32.ofNat s) (C_Reader_kindOf (ch s)) false σ := by
        by_cases q : C_Reader_kindOf (ch s) = k
        · rw [if_pos q, if_neg (fun e => same ⟨q, .inl (q ▸ e)⟩), if_neg (fun e => same ⟨q, .inr (q ▸ e)⟩)]; rfl
        · rw [if_neg q]; rfl
      rw [go, C_Reader_cut_p70]
      by_cases k1 : tk_K (ch s) = 1
      · have k1' : C_Reader_kindOf (ch s) = 1 := k1
        obtain ⟨σ', a, b, d⟩ := ih (s + 1) t g 1 σ h (by omega) (by omega) (by omega)
        refine ⟨σ', ?_, ?_, d⟩
        · rw [if_pos k1', C_Reader_cut_p148, am_let, ni_succ, k1', a]
        · rw [tk_lb h0 (by omega) k1]; exact b
      · have k1' : ¬ C_Reader_kindOf (ch s) = 1 := k1
        rw [if_neg k1', if_neg (by decide), if_pos (show _ < (400 : Int32) from (ni_lt (b := 400) (by omega) (by omega)).mpr (by omega)), ni_wr (by omega) (by omega), Option.bind_some, ni_wr (by omega) (by omega), Option.bind_some, tk_lt h0 (by omega) k1]
        have h5 : tk_S ch c (am_up (am_up σ (157 + 2) t (Int32.ofNat s)) (157 + 3) t (C_Reader_kindOf (ch s))) := ⟨h0, by simpa [am_up] using h1, fun k hk => by simpa [am_up] using h2 k hk⟩
        have sk2 : tk_sk ch (tk_K (ch s)) m (s + 1) = tk_nx ch c s := by
          unfold tk_sk tk_nx; rw [show c - (s + 1) = m by omega]
        have fin : ∃ σ', C_Reader_cut_p144 (C_Reader_cut_l21 F g) F 157 (Int32.ofNat t) (Int32.ofNat s) (C_Reader_kindOf (ch s)) (157 + 4) (Int32.ofNat t) (tk_w ch c s) (am_up (am_up σ (157 + 2) t (Int32.ofNat s)) (157 + 3) t (C_Reader_kindOf (ch s))) = some σ' ∧ tk_e c σ' t ((s, tk_K (ch s), tk_w ch c s) :: tk_l ch c 400 (tk_nx ch c s)) ∧ ∀ a j, ¬ (159 ≤ a ∧ a ≤ 161 ∧ t ≤ j) → σ' a j = σ a j := by
          have h6 : tk_S ch c (am_up (am_up (am_up σ (157 + 2) t (Int32.ofNat s)) (157 + 3) t (C_Reader_kindOf (ch s))) (157 + 4) t (tk_w ch c s)) := ⟨h0, by simpa [am_up] using h1, fun k hk => by simpa [am_up] using h2 k hk⟩
          obtain ⟨σ', a, b, d⟩ := ih (s + 1) (t + 1) g (tk_K (ch s)) _ h6 (by omega) (by omega) (by omega)
          refine ⟨σ', ?_, ⟨?_, ?_, ?_, ?_⟩, ?_⟩
          · rw [C_Reader_cut_p144, show LC.2.1 (157 + 4) = 401 from tk_LC, ni_wr (by omega) (by omega), Option.bind_some, am_let, ni_succ, C_Reader_cut_p148, am_let, ni_succ]
            exact a
          · rw [d 159 t (by omega)]; simp [am_up]
          · rw [d 160 t (by omega)]; simp [am_up]
          · rw [d 161 t (by omega)]; simp [am_up]
          · rw [sk2] at b; exact b
          · intro a j q
            rw [d a j (by omega)]
            simp only [am_up]
            rw [if_neg (by omega), if_neg (by omega), if_neg (by omega)]
        rcases tk_k4 (ch s) with w | w | w | w
        · exact absurd w k1
        · rw [if_pos w, tk_kw hF H h5 hs w, Option.bind_some]
          exact fin
        · rw [if_neg (by rw [show C_Reader_kindOf (ch s) = 3 from w]; decide), if_pos w, tk_nu hF h5 hs w, Option.bind_some]
          exact fin
        · have ww : tk_w ch c s = ch s := by unfold tk_w; rw [if_neg (by rw [w]; decide), if_neg (by rw [w]; decide)]
          rw [if_neg (by rw [show C_Reader_kindOf (ch s) = 4 from w]; decide), if_neg (by rw [show C_Reader_kindOf (ch s) = 4 from w]; decide), ni_rd (by omega) (by omega), Option.bind_some, h5.2.2 s (by omega)]
          rw [ww] at fin
          rw [ww]
          exact fin
theorem tk_Cut {F c : Nat} {ch : Nat → Int32} {σ : am_SS} (hF : 2000 ≤ F) (H : ∀ k, k < 132 → am_ch (Int32.ofNat k) = some ((kw_s kw_W).getD k 0)) (h : tk_S ch c σ) :
    ∃ σ', C_Reader_cut F 157 σ = some σ' ∧ tk_e c σ' 0 (tk_l ch c 400 0) ∧ σ' 157 5 = 0 ∧ σ' 157 7 = 0 ∧ σ' 157 8 = -1 ∧ ∀ a j, ¬ (159 ≤ a ∧ a ≤ 161) → ¬ (a = 157 ∧ (j = 5 ∨ j = 7 ∨ j = 8)) → σ' a j = σ a j := by
  obtain ⟨h0, h1, h2⟩ := h
  have h3 : tk_S ch c (am_up (am_up (am_up σ 157 5 0) 157 7 0) 157 8 (-1)) := ⟨h0, by simpa [am_up] using h1, fun k hk => by simpa [am_up] using h2 k hk⟩
  obtain ⟨σ', a, b, d⟩ := tk_cut (F := F) hF H c 0 0 F 1 _ h3 (by omega) (by omega) (by omega)
  have sk : tk_sk ch 1 c 0 = 0 := by unfold tk_sk; rw [if_neg (by decide)]
  rw [sk] at b
  refine ⟨σ', a, b, ?_, ?_, ?_, fun x y q r => ?_⟩
  · rw [d 157 5 (by omega)]; rfl
  · rw [d 157 7 (by omega)]; rfl
  · rw [d 157 8 (by omega)]; rfl
  · rw [d x y (by omega)]
    simp only [am_up]
    rw [if_neg (by omega), if_neg (by omega), if_neg (by omega)]
