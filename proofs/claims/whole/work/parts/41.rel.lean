/-! L3: the relation of the two pools -/
def rl_rg (x lo hi : Int32) : Prop := lo ≤ x ∧ x ≤ hi
/-- the moving part of a front: its own slots and rows against a row of 77 -/
def rl_FR (ln wn dy dr : Int32) (sl pl rd ho dn we : Nat → Int32) (r : Nat → Int32) : Prop :=
  ln = r 3 ∧ wn = r 4 - 1 ∧ dy = r 0 ∧ dr = r 1 ∧
  ∀ j, j < 12 → sl j = r (5 + j) ∧ pl j = r (17 + j) ∧ rd j = r (29 + j) ∧ ho j = r (41 + j) ∧ dn j = r (53 + j) ∧ we j = r (65 + j)
/-- the told part of a front -/
def rl_FS (on bn : Int32) (sd sk bs ca : Nat → Int32) (o b : Int32) (s k t c : Nat → Int32) : Prop :=
  on = o ∧ bn = b ∧ ∀ j, j < 12 → sd j = s j ∧ sk j = k j ∧ bs j = t j ∧ ca j = c j
/-- what always holds of a row -/
def rl_IR (r : Nat → Int32) (n m : Nat) : Prop :=
  rl_rg (r 3) (-99) 99 ∧ rl_rg (r 4) 0 2 ∧
  ∀ j, j < 12 → rl_rg (r (5 + j)) 0 99 ∧ rl_rg (r (17 + j)) 0 99 ∧ rl_rg (r (29 + j)) 0 1 ∧ rl_rg (r (41 + j)) 0 1 ∧ rl_rg (r (65 + j)) 0 99 ∧
    (n ≤ j → r (17 + j) = 0 ∧ r (29 + j) = 0 ∧ r (41 + j) = 0 ∧ r (53 + j) = 0) ∧ (m ≤ j → r (65 + j) = 0)
/-- what always holds of the officers and batmen as told -/
def rl_IS (o b : Int32) (s k t c : Nat → Int32) (n m : Nat) : Prop :=
  n ≤ 12 ∧ m ≤ 12 ∧ o = Int32.ofNat n ∧ b = Int32.ofNat m ∧ ∀ j, j < 12 → rl_rg (s j) 0 1 ∧ rl_rg (k j) 0 9 ∧ rl_rg (t j) 0 1 ∧ rl_rg (c j) 0 9
def rl_BK (cc : Int32) (cells : Nat → Int32) (mc : Int32) (arr : Nat → Int32) : Prop :=
  ∃ c : Nat, c ≤ 150 ∧ cc = Int32.ofNat c ∧ mc = Int32.ofNat c ∧ ∀ k, k < 600 → cells k = arr k
/-- the guesses -/
def rl_GU (cc : Int32) (cells : Nat → Int32) (mc : Int32) (g r w : Nat → Int32) : Prop :=
  ∃ c : Nat, c ≤ 8 ∧ cc = Int32.ofNat c ∧ mc = Int32.ofNat c ∧ ∀ k, k < 8 → cells (3 * k) = g k ∧ cells (3 * k + 1) = r k ∧ cells (3 * k + 2) = w k ∧
    rl_rg (g k) 0 5555 ∧ rl_rg (r k) 0 4 ∧ rl_rg (w k) 0 4
def rl_LE (cc : Int32) (cells : Nat → Int32) (mc : Int32) (arr : Nat → Int32) : Prop :=
  ∃ c : Nat, c ≤ 12 ∧ cc = Int32.ofNat c ∧ mc = Int32.ofNat c ∧ ∀ k, k < 12 → cells k = arr k ∧ rl_rg (arr k) 0 25
def rl_KY (cc : Int32) (cells : Nat → Int32) (mc : Int32) (arr : Nat → Int32) : Prop :=
  ∃ c : Nat, c ≤ 4 ∧ cc = Int32.ofNat c ∧ mc = Int32.ofNat c ∧ ∀ k, k < 4 → cells k = arr (12 + k) ∧ rl_rg (arr (12 + k)) 0 25
def rl_BI (cc : Int32) (cells : Nat → Int32) (mc : Int32) (arr : Nat → Int32) : Prop :=
  ∃ c : Nat, c ≤ 16 ∧ cc = Int32.ofNat c ∧ mc = Int32.ofNat c ∧ ∀ k, k < 16 → cells k = arr k ∧ rl_rg (arr k) 0 1
def rl_QU (cc : Int32) (cells : Nat → Int32) (mc : Int32) (arr : Nat → Int32) : Prop :=
  ∃ c : Nat, c ≤ 7 ∧ cc = Int32.ofNat c ∧ mc = Int32.ofNat c ∧ ∀ k, k < 7 → arr k = 7 * cells (2 * k + 1) + cells (2 * k) ∧ rl_rg (cells (2 * k)) 0 6 ∧ rl_rg (cells (2 * k + 1)) 0 6
def rl_CO (cc : Int32) (cells : Nat → Int32) (mc : Int32) (xs ys : Nat → Int32) : Prop :=
  ∃ c : Nat, c ≤ 8 ∧ cc = Int32.ofNat c ∧ mc = Int32.ofNat c ∧ ∀ k, k < 8 → cells (2 * k) = xs k ∧ cells (2 * k + 1) = ys k ∧ rl_rg (xs k) (-50) 50 ∧ rl_rg (ys k) (-50) 50
/-- one line of the orders -/
def rl_or1 (cells arr : Nat → Int32) (n m i : Nat) : Prop :=
  cells (4 * i) = arr (4 * i) ∧ rl_rg (arr (4 * i)) 0 999 ∧
  ((cells (4 * i + 1) = 18 ∧ arr (4 * i + 1) = 0 ∧ (∃ w, w < n ∧ cells (4 * i + 2) = Int32.ofNat w ∧ arr (4 * i + 2) = Int32.ofNat w) ∧ cells (4 * i + 3) = arr (4 * i + 3) ∧ rl_rg (arr (4 * i + 3)) 1 99) ∨
   (cells (4 * i + 1) = 10 ∧ arr (4 * i + 1) = 1 ∧ (∃ w, w < n ∧ cells (4 * i + 2) = Int32.ofNat w ∧ arr (4 * i + 2) = Int32.ofNat w)) ∨
   (cells (4 * i + 1) = 19 ∧ arr (4 * i + 1) = 2 ∧ (∃ w, w < n ∧ cells (4 * i + 2) = Int32.ofNat w ∧ arr (4 * i + 2) = Int32.ofNat w)) ∨
   (cells (4 * i + 1) = 20 ∧ arr (4 * i + 1) = 3 ∧ (∃ w, w < m ∧ cells (4 * i + 2) = Int32.ofNat w ∧ arr (4 * i + 2) = Int32.ofNat w)) ∨
   (cells (4 * i + 1) = 21 ∧ arr (4 * i + 1) = 4 ∧ cells (4 * i + 2) = -1))
def rl_OR (cc : Int32) (cells : Nat → Int32) (mc : Int32) (arr : Nat → Int32) (n m : Nat) : Prop :=
  ∃ c : Nat, c ≤ 16 ∧ cc = Int32.ofNat c ∧ mc = Int32.ofNat c ∧ ∀ i, i < c → rl_or1 cells arr n m i
/-- the second one of the last row for officer o -/
def rl_last (cells : Nat → Int32) (o : Nat) : Nat → Int32
  | 0 => -1
  | c + 1 => if cells (4 * c) = Int32.ofNat o then cells (4 * c + 1) else rl_last cells o c
def rl_SV (cc : Int32) (cells : Nat → Int32) (mc : Int32) (up : Nat → Int32) (m : Nat) : Prop :=
  ∃ c : Nat, c ≤ 16 ∧ cc = Int32.ofNat c ∧ mc = Int32.ofNat c ∧ ∀ o, o < 12 → rl_last cells o c = up o - 1 ∧ (up o = 0 ∨ ∃ b, b < m ∧ up o = Int32.ofNat (b + 1))
/-- the set of the second ones of all rows for officer o -/
def rl_all (cells : Nat → Int32) (o : Nat) : Nat → Int32
  | 0 => 0
  | c + 1 => if cells (4 * c) = Int32.ofNat o then rl_all cells o c ||| (1 <<< (cells (4 * c + 1) &&& 31)) else rl_all cells o c
def rl_ND (cc : Int32) (cells : Nat → Int32) (mc : Int32) (nd : Nat → Int32) (n : Nat) : Prop :=
  ∃ c : Nat, c ≤ 16 ∧ cc = Int32.ofNat c ∧ mc = Int32.ofNat c ∧ (∀ o, o < 12 → rl_all cells o c = nd o) ∧ ∀ i, i < c → ∃ q, q < n ∧ cells (4 * i + 1) = Int32.ofNat q
/-! the law: its codes as lists -/
def rl_sl (cells : Nat → Int32) (s : Nat) (L : List (Int32 × Int32)) : Prop := ∀ k, k < L.length → cells (2 * (s + k)) = (L.getD k (0, 0)).1 ∧ cells (2 * (s + k) + 1) = (L.getD k (0, 0)).2
def rl_sm (op ar : Nat → Int32) (s : Nat) (L : List (Int32 × Int32)) : Prop := ∀ k, k < L.length → op (s + k) = (L.getD k (0, 0)).1 ∧ ar (s + k) = (L.getD k (0, 0)).2
def rl_tr (p : Int32 × Int32) : List (Int32 × Int32) :=
  if p.1 = 1000 then [(0, p.2)]
  else if p.1 = 6 then [(9, 0)]
  else if p.1 = 43 then [(2, 0)]
  else if p.1 = 45 then [(3, 0)]
  else if p.1 = 42 then [(4, 0)]
  else if p.1 = 47 then [(0, p.2), (5, 0)]
  else if p.1 = 60 then [(6, 0)]
  else if p.1 = 61 then [(7, 0)]
  else if p.1 = 62 then [(8, 0)]
  else if p.1 = 5 then [(10, 0)]
  else if p.1 = 4 then [(11, 0)]
  else [(1, p.1 - 7)]
/-- one code on a stack of kinds (true: 0 or 1) -/
def rl_t1 (p : Int32 × Int32) (st : List Bool) : Option (List Bool) :=
  if p.1 = 1000 ∨ (7 ≤ p.1 ∧ p.1 ≤ 16) then (if st.length < 60 then some (false :: st) else none)
  else if p.1 = 6 then (match st with | true :: r => some (true :: r) | _ => none)
  else if p.1 = 47 then (match st with | false :: r => if p.2 = 0 then none else some (false :: r) | _ => none)
  else if p.1 = 43 ∨ p.1 = 45 ∨ p.1 = 42 then (match st with | false :: false :: r => some (false :: r) | _ => none)
  else if p.1 = 60 ∨ p.1 = 61 ∨ p.1 = 62 then (match st with | false :: false :: r => some (true :: r) | _ => none)
  else if p.1 = 5 ∨ p.1 = 4 then (match st with | true :: true :: r => some (true :: r) | _ => none)
  else none
def rl_ty : List (Int32 × Int32) → List Bool → Option (List Bool)
  | [], st => some st
  | p :: L, st => (rl_t1 p st).bind (fun st' => rl_ty L st')
/-- one line of the law -/
def rl_law1 (lc cc w fr wh to op ar : Nat → Int32) (k i : Nat) : Prop :=
  ∃ (s s' : Nat) (E B : List (Int32 × Int32)),
    rl_ty E [] = some [false] ∧ (B = [] ∨ rl_ty B [] = some [true]) ∧
    s + E.length + B.length ≤ k ∧ s' + (E.flatMap rl_tr).length + (B.flatMap rl_tr).length ≤ 400 ∧
    rl_rg (w i) 0 2 ∧ lc (4 * i) = w i ∧
    lc (4 * i + 1) = Int32.ofNat s ∧ lc (4 * i + 2) = Int32.ofNat (s + E.length) ∧ lc (4 * i + 3) = Int32.ofNat (s + E.length + B.length) ∧
    fr i = Int32.ofNat s' ∧ wh i = Int32.ofNat (s' + (E.flatMap rl_tr).length) ∧ to i = Int32.ofNat (s' + (E.flatMap rl_tr).length + (B.flatMap rl_tr).length) ∧
    rl_sl cc s E ∧ rl_sl cc (s + E.length) B ∧
    rl_sm op ar s' (E.flatMap rl_tr) ∧ rl_sm op ar (s' + (E.flatMap rl_tr).length) (B.flatMap rl_tr)
def rl_LW (ln : Int32) (lc : Nat → Int32) (cn : Int32) (cc : Nat → Int32) (mc : Int32) (w fr wh to op ar : Nat → Int32) : Prop :=
  ∃ c k : Nat, c ≤ 16 ∧ k ≤ 400 ∧ ln = Int32.ofNat c ∧ mc = Int32.ofNat c ∧ cn = Int32.ofNat k ∧ ∀ i, i < c → rl_law1 lc cc w fr wh to op ar k i
/-- all that an image holds: the class's War with its front at a + 1, the reference as it was told -/
def rl_W (σ : am_SS) (a : Nat) (τ : am_SS) : Prop :=
  ∃ n m : Nat,
  rl_FR (σ (a + 1) 12) (σ (a + 1) 13) (σ (a + 1) 14) (σ (a + 1) 15) (σ (a + 4)) (σ (a + 5)) (σ (a + 6)) (σ (a + 7)) (σ (a + 8)) (σ (a + 11)) (τ 1) ∧
  rl_FS (σ (a + 1) 0) (σ (a + 1) 8) (σ (a + 2)) (σ (a + 3)) (σ (a + 9)) (σ (a + 10)) (τ 0 6) (τ 0 7) (τ 4) (τ 5) (τ 6) (τ 7) ∧
  rl_IR (τ 1) n m ∧ rl_IS (τ 0 6) (τ 0 7) (τ 4) (τ 5) (τ 6) (τ 7) n m ∧
  rl_BK (σ (a + 12) 2) (σ (a + 13)) (τ 1 2) (τ 8) ∧
  rl_GU (σ (a + 26) 2) (σ (a + 27)) (τ 0 44) (τ 24) (τ 25) (τ 26) ∧
  rl_LE (σ (a + 28) 2) (σ (a + 29)) (τ 30 0) (τ 31) ∧
  rl_KY (σ (a + 30) 2) (σ (a + 31)) (τ 30 1) (τ 31) ∧
  rl_BI (σ (a + 32) 2) (σ (a + 33)) (τ 0 53) (τ 32) ∧
  rl_QU (σ (a + 34) 2) (σ (a + 35)) (τ 0 56) (τ 34) ∧
  rl_CO (σ (a + 36) 2) (σ (a + 37)) (τ 0 59) (τ 36) (τ 37) ∧
  rl_OR (σ (a + 20) 2) (σ (a + 21)) (τ 0 36) (τ 19) n m ∧
  rl_SV (σ (a + 22) 2) (σ (a + 23)) (τ 0 38) (τ 20) m ∧
  rl_ND (σ (a + 24) 2) (σ (a + 25)) (τ 0 40) (τ 21) n ∧
  rl_LW (σ (a + 15) 2) (σ (a + 16)) (σ (a + 17) 2) (σ (a + 18)) (τ 11 0) (τ 12) (τ 13) (τ 14) (τ 15) (τ 16) (τ 17)
/-- the same of the war that goes on -/
def rl_N (σ : am_SS) (τ : am_SS) : Prop :=
  ∃ n m : Nat,
  rl_FR (σ 2 12) (σ 2 13) (σ 2 14) (σ 2 15) (σ 5) (σ 6) (σ 7) (σ 8) (σ 9) (σ 12) (τ 1) ∧
  rl_FS (σ 2 0) (σ 2 8) (σ 3) (σ 4) (σ 10) (σ 11) (τ 0 6) (τ 0 7) (τ 4) (τ 5) (τ 6) (τ 7) ∧
  rl_IR (τ 1) n m ∧ rl_IS (τ 0 6) (τ 0 7) (τ 4) (τ 5) (τ 6) (τ 7) n m ∧
  rl_BK (σ 13 2) (σ 14) (τ 1 2) (τ 8) ∧
  rl_GU (σ 27 2) (σ 28) (τ 0 44) (τ 24) (τ 25) (τ 26) ∧
  rl_LE (σ 29 2) (σ 30) (τ 30 0) (τ 31) ∧
  rl_KY (σ 31 2) (σ 32) (τ 30 1) (τ 31) ∧
  rl_BI (σ 33 2) (σ 34) (τ 0 53) (τ 32) ∧
  rl_QU (σ 35 2) (σ 36) (τ 0 56) (τ 34) ∧
  rl_CO (σ 37 2) (σ 38) (τ 0 59) (τ 36) (τ 37) ∧
  rl_OR (σ 21 2) (σ 22) (τ 0 36) (τ 19) n m ∧
  rl_SV (σ 23 2) (σ 24) (τ 0 38) (τ 20) m ∧
  rl_ND (σ 25 2) (σ 26) (τ 0 40) (τ 21) n ∧
  rl_LW (σ 16 2) (σ 17) (σ 18 2) (σ 19) (τ 11 0) (τ 12) (τ 13) (τ 14) (τ 15) (τ 16) (τ 17)
theorem rl_NW {σ τ : am_SS} (h : rl_N σ τ) : rl_W σ 1 τ := h
theorem rl_WN {σ τ : am_SS} (h : rl_W σ 1 τ) : rl_N σ τ := h
theorem am_up_ap {σ : am_SS} {a k : Nat} {v : Int32} {b j : Nat} : am_up σ a k v b j = if b = a ∧ j = k then v else σ b j := rfl
theorem rl_W_up {σ : am_SS} {a k : Nat} {v : Int32} {τ : am_SS} (h : a < 39 ∨ 76 < a) : rl_W (am_up σ a k v) 39 τ ↔ rl_W σ 39 τ := by
  have e : ∀ c, c < 38 → am_up σ a k v (39 + c) = σ (39 + c) := fun c hc => am_up_ne (by omega)
  simp only [rl_W, e 1 (by omega), e 2 (by omega), e 3 (by omega), e 4 (by omega), e 5 (by omega), e 6 (by omega), e 7 (by omega), e 8 (by omega), e 9 (by omega), e 10 (by omega), e 11 (by omega), e 12 (by omega), e 13 (by omega), e 15 (by omega), e 16 (by omega), e 17 (by omega), e 18 (by omega), e 20 (by omega), e 21 (by omega), e 22 (by omega), e 23 (by omega), e 24 (by omega), e 25 (by omega), e 26 (by omega), e 27 (by omega), e 28 (by omega), e 29 (by omega), e 30 (by omega), e 31 (by omega), e 32 (by omega), e 33 (by omega), e 34 (by omega), e 35 (by omega), e 36 (by omega), e 37 (by omega)]
/-- what can be undone -/
def rl_PS (new cnt : Int32) (pg : Nat → Int32) (g : Nat → Nat → Nat → Int32) (u : Int32) (rows : Nat → Int32) (now : Int32) (o b : Int32) (s k t c : Nat → Int32) : Prop :=
  ∃ p u' b' : Nat, p < 6 ∧ u' ≤ 6 ∧ b' ≤ 150 ∧ new = Int32.ofNat p ∧ cnt = Int32.ofNat u' ∧ u = Int32.ofNat u' ∧ now = Int32.ofNat b' ∧
  (∃ pp : Nat → Nat, ∀ j, j < u' → pp j ≤ b' ∧ rows (77 * j + 2) = Int32.ofNat (pp j) ∧ ∀ i, i < j → pp i ≤ pp j) ∧
  ∀ j, j < u' → ∃ q, q < 6 ∧ (q + (u' - 1 - j)) % 6 = p ∧ pg q = rows (77 * j + 2) ∧
    rl_FR (g q 0 12) (g q 0 13) (g q 0 14) (g q 0 15) (g q 3) (g q 4) (g q 5) (g q 6) (g q 7) (g q 10) (fun i => rows (77 * j + i)) ∧
    rl_FS (g q 0 0) (g q 0 8) (g q 1) (g q 2) (g q 8) (g q 9) o b s k t c ∧
    ∀ n m : Nat, n ≤ 12 → m ≤ 12 → o = Int32.ofNat n → b = Int32.ofNat m → rl_IR (fun i => rows (77 * j + i)) n m
def rl_TP (cc : Int32) (cells : Nat → Int32) (mc : Int32) (arr : Nat → Int32) : Prop :=
  ∃ c : Nat, c ≤ 400 ∧ cc = Int32.ofNat c ∧ mc = Int32.ofNat c ∧ ∀ k, k < 400 → cells k = arr k ∧ rl_rg (arr k) 0 255
/-- the six fronts of the past -/
def rl_pf (σ : am_SS) : Nat → Nat → Nat → Int32 := fun q c k => if q < 6 ∧ c < 11 then σ (91 + 11 * q + c) k else 0
theorem rl_pf_up {σ : am_SS} {a k : Nat} {v : Int32} (h : a < 91 ∨ 156 < a) : rl_pf (am_up σ a k v) = rl_pf σ := by
  funext q c j
  simp only [rl_pf]
  by_cases q' : q < 6 ∧ c < 11
  · rw [if_pos q', if_pos q', am_up_ne (by omega)]
  · rw [if_neg q', if_neg q']
/-- an image, read back as what was told -/
def rl_im (im : Nat → Int32) : am_SS := fun c k =>
  if c = 0 then (if k = 6 then im 77 else if k = 7 then im 78 else if k = 36 then im 79 else if k = 38 then im 80 else if k = 40 then im 81 else if k = 44 then im 82 else if k = 53 then im 85 else if k = 56 then im 86 else if k = 59 then im 87 else 0)
  else if c = 30 then im (83 + k)
  else if c = 1 then im k
  else if c = 4 then im (88 + 6 * k)
  else if c = 5 then im (89 + 6 * k)
  else if c = 6 then im (90 + 6 * k)
  else if c = 7 then im (91 + 6 * k)
  else if c = 20 then im (92 + 6 * k)
  else if c = 21 then im (93 + 6 * k)
  else if c = 19 then im (160 + k)
  else if c = 24 then im (224 + 5 * k)
  else if c = 25 then im (225 + 5 * k)
  else if c = 26 then im (226 + 5 * k)
  else if c = 36 then im (227 + 5 * k)
  else if c = 37 then im (228 + 5 * k)
  else if c = 31 then im (264 + k)
  else if c = 32 then im (288 + k)
  else if c = 34 then im (304 + k)
  else if c = 8 then im (311 + k)
  else if c = 11 then im 911
  else if c = 12 then im (912 + 4 * k)
  else if c = 13 then im (913 + 4 * k)
  else if c = 14 then im (914 + 4 * k)
  else if c = 15 then im (915 + 4 * k)
  else if c = 16 then im (976 + 2 * k)
  else if c = 17 then im (977 + 2 * k)
  else 0
/-- the keywords as they stand in the reference -/
def rl_wl : List Int32 := [32, 112, 114, 101, 115, 115, 101, 115, 32, 114, 101, 115, 116, 115, 32, 114, 101, 97, 100, 115, 32, 119, 104, 101, 110, 32, 111, 114, 32, 97, 110, 100, 32, 110, 111, 116, 32, 115, 107, 105, 108, 108, 32, 115, 108, 101, 101, 112, 32, 112, 108, 97, 110, 32, 104, 111, 108, 101, 32, 99, 97, 114, 101, 32, 119, 101, 97, 114, 32, 108, 105, 110, 101, 32, 115, 105, 100, 101, 32, 100, 111, 110, 101, 32, 100, 97, 121, 32, 111, 110, 32, 109, 97, 114, 99, 104, 32, 115, 111, 108, 101, 32, 110, 101, 119, 32, 116, 114, 117, 99, 101, 32, 111, 102, 102, 105, 99, 101, 114, 32, 98, 97, 116, 109, 97, 110, 32, 110, 101, 101, 100, 115, 32]
/-- what never changes -/
def rl_K (w13 w16 w18 w21 w23 w25 w27 w29 w31 w33 w35 w37 w163 w165 w168 th : Int32) (wd : Nat → Int32) : Prop :=
  w13 = 4 ∧ w16 = 4 ∧ w18 = 2 ∧ w21 = 4 ∧ w23 = 4 ∧ w25 = 4 ∧ w27 = 3 ∧ w29 = 1 ∧ w31 = 1 ∧ w33 = 1 ∧ w35 = 2 ∧ w37 = 2 ∧ w163 = 4 ∧ w165 = 2 ∧ w168 = 4 ∧ th = 0 ∧
  ∀ k, k < 133 → wd k = rl_wl.getD k 0
def rl_IM (has mh : Int32) (σ : am_SS) (im : Nat → Int32) : Prop := has = mh ∧ (mh = 0 ∨ mh = 1 ∧ rl_W σ 39 (rl_im im))
theorem rl_IM_up {has mh : Int32} {σ : am_SS} {a k : Nat} {v : Int32} {im : Nat → Int32} (h : a < 39 ∨ 76 < a) : rl_IM has mh (am_up σ a k v) im ↔ rl_IM has mh σ im := by
  simp only [rl_IM, rl_W_up h]
def rl_R (σ τ : am_SS) : Prop :=
  rl_K (σ 13 0) (σ 16 0) (σ 18 0) (σ 21 0) (σ 23 0) (σ 25 0) (σ 27 0) (σ 29 0) (σ 31 0) (σ 33 0) (σ 35 0) (σ 37 0) (σ 163 0) (σ 165 0) (σ 168 0) (τ 0 5) (τ 10) ∧
  rl_N σ τ ∧
  rl_PS (σ 88 2) (σ 88 3) (σ 90) (rl_pf σ) (τ 0 3) (τ 2) (τ 1 2) (τ 0 6) (τ 0 7) (τ 4) (τ 5) (τ 6) (τ 7) ∧
  rl_TP (σ 157 1) (σ 158) (τ 0 14) (τ 9) ∧
  (σ 157 7 = τ 0 34 ∧ σ 157 8 = τ 0 35) ∧
  rl_IM (σ 0 2) (τ 0 64) σ (τ 39)
/-- the told slot of the reference alone -/
theorem rl_told {σ τ : am_SS} (h : rl_R σ τ) (v : Int32) : rl_R σ (am_up τ 0 0 v) := by
  simpa [rl_R, rl_N, am_up_ap, am_up_ne] using h
theorem rl_PS_forget {new : Int32} {pg : Nat → Int32} {g : Nat → Nat → Nat → Int32} {rows rows' : Nat → Int32} {now cnt u now' : Int32} {o b o' b' : Int32} {s k t c s' k' t' c' : Nat → Int32}
    (h : rl_PS new cnt pg g u rows now o b s k t c) (hn : ∃ b' : Nat, b' ≤ 150 ∧ now' = Int32.ofNat b') (ho : ∃ n : Nat, o' = Int32.ofNat n) (hb : ∃ m : Nat, b' = Int32.ofNat m) : rl_PS new 0 pg g 0 rows' now' o' b' s' k' t' c' := by
  obtain ⟨p, -, -, hp, -, -, e, -⟩ := h
  obtain ⟨b1, hb0, hb1⟩ := hn
  exact ⟨p, 0, b1, hp, by omega, hb0, e, rfl, rfl, hb1, ⟨fun _ => 0, fun j hj => absurd hj (by omega)⟩, fun j hj => absurd hj (by omega)⟩
