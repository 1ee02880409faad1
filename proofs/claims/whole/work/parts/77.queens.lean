/-! L3: queens: the reference's codes as lists of digits -/
def ws {α : Type} (f : α → Nat) : List α → Nat
  | [] => 0
  | x :: l => f x + ws f l
theorem ws_app {α : Type} {f : α → Nat} : ∀ (l l' : List α), ws f (l ++ l') = ws f l + ws f l' := by
  intro l
  induction l with
  | nil => intro l'; simp [ws]
  | cons x l ih => intro l'; simp [ws, ih, Nat.add_assoc]
theorem ws_fm {α β : Type} {f : β → Nat} {h : α → List β} : ∀ l : List α, ws f (l.flatMap h) = ws (fun x => ws f (h x)) l := by
  intro l
  induction l with
  | nil => rfl
  | cons x l ih => rw [List.flatMap_cons, ws_app, ih]; rfl
theorem ws_map {α β : Type} {f : β → Nat} {h : α → β} : ∀ l : List α, ws f (l.map h) = ws (fun x => f (h x)) l := by
  intro l
  induction l with
  | nil => rfl
  | cons x l ih => rw [List.map_cons]; simp only [ws, ih]
theorem ws_cg {α : Type} {f g : α → Nat} : ∀ l : List α, (∀ x, x ∈ l → f x = g x) → ws f l = ws g l := by
  intro l
  induction l with
  | nil => intro _; rfl
  | cons x l ih => intro h; simp only [ws]; rw [h x List.mem_cons_self, ih (fun y hy => h y (List.mem_cons_of_mem x hy))]
theorem ws_flt {α : Type} {f : α → Nat} {p : α → Bool} : ∀ l : List α, ws f (l.filter p) = ws (fun x => if p x = true then f x else 0) l := by
  intro l
  induction l with
  | nil => rfl
  | cons x l ih =>
    by_cases q : p x = true
    · rw [List.filter_cons_of_pos q]; simp only [ws, ih, q, if_true]
    · rw [List.filter_cons_of_neg q]; simp only [ws, ih, q]; simp
theorem ws_perm {α : Type} {f : α → Nat} {l l' : List α} (h : l.Perm l') : ws f l = ws f l' := by
  induction h with
  | nil => rfl
  | cons x _ ih => simp only [ws, ih]
  | swap x y l => simp only [ws]; omega
  | trans _ _ a b => exact a.trans b
/-- column a on row 0 against columns L on rows i, i + 1, .. -/
def q_ok (a : Nat) : Nat → List Nat → Bool
  | _, [] => true
  | i, c :: L => (a != c && (a + i != c && c + i != a)) && q_ok a (i + 1) L
def q_all : List Nat → Bool
  | [] => true
  | a :: L => q_ok a 1 L && q_all L
def q_dg (n : Nat) : Nat → Nat → List Nat
  | 0, _ => []
  | k + 1, c => (c % n) :: q_dg n k (c / n)
def q_good (n : Nat) : Nat → List (List Nat)
  | 0 => [[]]
  | k + 1 => (q_good n k).flatMap (fun L => ((List.range n).filter (fun a => q_ok a 1 L)).map (fun a => a :: L))
theorem range_mul (n : Nat) : ∀ m, List.range (m * n) = (List.range m).flatMap (fun c => (List.range n).map (fun a => n * c + a)) := by
  intro m
  induction m with
  | zero => simp
  | succ m ih =>
    rw [Nat.succ_mul, List.range_add, ih, List.range_succ, List.flatMap_append, List.flatMap_singleton, Nat.mul_comm m n]
theorem q_count (n : Nat) (hn : 0 < n) : ∀ (k : Nat) (g : List Nat → Nat), ws (fun c => if q_all (q_dg n k c) = true then g (q_dg n k c) else 0) (List.range (n ^ k)) = ws g (q_good n k) := by
  intro k
  induction k with
  | zero => intro g; simp [q_dg, q_all, q_good, ws, List.range_succ]
  | succ k ih =>
    intro g
    have e : ∀ c a, a < n → q_dg n (k + 1) (n * c + a) = a :: q_dg n k c := fun c a ha => by
      rw [q_dg, Nat.mul_add_mod, Nat.mod_eq_of_lt ha, Nat.mul_add_div hn, Nat.div_eq_of_lt ha, Nat.add_zero]
    rw [Nat.pow_succ, range_mul, ws_fm, q_good, ws_fm]
    have ih' := ih (fun L => ws (fun a => if q_ok a 1 L = true then g (a :: L) else 0) (List.range n))
    rw [ws_cg (q_good n k) (g := fun L => ws (fun a => if q_ok a 1 L = true then g (a :: L) else 0) (List.range n)) (fun L _ => by rw [ws_map, ws_flt]), ← ih']
    refine ws_cg _ (fun c _ => ?_)
    rw [ws_map]
    by_cases q : q_all (q_dg n k c) = true
    · rw [if_pos q]
      refine ws_cg _ (fun a ha => ?_)
      rw [e c a (List.mem_range.mp ha), q_all, q, Bool.and_true]
    · rw [if_neg q]
      have z : ∀ l : List Nat, ws (fun _ => 0) l = 0 := by
        intro l
        induction l with
        | nil => rfl
        | cons x l ih => simp only [ws, ih]
      refine (ws_cg (g := fun _ => 0) _ (fun a ha => ?_)).trans (z _)
      rw [e c a (List.mem_range.mp ha), q_all]
      rw [if_neg]
      intro g
      exact q (by rw [Bool.and_eq_true] at g; exact g.2)
/-- all that stand, column by column, by bit sets of rows, slants -/
def q_gen (n : Nat) : Nat → Nat → Int32 → Int32 → Int32 → List (List Nat)
  | 0, _, _, _, _ => [[]]
  | f + 1, x, r, d, a => (List.range n).flatMap (fun y =>
    if (r &&& (1 <<< (Int32.ofNat y &&& 31)) = 0) ∧ (d &&& (1 <<< ((Int32.ofNat x + Int32.ofNat y) &&& 31)) = 0) ∧ (a &&& (1 <<< (((Int32.ofNat x - Int32.ofNat y) + 7) &&& 31)) = 0) then
      (q_gen n f (x + 1) (r ||| (1 <<< (Int32.ofNat y &&& 31))) (d ||| (1 <<< ((Int32.ofNat x + Int32.ofNat y) &&& 31))) (a ||| (1 <<< (((Int32.ofNat x - Int32.ofNat y) + 7) &&& 31)))).map (fun L => y :: L)
    else [])
/-- rows of columns out of columns of rows -/
def q_inv (n : Nat) (p : List Nat) : List Nat := (List.range n).map (fun y => (List.range n).findIdx (fun x => p.getD x 99 == y))
theorem q_same : ∀ n, n < 8 → ((q_gen n n 0 0 0 0).map (q_inv n)).isPerm (q_good n n) = true := by decide +kernel
/-- told rows T, from column x on -/
def q_t (T : Nat → Int32) : Nat → List Nat → Bool
  | _, [] => true
  | x, y :: L => (T x == 0 || T x == 1 <<< (Int32.ofNat y &&& 31)) && q_t T (x + 1) L
def q_i (T : Nat → Int32) (x : Nat) (L : List Nat) : Nat := if q_t T x L = true then 1 else 0
theorem ws_z {α : Type} {f : α → Nat} : ∀ l : List α, (∀ x, x ∈ l → f x = 0) → ws f l = 0 := by
  intro l
  induction l with
  | nil => intro _; rfl
  | cons x l ih => intro h; simp only [ws]; rw [h x List.mem_cons_self, ih (fun y hy => h y (List.mem_cons_of_mem x hy))]
theorem qc_in {F : Nat} {a0 n : Nat} {σ : am_SS} {T : Nat → Int32} {f g x : Nat} {r d a : Int32} (hn : n < 8) (hx : x < n)
    (R : ∀ r d a, C_Nights_stand_n F g a0 (Int32.ofNat n) (Int32.ofNat (x + 1)) r d a σ = some (Int32.ofNat (ws (q_i T (x + 1)) (q_gen n f (x + 1) r d a)))) :
    ∀ (m j k : Nat) (s : Nat), j + m = n → m < k → C_Nights_stand_o_l27 (C_Nights_stand_n F g) F k a0 (Int32.ofNat n) (Int32.ofNat x) r d a (T x) (Int32.ofNat s) (Int32.ofNat j) σ = some (Int32.ofNat (s + ws (q_i T x) ((List.range' j m).flatMap (fun y =>
    if (r &&& (1 <<< (Int32.ofNat y &&& 31)) = 0) ∧ (d &&& (1 <<< ((Int32.ofNat x + Int32.ofNat y) &&& 31)) = 0) ∧ (a &&& (1 <<< (((Int32.ofNat x - Int32.ofNat y) + 7) &&& 31)) = 0) then
      (q_gen n f (x + 1) (r ||| (1 <<< (Int32.ofNat y &&& 31))) (d ||| (1 <<< ((Int32.ofNat x + Int32.ofNat y) &&& 31))) (a ||| (1 <<< (((Int32.ofNat x - Int32.ofNat y) + 7) &&& 31)))).map (fun L => y :: L)
    else [])))) := by
  intro m
  induction m with
  | zero =>
    intro j k s hj hk
    obtain ⟨k, rfl⟩ : ∃ z, k = z + 1 := ⟨k - 1, by omega⟩
    rw [C_Nights_stand_o_l27, if_neg (fun g => by have := (ni_lt (by omega) (by omega)).mp g; omega)]
    rfl
  | succ m ih =>
    intro j k s hj hk
    obtain ⟨k, rfl⟩ : ∃ z, k = z + 1 := ⟨k - 1, by omega⟩
    rw [C_Nights_stand_o_l27, if_pos ((ni_lt (by omega) (by omega)).mpr (by omega)), List.range'_succ, List.flatMap_cons, ws_app]
    simp only [am_let, C_Nights_stand_o_p85, C_Nights_stand_o_p86, C_Nights_stand_o_p105, C_Nights_stand_o_p132, ni_succ, R, Option.bind_some, ni_add, if_true, Bool.false_eq_true, if_false]
    have go := fun s => ih (j + 1) k s (by omega) (by omega)
    simp only [ni_add] at go
    by_cases c1 : r &&& (1 <<< (Int32.ofNat j &&& 31)) = 0
    case neg => rw [if_neg c1, if_neg (fun g => c1 g.1), go]; simp [ws]
    by_cases c2 : d &&& (1 <<< (Int32.ofNat (x + j) &&& 31)) = 0
    case neg => rw [if_pos c1, if_neg c2, if_neg (fun g => c2 g.2.1), go]; simp [ws]
    by_cases c3 : a &&& (1 <<< (((Int32.ofNat x - Int32.ofNat j) + 7) &&& 31)) = 0
    case neg => rw [if_pos c1, if_pos c2, if_neg c3, if_neg (fun g => c3 g.2.2), go]; simp [ws]
    rw [if_pos c1, if_pos c2, if_pos c3, if_pos (show _ ∧ _ ∧ _ from ⟨c1, c2, c3⟩), go, go, ws_map]
    by_cases t : T x = 0 ∨ T x = 1 <<< (Int32.ofNat j &&& 31)
    · have e : ∀ L, q_i T x (j :: L) = q_i T (x + 1) L := fun L => by
        unfold q_i; rw [q_t]; rcases t with t | t <;> simp [t]
      rw [ws_cg _ (fun L _ => e L)]
      rcases t with t | t
      · rw [if_pos t, Nat.add_assoc]
      · by_cases t0 : T x = 0
        · rw [if_pos t0, Nat.add_assoc]
        · rw [if_neg t0, if_pos t, Nat.add_assoc]
    · have t1 : ¬ T x = 0 := fun g => t (.inl g)
      have t2 : ¬ T x = 1 <<< (Int32.ofNat j &&& 31) := fun g => t (.inr g)
      have e : ∀ L, q_i T x (j :: L) = 0 := fun L => by unfold q_i; rw [q_t]; simp [t1, t2]
      rw [if_neg t1, if_neg t2, ws_z (f := fun L => q_i T x (j :: L)) _ (fun L _ => e L), Nat.zero_add]
theorem qc_all {F : Nat} {a0 n : Nat} {σ : am_SS} {T : Nat → Int32} (hF : 2000 ≤ F) (hn : n < 8) (hT : ∀ x, x < n → C_Nights_toldOn F a0 (Int32.ofNat n) (Int32.ofNat x) σ = some (T x)) :
    ∀ (f x g : Nat) (r d a : Int32), x + f = n → f < g → C_Nights_stand_n F g a0 (Int32.ofNat n) (Int32.ofNat x) r d a σ = some (Int32.ofNat (ws (q_i T x) (q_gen n f x r d a))) := by
  intro f
  induction f with
  | zero =>
    intro x g r d a hx hg
    obtain ⟨g, rfl⟩ : ∃ z, g = z + 1 := ⟨g - 1, by omega⟩
    rw [C_Nights_stand_n, C_Nights_stand_o, if_neg (fun g => by have := (ni_lt (by omega) (by omega)).mp g; omega)]
    rfl
  | succ f ih =>
    intro x g r d a hx hg
    obtain ⟨g, rfl⟩ : ∃ z, g = z + 1 := ⟨g - 1, by omega⟩
    have c7 : ¬ (7 : Int32) < Int32.ofNat x := fun g => by have := (ni_lt (a := 7) (by omega) (by omega)).mp g; omega
    rw [C_Nights_stand_n, C_Nights_stand_o, if_pos ((ni_lt (by omega) (by omega)).mpr (by omega)), if_neg c7, hT x (by omega), Option.bind_some, q_gen, List.range_eq_range']
    have z := qc_in (F := F) (a0 := a0) (n := n) (σ := σ) (T := T) (f := f) (g := g) (x := x) (r := r) (d := d) (a := a) hn (by omega) (fun r d a => ih (x + 1) g r d a (by omega) (by omega)) n 0 F 0 (by omega) (by omega)
    rw [Nat.zero_add] at z
    exact z
/-! told queens, on the class's side -/
def q_has (X Y : Nat → Nat) (x y j m : Nat) : Bool := (List.range' j m).any (fun k => X k == x && Y k == y)
theorem q_hs {X Y : Nat → Nat} {x y j m : Nat} : q_has X Y x y j m = true ↔ ∃ k, j ≤ k ∧ k < j + m ∧ X k = x ∧ Y k = y := by
  simp only [q_has, List.any_eq_true, List.mem_range'_1, Bool.and_eq_true, beq_iff_eq]
  exact ⟨fun ⟨k, ⟨a, b⟩, c⟩ => ⟨k, a, b, c⟩, fun ⟨k, a, b, c⟩ => ⟨k, ⟨a, b⟩, c⟩⟩
theorem q_h1 {F c a0 : Nat} {X Y : Nat → Nat} {x y : Nat} {σ : am_SS} (hc : c ≤ 7) (e1 : σ a0 2 = Int32.ofNat c) (hx : x < 7) (hy : y < 7) (hX : ∀ k, k < 7 → X k < 7 ∧ Y k < 7)
    (hA : ∀ k, k < c → C_Table_at a0 (Int32.ofNat k) 0 σ = some (Int32.ofNat (X k)) ∧ C_Table_at a0 (Int32.ofNat k) 1 σ = some (Int32.ofNat (Y k))) :
    ∀ (m j g : Nat), j + m = c → m < g → C_Table_has_l2 F g a0 (Int32.ofNat x) (Int32.ofNat y) (Int32.ofNat j) σ = some (q_has X Y x y j m) := by
  intro m
  induction m with
  | zero =>
    intro j g hj hg
    obtain ⟨g, rfl⟩ : ∃ z, g = z + 1 := ⟨g - 1, by omega⟩
    rw [C_Table_has_l2, e1, if_neg (fun q => by have := (ni_lt (by omega) (by omega)).mp q; omega)]
    rfl
  | succ m ih =>
    intro j g hj hg
    obtain ⟨g, rfl⟩ : ∃ z, g = z + 1 := ⟨g - 1, by omega⟩
    have b := ih (j + 1) g (by omega) (by omega)
    obtain ⟨x7, y7⟩ := hX j (by omega)
    have u1 := ni_eq (a := X j) (b := x) (by omega) (by omega)
    have u2 := ni_eq (a := Y j) (b := y) (by omega) (by omega)
    rw [C_Table_has_l2, e1, if_pos ((ni_lt (by omega) (by omega)).mpr (by omega)), (hA j (by omega)).1, Option.bind_some, (hA j (by omega)).2, Option.bind_some]
    simp only [C_Table_has_p32, am_let]
    rw [ni_succ, b]
    simp only [q_has, List.range'_succ, List.any_cons]
    by_cases p1 : X j = x
    · by_cases p2 : Y j = y
      · rw [if_pos (u1.mpr p1), if_pos (u2.mpr p2)]; simp [p1, p2]
      · rw [if_pos (u1.mpr p1), if_neg (fun q => p2 (u2.mp q))]; simp [p2]
    · rw [if_neg (fun q => p1 (u1.mp q))]; simp [p1]
def q_set (h : Nat → Bool) : Nat → Nat → Int32 → Int32
  | 0, _, s => s
  | m + 1, j, s => q_set h m (j + 1) (if h j = true then s ||| (1 <<< (Int32.ofNat j &&& 31)) else s)
theorem q_sc {h h' : Nat → Bool} : ∀ (m j : Nat) (s : Int32), (∀ k, k < j + m → h k = h' k) → q_set h m j s = q_set h' m j s := by
  intro m
  induction m with
  | zero => intro j s _; rfl
  | succ m ih => intro j s e; rw [q_set, q_set, e j (by omega), ih _ _ (fun k hk => e k (by omega))]
theorem q_h2 {F a0 n x : Nat} {h : Nat → Bool} {σ : am_SS} (hn : n < 8) (H : ∀ y, y < n → C_Table_has F a0 (Int32.ofNat x) (Int32.ofNat y) σ = some (h y)) :
    ∀ (m j g : Nat) (s : Int32), j + m = n → m < g → C_Nights_toldOn_l5 F g a0 (Int32.ofNat n) (Int32.ofNat x) s (Int32.ofNat j) σ = some (q_set h m j s) := by
  intro m
  induction m with
  | zero =>
    intro j g s hj hg
    obtain ⟨g, rfl⟩ : ∃ z, g = z + 1 := ⟨g - 1, by omega⟩
    rw [C_Nights_toldOn_l5, if_neg (fun q => by have := (ni_lt (by omega) (by omega)).mp q; omega)]
    rfl
  | succ m ih =>
    intro j g s hj hg
    obtain ⟨g, rfl⟩ : ∃ z, g = z + 1 := ⟨g - 1, by omega⟩
    have b := fun s => ih (j + 1) g s (by omega) (by omega)
    rw [C_Nights_toldOn_l5, if_pos ((ni_lt (by omega) (by omega)).mpr (by omega)), H j (by omega), Option.bind_some, q_set]
    simp only [C_Nights_toldOn_p28, am_let]
    rw [ni_succ]
    by_cases p : h j = true
    · rw [if_pos p, if_pos p, b]
    · rw [if_neg p, if_neg p, b]
theorem q_bt : ∀ n, n < 8 → ∀ s, s < 128 → (decide (q_set (fun j => Nat.testBit s j) n 0 0 = 0) = (List.range n).all (fun y => !Nat.testBit s y)) ∧
    ∀ y, y < n → decide (q_set (fun j => Nat.testBit s j) n 0 0 = 1 <<< (Int32.ofNat y &&& 31)) = (List.range n).all (fun z => Nat.testBit s z == (z == y)) := by decide +kernel
theorem q_ex (h : Nat → Bool) : ∃ s, s < 128 ∧ ∀ k, k < 7 → h k = Nat.testBit s k := by
  have : ∀ a b c d e f g : Bool, ∃ s, s < 128 ∧ (a = Nat.testBit s 0 ∧ b = Nat.testBit s 1 ∧ c = Nat.testBit s 2 ∧ d = Nat.testBit s 3 ∧ e = Nat.testBit s 4 ∧ f = Nat.testBit s 5 ∧ g = Nat.testBit s 6) := by
    intro a b c d e f g
    refine ⟨a.toNat + 2 * b.toNat + 4 * c.toNat + 8 * d.toNat + 16 * e.toNat + 32 * f.toNat + 64 * g.toNat, ?_⟩
    revert a b c d e f g
    decide +kernel
  obtain ⟨s, hs, e0, e1, e2, e3, e4, e5, e6⟩ := this (h 0) (h 1) (h 2) (h 3) (h 4) (h 5) (h 6)
  refine ⟨s, hs, fun k hk => ?_⟩
  have : k = 0 ∨ k = 1 ∨ k = 2 ∨ k = 3 ∨ k = 4 ∨ k = 5 ∨ k = 6 := by omega
  rcases this with rfl | rfl | rfl | rfl | rfl | rfl | rfl <;> assumption
theorem q_bs {h : Nat → Bool} {n y : Nat} (hn : n < 8) (hy : y < n) : (q_set h n 0 0 = 0 ∨ q_set h n 0 0 = 1 <<< (Int32.ofNat y &&& 31)) ↔ ∀ z, z < n → h z = true → z = y := by
  obtain ⟨s, hs, e⟩ := q_ex h
  have b := q_bt n hn s hs
  have b1 := b.1
  have b2 := b.2 y hy
  rw [q_sc n 0 0 (fun k hk => e k (by omega))]
  rw [Bool.eq_iff_iff] at b1 b2
  simp only [decide_eq_true_eq, List.all_eq_true, List.mem_range, Bool.not_eq_true', beq_iff_eq] at b1 b2
  rw [b1, b2]
  constructor
  · rintro (g | g) z hz q
    · rw [e z (by omega), g z hz] at q; exact absurd q (by decide)
    · rw [e z (by omega), g z hz] at q; simpa using q
  · intro g
    by_cases q : h y = true
    · right
      intro z hz
      rw [← e z (by omega)]
      by_cases w : z = y
      · subst w; rw [q]; simp
      · have : h z = false := by
          cases r : h z with
          | false => rfl
          | true => exact absurd (g z hz r) w
        rw [this]; simp [w]
    · left
      intro z hz
      rw [← e z (by omega)]
      cases r : h z with
      | false => rfl
      | true => exact absurd (g z hz r ▸ r) q
theorem q_tt {T : Nat → Int32} : ∀ (L : List Nat) (x : Nat), q_t T x L = true ↔ ∀ i, i < L.length → (T (x + i) = 0 ∨ T (x + i) = 1 <<< (Int32.ofNat (L.getD i 99) &&& 31)) := by
  intro L
  induction L with
  | nil => intro x; simp [q_t]
  | cons y L ih =>
    intro x
    rw [q_t, Bool.and_eq_true, ih, Bool.or_eq_true, beq_iff_eq, beq_iff_eq]
    constructor
    · rintro ⟨a, b⟩ i hi
      cases i with
      | zero => simpa using a
      | succ i =>
        have := b i (by simpa using hi)
        rw [show x + 1 + i = x + (i + 1) by omega] at this
        simpa using this
    · intro g
      refine ⟨by simpa using g 0 (by simp), fun i hi => ?_⟩
      have := g (i + 1) (by simpa using hi)
      rw [show x + (i + 1) = x + 1 + i by omega] at this
      simpa using this
theorem q_chk : ∀ n, n < 8 → (q_gen n n 0 0 0 0).all (fun p => p.length == n && (List.range n).all (fun x => decide (p.getD x 99 < n) && (List.range n).all (fun y => (p.getD x 99 == y) == ((q_inv n p).getD y 99 == x)))) = true := by decide +kernel
/-- what the told ones ask of columns of rows -/
def q_h (X Y : Nat → Nat) (c n : Nat) (D : List Nat) : Nat := if ∀ k, k < c → X k < n → Y k < n → D.getD (Y k) 99 = X k then 1 else 0
theorem q_eq {X Y : Nat → Nat} {c n : Nat} {T : Nat → Int32} (hn : n < 8) (hT : ∀ x, x < n → T x = q_set (fun y => q_has X Y x y 0 c) n 0 0) {p : List Nat} (hp : p ∈ q_gen n n 0 0 0 0) :
    q_i T 0 p = q_h X Y c n (q_inv n p) := by
  have k := List.all_eq_true.mp (q_chk n hn) p hp
  simp only [Bool.and_eq_true, List.all_eq_true, List.mem_range, decide_eq_true_eq, Bool.beq_eq_decide_eq] at k
  obtain ⟨k1, k2⟩ := k
  unfold q_i q_h
  have E : (q_t T 0 p = true) ↔ ∀ k, k < c → X k < n → Y k < n → (q_inv n p).getD (Y k) 99 = X k := by
    rw [q_tt, k1]
    constructor
    · intro g k hk hX hY
      have a := g (X k) hX
      rw [Nat.zero_add, hT (X k) hX, q_bs hn (k2 (X k) hX).1] at a
      have b := a (Y k) hY (q_hs.mpr ⟨k, by omega, by omega, rfl, rfl⟩)
      have d := (k2 (X k) hX).2 (Y k) hY
      rw [← b] at d
      simpa using d
    · intro g x hx
      rw [Nat.zero_add, hT x hx, q_bs hn (k2 x hx).1]
      intro z hz q
      obtain ⟨k, _, hk, hX, hY⟩ := q_hs.mp q
      have a := g k (by omega) (by omega) (by omega)
      have d := (k2 x hx).2 z hz
      rw [hX, hY] at a
      rw [a] at d
      have : p.getD x 99 = z := by simpa using d
      exact this.symm
  by_cases q : q_t T 0 p = true
  · rw [if_pos q, if_pos (E.mp q)]
  · rw [if_neg q, if_neg (fun g => q (E.mpr g))]
/-! the reference's side -/
abbrev q_k (a b p r : Nat) : Prop := ¬ p = r ∧ ¬ r + (a - b) = p ∧ ¬ p + (a - b) = r
def q_iB (p r a b : Nat) : Bool := (decide (Int32.ofNat p - Int32.ofNat r = 0) == decide (p = r)) && (decide (Int32.ofNat p - Int32.ofNat r = Int32.ofNat a - Int32.ofNat b) == decide (r + (a - b) = p)) && (decide (Int32.ofNat p - Int32.ofNat r = Int32.ofNat b - Int32.ofNat a) == decide (p + (a - b) = r))
theorem q_i2 : ∀ p, p < 8 → ∀ r, r < 8 → ∀ a, a < 8 → ∀ b, b < a → q_iB p r a b = true := by decide +kernel
theorem q_i3 (p : Nat) (hp : p < 8) (r : Nat) (hr : r < 8) (a : Nat) (ha : a < 8) (b : Nat) (hb : b < a) : (Int32.ofNat p - Int32.ofNat r = 0 ↔ p = r) ∧ (Int32.ofNat p - Int32.ofNat r = Int32.ofNat a - Int32.ofNat b ↔ r + (a - b) = p) ∧ (Int32.ofNat p - Int32.ofNat r = Int32.ofNat b - Int32.ofNat a ↔ p + (a - b) = r) := by
  have h := q_i2 p hp r hr a ha b hb
  simp only [q_iB, Bool.and_eq_true, beq_iff_eq, decide_eq_decide] at h
  exact ⟨h.1.1, h.1.2, h.2⟩
theorem q_m9 {F n a : Nat} {τ : am_SS} {D : Nat → Nat} {rec2 : Int32 → Int32 → am_SS → Option Bool} {Q : Bool} (hn : n < 8) (ha : a < n) (hD : ∀ y, y < n → D y < 8 ∧ τ 35 y = Int32.ofNat (D y)) (R : rec2 (Int32.ofNat n) (Int32.ofNat (a + 1)) τ = some Q) :
    ∀ (m b g : Nat), b + m = a → m < g → M_doStand_l9 rec2 F g (Int32.ofNat n) (Int32.ofNat a) (Int32.ofNat b) τ = some (decide (∀ b', b' < a → b ≤ b' → q_k a b' (D a) (D b')) && Q) := by
  intro m
  induction m with
  | zero =>
    intro b g hb hg
    obtain ⟨g, rfl⟩ : ∃ z, g = z + 1 := ⟨g - 1, by omega⟩
    rw [M_doStand_l9, if_neg (fun q => by have := (ni_lt (by omega) (by omega)).mp q; omega), am_let, ni_succ, R, decide_eq_true (fun b' h1 h2 => absurd h2 (by omega)), Bool.true_and]
  | succ m ih =>
    intro b g hb hg
    obtain ⟨g, rfl⟩ : ∃ z, g = z + 1 := ⟨g - 1, by omega⟩
    have z := ih (b + 1) g (by omega) (by omega)
    obtain ⟨a1, a2⟩ := hD a ha
    obtain ⟨b1, b2⟩ := hD b (by omega)
    obtain ⟨i1, i2, i3⟩ := q_i3 (D a) a1 (D b) b1 a (by omega) b (by omega)
    rw [M_doStand_l9, if_pos ((ni_lt (by omega) (by omega)).mpr (by omega)), ni_rd (by omega) (by omega), Option.bind_some, ni_rd (by omega) (by omega), Option.bind_some, am_let, a2, b2]
    by_cases p1 : D a = D b
    · rw [if_pos (i1.mpr p1), decide_eq_false (fun w => (w b (by omega) (by omega)).1 p1)]; rfl
    by_cases p2 : D b + (a - b) = D a
    · rw [if_neg (fun w => p1 (i1.mp w)), if_pos (i2.mpr p2), decide_eq_false (fun w => (w b (by omega) (by omega)).2.1 p2)]; rfl
    by_cases p3 : D a + (a - b) = D b
    · rw [if_neg (fun w => p1 (i1.mp w)), if_neg (fun w => p2 (i2.mp w)), if_pos (i3.mpr p3), decide_eq_false (fun w => (w b (by omega) (by omega)).2.2 p3)]; rfl
    rw [if_neg (fun w => p1 (i1.mp w)), if_neg (fun w => p2 (i2.mp w)), if_neg (fun w => p3 (i3.mp w)), am_let, ni_succ, z]
    congr 2
    rw [decide_eq_decide]
    constructor
    · intro w b' h2 h1
      by_cases e : b' = b
      · subst e; exact ⟨p1, p2, p3⟩
      · exact w b' h2 (by omega)
    · intro w b' h2 h1
      exact w b' h2 (by omega)
theorem q_m66 {F n c : Nat} {τ : am_SS} {D X Y : Nat → Nat} (hn : n < 8) (hc : c ≤ 7) (hD : ∀ y, y < n → D y < 8 ∧ τ 35 y = Int32.ofNat (D y)) (e1 : τ 0 56 = Int32.ofNat c) (hX : ∀ k, k < 7 → X k < 7 ∧ Y k < 7 ∧ τ 34 k = Int32.ofNat (7 * Y k + X k)) :
    ∀ (m j g : Nat), j + m = c → m < g → M_doStand_l66 F g (Int32.ofNat n) (Int32.ofNat j) τ = some (decide (∀ k, k < c → j ≤ k → X k < n → Y k < n → D (Y k) = X k)) := by
  intro m
  induction m with
  | zero =>
    intro j g hj hg
    obtain ⟨g, rfl⟩ : ∃ z, g = z + 1 := ⟨g - 1, by omega⟩
    rw [M_doStand_l66, e1, if_neg (fun q => by have := (ni_lt (by omega) (by omega)).mp q; omega), decide_eq_true (fun k h1 h2 => absurd h2 (by omega))]
  | succ m ih =>
    intro j g hj hg
    obtain ⟨g, rfl⟩ : ∃ z, g = z + 1 := ⟨g - 1, by omega⟩
    have z := ih (j + 1) g (by omega) (by omega)
    obtain ⟨x1, y1, t1⟩ := hX j (by omega)
    have dm : Int32.ofNat (7 * Y j + X j) % 7 = Int32.ofNat (X j) := by
      rw [show (7 : Int32) = Int32.ofNat 7 from rfl, ni_mod (by omega) (by omega), Nat.mul_add_mod, Nat.mod_eq_of_lt x1]
    have dd : Int32.ofNat (7 * Y j + X j) / 7 = Int32.ofNat (Y j) := by
      rw [show (7 : Int32) = Int32.ofNat 7 from rfl, ni_div (by omega) (by omega), Nat.mul_add_div (by omega), Nat.div_eq_of_lt x1, Nat.add_zero]
    have step : (X j < n → Y j < n → D (Y j) = X j) → decide (∀ k, k < c → j + 1 ≤ k → X k < n → Y k < n → D (Y k) = X k) = decide (∀ k, k < c → j ≤ k → X k < n → Y k < n → D (Y k) = X k) := by
      intro s
      rw [decide_eq_decide]
      constructor
      · intro w k h2 h1
        by_cases e : k = j
        · subst e; exact s
        · exact w k h2 (by omega)
      · intro w k h2 h1
        exact w k h2 (by omega)
    rw [M_doStand_l66, e1, if_pos ((ni_lt (by omega) (by omega)).mpr (by omega)), ni_rd (by omega) (by omega), Option.bind_some, am_let, Option.bind_some, am_let, t1, dm, dd]
    simp only [M_doStand_p119, am_let]
    rw [ni_succ, z]
    by_cases p1 : X j < n
    case neg => rw [if_neg (fun q => p1 ((ni_lt (by omega) (by omega)).mp q)), step (fun h => absurd h p1)]
    by_cases p2 : Y j < n
    case neg => rw [if_pos ((ni_lt (by omega) (by omega)).mpr p1), if_neg (fun q => p2 ((ni_lt (by omega) (by omega)).mp q)), step (fun _ h => absurd h p2)]
    obtain ⟨d1, d2⟩ := hD (Y j) p2
    rw [if_pos ((ni_lt (by omega) (by omega)).mpr p1), if_pos ((ni_lt (by omega) (by omega)).mpr p2), ni_rd (by omega) (by omega), Option.bind_some, d2]
    by_cases p3 : D (Y j) = X j
    · rw [p3, if_pos rfl, step (fun _ _ => p3)]
    · rw [if_neg (fun q => p3 ((ni_eq (by omega) (by omega)).mp q)), decide_eq_false (fun w => p3 (w j (by omega) (by omega) p1 p2))]
theorem q_m2 {F n : Nat} {τ : am_SS} {D : Nat → Nat} {Q : Bool} (hF : 2000 ≤ F) (hn : n < 8) (hD : ∀ y, y < n → D y < 8 ∧ τ 35 y = Int32.ofNat (D y)) (R : M_doStand_l66 F F (Int32.ofNat n) 0 τ = some Q) :
    ∀ (m a g : Nat), a + m = n → m < g → M_doStand_l2 F g (Int32.ofNat n) (Int32.ofNat a) τ = some (decide (∀ a', a' < n → a ≤ a' → ∀ b', b' < a' → q_k a' b' (D a') (D b')) && Q) := by
  intro m
  induction m with
  | zero =>
    intro a g ha hg
    obtain ⟨g, rfl⟩ : ∃ z, g = z + 1 := ⟨g - 1, by omega⟩
    rw [M_doStand_l2, if_neg (fun q => by have := (ni_lt (by omega) (by omega)).mp q; omega), R, decide_eq_true (fun b' h1 h2 => absurd h2 (by omega)), Bool.true_and]
  | succ m ih =>
    intro a g ha hg
    obtain ⟨g, rfl⟩ : ∃ z, g = z + 1 := ⟨g - 1, by omega⟩
    have z := q_m9 (F := F) hn (show a < n by omega) hD (ih (a + 1) g (by omega) (by omega)) a 0 F (by omega) (by omega)
    rw [M_doStand_l2, if_pos ((ni_lt (by omega) (by omega)).mpr (by omega))]
    refine (show M_doStand_l9 (M_doStand_l2 F g) F F (Int32.ofNat n) (Int32.ofNat a) 0 τ = _ from z).trans ?_
    rw [← Bool.and_assoc, ← Bool.decide_and]
    congr 2
    rw [decide_eq_decide]
    constructor
    · rintro ⟨w1, w2⟩ a' h2 h1 b' h3
      by_cases e : a' = a
      · subst e; exact w1 b' h3 (by omega)
      · exact w2 a' h2 (by omega) b' h3
    · intro w
      exact ⟨fun b' h _ => w a (by omega) (by omega) b' h, fun a' h2 h1 => w a' h2 (by omega)⟩
theorem q_oki : ∀ (L : List Nat) (h i : Nat), q_ok h i L = true ↔ ∀ j, j < L.length → h ≠ L.getD j 0 ∧ h + (i + j) ≠ L.getD j 0 ∧ L.getD j 0 + (i + j) ≠ h := by
  intro L
  induction L with
  | nil => intro h i; simp [q_ok]
  | cons c L ih =>
    intro h i
    rw [q_ok, Bool.and_eq_true, ih, Bool.and_eq_true, Bool.and_eq_true, bne_iff_ne, bne_iff_ne, bne_iff_ne]
    constructor
    · rintro ⟨a, b⟩ j hj
      cases j with
      | zero => simpa using a
      | succ j =>
        have := b j (by simpa using hj)
        rw [show i + 1 + j = i + (j + 1) by omega] at this
        simpa using this
    · intro g
      refine ⟨by simpa using g 0 (by simp), fun j hj => ?_⟩
      have := g (j + 1) (by simpa using hj)
      rw [show i + (j + 1) = i + 1 + j by omega] at this
      simpa using this
theorem q_alli : ∀ (L : List Nat), q_all L = true ↔ ∀ a, a < L.length → ∀ b, b < a → q_k a b (L.getD a 0) (L.getD b 0) := by
  intro L
  induction L with
  | nil => simp [q_all]
  | cons c L ih =>
    rw [q_all, Bool.and_eq_true, ih, q_oki]
    constructor
    · rintro ⟨p, q⟩ a ha b hb
      obtain ⟨a, rfl⟩ : ∃ z, a = z + 1 := ⟨a - 1, by omega⟩
      have ha' : a < L.length := by simpa using ha
      cases b with
      | zero =>
        obtain ⟨p1, p2, p3⟩ := p a ha'
        simp only [List.getD_cons_zero, List.getD_cons_succ]
        exact ⟨fun e => p1 e.symm, fun e => p2 (by omega), fun e => p3 (by omega)⟩
      | succ b =>
        obtain ⟨q1, q2, q3⟩ := q a ha' b (by omega)
        simp only [List.getD_cons_succ]
        exact ⟨q1, fun e => q2 (by omega), fun e => q3 (by omega)⟩
    · intro g
      refine ⟨fun j hj => ?_, fun a ha b hb => ?_⟩
      · obtain ⟨p1, p2, p3⟩ := g (j + 1) (by simpa using hj) 0 (by omega)
        simp only [List.getD_cons_zero, List.getD_cons_succ] at p1 p2 p3
        exact ⟨fun e => p1 e.symm, fun e => p2 (by omega), fun e => p3 (by omega)⟩
      · obtain ⟨q1, q2, q3⟩ := g (a + 1) (by simpa using ha) (b + 1) (by omega)
        simp only [List.getD_cons_succ] at q1 q2 q3
        exact ⟨q1, fun e => q2 (by omega), fun e => q3 (by omega)⟩
theorem q_dl (n : Nat) : ∀ k c, (q_dg n k c).length = k := by
  intro k
  induction k with
  | zero => intro c; rfl
  | succ k ih => intro c; rw [q_dg, List.length_cons, ih]
theorem q_dlt (n : Nat) (hn : 0 < n) : ∀ k c j, j < k → (q_dg n k c).getD j 0 < n := by
  intro k
  induction k with
  | zero => intro c j hj; omega
  | succ k ih =>
    intro c j hj
    rw [q_dg]
    cases j with
    | zero => simpa using Nat.mod_lt c hn
    | succ j => simpa using ih (c / n) j (by omega)
theorem q_stand {F n c : Nat} {τ : am_SS} {L : List Nat} {X Y : Nat → Nat} (hF : 2000 ≤ F) (hn : n < 8) (hc : c ≤ 7) (hl : L.length = n) (hL : ∀ y, y < n → L.getD y 0 < 8 ∧ τ 35 y = Int32.ofNat (L.getD y 0)) (e1 : τ 0 56 = Int32.ofNat c) (hX : ∀ k, k < 7 → X k < 7 ∧ Y k < 7 ∧ τ 34 k = Int32.ofNat (7 * Y k + X k)) :
    M_doStand F (Int32.ofNat n) τ = some (q_all L && q_h X Y c n L == 1) := by
  have r := q_m66 (F := F) (D := fun y => L.getD y 0) hn hc hL e1 hX c 0 F (by omega) (by omega)
  have z := q_m2 (F := F) (D := fun y => L.getD y 0) hF hn hL r n 0 F (by omega) (by omega)
  refine (show M_doStand F (Int32.ofNat n) τ = _ from z).trans ?_
  congr 2
  · have := q_alli L
    rw [hl] at this
    rw [Bool.eq_iff_iff, this, decide_eq_true_eq]
    exact ⟨fun w a ha b hb => w a ha (by omega) b hb, fun w a ha _ b hb => w a ha b hb⟩
  · unfold q_h
    have e : (∀ k, k < c → 0 ≤ k → X k < n → Y k < n → L.getD (Y k) 0 = X k) ↔ (∀ k, k < c → X k < n → Y k < n → L.getD (Y k) 99 = X k) := by
      constructor
      · intro w k h1 h2 h3
        have := w k h1 (by omega) h2 h3
        simp only [List.getD, List.getElem?_eq_getElem (show Y k < L.length by omega), Option.getD_some] at this ⊢
        exact this
      · intro w k h1 _ h2 h3
        have := w k h1 h2 h3
        simp only [List.getD, List.getElem?_eq_getElem (show Y k < L.length by omega), Option.getD_some] at this ⊢
        exact this
    by_cases q : (∀ k, k < c → X k < n → Y k < n → L.getD (Y k) 99 = X k)
    · rw [if_pos q, decide_eq_true (e.mpr q)]; rfl
    · rw [if_neg q, decide_eq_false (fun w => q (e.mp w))]; rfl
theorem q_m55 {F n : Nat} {all s co : Int32} {τ : am_SS} {rec42 : Int32 → Int32 → Int32 → Int32 → am_SS → Option (Int32 × am_SS)} (hn0 : 0 < n) (hn : n < 8) :
    ∀ (m y g : Nat) (left : Nat) (w : Nat → Int32), y + m = n → m < g → left < 1000000 → ∃ w' : Nat → Int32, (∀ j, j < y → w' j = w j) ∧ (∀ j, j < m → w' (y + j) = Int32.ofNat ((q_dg n m left).getD j 0)) ∧
      M_queens_l55 rec42 F g (Int32.ofNat n) all s co (Int32.ofNat left) (Int32.ofNat y) (am_row τ 35 w) = (M_doStand F (Int32.ofNat n) (am_row τ 35 w')).bind (fun q => if q = true then rec42 (Int32.ofNat n) all (s + 1) (co + 1) (am_row τ 35 w') else rec42 (Int32.ofNat n) all s (co + 1) (am_row τ 35 w')) := by
  intro m
  induction m with
  | zero =>
    intro y g left w hy hg hl
    obtain ⟨g, rfl⟩ : ∃ z, g = z + 1 := ⟨g - 1, by omega⟩
    refine ⟨w, fun _ _ => rfl, fun j hj => absurd hj (by omega), ?_⟩
    rw [M_queens_l55, if_neg (fun q => by have := (ni_lt (by omega) (by omega)).mp q; omega)]
    rfl
  | succ m ih =>
    intro y g left w hy hg hl
    obtain ⟨g, rfl⟩ : ∃ z, g = z + 1 := ⟨g - 1, by omega⟩
    have n0 : ¬ Int32.ofNat n = 0 := fun q => by have := (ni_eq (b := 0) (by omega) (by omega)).mp q; omega
    have e : am_up (am_row τ 35 w) 35 y (Int32.ofNat (left % n)) = am_row τ 35 (fun j => if j = y then Int32.ofNat (left % n) else w j) := by
      funext b j
      simp only [am_up, am_row]
      by_cases p : b = 35
      · by_cases r : j = y <;> simp [p, r]
      · simp [p]
    have dl : left / n < 1000000 := Nat.lt_of_le_of_lt (Nat.div_le_self _ _) hl
    obtain ⟨w', h1, h2, h3⟩ := ih (y + 1) g (left / n) (fun j => if j = y then Int32.ofNat (left % n) else w j) (by omega) (by omega) dl
    refine ⟨w', fun j hj => ?_, fun j hj => ?_, ?_⟩
    · rw [h1 j (by omega), if_neg (by omega)]
    · cases j with
      | zero => rw [Nat.add_zero, h1 y (by omega), if_pos rfl, q_dg]; rfl
      | succ j =>
        have := h2 j (by omega)
        rw [show y + 1 + j = y + (j + 1) by omega] at this
        rw [this, q_dg]; rfl
    · rw [M_queens_l55, if_pos ((ni_lt (by omega) (by omega)).mpr (by omega)), if_neg n0, ni_mod (by omega) (by omega), ni_wr (by omega) (by omega), Option.bind_some, if_neg n0, am_let, ni_div (by omega) (by omega), am_let, ni_succ, e, h3]
theorem q_m42 {F n c : Nat} {all : Nat} {X Y : Nat → Nat} {τ : am_SS} (hF : 2000 ≤ F) (hn0 : 0 < n) (hn : n < 8) (ha : all < 1000000) (hc : c ≤ 7) (e1 : τ 0 56 = Int32.ofNat c) (hX : ∀ k, k < 7 → X k < 7 ∧ Y k < 7 ∧ τ 34 k = Int32.ofNat (7 * Y k + X k)) :
    ∀ (m co g s : Nat) (w : Nat → Int32), co + m = all → m < g → ∃ w' : Nat → Int32,
      M_queens_l42 F g (Int32.ofNat n) (Int32.ofNat all) (Int32.ofNat s) (Int32.ofNat co) (am_row τ 35 w) = some (Int32.ofNat (s + ws (fun c' => if q_all (q_dg n n c') = true then q_h X Y c n (q_dg n n c') else 0) (List.range' co m)), am_row τ 35 w') := by
  intro m
  induction m with
  | zero =>
    intro co g s w hco hg
    obtain ⟨g, rfl⟩ : ∃ z, g = z + 1 := ⟨g - 1, by omega⟩
    refine ⟨w, ?_⟩
    rw [M_queens_l42, if_neg (fun q => by have := (ni_lt (by omega) (by omega)).mp q; omega)]
    rfl
  | succ m ih =>
    intro co g s w hco hg
    obtain ⟨g, rfl⟩ : ∃ z, g = z + 1 := ⟨g - 1, by omega⟩
    obtain ⟨w', _, h2, h3⟩ := q_m55 (F := F) (all := Int32.ofNat all) (s := Int32.ofNat s) (co := Int32.ofNat co) (τ := τ) (rec42 := M_queens_l42 F g) hn0 hn n 0 F co w (by omega) (by omega) (by omega)
    have d := q_stand (F := F) (n := n) (c := c) (τ := am_row τ 35 w') (L := q_dg n n co) (X := X) (Y := Y) hF hn hc (q_dl n n co)
      (fun y hy => ⟨by have := q_dlt n hn0 n co y hy; omega, by rw [am_row_eq]; have := h2 y hy; rwa [Nat.zero_add] at this⟩) (by rw [am_row_ne (by omega)]; exact e1) (fun k hk => by rw [am_row_ne (by omega)]; exact hX k hk)
    have z : M_queens_l55 (M_queens_l42 F g) F F (Int32.ofNat n) (Int32.ofNat all) (Int32.ofNat s) (Int32.ofNat co) (Int32.ofNat co) 0 (am_row τ 35 w) = _ := h3
    rw [M_queens_l42, if_pos ((ni_lt (by omega) (by omega)).mpr (by omega)), z, d, Option.bind_some, List.range'_succ, ws, ni_succ, ni_succ]
    by_cases p : q_all (q_dg n n co) = true
    · by_cases r : q_h X Y c n (q_dg n n co) = 1
      · obtain ⟨v, hv⟩ := ih (co + 1) g (s + 1) w' (by omega) (by omega)
        refine ⟨v, ?_⟩
        rw [if_pos (by rw [p, r]; rfl), hv, if_pos p, r, Nat.add_assoc]
      · have r0 : q_h X Y c n (q_dg n n co) = 0 := by
          unfold q_h at r ⊢
          split
          · rename_i k; exact absurd (if_pos k) r
          · rfl
        obtain ⟨v, hv⟩ := ih (co + 1) g s w' (by omega) (by omega)
        refine ⟨v, ?_⟩
        rw [if_neg (by rw [p, r0]; decide), hv, if_pos p, r0, Nat.zero_add]
    · obtain ⟨v, hv⟩ := ih (co + 1) g s w' (by omega) (by omega)
      refine ⟨v, ?_⟩
      rw [if_neg (by rw [Bool.and_eq_true]; exact fun h => p h.1), hv, if_neg p, Nat.zero_add]
theorem q_m22 {F n : Nat} {τ : am_SS} (hn : n < 8) : ∀ (m j g : Nat), j + m = n → m < g → M_queens_l22 F g (Int32.ofNat n) (Int32.ofNat (n ^ j)) (Int32.ofNat j) τ = M_queens_l42 F F (Int32.ofNat n) (Int32.ofNat (n ^ n)) 0 0 τ := by
  intro m
  induction m with
  | zero =>
    intro j g hj hg
    obtain ⟨g, rfl⟩ : ∃ z, g = z + 1 := ⟨g - 1, by omega⟩
    have e : j = n := by omega
    rw [M_queens_l22, if_neg (fun q => by have := (ni_lt (by omega) (by omega)).mp q; omega), e]
  | succ m ih =>
    intro j g hj hg
    obtain ⟨g, rfl⟩ : ∃ z, g = z + 1 := ⟨g - 1, by omega⟩
    rw [M_queens_l22, if_pos ((ni_lt (by omega) (by omega)).mpr (by omega)), am_let, am_let, ni_mul, ni_succ, ← Nat.pow_succ]
    exact ih (j + 1) g (by omega) (by omega)
theorem q_pw : ∀ n, n < 8 → n ^ n < 1000000 := by decide
theorem q_M {F n c : Nat} {X Y : Nat → Nat} {τ : am_SS} (hF : 1000000 ≤ F) (hn0 : 0 < n) (hn : n < 8) (hc : c ≤ 7) (e1 : τ 0 56 = Int32.ofNat c) (hX : ∀ k, k < 7 → X k < 7 ∧ Y k < 7 ∧ τ 34 k = Int32.ofNat (7 * Y k + X k)) :
    ∃ w, M_queens_l22 F F (Int32.ofNat n) 1 0 τ = some (Int32.ofNat (ws (fun c' => if q_all (q_dg n n c') = true then q_h X Y c n (q_dg n n c') else 0) (List.range (n ^ n))), am_row τ 35 w) := by
  have p := q_pw n hn
  have a := q_m22 (F := F) (n := n) (τ := τ) hn n 0 F (by omega) (by omega)
  obtain ⟨w, b⟩ := q_m42 (F := F) (τ := τ) (by omega) hn0 hn p hc e1 hX (n ^ n) 0 F 0 (τ 35) (by omega) (by omega)
  have s : am_row τ 35 (τ 35) = τ := by
    funext b j
    by_cases q : b = 35
    · subst q; rw [am_row_eq]
    · rw [am_row_ne q]
  refine ⟨w, ?_⟩
  rw [s, Nat.zero_add] at b
  rw [List.range_eq_range', ← b]
  exact a
theorem q_rel {σ τ : am_SS} (w : Nat → Int32) (h : rl_R σ τ) : rl_R σ (am_row τ 35 w) := by
  simpa [rl_R, rl_N, am_row_ne] using h
theorem q_dig {v : Int32} (h : rl_rg v 0 6) : v.toNatClampNeg < 7 ∧ v = Int32.ofNat v.toNatClampNeg := by
  obtain ⟨j, hj, rfl⟩ := ni_of (x := v) (Int32.not_lt.mpr h.1)
  have : j ≤ 6 := (ni_le (b := 6) hj (by omega)).mp h.2
  rw [ni_tn hj]
  exact ⟨by omega, rfl⟩
theorem ca_29 (F : Nat) (hF : 1000000 ≤ F) : aj_S29 F rl_R := by
  intro x σ τ h
  have h := rl_told h 0
  simp only [C_queens, M_queens, am_let]
  generalize am_up τ 0 0 0 = τ at h ⊢
  by_cases v : rl_rg x 1 7
  case neg =>
    rw [if_neg (fun g => v (ni_in.mp g))]
    by_cases q : x < 1
    · rw [if_pos q]; exact ⟨_, _, rfl, rfl, rfl, h⟩
    · rw [if_neg q, if_pos (Decidable.byContradiction (fun g => v ⟨Int32.not_lt.mp q, Int32.not_lt.mp g⟩))]
      exact ⟨_, _, rfl, rfl, rfl, h⟩
  rw [if_neg (Int32.not_lt.mpr v.1), if_neg (Int32.not_lt.mpr v.2), if_pos (ni_in.mpr v)]
  obtain ⟨n, hn, rfl⟩ := ni_of (x := x) (fun g => by have := v.1; grind)
  have hn1 : n ≤ 7 := (ni_le (b := 7) hn (by omega)).mp v.2
  have hn2 : 1 ≤ n := (ni_le (a := 1) (by omega) hn).mp v.1
  have h' := h
  obtain ⟨hK, ⟨n', m', hFR, hFS, hIR, hIS, hBK, hGU, hLE, hKY, hBI, hQU, hCO, hOR, hSV, hND, hLW⟩, hPS, hTP, hFT, hIM⟩ := h'
  obtain ⟨c, hc, e1, e2, e3⟩ := hQU
  have w : σ 35 0 = Int32.ofNat 2 := hK.2.2.2.2.2.2.2.2.2.2.1
  have s0 : ∀ j, j < c → C_Table_at 35 (Int32.ofNat j) 0 σ = some (σ 36 (2 * j)) := fun j hj => by
    rw [show (0 : Int32) = Int32.ofNat 0 from rfl, tb_at (w := 2) 14 e1 w rfl (by omega) (by omega) (by omega) (by omega) (by omega) (by omega), Nat.mul_comm j 2]; rfl
  have s1 : ∀ j, j < c → C_Table_at 35 (Int32.ofNat j) 1 σ = some (σ 36 (2 * j + 1)) := fun j hj => by
    rw [show (1 : Int32) = Int32.ofNat 1 from rfl, tb_at (w := 2) 14 e1 w rfl (by omega) (by omega) (by omega) (by omega) (by omega) (by omega), Nat.mul_comm j 2]
  obtain ⟨X, hX⟩ : ∃ X : Nat → Nat, ∀ k, k < 7 → X k < 7 ∧ σ 36 (2 * k) = Int32.ofNat (X k) := ⟨fun k => (σ 36 (2 * k)).toNatClampNeg, fun k hk => q_dig (e3 k hk).2.1⟩
  obtain ⟨Y, hY⟩ : ∃ Y : Nat → Nat, ∀ k, k < 7 → Y k < 7 ∧ σ 36 (2 * k + 1) = Int32.ofNat (Y k) := ⟨fun k => (σ 36 (2 * k + 1)).toNatClampNeg, fun k hk => q_dig (e3 k hk).2.2⟩
  have hM : ∀ k, k < 7 → X k < 7 ∧ Y k < 7 ∧ τ 34 k = Int32.ofNat (7 * Y k + X k) := fun k hk => ⟨(hX k hk).1, (hY k hk).1, by
    rw [(e3 k hk).1, (hX k hk).2, (hY k hk).2, show (7 : Int32) = Int32.ofNat 7 from rfl, ni_mul, ni_add]⟩
  obtain ⟨u, hu⟩ := q_M (F := F) (n := n) hF (by omega) (by omega) hc e2 hM
  have hT : ∀ x, x < n → C_Nights_toldOn F 35 (Int32.ofNat n) (Int32.ofNat x) σ = some (q_set (fun y => q_has X Y x y 0 c) n 0 0) := fun x hx => by
    have H : ∀ y, y < n → C_Table_has F 35 (Int32.ofNat x) (Int32.ofNat y) σ = some (q_has X Y x y 0 c) := fun y hy =>
      q_h1 (F := F) hc e1 (by omega) (by omega) (fun k hk => ⟨(hX k hk).1, (hY k hk).1⟩) (fun k hk => ⟨by rw [s0 k hk, (hX k (by omega)).2], by rw [s1 k hk, (hY k (by omega)).2]⟩) c 0 F (by omega) (by omega)
    exact q_h2 (F := F) (by omega) H n 0 F 0 (by omega) (by omega)
  have cl := qc_all (F := F) (T := fun x => q_set (fun y => q_has X Y x y 0 c) n 0 0) (by omega) (by omega) hT n 0 10 0 0 0 (by omega) (by omega)
  have eq : ws (q_i (fun x => q_set (fun y => q_has X Y x y 0 c) n 0 0) 0) (q_gen n n 0 0 0 0) = ws (fun c' => if q_all (q_dg n n c') = true then q_h X Y c n (q_dg n n c') else 0) (List.range (n ^ n)) := by
    rw [q_count n (by omega), ← ws_perm (List.isPerm_iff.mp (q_same n (by omega))), ws_map]
    exact ws_cg (f := q_i (fun x => q_set (fun y => q_has X Y x y 0 c) n 0 0) 0) (g := fun p => q_h X Y c n (q_inv n p)) _ (fun p hp => q_eq (by omega) (fun x _ => rfl) hp)
  have cl' : C_Nights_stand F 35 (Int32.ofNat n) 0 0 0 0 σ = _ := cl
  rw [cl', hu, Option.bind_some, eq]
  exact ⟨_, _, rfl, rfl, rfl, q_rel u h⟩
