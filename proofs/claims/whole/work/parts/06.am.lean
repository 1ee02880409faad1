def am_WL : List Cond := lw_tbl.filter goodWord
theorem am_good {w : Cond} (h : w ∈ am_WL) : (w.onTables && w.keeps) = true ∨ ∃ ty, w = .arrayClass ty := good_of_word (List.mem_filter.mp h).2
theorem am_hts {args : Array Value} {s : State} (h : ∀ w ∈ lw_tbl, w.before args s = true) : ∀ w ∈ am_WL, w.before args s = true := fun w hw => h w (List.mem_filter.mp hw).1
abbrev am_SS : Type := Nat → Nat → Int32
abbrev am_L : Type := (Nat → Nat) × (Nat → Nat) × (Nat → Nat → Option Nat) × Nat
def am_up (σ : am_SS) (a k : Nat) (v : Int32) : am_SS := fun b j => if b = a ∧ j = k then v else σ b j
theorem am_up_ne {σ : am_SS} {a k : Nat} {v : Int32} {a' : Nat} (h : a' ≠ a) : am_up σ a k v a' = σ a' := by
  funext j; simp [am_up, h]
theorem am_up_row (σ : am_SS) (a k : Nat) (v : Int32) : am_up σ a k v a = upd (σ a) k v := by
  funext j; simp [am_up, upd]
def am_val (Λ : am_L) (b : Nat → Nat) (row : Nat → Int32) (a k : Nat) : Value := match Λ.2.2.1 a k with
  | some j => .ref (b j)
  | none => .int (row k)
def am_ent (Λ : am_L) (cI cF : ClassId) (b : Nat → Nat) (row : Nat → Int32) (a : Nat) : va_E := match Λ.1 a with
  | 0 => .inl (cI, (Λ.2.1 a, .inl row))
  | 1 => .inl (cF, (Λ.2.1 a, .inr (.inr (.inr (.inr (fun j => (Λ.2.2.1 a j).map b))))))
  | c + 2 => .inr (c, (List.range (Λ.2.1 a)).map (am_val Λ b row a))
def am_pl (Λ : am_L) (cI cF : ClassId) (b : Nat → Nat) (σ : am_SS) : va_W := (List.range Λ.2.2.2).map (fun a => (b a, am_ent Λ cI cF b (σ a) a))
def am_W (Λ : am_L) (cI cF : ClassId) (b : Nat → Nat) (X : va_W) (σ : am_SS) : va_W := X ++ am_pl Λ cI cF b σ
theorem am_pl_at {Λ : am_L} {cI cF : ClassId} {b : Nat → Nat} {a : Nat} {σ : am_SS} (ha : a < Λ.2.2.2) : (am_pl Λ cI cF b σ)[a]? = some (b a, am_ent Λ cI cF b (σ a) a) := by
  unfold am_pl
  rw [List.getElem?_map, List.getElem?_range ha]; rfl
theorem am_at {Λ : am_L} {cI cF : ClassId} {b : Nat → Nat} {a : Nat} {X : va_W} {σ : am_SS} (ha : a < Λ.2.2.2) : (am_W Λ cI cF b X σ)[X.length + a]? = some (b a, am_ent Λ cI cF b (σ a) a) := by
  unfold am_W
  rw [List.getElem?_append_right (by omega), Nat.add_sub_cancel_left]
  exact am_pl_at ha
theorem am_set {Λ : am_L} {cI cF : ClassId} {b : Nat → Nat} {a i : Nat} {v : Int32} {X : va_W} {σ : am_SS} {e : va_E} (ha : a < Λ.2.2.2) (he : e = am_ent Λ cI cF b (upd (σ a) i v) a) :
    (am_W Λ cI cF b X σ).set (X.length + a) (b a, e) = am_W Λ cI cF b X (am_up σ a i v) := by
  unfold am_W
  rw [List.set_append_right _ _ (by omega), Nat.add_sub_cancel_left]
  congr 1
  apply List.ext_getElem?
  intro j
  by_cases hj : j = a
  · subst hj
    rw [List.getElem?_set_self (by simp [am_pl]; exact ha), am_pl_at ha, he, am_up_row]
  · rw [List.getElem?_set_ne (Ne.symm hj)]
    by_cases hl : j < Λ.2.2.2
    · rw [am_pl_at hl, am_pl_at hl, am_up_ne hj]
    · rw [List.getElem?_eq_none (by simp [am_pl]; omega), List.getElem?_eq_none (by simp [am_pl]; omega)]
theorem am_D {Λ : am_L} {cI cF : ClassId} {b : Nat → Nat} {A : Nat → Prop} {X : va_W} {σ σ' : am_SS} (h : va_D A (am_W Λ cI cF b X σ)) : va_D A (am_W Λ cI cF b X σ') := by
  have key : ∀ (τ τ' : am_SS) (k : Nat) (q : Nat × va_E), (am_W Λ cI cF b X τ)[k]? = some q → ∃ e, (am_W Λ cI cF b X τ')[k]? = some (q.1, e) := by
    intro τ τ' k q hq
    unfold am_W at hq ⊢
    by_cases hl : k < X.length
    · rw [List.getElem?_append_left hl] at hq ⊢
      exact ⟨q.2, hq⟩
    · rw [List.getElem?_append_right (by omega)] at hq ⊢
      by_cases hz : k - X.length < Λ.2.2.2
      · rw [am_pl_at hz] at hq ⊢
        cases hq
        exact ⟨_, rfl⟩
      · rw [List.getElem?_eq_none (by simp [am_pl]; omega)] at hq
        cases hq
  refine ⟨fun i j p q hi hj hpq => ?_, fun k q hk => ?_⟩
  · obtain ⟨e1, h1⟩ := key σ' σ i p hi
    obtain ⟨e2, h2⟩ := key σ' σ j q hj
    exact h.1 i j _ _ h1 h2 hpq
  · obtain ⟨e1, h1⟩ := key σ' σ k q hk
    exact h.2 k (q.1, e1) h1
def am_tys (cI cF : ClassId) : List (ClassId × FieldType) := [(cI, .int), (cF, .object RX0)]
def am_nl : List (String × Nat × MethodName) := [(RX9, 25, yX0_init), (RX9, 304, yX2_stand), (RX9, 331, yX5_housed), (RX9, 39, yX4_init), (RX9, 9, yX7_init), (RX0, 70, yX9_copyRow), (RX3, 28, yX0_init), (RX4, 42, yX1_init), (RX6, 34, yX9_copyRow), (RX7, 11, yX0_init), (RX7, 29, yX1_init)]
def am_nf : List (String × Nat × String × String × String) := [(RX7, 79, RX0, "officers", "I"), (RX9, 220, RX0, "officers", "I"), (RX4, 146, RX0, "officers", "I"), (RX9, 162, RX0, "side", "[I"), (RX7, 171, RX0, "side", "[I"), (RX4, 165, RX0, "side", "[I"), (RX9, 166, RX0, "skill", "[I"), (RX9, 169, RX0, "sleep", "[I"), (RX7, 162, RX0, "sleep", "[I"), (RX7, 128, RX0, "plan", "[I"), (RX9, 172, RX0, "plan", "[I"), (RX7, 134, RX0, "read", "[I"), (RX9, 175, RX0, "read", "[I"), (RX7, 107, RX0, "hole", "[I"), (RX9, 178, RX0, "hole", "[I"), (RX9, 181, RX0, "done", "[I"), (RX7, 168, RX0, "done", "[I"), (RX9, 223, RX0, "batmen", "I"), (RX4, 141, RX0, "batmen", "I"), (RX9, 205, RX0, "batSide", "[I"), (RX4, 168, RX0, "batSide", "[I"), (RX9, 208, RX0, "care", "[I"), (RX7, 114, RX0, "wear", "[I"), (RX9, 211, RX0, "wear", "[I"), (RX7, 174, RX0, "line", "I"), (RX9, 226, RX0, "line", "I"), (RX7, 101, RX0, "won", "I"), (RX9, 229, RX0, "won", "I"), (RX9, 92, RX0, "day", "I"), (RX7, 94, RX0, "day", "I"), (RX9, 47, RX0, "draws", "I"), (RX7, 71, RX6, "rows", "I"), (RX8, 7, RX6, "rows", "I"), (RX2, 9, RX6, "rows", "I"), (RX1, 35, RX6, "rows", "I"), (RX9, 79, RX6, "rows", "I"), (RX4, 108, RX6, "rows", "I"), (RX9, 124, RX1, "lines", "LSlipperTruce$Table;"), (RX4, 120, RX1, "lines", "LSlipperTruce$Table;"), (RX4, 105, RX1, "code", "LSlipperTruce$Table;"), (RX9, 44, RX7, "front", "LSlipperTruce$Front;"), (RX3, 39, RX7, "front", "LSlipperTruce$Front;"), (RX3, 45, RX7, "book", "LSlipperTruce$Table;"), (RX9, 75, RX7, "book", "LSlipperTruce$Table;"), (RX9, 113, RX7, "law", "LSlipperTruce$Law;"), (RX9, 131, RX7, "orders", "LSlipperTruce$Table;"), (RX9, 142, RX7, "service", "LSlipperTruce$Table;"), (RX9, 145, RX7, "needs", "LSlipperTruce$Table;"), (RX9, 247, RX7, "guesses", "LSlipperTruce$Table;"), (RX9, 269, RX7, "letters", "LSlipperTruce$Table;"), (RX9, 272, RX7, "key", "LSlipperTruce$Table;"), (RX9, 284, RX7, "bits", "LSlipperTruce$Table;"), (RX9, 297, RX7, "queens", "LSlipperTruce$Table;"), (RX9, 308, RX7, "corners", "LSlipperTruce$Table;"), (RX9, 236, RX3, "count", "I"), (RX9, 99, RX4, "length", "I"), (RX9, 153, RX4, "fault", "I"), (RX9, 156, RX4, "faultPlace", "I"), (RX9, 117, RX4, "law", "LSlipperTruce$Law;"), (RX9, 148, RX4, "rows", "LSlipperTruce$Table;")]
def am_nest (U : State) : Prop := (∀ q ∈ am_nl, va_Nw (.methodLinkNest q.1 q.2.1 q.2.2 RX9) U) ∧ ∀ q ∈ am_nf, va_Nw (.fieldLinkNest q.1 q.2.1 q.2.2.1 q.2.2.2.1 q.2.2.2.2 RX9) U
theorem am_nest.warm {s U : State} (h : am_nest s) (hW : s.WarmedH U.vm) : am_nest U := ⟨fun q hq => va_Nw.warmM hW (h.1 q hq), fun q hq => va_Nw.warmF hW (h.2 q hq)⟩
theorem am_nest.same {s U : State} (h : am_nest s) (hW : s.vm = U.vm) : am_nest U := ⟨fun q hq => va_Nw.same rfl hW (h.1 q hq), fun q hq => va_Nw.same rfl hW (h.2 q hq)⟩
def am_text : String := "presses rests reads when or and not skill sleep plan hole care wear line side done day on march sole new truce officer batman needs "
def am_bytes : List Int32 := am_text.toList.map (fun c => Int32.ofNat c.toNat)
def am_sf (b0 : Nat) (adK adV : Nat → Nat) (U : State) : Prop := vk_S 1 [132] [am_bytes] adK adV (fun q => b0 ≤ q) U U.heap ∧ va_Z "java/lang/String" "COMPACT_STRINGS" "Z" (.int 1) (fun q => b0 ≤ q) U U.heap ∧ va_Zq "jdk/internal/util/Preconditions" "SIOOBE_FORMATTER" "Ljava/util/function/BiFunction;" (fun q => b0 ≤ q) U U.heap
theorem am_sf.move {b0 : Nat} {adK adV : Nat → Nat} {s U : State} (h : am_sf b0 adK adV s) (hW : s.vm.Alike U.vm) (hq : ∀ a : Nat, a < s.heap.size → ¬ (b0 ≤ a) → U.heap[a]? = s.heap[a]?) : am_sf b0 adK adV U :=
  ⟨(h.1.moved hW).kept hq, (h.2.1.moved hW).kept hq, (h.2.2.moved hW).kept hq⟩
def am_sx (b0 : Nat) (U : State) : Prop := ∃ adK adV : Nat → Nat, vk_R RX4 70 am_text (adK 0) U ∧ am_sf b0 adK adV U
theorem am_sx.move {b0 : Nat} {s U : State} (h : am_sx b0 s) (hW : s.WarmedH U.vm) (hq : ∀ a : Nat, a < s.heap.size → ¬ (b0 ≤ a) → U.heap[a]? = s.heap[a]?) : am_sx b0 U := by
  obtain ⟨adK, adV, h1, h2⟩ := h
  exact ⟨adK, adV, h1.warm hW, h2.move hW.alike hq⟩
theorem am_sx.same {b0 : Nat} {s U : State} (h : am_sx b0 s) (hv : U.vm = s.vm) (hh : U.heap = s.heap) : am_sx b0 U := by
  obtain ⟨adK, adV, h1, h2⟩ := h
  exact ⟨adK, adV, vk_R.same hv h1, h2.move (by rw [hv]; exact Vm.Alike.refl _) (fun a _ _ => by rw [hh])⟩
/-- all that is fixed while a method runs -/
abbrev am_T : Type := Program × Launch × Env × Room × State × MethodId × Array Value × List Frame × Method × Code × am_L × va_G × ClassId × ClassId × Nat × (Nat → Nat) × va_W × Nat × Nat × (State → Prop)
def am_lay (G : am_T) : am_L := G.2.2.2.2.2.2.2.2.2.2.1
def am_b0 (G : am_T) : Nat := G.2.2.2.2.2.2.2.2.2.2.2.2.2.2.1
def am_b (G : am_T) : Nat → Nat := G.2.2.2.2.2.2.2.2.2.2.2.2.2.2.2.1
def am_room (G : am_T) : Room := G.2.2.2.1
def am_l (G : am_T) : Launch := G.2.1
def am_K (G : am_T) (nL : Nat) (pc : Nat) (lv : List (Nat × Value)) (st : List Value) (σ : am_SS) : Prop := match G with
  | (p, l, e, R, s, m, args, below, meth, c, Λ, D, cI, cF, b0, b, X, cells, slots, Q) => ∀ (H : Heap) (locs : List Loc) (ls : Array Slot), va_P D vwCl (am_W Λ cI cF b X σ) H → va_D (fun q => b0 ≤ q) (am_W Λ cI cF b X σ) → va_S (fun q => b0 ≤ q) s.heap H locs → lv_has ls nL lv → W p l e R s m args below meth c H locs cells slots Q (F0 m pc ls st)
def am_C (G : am_T) (cc : ByteArray) (nL : Nat) (own : String) (Λ0 : am_L) (d0 : Nat) : Prop := match G with
  | (p, l, e, R, s, m, args, below, meth, c, Λ, D, cI, cF, b0, b, X, cells, slots, Q) => CallFix p m c cc nL s args am_WL own ∧ va_K D vwCl (am_tys cI cF) s ∧ meth.locks = false ∧ b0 ≤ s.heap.size ∧ am_nest s ∧ am_sx b0 s ∧ Λ = Λ0 ∧ d0 ≤ R.frames ∧ 60 * d0 ≤ R.locals ∧ cells ≤ R.cells ∧ slots ≤ R.slots
def am_rd (σ : am_SS) (a n : Nat) (i : Int32) : Option Int32 := if i < 0 ∨ n ≤ i.toNatClampNeg then none else some (σ a i.toNatClampNeg)
def am_wr (σ : am_SS) (a n : Nat) (i v : Int32) : Option am_SS := if i < 0 ∨ n ≤ i.toNatClampNeg then none else some (am_up σ a i.toNatClampNeg v)
theorem am_rd_some {σ : am_SS} {a n : Nat} {i x : Int32} (h : am_rd σ a n i = some x) : vp_in i n ∧ σ a i.toNatClampNeg = x := by
  unfold am_rd at h
  by_cases q : i < 0 ∨ n ≤ i.toNatClampNeg
  · rw [if_pos q] at h; cases h
  · rw [if_neg q] at h; exact ⟨q, Option.some.inj h⟩
theorem am_wr_some {σ σ' : am_SS} {a n : Nat} {i v : Int32} (h : am_wr σ a n i v = some σ') : vp_in i n ∧ am_up σ a i.toNatClampNeg v = σ' := by
  unfold am_wr at h
  by_cases q : i < 0 ∨ n ≤ i.toNatClampNeg
  · rw [if_pos q] at h; cases h
  · rw [if_neg q] at h; exact ⟨q, Option.some.inj h⟩
/-- bind, and what it tells -/
theorem am_bind {α β : Type} {x : Option α} {f : α → Option β} {r : β} (h : x.bind f = some r) : ∃ y, x = some y ∧ f y = some r := by
  cases x with
  | none => cases h
  | some y => exact ⟨y, rfl, h⟩
theorem am_ip {α : Sort _} {P : Prop} [Decidable P] {x y r : α} (h : (if P then x else y) = r) (c : P) : x = r := by rwa [if_pos c] at h
theorem am_in {α : Sort _} {P : Prop} [Decidable P] {x y r : α} (h : (if P then x else y) = r) (c : ¬ P) : y = r := by rwa [if_neg c] at h
theorem am_gd {α : Type} {P : Prop} [Decidable P] {y : Option α} {z : α} (h : (if P then none else y) = some z) : ¬ P ∧ y = some z := by
  by_cases c : P
  · rw [if_pos c] at h; cases h
  · rw [if_neg c] at h; exact ⟨c, h⟩
def am_let {α β : Type} (v : α) (f : α → β) : β := f v
theorem am_lt {α β : Type} {v : α} {f : α → β} {r : β} (h : am_let v f = r) : ∃ x, v = x ∧ f x = r := ⟨v, rfl, h⟩
def am_put (lv : List (Nat × Value)) (i : Nat) (v : Value) : List (Nat × Value) := if lv.any (fun q => q.1 == i) then lv.map (fun q => if q.1 = i then (i, v) else q) else lv ++ [(i, v)]
theorem am_put_has {ls ls' : Array Slot} {nL i : Nat} {v : Value} {lv : List (Nat × Value)} {f : Nat × Value → Bool} (h : lv_has ls' nL ((i, v) :: lv.filter f)) (hf : ∀ q ∈ lv, q.1 ≠ i → f q = true) : lv_has ls' nL (am_put lv i v) := by
  refine ⟨h.1, h.2.1, fun q hq => ?_⟩
  have h0 := h.2.2 (i, v) List.mem_cons_self
  have h1 : ∀ q ∈ lv, q.1 ≠ i → ls'[q.1]? = some (.val q.2) := fun q hq hn => h.2.2 q (List.mem_cons_of_mem _ (List.mem_filter.mpr ⟨hq, hf q hq hn⟩))
  unfold am_put at hq
  by_cases hc : lv.any (fun q => q.1 == i) = true
  · rw [if_pos hc] at hq
    obtain ⟨z, hz, rfl⟩ := List.mem_map.mp hq
    by_cases hi : z.1 = i
    · rw [if_pos hi]; exact h0
    · rw [if_neg hi]; exact h1 z hz hi
  · rw [if_neg hc] at hq
    rcases List.mem_append.mp hq with hq | hq
    · refine h1 q hq (fun e => hc ?_)
      exact List.any_eq_true.mpr ⟨q, hq, by simp [e]⟩
    · rw [List.mem_singleton.mp hq]; exact h0
theorem am_sub {G : am_T} {nL pc : Nat} {lv lv' : List (Nat × Value)} {st : List Value} {σ : am_SS} (ks : List Nat) (hl : lv_pick lv ks = lv') (k : am_K G nL pc lv' st σ) : am_K G nL pc lv st σ := by
  obtain ⟨p, l, e, R, s, m, args, below, meth, c, Λ, D, cI, cF, b0, b, X, cells, slots, Q⟩ := G
  exact fun H locs ls hP hD hS hl1 => k H locs ls hP hD hS (lv_sub hl1 ks hl)

theorem am_iload_n {G : am_T} {cc : ByteArray} {nL : Nat} {own : String} {Λ0 : am_L} {d0 : Nat} (C0 : am_C G cc nL own Λ0 d0) {pc : Nat} {lv : List (Nat × Value)} {st : List Value} {σ : am_SS} {k : Fin 4} {x : Int32} (hdg : decode cc pc = .ok (.iload_n k, 1)) (j : Nat) (hj : lv[j]? = some ((k : Nat), .int x)) (kk : am_K G nL (pc + 1) lv (.int x :: st) σ) : am_K G nL (pc) lv (st) σ := by
  obtain ⟨p, l, e, R, s, m, args, below, meth, c, Λ, D, cI, cF, b0, b, X, cells, slots, Q⟩ := G
  obtain ⟨⟨hx, hb, hml, hown, hts⟩, hK, hlk, hb0, hnt, hsx, rfl, hR1, hR2, hR3, hR4⟩ := C0
  intro H locs ls hP hD hS hl
  exact lv_iload_n hx hb hdg rfl (lv_at hl j hj) (kk H locs ls hP hD hS hl)
theorem am_lload_n {G : am_T} {cc : ByteArray} {nL : Nat} {own : String} {Λ0 : am_L} {d0 : Nat} (C0 : am_C G cc nL own Λ0 d0) {pc : Nat} {lv : List (Nat × Value)} {st : List Value} {σ : am_SS} {k : Fin 4} {x : Int64} (hdg : decode cc pc = .ok (.lload_n k, 1)) (j : Nat) (hj : lv[j]? = some ((k : Nat), .long x)) (kk : am_K G nL (pc + 1) lv (.long x :: st) σ) : am_K G nL (pc) lv (st) σ := by
  obtain ⟨p, l, e, R, s, m, args, below, meth, c, Λ, D, cI, cF, b0, b, X, cells, slots, Q⟩ := G
  obtain ⟨⟨hx, hb, hml, hown, hts⟩, hK, hlk, hb0, hnt, hsx, rfl, hR1, hR2, hR3, hR4⟩ := C0
  intro H locs ls hP hD hS hl
  exact lv_lload_n hx hb hdg rfl (lv_at hl j hj) (kk H locs ls hP hD hS hl)
theorem am_aload_n {G : am_T} {cc : ByteArray} {nL : Nat} {own : String} {Λ0 : am_L} {d0 : Nat} (C0 : am_C G cc nL own Λ0 d0) {pc : Nat} {lv : List (Nat × Value)} {st : List Value} {σ : am_SS} {k : Fin 4} {x : Nat} (hdg : decode cc pc = .ok (.aload_n k, 1)) (j : Nat) (hj : lv[j]? = some ((k : Nat), .ref x)) (kk : am_K G nL (pc + 1) lv (.ref x :: st) σ) : am_K G nL (pc) lv (st) σ := by
  obtain ⟨p, l, e, R, s, m, args, below, meth, c, Λ, D, cI, cF, b0, b, X, cells, slots, Q⟩ := G
  obtain ⟨⟨hx, hb, hml, hown, hts⟩, hK, hlk, hb0, hnt, hsx, rfl, hR1, hR2, hR3, hR4⟩ := C0
  intro H locs ls hP hD hS hl
  exact lv_aload_n hx hb hdg rfl (lv_at hl j hj) (kk H locs ls hP hD hS hl)
theorem am_iload {G : am_T} {cc : ByteArray} {nL : Nat} {own : String} {Λ0 : am_L} {d0 : Nat} (C0 : am_C G cc nL own Λ0 d0) {pc : Nat} {lv : List (Nat × Value)} {st : List Value} {σ : am_SS} {i : Nat} {x : Int32} (hdg : decode cc pc = .ok (.iload i, 2)) (j : Nat) (hj : lv[j]? = some (i, .int x)) (kk : am_K G nL (pc + 2) lv (.int x :: st) σ) : am_K G nL (pc) lv (st) σ := by
  obtain ⟨p, l, e, R, s, m, args, below, meth, c, Λ, D, cI, cF, b0, b, X, cells, slots, Q⟩ := G
  obtain ⟨⟨hx, hb, hml, hown, hts⟩, hK, hlk, hb0, hnt, hsx, rfl, hR1, hR2, hR3, hR4⟩ := C0
  intro H locs ls hP hD hS hl
  exact lv_iload hx hb hdg (lv_at hl j hj) (kk H locs ls hP hD hS hl)
theorem am_lload {G : am_T} {cc : ByteArray} {nL : Nat} {own : String} {Λ0 : am_L} {d0 : Nat} (C0 : am_C G cc nL own Λ0 d0) {pc : Nat} {lv : List (Nat × Value)} {st : List Value} {σ : am_SS} {i : Nat} {x : Int64} (hdg : decode cc pc = .ok (.lload i, 2)) (j : Nat) (hj : lv[j]? = some (i, .long x)) (kk : am_K G nL (pc + 2) lv (.long x :: st) σ) : am_K G nL (pc) lv (st) σ := by
  obtain ⟨p, l, e, R, s, m, args, below, meth, c, Λ, D, cI, cF, b0, b, X, cells, slots, Q⟩ := G
  obtain ⟨⟨hx, hb, hml, hown, hts⟩, hK, hlk, hb0, hnt, hsx, rfl, hR1, hR2, hR3, hR4⟩ := C0
  intro H locs ls hP hD hS hl
  exact lv_lload hx hb hdg (lv_at hl j hj) (kk H locs ls hP hD hS hl)
theorem am_aload {G : am_T} {cc : ByteArray} {nL : Nat} {own : String} {Λ0 : am_L} {d0 : Nat} (C0 : am_C G cc nL own Λ0 d0) {pc : Nat} {lv : List (Nat × Value)} {st : List Value} {σ : am_SS} {i : Nat} {x : Nat} (hdg : decode cc pc = .ok (.aload i, 2)) (j : Nat) (hj : lv[j]? = some (i, .ref x)) (kk : am_K G nL (pc + 2) lv (.ref x :: st) σ) : am_K G nL (pc) lv (st) σ := by
  obtain ⟨p, l, e, R, s, m, args, below, meth, c, Λ, D, cI, cF, b0, b, X, cells, slots, Q⟩ := G
  obtain ⟨⟨hx, hb, hml, hown, hts⟩, hK, hlk, hb0, hnt, hsx, rfl, hR1, hR2, hR3, hR4⟩ := C0
  intro H locs ls hP hD hS hl
  exact lv_aload hx hb hdg (lv_at hl j hj) (kk H locs ls hP hD hS hl)
theorem am_istore_n {G : am_T} {cc : ByteArray} {nL : Nat} {own : String} {Λ0 : am_L} {d0 : Nat} (C0 : am_C G cc nL own Λ0 d0) {pc : Nat} {lv : List (Nat × Value)} {st : List Value} {σ : am_SS} {k : Fin 4} {i : Nat} {x : Int32} (hdg : decode cc pc = .ok (.istore_n k, 1)) (hi : (k : Nat) = i) (hn : i < nL) (hc : lv.all (fun q => !(q.1 + 1 == i && q.2.category == 2)) = true) {lv' : List (Nat × Value)} (hp : am_put lv i (.int x) = lv') (kk : am_K G nL (pc + 1) lv' (st) σ) : am_K G nL (pc) lv (.int x :: st) σ := by
  obtain ⟨p, l, e, R, s, m, args, below, meth, c, Λ, D, cI, cF, b0, b, X, cells, slots, Q⟩ := G
  obtain ⟨⟨hx, hb, hml, hown, hts⟩, hK, hlk, hb0, hnt, hsx, rfl, hR1, hR2, hR3, hR4⟩ := C0
  intro H locs ls hP hD hS hl
  refine lv_istore_n hx hb hdg hi hl hn rfl (fun ls1 hl1 => kk H locs ls1 hP hD hS ?_)
  rw [← hp]
  refine am_put_has (ls := ls) hl1 (fun q hq hne => ?_)
  have h2 := List.all_eq_true.mp hc q hq
  have h3 : (q.1 == i) = false := by simp [hne]
  simp only [h3, Bool.not_false, Bool.true_and]
  exact h2
theorem am_istore {G : am_T} {cc : ByteArray} {nL : Nat} {own : String} {Λ0 : am_L} {d0 : Nat} (C0 : am_C G cc nL own Λ0 d0) {pc : Nat} {lv : List (Nat × Value)} {st : List Value} {σ : am_SS} {i : Nat} {x : Int32} (hdg : decode cc pc = .ok (.istore i, 2)) (hn : i < nL) (hc : lv.all (fun q => !(q.1 + 1 == i && q.2.category == 2)) = true) {lv' : List (Nat × Value)} (hp : am_put lv i (.int x) = lv') (kk : am_K G nL (pc + 2) lv' (st) σ) : am_K G nL (pc) lv (.int x :: st) σ := by
  obtain ⟨p, l, e, R, s, m, args, below, meth, c, Λ, D, cI, cF, b0, b, X, cells, slots, Q⟩ := G
  obtain ⟨⟨hx, hb, hml, hown, hts⟩, hK, hlk, hb0, hnt, hsx, rfl, hR1, hR2, hR3, hR4⟩ := C0
  intro H locs ls hP hD hS hl
  refine lv_istore hx hb hdg hl hn rfl (fun ls1 hl1 => kk H locs ls1 hP hD hS ?_)
  rw [← hp]
  refine am_put_has (ls := ls) hl1 (fun q hq hne => ?_)
  have h2 := List.all_eq_true.mp hc q hq
  have h3 : (q.1 == i) = false := by simp [hne]
  simp only [h3, Bool.not_false, Bool.true_and]
  exact h2
theorem am_astore_n {G : am_T} {cc : ByteArray} {nL : Nat} {own : String} {Λ0 : am_L} {d0 : Nat} (C0 : am_C G cc nL own Λ0 d0) {pc : Nat} {lv : List (Nat × Value)} {st : List Value} {σ : am_SS} {k : Fin 4} {i : Nat} {x : Nat} (hdg : decode cc pc = .ok (.astore_n k, 1)) (hi : (k : Nat) = i) (hn : i < nL) (hc : lv.all (fun q => !(q.1 + 1 == i && q.2.category == 2)) = true) {lv' : List (Nat × Value)} (hp : am_put lv i (.ref x) = lv') (kk : am_K G nL (pc + 1) lv' (st) σ) : am_K G nL (pc) lv (.ref x :: st) σ := by
  obtain ⟨p, l, e, R, s, m, args, below, meth, c, Λ, D, cI, cF, b0, b, X, cells, slots, Q⟩ := G
  obtain ⟨⟨hx, hb, hml, hown, hts⟩, hK, hlk, hb0, hnt, hsx, rfl, hR1, hR2, hR3, hR4⟩ := C0
  intro H locs ls hP hD hS hl
  refine lv_astore_n hx hb hdg hi hl hn rfl (fun ls1 hl1 => kk H locs ls1 hP hD hS ?_)
  rw [← hp]
  refine am_put_has (ls := ls) hl1 (fun q hq hne => ?_)
  have h2 := List.all_eq_true.mp hc q hq
  have h3 : (q.1 == i) = false := by simp [hne]
  simp only [h3, Bool.not_false, Bool.true_and]
  exact h2
theorem am_astore {G : am_T} {cc : ByteArray} {nL : Nat} {own : String} {Λ0 : am_L} {d0 : Nat} (C0 : am_C G cc nL own Λ0 d0) {pc : Nat} {lv : List (Nat × Value)} {st : List Value} {σ : am_SS} {i : Nat} {x : Nat} (hdg : decode cc pc = .ok (.astore i, 2)) (hn : i < nL) (hc : lv.all (fun q => !(q.1 + 1 == i && q.2.category == 2)) = true) {lv' : List (Nat × Value)} (hp : am_put lv i (.ref x) = lv') (kk : am_K G nL (pc + 2) lv' (st) σ) : am_K G nL (pc) lv (.ref x :: st) σ := by
  obtain ⟨p, l, e, R, s, m, args, below, meth, c, Λ, D, cI, cF, b0, b, X, cells, slots, Q⟩ := G
  obtain ⟨⟨hx, hb, hml, hown, hts⟩, hK, hlk, hb0, hnt, hsx, rfl, hR1, hR2, hR3, hR4⟩ := C0
  intro H locs ls hP hD hS hl
  refine lv_astore hx hb hdg hl hn rfl (fun ls1 hl1 => kk H locs ls1 hP hD hS ?_)
  rw [← hp]
  refine am_put_has (ls := ls) hl1 (fun q hq hne => ?_)
  have h2 := List.all_eq_true.mp hc q hq
  have h3 : (q.1 == i) = false := by simp [hne]
  simp only [h3, Bool.not_false, Bool.true_and]
  exact h2
theorem am_lstore_n {G : am_T} {cc : ByteArray} {nL : Nat} {own : String} {Λ0 : am_L} {d0 : Nat} (C0 : am_C G cc nL own Λ0 d0) {pc : Nat} {lv : List (Nat × Value)} {st : List Value} {σ : am_SS} {k : Fin 4} {i : Nat} {x : Int64} (hdg : decode cc pc = .ok (.lstore_n k, 1)) (hi : (k : Nat) = i) (hn : i + 1 < nL) (hc : lv.all (fun q => !(q.1 == i + 1) && !(q.1 + 1 == i && q.2.category == 2)) = true) {lv' : List (Nat × Value)} (hp : am_put lv i (.long x) = lv') (kk : am_K G nL (pc + 1) lv' (st) σ) : am_K G nL (pc) lv (.long x :: st) σ := by
  obtain ⟨p, l, e, R, s, m, args, below, meth, c, Λ, D, cI, cF, b0, b, X, cells, slots, Q⟩ := G
  obtain ⟨⟨hx, hb, hml, hown, hts⟩, hK, hlk, hb0, hnt, hsx, rfl, hR1, hR2, hR3, hR4⟩ := C0
  intro H locs ls hP hD hS hl
  refine lv_lstore_n hx hb hdg hi hl hn rfl (fun ls1 hl1 => kk H locs ls1 hP hD hS ?_)
  rw [← hp]
  refine am_put_has (ls := ls) hl1 (fun q hq hne => ?_)
  have h2 := List.all_eq_true.mp hc q hq
  have h3 : (q.1 == i) = false := by simp [hne]
  simp only [h3, Bool.not_false, Bool.true_and]
  exact h2
theorem am_lstore {G : am_T} {cc : ByteArray} {nL : Nat} {own : String} {Λ0 : am_L} {d0 : Nat} (C0 : am_C G cc nL own Λ0 d0) {pc : Nat} {lv : List (Nat × Value)} {st : List Value} {σ : am_SS} {i : Nat} {x : Int64} (hdg : decode cc pc = .ok (.lstore i, 2)) (hn : i + 1 < nL) (hc : lv.all (fun q => !(q.1 == i + 1) && !(q.1 + 1 == i && q.2.category == 2)) = true) {lv' : List (Nat × Value)} (hp : am_put lv i (.long x) = lv') (kk : am_K G nL (pc + 2) lv' (st) σ) : am_K G nL (pc) lv (.long x :: st) σ := by
  obtain ⟨p, l, e, R, s, m, args, below, meth, c, Λ, D, cI, cF, b0, b, X, cells, slots, Q⟩ := G
  obtain ⟨⟨hx, hb, hml, hown, hts⟩, hK, hlk, hb0, hnt, hsx, rfl, hR1, hR2, hR3, hR4⟩ := C0
  intro H locs ls hP hD hS hl
  refine lv_lstore hx hb hdg hl hn rfl (fun ls1 hl1 => kk H locs ls1 hP hD hS ?_)
  rw [← hp]
  refine am_put_has (ls := ls) hl1 (fun q hq hne => ?_)
  have h2 := List.all_eq_true.mp hc q hq
  have h3 : (q.1 == i) = false := by simp [hne]
  simp only [h3, Bool.not_false, Bool.true_and]
  exact h2
theorem am_iinc {G : am_T} {cc : ByteArray} {nL : Nat} {own : String} {Λ0 : am_L} {d0 : Nat} (C0 : am_C G cc nL own Λ0 d0) {pc : Nat} {lv : List (Nat × Value)} {st : List Value} {σ : am_SS} {i : Nat} {n : Int} {x v : Int32} (hdg : decode cc pc = .ok (.iinc i n, 3)) (j : Nat) (hj : lv[j]? = some (i, .int x)) (hv : x + Int32.ofInt n = v) (hn : i < nL) (hc : lv.all (fun q => !(q.1 + 1 == i && q.2.category == 2)) = true) {lv' : List (Nat × Value)} (hp : am_put lv i (.int v) = lv') (kk : am_K G nL (pc + 3) lv' (st) σ) : am_K G nL (pc) lv (st) σ := by
  obtain ⟨p, l, e, R, s, m, args, below, meth, c, Λ, D, cI, cF, b0, b, X, cells, slots, Q⟩ := G
  obtain ⟨⟨hx, hb, hml, hown, hts⟩, hK, hlk, hb0, hnt, hsx, rfl, hR1, hR2, hR3, hR4⟩ := C0
  intro H locs ls hP hD hS hl
  refine lv_iinc hx hb hdg hl (k := j) hj hv hn rfl (fun ls1 hl1 => kk H locs ls1 hP hD hS ?_)
  rw [← hp]
  refine am_put_has (ls := ls) hl1 (fun q hq hne => ?_)
  have h2 := List.all_eq_true.mp hc q hq
  have h3 : (q.1 == i) = false := by simp [hne]
  simp only [h3, Bool.not_false, Bool.true_and]
  exact h2
theorem am_iconst {G : am_T} {cc : ByteArray} {nL : Nat} {own : String} {Λ0 : am_L} {d0 : Nat} (C0 : am_C G cc nL own Λ0 d0) {pc : Nat} {lv : List (Nat × Value)} {st : List Value} {σ : am_SS} {n : Int} {v : Int32} (hdg : decode cc pc = .ok (.iconst n, 1)) (hv : Int32.ofInt n = v) (kk : am_K G nL (pc + 1) lv (.int v :: st) σ) : am_K G nL (pc) lv (st) σ := by
  obtain ⟨p, l, e, R, s, m, args, below, meth, c, Λ, D, cI, cF, b0, b, X, cells, slots, Q⟩ := G
  obtain ⟨⟨hx, hb, hml, hown, hts⟩, hK, hlk, hb0, hnt, hsx, rfl, hR1, hR2, hR3, hR4⟩ := C0
  intro H locs ls hP hD hS hl
  exact lv_iconst hx hb hdg hv (kk H locs ls hP hD hS hl)
theorem am_bipush {G : am_T} {cc : ByteArray} {nL : Nat} {own : String} {Λ0 : am_L} {d0 : Nat} (C0 : am_C G cc nL own Λ0 d0) {pc : Nat} {lv : List (Nat × Value)} {st : List Value} {σ : am_SS} {n : Int} {v : Int32} (hdg : decode cc pc = .ok (.bipush n, 2)) (hv : (Int8.ofInt n).toInt32 = v) (kk : am_K G nL (pc + 2) lv (.int v :: st) σ) : am_K G nL (pc) lv (st) σ := by
  obtain ⟨p, l, e, R, s, m, args, below, meth, c, Λ, D, cI, cF, b0, b, X, cells, slots, Q⟩ := G
  obtain ⟨⟨hx, hb, hml, hown, hts⟩, hK, hlk, hb0, hnt, hsx, rfl, hR1, hR2, hR3, hR4⟩ := C0
  intro H locs ls hP hD hS hl
  exact lv_bipush hx hb hdg hv (kk H locs ls hP hD hS hl)
theorem am_sipush {G : am_T} {cc : ByteArray} {nL : Nat} {own : String} {Λ0 : am_L} {d0 : Nat} (C0 : am_C G cc nL own Λ0 d0) {pc : Nat} {lv : List (Nat × Value)} {st : List Value} {σ : am_SS} {n : Int} {v : Int32} (hdg : decode cc pc = .ok (.sipush n, 3)) (hv : (Int16.ofInt n).toInt32 = v) (kk : am_K G nL (pc + 3) lv (.int v :: st) σ) : am_K G nL (pc) lv (st) σ := by
  obtain ⟨p, l, e, R, s, m, args, below, meth, c, Λ, D, cI, cF, b0, b, X, cells, slots, Q⟩ := G
  obtain ⟨⟨hx, hb, hml, hown, hts⟩, hK, hlk, hb0, hnt, hsx, rfl, hR1, hR2, hR3, hR4⟩ := C0
  intro H locs ls hP hD hS hl
  exact lv_sipush hx hb hdg hv (kk H locs ls hP hD hS hl)
theorem am_ldc {G : am_T} {cc : ByteArray} {nL : Nat} {own : String} {Λ0 : am_L} {d0 : Nat} (C0 : am_C G cc nL own Λ0 d0) {pc : Nat} {lv : List (Nat × Value)} {st : List Value} {σ : am_SS} {i : Nat} {v : Int32} (hc : Jvm.Cond.constant own i v ∈ am_WL) (hdg : decode cc pc = .ok (.ldc i, 2)) (kk : am_K G nL (pc + 2) lv (.int v :: st) σ) : am_K G nL (pc) lv (st) σ := by
  obtain ⟨p, l, e, R, s, m, args, below, meth, c, Λ, D, cI, cF, b0, b, X, cells, slots, Q⟩ := G
  obtain ⟨⟨hx, hb, hml, hown, hts⟩, hK, hlk, hb0, hnt, hsx, rfl, hR1, hR2, hR3, hR4⟩ := C0
  intro H locs ls hP hD hS hl
  exact lv_ldc hx hb hown (hts _ hc) hdg (kk H locs ls hP hD hS hl)
theorem am_ldcw {G : am_T} {cc : ByteArray} {nL : Nat} {own : String} {Λ0 : am_L} {d0 : Nat} (C0 : am_C G cc nL own Λ0 d0) {pc : Nat} {lv : List (Nat × Value)} {st : List Value} {σ : am_SS} {i : Nat} {v : Int32} (hc : Jvm.Cond.constant own i v ∈ am_WL) (hdg : decode cc pc = .ok (.ldc_w i, 3)) (kk : am_K G nL (pc + 3) lv (.int v :: st) σ) : am_K G nL (pc) lv (st) σ := by
  obtain ⟨p, l, e, R, s, m, args, below, meth, c, Λ, D, cI, cF, b0, b, X, cells, slots, Q⟩ := G
  obtain ⟨⟨hx, hb, hml, hown, hts⟩, hK, hlk, hb0, hnt, hsx, rfl, hR1, hR2, hR3, hR4⟩ := C0
  intro H locs ls hP hD hS hl
  exact lv_ldcw hx hb hown (hts _ hc) hdg (kk H locs ls hP hD hS hl)
theorem am_ldc2 {G : am_T} {cc : ByteArray} {nL : Nat} {own : String} {Λ0 : am_L} {d0 : Nat} (C0 : am_C G cc nL own Λ0 d0) {pc : Nat} {lv : List (Nat × Value)} {st : List Value} {σ : am_SS} {i : Nat} {v : Int64} (hc : Jvm.Cond.constantLong own i v ∈ am_WL) (hdg : decode cc pc = .ok (.ldc2_w i, 3)) (kk : am_K G nL (pc + 3) lv (.long v :: st) σ) : am_K G nL (pc) lv (st) σ := by
  obtain ⟨p, l, e, R, s, m, args, below, meth, c, Λ, D, cI, cF, b0, b, X, cells, slots, Q⟩ := G
  obtain ⟨⟨hx, hb, hml, hown, hts⟩, hK, hlk, hb0, hnt, hsx, rfl, hR1, hR2, hR3, hR4⟩ := C0
  intro H locs ls hP hD hS hl
  exact lv_ldc2 hx hb hown (hts _ hc) hdg (kk H locs ls hP hD hS hl)
theorem am_iadd {G : am_T} {cc : ByteArray} {nL : Nat} {own : String} {Λ0 : am_L} {d0 : Nat} (C0 : am_C G cc nL own Λ0 d0) {pc : Nat} {lv : List (Nat × Value)} {st : List Value} {σ : am_SS} {x y : Int32} (hdg : decode cc pc = .ok (.iadd, 1)) (kk : am_K G nL (pc + 1) lv (.int (x + y) :: st) σ) : am_K G nL (pc) lv (.int y :: .int x :: st) σ := by
  obtain ⟨p, l, e, R, s, m, args, below, meth, c, Λ, D, cI, cF, b0, b, X, cells, slots, Q⟩ := G
  obtain ⟨⟨hx, hb, hml, hown, hts⟩, hK, hlk, hb0, hnt, hsx, rfl, hR1, hR2, hR3, hR4⟩ := C0
  intro H locs ls hP hD hS hl
  exact lv_iadd hx hb hdg (kk H locs ls hP hD hS hl)
theorem am_isub {G : am_T} {cc : ByteArray} {nL : Nat} {own : String} {Λ0 : am_L} {d0 : Nat} (C0 : am_C G cc nL own Λ0 d0) {pc : Nat} {lv : List (Nat × Value)} {st : List Value} {σ : am_SS} {x y : Int32} (hdg : decode cc pc = .ok (.isub, 1)) (kk : am_K G nL (pc + 1) lv (.int (x - y) :: st) σ) : am_K G nL (pc) lv (.int y :: .int x :: st) σ := by
  obtain ⟨p, l, e, R, s, m, args, below, meth, c, Λ, D, cI, cF, b0, b, X, cells, slots, Q⟩ := G
  obtain ⟨⟨hx, hb, hml, hown, hts⟩, hK, hlk, hb0, hnt, hsx, rfl, hR1, hR2, hR3, hR4⟩ := C0
  intro H locs ls hP hD hS hl
  exact lv_isub hx hb hdg (kk H locs ls hP hD hS hl)
theorem am_imul {G : am_T} {cc : ByteArray} {nL : Nat} {own : String} {Λ0 : am_L} {d0 : Nat} (C0 : am_C G cc nL own Λ0 d0) {pc : Nat} {lv : List (Nat × Value)} {st : List Value} {σ : am_SS} {x y : Int32} (hdg : decode cc pc = .ok (.imul, 1)) (kk : am_K G nL (pc + 1) lv (.int (x * y) :: st) σ) : am_K G nL (pc) lv (.int y :: .int x :: st) σ := by
  obtain ⟨p, l, e, R, s, m, args, below, meth, c, Λ, D, cI, cF, b0, b, X, cells, slots, Q⟩ := G
  obtain ⟨⟨hx, hb, hml, hown, hts⟩, hK, hlk, hb0, hnt, hsx, rfl, hR1, hR2, hR3, hR4⟩ := C0
  intro H locs ls hP hD hS hl
  exact lv_imul hx hb hdg (kk H locs ls hP hD hS hl)
theorem am_iand {G : am_T} {cc : ByteArray} {nL : Nat} {own : String} {Λ0 : am_L} {d0 : Nat} (C0 : am_C G cc nL own Λ0 d0) {pc : Nat} {lv : List (Nat × Value)} {st : List Value} {σ : am_SS} {x y : Int32} (hdg : decode cc pc = .ok (.iand, 1)) (kk : am_K G nL (pc + 1) lv (.int (x &&& y) :: st) σ) : am_K G nL (pc) lv (.int y :: .int x :: st) σ := by
  obtain ⟨p, l, e, R, s, m, args, below, meth, c, Λ, D, cI, cF, b0, b, X, cells, slots, Q⟩ := G
  obtain ⟨⟨hx, hb, hml, hown, hts⟩, hK, hlk, hb0, hnt, hsx, rfl, hR1, hR2, hR3, hR4⟩ := C0
  intro H locs ls hP hD hS hl
  exact lv_iand hx hb hdg (kk H locs ls hP hD hS hl)
theorem am_ior {G : am_T} {cc : ByteArray} {nL : Nat} {own : String} {Λ0 : am_L} {d0 : Nat} (C0 : am_C G cc nL own Λ0 d0) {pc : Nat} {lv : List (Nat × Value)} {st : List Value} {σ : am_SS} {x y : Int32} (hdg : decode cc pc = .ok (.ior, 1)) (kk : am_K G nL (pc + 1) lv (.int (x ||| y) :: st) σ) : am_K G nL (pc) lv (.int y :: .int x :: st) σ := by
  obtain ⟨p, l, e, R, s, m, args, below, meth, c, Λ, D, cI, cF, b0, b, X, cells, slots, Q⟩ := G
  obtain ⟨⟨hx, hb, hml, hown, hts⟩, hK, hlk, hb0, hnt, hsx, rfl, hR1, hR2, hR3, hR4⟩ := C0
  intro H locs ls hP hD hS hl
  exact lv_ior hx hb hdg (kk H locs ls hP hD hS hl)
theorem am_ixor {G : am_T} {cc : ByteArray} {nL : Nat} {own : String} {Λ0 : am_L} {d0 : Nat} (C0 : am_C G cc nL own Λ0 d0) {pc : Nat} {lv : List (Nat × Value)} {st : List Value} {σ : am_SS} {x y : Int32} (hdg : decode cc pc = .ok (.ixor, 1)) (kk : am_K G nL (pc + 1) lv (.int (x ^^^ y) :: st) σ) : am_K G nL (pc) lv (.int y :: .int x :: st) σ := by
  obtain ⟨p, l, e, R, s, m, args, below, meth, c, Λ, D, cI, cF, b0, b, X, cells, slots, Q⟩ := G
  obtain ⟨⟨hx, hb, hml, hown, hts⟩, hK, hlk, hb0, hnt, hsx, rfl, hR1, hR2, hR3, hR4⟩ := C0
  intro H locs ls hP hD hS hl
  exact lv_ixor hx hb hdg (kk H locs ls hP hD hS hl)
theorem am_ishl {G : am_T} {cc : ByteArray} {nL : Nat} {own : String} {Λ0 : am_L} {d0 : Nat} (C0 : am_C G cc nL own Λ0 d0) {pc : Nat} {lv : List (Nat × Value)} {st : List Value} {σ : am_SS} {x y : Int32} (hdg : decode cc pc = .ok (.ishl, 1)) (kk : am_K G nL (pc + 1) lv (.int (x <<< (y &&& 31)) :: st) σ) : am_K G nL (pc) lv (.int y :: .int x :: st) σ := by
  obtain ⟨p, l, e, R, s, m, args, below, meth, c, Λ, D, cI, cF, b0, b, X, cells, slots, Q⟩ := G
  obtain ⟨⟨hx, hb, hml, hown, hts⟩, hK, hlk, hb0, hnt, hsx, rfl, hR1, hR2, hR3, hR4⟩ := C0
  intro H locs ls hP hD hS hl
  exact lv_ishl hx hb hdg (kk H locs ls hP hD hS hl)
theorem am_ishr {G : am_T} {cc : ByteArray} {nL : Nat} {own : String} {Λ0 : am_L} {d0 : Nat} (C0 : am_C G cc nL own Λ0 d0) {pc : Nat} {lv : List (Nat × Value)} {st : List Value} {σ : am_SS} {x y : Int32} (hdg : decode cc pc = .ok (.ishr, 1)) (kk : am_K G nL (pc + 1) lv (.int (x >>> (y &&& 31)) :: st) σ) : am_K G nL (pc) lv (.int y :: .int x :: st) σ := by
  obtain ⟨p, l, e, R, s, m, args, below, meth, c, Λ, D, cI, cF, b0, b, X, cells, slots, Q⟩ := G
  obtain ⟨⟨hx, hb, hml, hown, hts⟩, hK, hlk, hb0, hnt, hsx, rfl, hR1, hR2, hR3, hR4⟩ := C0
  intro H locs ls hP hD hS hl
  exact lv_ishr hx hb hdg (kk H locs ls hP hD hS hl)
theorem am_idiv {G : am_T} {cc : ByteArray} {nL : Nat} {own : String} {Λ0 : am_L} {d0 : Nat} (C0 : am_C G cc nL own Λ0 d0) {pc : Nat} {lv : List (Nat × Value)} {st : List Value} {σ : am_SS} {x y : Int32} (hdg : decode cc pc = .ok (.idiv, 1)) (hne : ¬ y = 0) (kk : am_K G nL (pc + 1) lv (.int (x / y) :: st) σ) : am_K G nL (pc) lv (.int y :: .int x :: st) σ := by
  obtain ⟨p, l, e, R, s, m, args, below, meth, c, Λ, D, cI, cF, b0, b, X, cells, slots, Q⟩ := G
  obtain ⟨⟨hx, hb, hml, hown, hts⟩, hK, hlk, hb0, hnt, hsx, rfl, hR1, hR2, hR3, hR4⟩ := C0
  intro H locs ls hP hD hS hl
  exact lv_idiv hx hb hdg hne (kk H locs ls hP hD hS hl)
theorem am_irem {G : am_T} {cc : ByteArray} {nL : Nat} {own : String} {Λ0 : am_L} {d0 : Nat} (C0 : am_C G cc nL own Λ0 d0) {pc : Nat} {lv : List (Nat × Value)} {st : List Value} {σ : am_SS} {x y : Int32} (hdg : decode cc pc = .ok (.irem, 1)) (hne : ¬ y = 0) (kk : am_K G nL (pc + 1) lv (.int (x % y) :: st) σ) : am_K G nL (pc) lv (.int y :: .int x :: st) σ := by
  obtain ⟨p, l, e, R, s, m, args, below, meth, c, Λ, D, cI, cF, b0, b, X, cells, slots, Q⟩ := G
  obtain ⟨⟨hx, hb, hml, hown, hts⟩, hK, hlk, hb0, hnt, hsx, rfl, hR1, hR2, hR3, hR4⟩ := C0
  intro H locs ls hP hD hS hl
  exact lv_irem hx hb hdg hne (by rw [irem_eq_mod]; exact kk H locs ls hP hD hS hl)
theorem am_iushr {G : am_T} {cc : ByteArray} {nL : Nat} {own : String} {Λ0 : am_L} {d0 : Nat} (C0 : am_C G cc nL own Λ0 d0) {pc : Nat} {lv : List (Nat × Value)} {st : List Value} {σ : am_SS} {x y : Int32} (hdg : decode cc pc = .ok (.iushr, 1)) (kk : am_K G nL (pc + 1) lv (.int ((x.toUInt32 >>> (y.toUInt32 &&& Int32.toUInt32 31)).toInt32) :: st) σ) : am_K G nL (pc) lv (.int y :: .int x :: st) σ := by
  obtain ⟨p, l, e, R, s, m, args, below, meth, c, Λ, D, cI, cF, b0, b, X, cells, slots, Q⟩ := G
  obtain ⟨⟨hx, hb, hml, hown, hts⟩, hK, hlk, hb0, hnt, hsx, rfl, hR1, hR2, hR3, hR4⟩ := C0
  intro H locs ls hP hD hS hl
  exact lv_iushr hx hb hdg rfl (kk H locs ls hP hD hS hl)
theorem am_ineg {G : am_T} {cc : ByteArray} {nL : Nat} {own : String} {Λ0 : am_L} {d0 : Nat} (C0 : am_C G cc nL own Λ0 d0) {pc : Nat} {lv : List (Nat × Value)} {st : List Value} {σ : am_SS} {x : Int32} (hdg : decode cc pc = .ok (.ineg, 1)) (kk : am_K G nL (pc + 1) lv (.int (-x) :: st) σ) : am_K G nL (pc) lv (.int x :: st) σ := by
  obtain ⟨p, l, e, R, s, m, args, below, meth, c, Λ, D, cI, cF, b0, b, X, cells, slots, Q⟩ := G
  obtain ⟨⟨hx, hb, hml, hown, hts⟩, hK, hlk, hb0, hnt, hsx, rfl, hR1, hR2, hR3, hR4⟩ := C0
  intro H locs ls hP hD hS hl
  exact lv_ineg hx hb hdg (kk H locs ls hP hD hS hl)
theorem am_i2l {G : am_T} {cc : ByteArray} {nL : Nat} {own : String} {Λ0 : am_L} {d0 : Nat} (C0 : am_C G cc nL own Λ0 d0) {pc : Nat} {lv : List (Nat × Value)} {st : List Value} {σ : am_SS} {x : Int32} (hdg : decode cc pc = .ok (.i2l, 1)) (kk : am_K G nL (pc + 1) lv (.long x.toInt64 :: st) σ) : am_K G nL (pc) lv (.int x :: st) σ := by
  obtain ⟨p, l, e, R, s, m, args, below, meth, c, Λ, D, cI, cF, b0, b, X, cells, slots, Q⟩ := G
  obtain ⟨⟨hx, hb, hml, hown, hts⟩, hK, hlk, hb0, hnt, hsx, rfl, hR1, hR2, hR3, hR4⟩ := C0
  intro H locs ls hP hD hS hl
  exact lv_i2l hx hb hdg rfl (kk H locs ls hP hD hS hl)
theorem am_l2i {G : am_T} {cc : ByteArray} {nL : Nat} {own : String} {Λ0 : am_L} {d0 : Nat} (C0 : am_C G cc nL own Λ0 d0) {pc : Nat} {lv : List (Nat × Value)} {st : List Value} {σ : am_SS} {x : Int64} (hdg : decode cc pc = .ok (.l2i, 1)) (kk : am_K G nL (pc + 1) lv (.int x.toInt32 :: st) σ) : am_K G nL (pc) lv (.long x :: st) σ := by
  obtain ⟨p, l, e, R, s, m, args, below, meth, c, Λ, D, cI, cF, b0, b, X, cells, slots, Q⟩ := G
  obtain ⟨⟨hx, hb, hml, hown, hts⟩, hK, hlk, hb0, hnt, hsx, rfl, hR1, hR2, hR3, hR4⟩ := C0
  intro H locs ls hP hD hS hl
  exact lv_l2i hx hb hdg rfl (kk H locs ls hP hD hS hl)
theorem am_lmul {G : am_T} {cc : ByteArray} {nL : Nat} {own : String} {Λ0 : am_L} {d0 : Nat} (C0 : am_C G cc nL own Λ0 d0) {pc : Nat} {lv : List (Nat × Value)} {st : List Value} {σ : am_SS} {x y : Int64} (hdg : decode cc pc = .ok (.lmul, 1)) (kk : am_K G nL (pc + 1) lv (.long (x * y) :: st) σ) : am_K G nL (pc) lv (.long y :: .long x :: st) σ := by
  obtain ⟨p, l, e, R, s, m, args, below, meth, c, Λ, D, cI, cF, b0, b, X, cells, slots, Q⟩ := G
  obtain ⟨⟨hx, hb, hml, hown, hts⟩, hK, hlk, hb0, hnt, hsx, rfl, hR1, hR2, hR3, hR4⟩ := C0
  intro H locs ls hP hD hS hl
  exact lv_lmul hx hb hdg (kk H locs ls hP hD hS hl)
theorem am_lsub {G : am_T} {cc : ByteArray} {nL : Nat} {own : String} {Λ0 : am_L} {d0 : Nat} (C0 : am_C G cc nL own Λ0 d0) {pc : Nat} {lv : List (Nat × Value)} {st : List Value} {σ : am_SS} {x y : Int64} (hdg : decode cc pc = .ok (.lsub, 1)) (kk : am_K G nL (pc + 1) lv (.long (x - y) :: st) σ) : am_K G nL (pc) lv (.long y :: .long x :: st) σ := by
  obtain ⟨p, l, e, R, s, m, args, below, meth, c, Λ, D, cI, cF, b0, b, X, cells, slots, Q⟩ := G
  obtain ⟨⟨hx, hb, hml, hown, hts⟩, hK, hlk, hb0, hnt, hsx, rfl, hR1, hR2, hR3, hR4⟩ := C0
  intro H locs ls hP hD hS hl
  exact lv_lsub hx hb hdg (kk H locs ls hP hD hS hl)
theorem am_ladd {G : am_T} {cc : ByteArray} {nL : Nat} {own : String} {Λ0 : am_L} {d0 : Nat} (C0 : am_C G cc nL own Λ0 d0) {pc : Nat} {lv : List (Nat × Value)} {st : List Value} {σ : am_SS} {x y : Int64} (hdg : decode cc pc = .ok (.ladd, 1)) (kk : am_K G nL (pc + 1) lv (.long (x + y) :: st) σ) : am_K G nL (pc) lv (.long y :: .long x :: st) σ := by
  obtain ⟨p, l, e, R, s, m, args, below, meth, c, Λ, D, cI, cF, b0, b, X, cells, slots, Q⟩ := G
  obtain ⟨⟨hx, hb, hml, hown, hts⟩, hK, hlk, hb0, hnt, hsx, rfl, hR1, hR2, hR3, hR4⟩ := C0
  intro H locs ls hP hD hS hl
  exact lv_ladd hx hb hdg (kk H locs ls hP hD hS hl)
theorem am_ldiv {G : am_T} {cc : ByteArray} {nL : Nat} {own : String} {Λ0 : am_L} {d0 : Nat} (C0 : am_C G cc nL own Λ0 d0) {pc : Nat} {lv : List (Nat × Value)} {st : List Value} {σ : am_SS} {x y : Int64} (hdg : decode cc pc = .ok (.ldiv, 1)) (hne : ¬ y = 0) (kk : am_K G nL (pc + 1) lv (.long (x / y) :: st) σ) : am_K G nL (pc) lv (.long y :: .long x :: st) σ := by
  obtain ⟨p, l, e, R, s, m, args, below, meth, c, Λ, D, cI, cF, b0, b, X, cells, slots, Q⟩ := G
  obtain ⟨⟨hx, hb, hml, hown, hts⟩, hK, hlk, hb0, hnt, hsx, rfl, hR1, hR2, hR3, hR4⟩ := C0
  intro H locs ls hP hD hS hl
  exact lv_ldiv hx hb hdg hne (kk H locs ls hP hD hS hl)
theorem am_lcmp {G : am_T} {cc : ByteArray} {nL : Nat} {own : String} {Λ0 : am_L} {d0 : Nat} (C0 : am_C G cc nL own Λ0 d0) {pc : Nat} {lv : List (Nat × Value)} {st : List Value} {σ : am_SS} {x y : Int64} (hdg : decode cc pc = .ok (.lcmp, 1)) (kk : am_K G nL (pc + 1) lv (.int (lg_cmp x y) :: st) σ) : am_K G nL (pc) lv (.long y :: .long x :: st) σ := by
  obtain ⟨p, l, e, R, s, m, args, below, meth, c, Λ, D, cI, cF, b0, b, X, cells, slots, Q⟩ := G
  obtain ⟨⟨hx, hb, hml, hown, hts⟩, hK, hlk, hb0, hnt, hsx, rfl, hR1, hR2, hR3, hR4⟩ := C0
  intro H locs ls hP hD hS hl
  exact W.lcmp hx hb hdg (kk H locs ls hP hD hS hl)
theorem am_lconst {G : am_T} {cc : ByteArray} {nL : Nat} {own : String} {Λ0 : am_L} {d0 : Nat} (C0 : am_C G cc nL own Λ0 d0) {pc : Nat} {lv : List (Nat × Value)} {st : List Value} {σ : am_SS} {n : Fin 2} {v : Int64} (hdg : decode cc pc = .ok (.lconst n, 1)) (hv : Int64.ofNat (n : Nat) = v) (kk : am_K G nL (pc + 1) lv (.long v :: st) σ) : am_K G nL (pc) lv (st) σ := by
  obtain ⟨p, l, e, R, s, m, args, below, meth, c, Λ, D, cI, cF, b0, b, X, cells, slots, Q⟩ := G
  obtain ⟨⟨hx, hb, hml, hown, hts⟩, hK, hlk, hb0, hnt, hsx, rfl, hR1, hR2, hR3, hR4⟩ := C0
  intro H locs ls hP hD hS hl
  exact lv_lconst hx hb hdg hv (kk H locs ls hP hD hS hl)
theorem am_dup {G : am_T} {cc : ByteArray} {nL : Nat} {own : String} {Λ0 : am_L} {d0 : Nat} (C0 : am_C G cc nL own Λ0 d0) {pc : Nat} {lv : List (Nat × Value)} {st : List Value} {σ : am_SS} {v : Value} (hdg : decode cc pc = .ok (.dup, 1)) (hva : v.category = 1) (kk : am_K G nL (pc + 1) lv (v :: v :: st) σ) : am_K G nL (pc) lv (v :: st) σ := by
  obtain ⟨p, l, e, R, s, m, args, below, meth, c, Λ, D, cI, cF, b0, b, X, cells, slots, Q⟩ := G
  obtain ⟨⟨hx, hb, hml, hown, hts⟩, hK, hlk, hb0, hnt, hsx, rfl, hR1, hR2, hR3, hR4⟩ := C0
  intro H locs ls hP hD hS hl
  exact lv_dup hx hb hdg hva (kk H locs ls hP hD hS hl)
theorem am_dup2 {G : am_T} {cc : ByteArray} {nL : Nat} {own : String} {Λ0 : am_L} {d0 : Nat} (C0 : am_C G cc nL own Λ0 d0) {pc : Nat} {lv : List (Nat × Value)} {st : List Value} {σ : am_SS} {u v : Value} (hdg : decode cc pc = .ok (.dup2, 1)) (hva : u.category = 1) (hvb : v.category = 1) (kk : am_K G nL (pc + 1) lv (u :: v :: u :: v :: st) σ) : am_K G nL (pc) lv (u :: v :: st) σ := by
  obtain ⟨p, l, e, R, s, m, args, below, meth, c, Λ, D, cI, cF, b0, b, X, cells, slots, Q⟩ := G
  obtain ⟨⟨hx, hb, hml, hown, hts⟩, hK, hlk, hb0, hnt, hsx, rfl, hR1, hR2, hR3, hR4⟩ := C0
  intro H locs ls hP hD hS hl
  exact lv_dup2_11 hx hb hdg hva hvb (kk H locs ls hP hD hS hl)
theorem am_pop {G : am_T} {cc : ByteArray} {nL : Nat} {own : String} {Λ0 : am_L} {d0 : Nat} (C0 : am_C G cc nL own Λ0 d0) {pc : Nat} {lv : List (Nat × Value)} {st : List Value} {σ : am_SS} {v : Value} (hdg : decode cc pc = .ok (.pop, 1)) (hva : v.category = 1) (kk : am_K G nL (pc + 1) lv (st) σ) : am_K G nL (pc) lv (v :: st) σ := by
  obtain ⟨p, l, e, R, s, m, args, below, meth, c, Λ, D, cI, cF, b0, b, X, cells, slots, Q⟩ := G
  obtain ⟨⟨hx, hb, hml, hown, hts⟩, hK, hlk, hb0, hnt, hsx, rfl, hR1, hR2, hR3, hR4⟩ := C0
  intro H locs ls hP hD hS hl
  exact lv_pop hx hb hdg hva (kk H locs ls hP hD hS hl)
theorem am_goto {G : am_T} {cc : ByteArray} {nL : Nat} {own : String} {Λ0 : am_L} {d0 : Nat} (C0 : am_C G cc nL own Λ0 d0) {pc : Nat} {lv : List (Nat × Value)} {st : List Value} {σ : am_SS} {off : Int} {tgt : Nat} (hdg : decode cc pc = .ok (.goto off, 3)) (ht : (pc : Int) + off = (tgt : Int)) (kk : am_K G nL (tgt) lv (st) σ) : am_K G nL (pc) lv (st) σ := by
  obtain ⟨p, l, e, R, s, m, args, below, meth, c, Λ, D, cI, cF, b0, b, X, cells, slots, Q⟩ := G
  obtain ⟨⟨hx, hb, hml, hown, hts⟩, hK, hlk, hb0, hnt, hsx, rfl, hR1, hR2, hR3, hR4⟩ := C0
  intro H locs ls hP hD hS hl
  exact lv_goto hx hb hdg ht (kk H locs ls hP hD hS hl)
theorem am_ifnullR {G : am_T} {cc : ByteArray} {nL : Nat} {own : String} {Λ0 : am_L} {d0 : Nat} (C0 : am_C G cc nL own Λ0 d0) {pc : Nat} {lv : List (Nat × Value)} {st : List Value} {σ : am_SS} {off : Int} {x : Nat} (hdg : decode cc pc = .ok (.ifnull off, 3)) (kk : am_K G nL (pc + 3) lv (st) σ) : am_K G nL (pc) lv (.ref x :: st) σ := by
  obtain ⟨p, l, e, R, s, m, args, below, meth, c, Λ, D, cI, cF, b0, b, X, cells, slots, Q⟩ := G
  obtain ⟨⟨hx, hb, hml, hown, hts⟩, hK, hlk, hb0, hnt, hsx, rfl, hR1, hR2, hR3, hR4⟩ := C0
  intro H locs ls hP hD hS hl
  exact lv_ifnull hx hb hdg (kk H locs ls hP hD hS hl)
theorem am_ifnonnullR {G : am_T} {cc : ByteArray} {nL : Nat} {own : String} {Λ0 : am_L} {d0 : Nat} (C0 : am_C G cc nL own Λ0 d0) {pc : Nat} {lv : List (Nat × Value)} {st : List Value} {σ : am_SS} {off : Int} {tgt x : Nat} (hdg : decode cc pc = .ok (.ifnonnull off, 3)) (ht : (pc : Int) + off = (tgt : Int)) (kk : am_K G nL (tgt) lv (st) σ) : am_K G nL (pc) lv (.ref x :: st) σ := by
  obtain ⟨p, l, e, R, s, m, args, below, meth, c, Λ, D, cI, cF, b0, b, X, cells, slots, Q⟩ := G
  obtain ⟨⟨hx, hb, hml, hown, hts⟩, hK, hlk, hb0, hnt, hsx, rfl, hR1, hR2, hR3, hR4⟩ := C0
  intro H locs ls hP hD hS hl
  exact lv_ifnonnull hx hb hdg ht (kk H locs ls hP hD hS hl)
theorem am_if_eq {G : am_T} {cc : ByteArray} {nL : Nat} {own : String} {Λ0 : am_L} {d0 : Nat} (C0 : am_C G cc nL own Λ0 d0) {pc : Nat} {lv : List (Nat × Value)} {st : List Value} {σ : am_SS} {x : Int32} {off : Int} {tgt : Nat} (hdg : decode cc pc = .ok (.ifCond .eq off, 3)) (ht : (pc : Int) + off = (tgt : Int)) (kt : x = 0 → am_K G nL (tgt) lv (st) σ) (kf : ¬ x = 0 → am_K G nL (pc + 3) lv (st) σ) : am_K G nL (pc) lv (.int x :: st) σ := by
  obtain ⟨p, l, e, R, s, m, args, below, meth, c, Λ, D, cI, cF, b0, b, X, cells, slots, Q⟩ := G
  obtain ⟨⟨hx, hb, hml, hown, hts⟩, hK, hlk, hb0, hnt, hsx, rfl, hR1, hR2, hR3, hR4⟩ := C0
  intro H locs ls hP hD hS hl
  exact lv_if_eq hx hb hdg ht (fun q => kt q H locs ls hP hD hS hl) (fun q => kf q H locs ls hP hD hS hl)
theorem am_if_ne {G : am_T} {cc : ByteArray} {nL : Nat} {own : String} {Λ0 : am_L} {d0 : Nat} (C0 : am_C G cc nL own Λ0 d0) {pc : Nat} {lv : List (Nat × Value)} {st : List Value} {σ : am_SS} {x : Int32} {off : Int} {tgt : Nat} (hdg : decode cc pc = .ok (.ifCond .ne off, 3)) (ht : (pc : Int) + off = (tgt : Int)) (kt : ¬ x = 0 → am_K G nL (tgt) lv (st) σ) (kf : x = 0 → am_K G nL (pc + 3) lv (st) σ) : am_K G nL (pc) lv (.int x :: st) σ := by
  obtain ⟨p, l, e, R, s, m, args, below, meth, c, Λ, D, cI, cF, b0, b, X, cells, slots, Q⟩ := G
  obtain ⟨⟨hx, hb, hml, hown, hts⟩, hK, hlk, hb0, hnt, hsx, rfl, hR1, hR2, hR3, hR4⟩ := C0
  intro H locs ls hP hD hS hl
  exact lv_if_ne hx hb hdg ht (fun q => kt q H locs ls hP hD hS hl) (fun q => kf q H locs ls hP hD hS hl)
theorem am_if_lt {G : am_T} {cc : ByteArray} {nL : Nat} {own : String} {Λ0 : am_L} {d0 : Nat} (C0 : am_C G cc nL own Λ0 d0) {pc : Nat} {lv : List (Nat × Value)} {st : List Value} {σ : am_SS} {x : Int32} {off : Int} {tgt : Nat} (hdg : decode cc pc = .ok (.ifCond .lt off, 3)) (ht : (pc : Int) + off = (tgt : Int)) (kt : x < 0 → am_K G nL (tgt) lv (st) σ) (kf : ¬ x < 0 → am_K G nL (pc + 3) lv (st) σ) : am_K G nL (pc) lv (.int x :: st) σ := by
  obtain ⟨p, l, e, R, s, m, args, below, meth, c, Λ, D, cI, cF, b0, b, X, cells, slots, Q⟩ := G
  obtain ⟨⟨hx, hb, hml, hown, hts⟩, hK, hlk, hb0, hnt, hsx, rfl, hR1, hR2, hR3, hR4⟩ := C0
  intro H locs ls hP hD hS hl
  exact lv_if_lt hx hb hdg ht (fun q => kt q H locs ls hP hD hS hl) (fun q => kf q H locs ls hP hD hS hl)
theorem am_if_ge {G : am_T} {cc : ByteArray} {nL : Nat} {own : String} {Λ0 : am_L} {d0 : Nat} (C0 : am_C G cc nL own Λ0 d0) {pc : Nat} {lv : List (Nat × Value)} {st : List Value} {σ : am_SS} {x : Int32} {off : Int} {tgt : Nat} (hdg : decode cc pc = .ok (.ifCond .ge off, 3)) (ht : (pc : Int) + off = (tgt : Int)) (kt : ¬ x < 0 → am_K G nL (tgt) lv (st) σ) (kf : x < 0 → am_K G nL (pc + 3) lv (st) σ) : am_K G nL (pc) lv (.int x :: st) σ := by
  obtain ⟨p, l, e, R, s, m, args, below, meth, c, Λ, D, cI, cF, b0, b, X, cells, slots, Q⟩ := G
  obtain ⟨⟨hx, hb, hml, hown, hts⟩, hK, hlk, hb0, hnt, hsx, rfl, hR1, hR2, hR3, hR4⟩ := C0
  intro H locs ls hP hD hS hl
  exact lv_if_ge hx hb hdg ht (fun q => kt (Int32.not_lt.mpr q) H locs ls hP hD hS hl) (fun q => kf (Int32.not_le.mp q) H locs ls hP hD hS hl)
theorem am_if_gt {G : am_T} {cc : ByteArray} {nL : Nat} {own : String} {Λ0 : am_L} {d0 : Nat} (C0 : am_C G cc nL own Λ0 d0) {pc : Nat} {lv : List (Nat × Value)} {st : List Value} {σ : am_SS} {x : Int32} {off : Int} {tgt : Nat} (hdg : decode cc pc = .ok (.ifCond .gt off, 3)) (ht : (pc : Int) + off = (tgt : Int)) (kt : 0 < x → am_K G nL (tgt) lv (st) σ) (kf : ¬ 0 < x → am_K G nL (pc + 3) lv (st) σ) : am_K G nL (pc) lv (.int x :: st) σ := by
  obtain ⟨p, l, e, R, s, m, args, below, meth, c, Λ, D, cI, cF, b0, b, X, cells, slots, Q⟩ := G
  obtain ⟨⟨hx, hb, hml, hown, hts⟩, hK, hlk, hb0, hnt, hsx, rfl, hR1, hR2, hR3, hR4⟩ := C0
  intro H locs ls hP hD hS hl
  exact lv_if_gt hx hb hdg ht (fun q => kt q H locs ls hP hD hS hl) (fun q => kf q H locs ls hP hD hS hl)
theorem am_if_le {G : am_T} {cc : ByteArray} {nL : Nat} {own : String} {Λ0 : am_L} {d0 : Nat} (C0 : am_C G cc nL own Λ0 d0) {pc : Nat} {lv : List (Nat × Value)} {st : List Value} {σ : am_SS} {x : Int32} {off : Int} {tgt : Nat} (hdg : decode cc pc = .ok (.ifCond .le off, 3)) (ht : (pc : Int) + off = (tgt : Int)) (kt : ¬ 0 < x → am_K G nL (tgt) lv (st) σ) (kf : 0 < x → am_K G nL (pc + 3) lv (st) σ) : am_K G nL (pc) lv (.int x :: st) σ := by
  obtain ⟨p, l, e, R, s, m, args, below, meth, c, Λ, D, cI, cF, b0, b, X, cells, slots, Q⟩ := G
  obtain ⟨⟨hx, hb, hml, hown, hts⟩, hK, hlk, hb0, hnt, hsx, rfl, hR1, hR2, hR3, hR4⟩ := C0
  intro H locs ls hP hD hS hl
  exact lv_if_le hx hb hdg ht (fun q => kt (Int32.not_lt.mpr q) H locs ls hP hD hS hl) (fun q => kf (Int32.not_le.mp q) H locs ls hP hD hS hl)
theorem am_icmp_eq {G : am_T} {cc : ByteArray} {nL : Nat} {own : String} {Λ0 : am_L} {d0 : Nat} (C0 : am_C G cc nL own Λ0 d0) {pc : Nat} {lv : List (Nat × Value)} {st : List Value} {σ : am_SS} {x y : Int32} {off : Int} {tgt : Nat} (hdg : decode cc pc = .ok (.if_icmp .eq off, 3)) (ht : (pc : Int) + off = (tgt : Int)) (kt : x = y → am_K G nL (tgt) lv (st) σ) (kf : ¬ x = y → am_K G nL (pc + 3) lv (st) σ) : am_K G nL (pc) lv (.int y :: .int x :: st) σ := by
  obtain ⟨p, l, e, R, s, m, args, below, meth, c, Λ, D, cI, cF, b0, b, X, cells, slots, Q⟩ := G
  obtain ⟨⟨hx, hb, hml, hown, hts⟩, hK, hlk, hb0, hnt, hsx, rfl, hR1, hR2, hR3, hR4⟩ := C0
  intro H locs ls hP hD hS hl
  exact lv_icmp_eq hx hb hdg ht (fun q => kt q H locs ls hP hD hS hl) (fun q => kf q H locs ls hP hD hS hl)
theorem am_icmp_ne {G : am_T} {cc : ByteArray} {nL : Nat} {own : String} {Λ0 : am_L} {d0 : Nat} (C0 : am_C G cc nL own Λ0 d0) {pc : Nat} {lv : List (Nat × Value)} {st : List Value} {σ : am_SS} {x y : Int32} {off : Int} {tgt : Nat} (hdg : decode cc pc = .ok (.if_icmp .ne off, 3)) (ht : (pc : Int) + off = (tgt : Int)) (kt : ¬ x = y → am_K G nL (tgt) lv (st) σ) (kf : x = y → am_K G nL (pc + 3) lv (st) σ) : am_K G nL (pc) lv (.int y :: .int x :: st) σ := by
  obtain ⟨p, l, e, R, s, m, args, below, meth, c, Λ, D, cI, cF, b0, b, X, cells, slots, Q⟩ := G
  obtain ⟨⟨hx, hb, hml, hown, hts⟩, hK, hlk, hb0, hnt, hsx, rfl, hR1, hR2, hR3, hR4⟩ := C0
  intro H locs ls hP hD hS hl
  exact lv_icmp_ne hx hb hdg ht (fun q => kt q H locs ls hP hD hS hl) (fun q => kf q H locs ls hP hD hS hl)
theorem am_icmp_lt {G : am_T} {cc : ByteArray} {nL : Nat} {own : String} {Λ0 : am_L} {d0 : Nat} (C0 : am_C G cc nL own Λ0 d0) {pc : Nat} {lv : List (Nat × Value)} {st : List Value} {σ : am_SS} {x y : Int32} {off : Int} {tgt : Nat} (hdg : decode cc pc = .ok (.if_icmp .lt off, 3)) (ht : (pc : Int) + off = (tgt : Int)) (kt : x < y → am_K G nL (tgt) lv (st) σ) (kf : ¬ x < y → am_K G nL (pc + 3) lv (st) σ) : am_K G nL (pc) lv (.int y :: .int x :: st) σ := by
  obtain ⟨p, l, e, R, s, m, args, below, meth, c, Λ, D, cI, cF, b0, b, X, cells, slots, Q⟩ := G
  obtain ⟨⟨hx, hb, hml, hown, hts⟩, hK, hlk, hb0, hnt, hsx, rfl, hR1, hR2, hR3, hR4⟩ := C0
  intro H locs ls hP hD hS hl
  exact lv_icmp_lt hx hb hdg ht (fun q => kt q H locs ls hP hD hS hl) (fun q => kf q H locs ls hP hD hS hl)
theorem am_icmp_ge {G : am_T} {cc : ByteArray} {nL : Nat} {own : String} {Λ0 : am_L} {d0 : Nat} (C0 : am_C G cc nL own Λ0 d0) {pc : Nat} {lv : List (Nat × Value)} {st : List Value} {σ : am_SS} {x y : Int32} {off : Int} {tgt : Nat} (hdg : decode cc pc = .ok (.if_icmp .ge off, 3)) (ht : (pc : Int) + off = (tgt : Int)) (kt : ¬ x < y → am_K G nL (tgt) lv (st) σ) (kf : x < y → am_K G nL (pc + 3) lv (st) σ) : am_K G nL (pc) lv (.int y :: .int x :: st) σ := by
  obtain ⟨p, l, e, R, s, m, args, below, meth, c, Λ, D, cI, cF, b0, b, X, cells, slots, Q⟩ := G
  obtain ⟨⟨hx, hb, hml, hown, hts⟩, hK, hlk, hb0, hnt, hsx, rfl, hR1, hR2, hR3, hR4⟩ := C0
  intro H locs ls hP hD hS hl
  exact lv_icmp_ge hx hb hdg ht (fun q => kt (Int32.not_lt.mpr q) H locs ls hP hD hS hl) (fun q => kf (Int32.not_le.mp q) H locs ls hP hD hS hl)
theorem am_icmp_gt {G : am_T} {cc : ByteArray} {nL : Nat} {own : String} {Λ0 : am_L} {d0 : Nat} (C0 : am_C G cc nL own Λ0 d0) {pc : Nat} {lv : List (Nat × Value)} {st : List Value} {σ : am_SS} {x y : Int32} {off : Int} {tgt : Nat} (hdg : decode cc pc = .ok (.if_icmp .gt off, 3)) (ht : (pc : Int) + off = (tgt : Int)) (kt : y < x → am_K G nL (tgt) lv (st) σ) (kf : ¬ y < x → am_K G nL (pc + 3) lv (st) σ) : am_K G nL (pc) lv (.int y :: .int x :: st) σ := by
  obtain ⟨p, l, e, R, s, m, args, below, meth, c, Λ, D, cI, cF, b0, b, X, cells, slots, Q⟩ := G
  obtain ⟨⟨hx, hb, hml, hown, hts⟩, hK, hlk, hb0, hnt, hsx, rfl, hR1, hR2, hR3, hR4⟩ := C0
  intro H locs ls hP hD hS hl
  exact lv_icmp_gt hx hb hdg ht (fun q => kt q H locs ls hP hD hS hl) (fun q => kf q H locs ls hP hD hS hl)
theorem am_icmp_le {G : am_T} {cc : ByteArray} {nL : Nat} {own : String} {Λ0 : am_L} {d0 : Nat} (C0 : am_C G cc nL own Λ0 d0) {pc : Nat} {lv : List (Nat × Value)} {st : List Value} {σ : am_SS} {x y : Int32} {off : Int} {tgt : Nat} (hdg : decode cc pc = .ok (.if_icmp .le off, 3)) (ht : (pc : Int) + off = (tgt : Int)) (kt : ¬ y < x → am_K G nL (tgt) lv (st) σ) (kf : y < x → am_K G nL (pc + 3) lv (st) σ) : am_K G nL (pc) lv (.int y :: .int x :: st) σ := by
  obtain ⟨p, l, e, R, s, m, args, below, meth, c, Λ, D, cI, cF, b0, b, X, cells, slots, Q⟩ := G
  obtain ⟨⟨hx, hb, hml, hown, hts⟩, hK, hlk, hb0, hnt, hsx, rfl, hR1, hR2, hR3, hR4⟩ := C0
  intro H locs ls hP hD hS hl
  exact lv_icmp_le hx hb hdg ht (fun q => kt (Int32.not_lt.mpr q) H locs ls hP hD hS hl) (fun q => kf (Int32.not_le.mp q) H locs ls hP hD hS hl)
theorem am_tabIn {G : am_T} {cc : ByteArray} {nL : Nat} {own : String} {Λ0 : am_L} {d0 : Nat} (C0 : am_C G cc nL own Λ0 d0) {pc : Nat} {lv : List (Nat × Value)} {st : List Value} {σ : am_SS} {dflt lo hi : Int} {offs : Array Int} {len : Nat} {x : Int32} {off : Int} {tgt : Nat} (hdg : decode cc pc = .ok (.tableswitch dflt lo hi offs, len)) (h1 : ¬ x.toInt < lo) (h2 : ¬ hi < x.toInt) (ho : offs[(x.toInt - lo).toNat]? = some off) (ht : (pc : Int) + off = (tgt : Int)) (kk : am_K G nL (tgt) lv (st) σ) : am_K G nL (pc) lv (.int x :: st) σ := by
  obtain ⟨p, l, e, R, s, m, args, below, meth, c, Λ, D, cI, cF, b0, b, X, cells, slots, Q⟩ := G
  obtain ⟨⟨hx, hb, hml, hown, hts⟩, hK, hlk, hb0, hnt, hsx, rfl, hR1, hR2, hR3, hR4⟩ := C0
  intro H locs ls hP hD hS hl
  exact lv_tableIn hx hb hdg h1 h2 ho ht (kk H locs ls hP hD hS hl)
theorem am_tabOut {G : am_T} {cc : ByteArray} {nL : Nat} {own : String} {Λ0 : am_L} {d0 : Nat} (C0 : am_C G cc nL own Λ0 d0) {pc : Nat} {lv : List (Nat × Value)} {st : List Value} {σ : am_SS} {dflt lo hi : Int} {offs : Array Int} {len : Nat} {x : Int32} {tgt : Nat} (hdg : decode cc pc = .ok (.tableswitch dflt lo hi offs, len)) (h : x.toInt < lo ∨ hi < x.toInt) (ht : (pc : Int) + dflt = (tgt : Int)) (kk : am_K G nL (tgt) lv (st) σ) : am_K G nL (pc) lv (.int x :: st) σ := by
  obtain ⟨p, l, e, R, s, m, args, below, meth, c, Λ, D, cI, cF, b0, b, X, cells, slots, Q⟩ := G
  obtain ⟨⟨hx, hb, hml, hown, hts⟩, hK, hlk, hb0, hnt, hsx, rfl, hR1, hR2, hR3, hR4⟩ := C0
  intro H locs ls hP hD hS hl
  exact lv_tableOut hx hb hdg h ht (kk H locs ls hP hD hS hl)
theorem am_lookup {G : am_T} {cc : ByteArray} {nL : Nat} {own : String} {Λ0 : am_L} {d0 : Nat} (C0 : am_C G cc nL own Λ0 d0) {pc : Nat} {lv : List (Nat × Value)} {st : List Value} {σ : am_SS} {dflt : Int} {ps : Array (Int × Int)} {len : Nat} {x : Int32} {off : Int} {tgt : Nat} (hdg : decode cc pc = .ok (.lookupswitch dflt ps, len)) (hp : (ps.toList.zip (ps.toList.drop 1)).all (fun (a, next) => a.1 < next.1) = true) (ho : Op.lookupswitch.offset ps.toList dflt x.toInt = off) (ht : (pc : Int) + off = (tgt : Int)) (kk : am_K G nL (tgt) lv (st) σ) : am_K G nL (pc) lv (.int x :: st) σ := by
  obtain ⟨p, l, e, R, s, m, args, below, meth, c, Λ, D, cI, cF, b0, b, X, cells, slots, Q⟩ := G
  obtain ⟨⟨hx, hb, hml, hown, hts⟩, hK, hlk, hb0, hnt, hsx, rfl, hR1, hR2, hR3, hR4⟩ := C0
  intro H locs ls hP hD hS hl
  exact lv_lookup hx hb hdg hp ho ht (kk H locs ls hP hD hS hl)
def am_CB (ci : Nat) (C : String) (T : u_T) (n : Nat) : Prop := vwCl[ci]? = some (C, T, n) ∧ (∀ w ∈ u_ws C T n, w ∈ am_WL) ∧ (∃ ty0 : Nat → FieldType, ∀ k, k < n → parseFieldDescriptor (T k).2.2.1 = some (ty0 k)) ∧ ∀ a, a < n → ∀ b, b < n → a ≠ b → (T a).2.1 ≠ (T b).2.1
/-- entry idx of own's file names field k of class ci, of n fields -/
def am_FL (own : String) (idx ci k n : Nat) : Prop := ∃ (C : String) (T : u_T), am_CB ci C T n ∧ k < n ∧ (Cond.fieldLink own idx (T k).1 (T k).2.1 (T k).2.2.1 ∈ am_WL ∨ (own, idx, (T k).1, (T k).2.1, (T k).2.2.1) ∈ am_nf)
def am_FP (own : String) (idx ci k n : Nat) (ty : FieldType) : Prop := ∃ (C : String) (T : u_T), am_CB ci C T n ∧ k < n ∧ (Cond.fieldLink own idx (T k).1 (T k).2.1 (T k).2.2.1 ∈ am_WL ∨ (own, idx, (T k).1, (T k).2.1, (T k).2.2.1) ∈ am_nf) ∧ (T k).2.2.2 = false ∧ parseFieldDescriptor (T k).2.2.1 = some ty
theorem am_ent_obj {Λ : am_L} {cI cF : ClassId} {b : Nat → Nat} {a ci : Nat} {row : Nat → Int32} (h : Λ.1 a = ci + 2) : am_ent Λ cI cF b row a = .inr (ci, (List.range (Λ.2.1 a)).map (am_val Λ b row a)) := by
  unfold am_ent; rw [h]
theorem am_ent_arr {Λ : am_L} {cI cF : ClassId} {b : Nat → Nat} {a : Nat} {row : Nat → Int32} (h : Λ.1 a = 0) : am_ent Λ cI cF b row a = .inl (cI, (Λ.2.1 a, .inl row)) := by
  unfold am_ent; rw [h]
theorem am_ent_ref {Λ : am_L} {cI cF : ClassId} {b : Nat → Nat} {a : Nat} {row : Nat → Int32} (h : Λ.1 a = 1) : am_ent Λ cI cF b row a = .inl (cF, (Λ.2.1 a, .inr (.inr (.inr (.inr (fun j => (Λ.2.2.1 a j).map b)))))) := by
  unfold am_ent; rw [h]
theorem am_vals_get {Λ : am_L} {b : Nat → Nat} {a k n : Nat} {row : Nat → Int32} (hk : k < n) : ((List.range n).map (am_val Λ b row a))[k]? = some (am_val Λ b row a k) := by
  rw [List.getElem?_map, List.getElem?_range hk]; rfl
theorem am_vals_set {Λ : am_L} {b : Nat → Nat} {a k n : Nat} {v : Int32} {row : Nat → Int32} (hr : Λ.2.2.1 a k = none) : ((List.range n).map (am_val Λ b row a)).set k (.int v) = (List.range n).map (am_val Λ b (upd row k v) a) := by
  apply List.ext_getElem?
  intro j
  by_cases hj : j < n
  · by_cases e : j = k
    · subst e
      rw [List.getElem?_set_self (by simpa using hj), am_vals_get hj]
      simp [am_val, hr, upd]
    · rw [List.getElem?_set_ne (Ne.symm e), am_vals_get hj, am_vals_get hj]
      unfold am_val
      cases Λ.2.2.1 a j with
      | none => simp [upd, e]
      | some z => rfl
  · rw [List.getElem?_eq_none (by simp; omega), List.getElem?_eq_none (by simp; omega)]
theorem am_getI {G : am_T} {cc : ByteArray} {nL : Nat} {own : String} {Λ0 : am_L} {d0 : Nat} (C0 : am_C G cc nL own Λ0 d0) {pc : Nat} {lv : List (Nat × Value)} {st : List Value} {σ : am_SS} {idx ci k n a : Nat} (hF : am_FL own idx ci k n) (ha : a < Λ0.2.2.2) (hk : Λ0.1 a = ci + 2) (hn : Λ0.2.1 a = n) (hr : Λ0.2.2.1 a k = none) (hdg : decode cc pc = .ok (.getfield idx, 3)) (kk : am_K G nL (pc + 3) lv (.int (σ a k) :: st) σ) : am_K G nL (pc) lv (.ref (am_b G a) :: st) σ := by
  obtain ⟨p, l, e, R, s, m, args, below, meth, c, Λ, D, cI, cF, b0, b, X, cells, slots, Q⟩ := G
  obtain ⟨⟨hx, hb, hml, hown, hts⟩, hK, hlk, hb0, hnt, hsx, rfl, hR1, hR2, hR3, hR4⟩ := C0
  intro H locs ls hP hD hS hl
  obtain ⟨C, T, ⟨hc, hin, -, -⟩, hkn, hlink⟩ := hF
  have hq := am_at (cI := cI) (cF := cF) (b := b) (X := X) (σ := σ) ha
  rw [am_ent_obj hk, hn] at hq
  have kk2 : W p l e R s m args below meth c H locs cells slots Q (F0 m (pc + 3) ls (am_val Λ b (σ a) a k :: st)) := by simp only [am_val, hr]; exact kk H locs ls hP hD hS hl
  rcases hlink with hlink | hlink
  · exact va_get (C := C) (T := T) (N := n) (D := D) (tys := am_tys cI cF) (ci := ci) hx hb hts hin hown hK hP (X.length + a) hq hc k hkn (hts _ hlink) (fun _ h9 => h9) (am_vals_get hkn) hdg kk2
  · exact va_getN (C := C) (T := T) (N := n) (D := D) (tys := am_tys cI cF) (ci := ci) hx hb hts hin hown hK hP (X.length + a) hq hc k hkn (va_Nw.use rfl (hnt.2 _ hlink)) (fun _ h9 => h9) (am_vals_get hkn) hdg kk2
theorem am_getR {G : am_T} {cc : ByteArray} {nL : Nat} {own : String} {Λ0 : am_L} {d0 : Nat} (C0 : am_C G cc nL own Λ0 d0) {pc : Nat} {lv : List (Nat × Value)} {st : List Value} {σ : am_SS} {idx ci k n a j : Nat} (hF : am_FL own idx ci k n) (ha : a < Λ0.2.2.2) (hk : Λ0.1 a = ci + 2) (hn : Λ0.2.1 a = n) (hr : Λ0.2.2.1 a k = some j) (hdg : decode cc pc = .ok (.getfield idx, 3)) (kk : am_K G nL (pc + 3) lv (.ref (am_b G j) :: st) σ) : am_K G nL (pc) lv (.ref (am_b G a) :: st) σ := by
  obtain ⟨p, l, e, R, s, m, args, below, meth, c, Λ, D, cI, cF, b0, b, X, cells, slots, Q⟩ := G
  obtain ⟨⟨hx, hb, hml, hown, hts⟩, hK, hlk, hb0, hnt, hsx, rfl, hR1, hR2, hR3, hR4⟩ := C0
  intro H locs ls hP hD hS hl
  obtain ⟨C, T, ⟨hc, hin, -, -⟩, hkn, hlink⟩ := hF
  have hq := am_at (cI := cI) (cF := cF) (b := b) (X := X) (σ := σ) ha
  rw [am_ent_obj hk, hn] at hq
  have kk2 : W p l e R s m args below meth c H locs cells slots Q (F0 m (pc + 3) ls (am_val Λ b (σ a) a k :: st)) := by simp only [am_val, hr]; exact kk H locs ls hP hD hS hl
  rcases hlink with hlink | hlink
  · exact va_get (C := C) (T := T) (N := n) (D := D) (tys := am_tys cI cF) (ci := ci) hx hb hts hin hown hK hP (X.length + a) hq hc k hkn (hts _ hlink) (fun _ h9 => h9) (am_vals_get hkn) hdg kk2
  · exact va_getN (C := C) (T := T) (N := n) (D := D) (tys := am_tys cI cF) (ci := ci) hx hb hts hin hown hK hP (X.length + a) hq hc k hkn (va_Nw.use rfl (hnt.2 _ hlink)) (fun _ h9 => h9) (am_vals_get hkn) hdg kk2
theorem am_putI {G : am_T} {cc : ByteArray} {nL : Nat} {own : String} {Λ0 : am_L} {d0 : Nat} (C0 : am_C G cc nL own Λ0 d0) {pc : Nat} {lv : List (Nat × Value)} {st : List Value} {σ : am_SS} {idx ci k n a : Nat} {ty : FieldType} {v : Int32} {σ1 : am_SS} (hs : am_up σ a k v = σ1) (hF : am_FP own idx ci k n ty) (ha : a < Λ0.2.2.2) (hk : Λ0.1 a = ci + 2) (hn : Λ0.2.1 a = n) (hr : Λ0.2.2.1 a k = none) (hnr : narrow ty (.int v) = .int v) (hfit : fits ty (.int v) = true) (hdg : decode cc pc = .ok (.putfield idx, 3)) (kk : am_K G nL (pc + 3) lv (st) σ1) : am_K G nL (pc) lv (.int v :: .ref (am_b G a) :: st) σ := by
  obtain ⟨p, l, e, R, s, m, args, below, meth, c, Λ, D, cI, cF, b0, b, X, cells, slots, Q⟩ := G
  obtain ⟨⟨hx, hb, hml, hown, hts⟩, hK, hlk, hb0, hnt, hsx, rfl, hR1, hR2, hR3, hR4⟩ := C0
  intro H locs ls hP hD hS hl
  subst hs
  obtain ⟨C, T, ⟨hc, hin, ⟨ty0, hty⟩, hnm⟩, hkn, hlink, hfin, htd⟩ := hF
  have hq := am_at (cI := cI) (cF := cF) (b := b) (X := X) (σ := σ) ha
  rw [am_ent_obj hk, hn] at hq
  have e := am_set (cI := cI) (cF := cF) (b := b) (X := X) (σ := σ) (i := k) (v := v) (e := .inr (ci, ((List.range n).map (am_val Λ b (σ a) a)).set k (.int v))) ha (by rw [am_ent_obj hk, hn, am_vals_set hr])
  rcases hlink with hlink | hlink
  · refine va_put (C := C) (T := T) (N := n) (D := D) (tys := am_tys cI cF) (ci := ci) (v := .int v) hx hb hts hin ty0 hty hnm hown hK hP hD hS (X.length + a) hq hc k hkn (hts _ hlink) (fun _ h9 => h9) hfin htd hnr hfit (by simpa using hkn) hdg (fun H1 locs1 hP1 hD1 hS1 => ?_)
    rw [e] at hP1 hD1
    exact kk H1 locs1 ls hP1 hD1 hS1 hl
  · refine va_putN (C := C) (T := T) (N := n) (D := D) (tys := am_tys cI cF) (ci := ci) (v := .int v) hx hb hts hin ty0 hty hnm hown hK hP hD hS (X.length + a) hq hc k hkn (va_Nw.use rfl (hnt.2 _ hlink)) (fun _ h9 => h9) hfin htd hnr hfit (by simpa using hkn) hdg (fun H1 locs1 hP1 hD1 hS1 => ?_)
    rw [e] at hP1 hD1
    exact kk H1 locs1 ls hP1 hD1 hS1 hl
theorem am_iald {G : am_T} {cc : ByteArray} {nL : Nat} {own : String} {Λ0 : am_L} {d0 : Nat} (C0 : am_C G cc nL own Λ0 d0) {pc : Nat} {lv : List (Nat × Value)} {st : List Value} {σ : am_SS} {a n : Nat} {i x : Int32} (ha : a < Λ0.2.2.2) (hk : Λ0.1 a = 0) (hn : Λ0.2.1 a = n) (h : am_rd σ a n i = some x) (hdg : decode cc pc = .ok (.iaload, 1)) (kk : am_K G nL (pc + 1) lv (.int x :: st) σ) : am_K G nL (pc) lv (.int i :: .ref (am_b G a) :: st) σ := by
  obtain ⟨p, l, e, R, s, m, args, below, meth, c, Λ, D, cI, cF, b0, b, X, cells, slots, Q⟩ := G
  obtain ⟨⟨hx, hb, hml, hown, hts⟩, hK, hlk, hb0, hnt, hsx, rfl, hR1, hR2, hR3, hR4⟩ := C0
  intro H locs ls hP hD hS hl
  obtain ⟨hi, rfl⟩ := am_rd_some h
  have hq := am_at (cI := cI) (cF := cF) (b := b) (X := X) (σ := σ) ha
  rw [am_ent_arr hk, hn] at hq
  exact va_iald (D := D) hx hb hK hP (X.length + a) 0 hq rfl hi hdg (kk H locs ls hP hD hS hl)
theorem am_iast {G : am_T} {cc : ByteArray} {nL : Nat} {own : String} {Λ0 : am_L} {d0 : Nat} (C0 : am_C G cc nL own Λ0 d0) {pc : Nat} {lv : List (Nat × Value)} {st : List Value} {σ : am_SS} {a n : Nat} {i v : Int32} {σ' : am_SS} (ha : a < Λ0.2.2.2) (hk : Λ0.1 a = 0) (hn : Λ0.2.1 a = n) (h : am_wr σ a n i v = some σ') (hdg : decode cc pc = .ok (.iastore, 1)) (kk : am_K G nL (pc + 1) lv (st) σ') : am_K G nL (pc) lv (.int v :: .int i :: .ref (am_b G a) :: st) σ := by
  obtain ⟨p, l, e, R, s, m, args, below, meth, c, Λ, D, cI, cF, b0, b, X, cells, slots, Q⟩ := G
  obtain ⟨⟨hx, hb, hml, hown, hts⟩, hK, hlk, hb0, hnt, hsx, rfl, hR1, hR2, hR3, hR4⟩ := C0
  intro H locs ls hP hD hS hl
  obtain ⟨hi, rfl⟩ := am_wr_some h
  have hq := am_at (cI := cI) (cF := cF) (b := b) (X := X) (σ := σ) ha
  rw [am_ent_arr hk, hn] at hq
  refine va_iast (D := D) hx hb hK hP hD hS (X.length + a) 0 hq rfl hi hdg (fun H1 locs1 hP1 hD1 hS1 => ?_)
  have e := am_set (cI := cI) (cF := cF) (b := b) (X := X) (σ := σ) (i := i.toNatClampNeg) (v := v) (e := .inl (cI, (n, .inl (upd (σ a) i.toNatClampNeg v)))) ha (by rw [am_ent_arr hk, hn])
  rw [e] at hP1 hD1
  exact kk H1 locs1 ls hP1 hD1 hS1 hl
theorem am_alen {G : am_T} {cc : ByteArray} {nL : Nat} {own : String} {Λ0 : am_L} {d0 : Nat} (C0 : am_C G cc nL own Λ0 d0) {pc : Nat} {lv : List (Nat × Value)} {st : List Value} {σ : am_SS} {a n : Nat} {v : Int32} (ha : a < Λ0.2.2.2) (hk : Λ0.1 a = 0) (hn : Λ0.2.1 a = n) (hv : Int32.ofNat n = v) (hdg : decode cc pc = .ok (.arraylength, 1)) (kk : am_K G nL (pc + 1) lv (.int v :: st) σ) : am_K G nL (pc) lv (.ref (am_b G a) :: st) σ := by
  obtain ⟨p, l, e, R, s, m, args, below, meth, c, Λ, D, cI, cF, b0, b, X, cells, slots, Q⟩ := G
  obtain ⟨⟨hx, hb, hml, hown, hts⟩, hK, hlk, hb0, hnt, hsx, rfl, hR1, hR2, hR3, hR4⟩ := C0
  intro H locs ls hP hD hS hl
  have hq := am_at (cI := cI) (cF := cF) (b := b) (X := X) (σ := σ) ha
  rw [am_ent_arr hk, hn] at hq
  exact va_alen (D := D) hx hb hK hP (X.length + a) 0 hq (ty := .int) rfl hv hdg (kk H locs ls hP hD hS hl)
theorem am_aald {G : am_T} {cc : ByteArray} {nL : Nat} {own : String} {Λ0 : am_L} {d0 : Nat} (C0 : am_C G cc nL own Λ0 d0) {pc : Nat} {lv : List (Nat × Value)} {st : List Value} {σ : am_SS} {a n j : Nat} {i : Int32} (ha : a < Λ0.2.2.2) (hk : Λ0.1 a = 1) (hn : Λ0.2.1 a = n) (hi : ¬ (i < 0 ∨ n ≤ i.toNatClampNeg)) (hj : Λ0.2.2.1 a i.toNatClampNeg = some j) (hdg : decode cc pc = .ok (.aaload, 1)) (kk : am_K G nL (pc + 1) lv (.ref (am_b G j) :: st) σ) : am_K G nL (pc) lv (.int i :: .ref (am_b G a) :: st) σ := by
  obtain ⟨p, l, e, R, s, m, args, below, meth, c, Λ, D, cI, cF, b0, b, X, cells, slots, Q⟩ := G
  obtain ⟨⟨hx, hb, hml, hown, hts⟩, hK, hlk, hb0, hnt, hsx, rfl, hR1, hR2, hR3, hR4⟩ := C0
  intro H locs ls hP hD hS hl
  have hq := am_at (cI := cI) (cF := cF) (b := b) (X := X) (σ := σ) ha
  rw [am_ent_ref hk, hn] at hq
  refine va_aldq (D := D) (C := RX0) hx hb hK hP (X.length + a) 1 hq rfl hi hdg ?_
  simp only [hj, Option.map_some, va_rf]
  exact kk H locs ls hP hD hS hl
theorem am_top {G : am_T} {nL pc : Nat} {lv : List (Nat × Value)} {st : List Value} {σ : am_SS} {v v' : Int32} (e : v = v') (k : am_K G nL pc lv (.int v' :: st) σ) : am_K G nL pc lv (.int v :: st) σ := by rw [e]; exact k
theorem am_topl {G : am_T} {nL pc : Nat} {lv : List (Nat × Value)} {st : List Value} {σ : am_SS} {v v' : Int64} (e : v = v') (k : am_K G nL pc lv (.long v' :: st) σ) : am_K G nL pc lv (.long v :: st) σ := by rw [e]; exact k
def am_bI (x : Bool) : Int32 := if x then 1 else 0
theorem am_bI_nr (x : Bool) : narrow .boolean (.int (am_bI x)) = .int (am_bI x) := by cases x <;> rfl
theorem am_bI_ft (x : Bool) : fits .boolean (.int (am_bI x)) = true := by cases x <;> rfl
theorem am_bI_t : am_bI true = 1 := rfl
theorem am_bI_f : am_bI false = 0 := rfl
theorem am_bI_0 {x : Bool} : am_bI x = 0 ↔ ¬ x = true := by cases x <;> decide
theorem am_ifB_eq {G : am_T} {cc : ByteArray} {nL : Nat} {own : String} {Λ0 : am_L} {d0 : Nat} (C0 : am_C G cc nL own Λ0 d0) {pc : Nat} {lv : List (Nat × Value)} {st : List Value} {σ : am_SS} {x : Bool} {off : Int} {tgt : Nat} (hdg : decode cc pc = .ok (.ifCond .eq off, 3)) (ht : (pc : Int) + off = (tgt : Int)) (kt : ¬ x = true → am_K G nL (tgt) lv (st) σ) (kf : x = true → am_K G nL (pc + 3) lv (st) σ) : am_K G nL (pc) lv (.int (am_bI x) :: st) σ := by
  obtain ⟨p, l, e, R, s, m, args, below, meth, c, Λ, D, cI, cF, b0, b, X, cells, slots, Q⟩ := G
  obtain ⟨⟨hx, hb, hml, hown, hts⟩, hK, hlk, hb0, hnt, hsx, rfl, hR1, hR2, hR3, hR4⟩ := C0
  intro H locs ls hP hD hS hl
  exact lv_if_eq hx hb hdg ht (fun q => kt (am_bI_0.mp q) H locs ls hP hD hS hl) (fun q => kf (Classical.not_not.mp (fun z => q (am_bI_0.mpr z))) H locs ls hP hD hS hl)
theorem am_ifB_ne {G : am_T} {cc : ByteArray} {nL : Nat} {own : String} {Λ0 : am_L} {d0 : Nat} (C0 : am_C G cc nL own Λ0 d0) {pc : Nat} {lv : List (Nat × Value)} {st : List Value} {σ : am_SS} {x : Bool} {off : Int} {tgt : Nat} (hdg : decode cc pc = .ok (.ifCond .ne off, 3)) (ht : (pc : Int) + off = (tgt : Int)) (kt : x = true → am_K G nL (tgt) lv (st) σ) (kf : ¬ x = true → am_K G nL (pc + 3) lv (st) σ) : am_K G nL (pc) lv (.int (am_bI x) :: st) σ := by
  obtain ⟨p, l, e, R, s, m, args, below, meth, c, Λ, D, cI, cF, b0, b, X, cells, slots, Q⟩ := G
  obtain ⟨⟨hx, hb, hml, hown, hts⟩, hK, hlk, hb0, hnt, hsx, rfl, hR1, hR2, hR3, hR4⟩ := C0
  intro H locs ls hP hD hS hl
  exact lv_if_ne hx hb hdg ht (fun q => kt (Classical.not_not.mp (fun z => q (am_bI_0.mpr z))) H locs ls hP hD hS hl) (fun q => kf (am_bI_0.mp q) H locs ls hP hD hS hl)
