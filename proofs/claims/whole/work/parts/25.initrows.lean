def am_cI (G : am_T) : ClassId := G.2.2.2.2.2.2.2.2.2.2.2.2.1
def am_cF (G : am_T) : ClassId := G.2.2.2.2.2.2.2.2.2.2.2.2.2.1
/-- as am_K, over the cells L behind the others; cells and slots are those made so far -/
def ak_K (G : am_T) (nL cells slots pc : Nat) (lv : List (Nat × Value)) (st : List Value) (L : va_W) : Prop := match G with
  | (p, l, e, R, s, m, args, below, meth, c, Λ, D, cI, cF, b0, b, X, _, _, Q) => ∀ (H : Heap) (locs : List Loc) (ls : Array Slot), va_P D vwCl (X ++ L) H → va_D (fun q => b0 ≤ q) (X ++ L) → va_S (fun q => b0 ≤ q) s.heap H locs → lv_has ls nL lv → W p l e R s m args below meth c H locs cells slots Q (F0 m pc ls st)
def ak_C (G : am_T) (cc : ByteArray) (nL : Nat) (own : String) (d0 mc ms : Nat) : Prop := am_C G cc nL own (am_lay G) d0 ∧ match G with
  | (p, l, e, R, s, m, args, below, meth, c, Λ, D, cI, cF, b0, b, X, _, _, Q) => mc ≤ R.cells ∧ ms ≤ R.slots ∧ meth.name = "<init>" ∧ va_AO RX0 s
theorem ak_sub {G : am_T} {nL cells slots pc : Nat} {lv lv' : List (Nat × Value)} {st : List Value} {L : va_W} (ks : List Nat) (hl : lv_pick lv ks = lv') (k : ak_K G nL cells slots pc lv' st L) : ak_K G nL cells slots pc lv st L := by
  obtain ⟨p, l, e, R, s, m, args, below, meth, c, Λ, D, cI, cF, b0, b, X, cells0, slots0, Q⟩ := G
  exact fun H locs ls hP hD hS hl1 => k H locs ls hP hD hS (lv_sub hl1 ks hl)
theorem ak_eq {G : am_T} {nL cells slots pc : Nat} {lv : List (Nat × Value)} {st : List Value} {L L' : va_W} (h : L = L') (k : ak_K G nL cells slots pc lv st L') : ak_K G nL cells slots pc lv st L := by
  rw [h]; exact k
theorem ak_top {G : am_T} {nL cells slots pc : Nat} {lv : List (Nat × Value)} {st : List Value} {L : va_W} {v v' : Int32} (e : v = v') (k : ak_K G nL cells slots pc lv (.int v' :: st) L) : ak_K G nL cells slots pc lv (.int v :: st) L := by
  rw [e]; exact k
theorem ak_iload_n {G : am_T} {cc : ByteArray} {nL : Nat} {own : String} {d0 mc ms : Nat} (C0 : ak_C G cc nL own d0 mc ms) {cells slots pc : Nat} {lv : List (Nat × Value)} {st : List Value} {L : va_W} {k : Fin 4} {x : Int32} (hdg : decode cc pc = .ok (.iload_n k, 1)) (j : Nat) (hj : lv[j]? = some ((k : Nat), .int x)) (kk : ak_K G nL (cells) (slots) (pc + 1) lv (.int x :: st) (L)) : ak_K G nL (cells) (slots) (pc) lv (st) (L) := by
  obtain ⟨p, l, e, R, s, m, args, below, meth, c, Λ, D, cI, cF, b0, b, X, cells0, slots0, Q⟩ := G
  obtain ⟨⟨⟨hx, hb, hml, hown, hts⟩, hK, hlk, hb0, hnt, hsx, -, hR1, hR2, -, -⟩, hmc, hms, hin9, hao⟩ := C0
  intro H locs ls hP hD hS hl
  exact lv_iload_n hx hb hdg rfl (lv_at hl j hj) (kk H locs ls hP hD hS hl)
theorem ak_aload_n {G : am_T} {cc : ByteArray} {nL : Nat} {own : String} {d0 mc ms : Nat} (C0 : ak_C G cc nL own d0 mc ms) {cells slots pc : Nat} {lv : List (Nat × Value)} {st : List Value} {L : va_W} {k : Fin 4} {x : Nat} (hdg : decode cc pc = .ok (.aload_n k, 1)) (j : Nat) (hj : lv[j]? = some ((k : Nat), .ref x)) (kk : ak_K G nL (cells) (slots) (pc + 1) lv (.ref x :: st) (L)) : ak_K G nL (cells) (slots) (pc) lv (st) (L) := by
  obtain ⟨p, l, e, R, s, m, args, below, meth, c, Λ, D, cI, cF, b0, b, X, cells0, slots0, Q⟩ := G
  obtain ⟨⟨⟨hx, hb, hml, hown, hts⟩, hK, hlk, hb0, hnt, hsx, -, hR1, hR2, -, -⟩, hmc, hms, hin9, hao⟩ := C0
  intro H locs ls hP hD hS hl
  exact lv_aload_n hx hb hdg rfl (lv_at hl j hj) (kk H locs ls hP hD hS hl)
theorem ak_iconst {G : am_T} {cc : ByteArray} {nL : Nat} {own : String} {d0 mc ms : Nat} (C0 : ak_C G cc nL own d0 mc ms) {cells slots pc : Nat} {lv : List (Nat × Value)} {st : List Value} {L : va_W} {n : Int} {v : Int32} (hdg : decode cc pc = .ok (.iconst n, 1)) (hv : Int32.ofInt n = v) (kk : ak_K G nL (cells) (slots) (pc + 1) lv (.int v :: st) (L)) : ak_K G nL (cells) (slots) (pc) lv (st) (L) := by
  obtain ⟨p, l, e, R, s, m, args, below, meth, c, Λ, D, cI, cF, b0, b, X, cells0, slots0, Q⟩ := G
  obtain ⟨⟨⟨hx, hb, hml, hown, hts⟩, hK, hlk, hb0, hnt, hsx, -, hR1, hR2, -, -⟩, hmc, hms, hin9, hao⟩ := C0
  intro H locs ls hP hD hS hl
  exact lv_iconst hx hb hdg hv (kk H locs ls hP hD hS hl)
theorem ak_bipush {G : am_T} {cc : ByteArray} {nL : Nat} {own : String} {d0 mc ms : Nat} (C0 : ak_C G cc nL own d0 mc ms) {cells slots pc : Nat} {lv : List (Nat × Value)} {st : List Value} {L : va_W} {n : Int} {v : Int32} (hdg : decode cc pc = .ok (.bipush n, 2)) (hv : (Int8.ofInt n).toInt32 = v) (kk : ak_K G nL (cells) (slots) (pc + 2) lv (.int v :: st) (L)) : ak_K G nL (cells) (slots) (pc) lv (st) (L) := by
  obtain ⟨p, l, e, R, s, m, args, below, meth, c, Λ, D, cI, cF, b0, b, X, cells0, slots0, Q⟩ := G
  obtain ⟨⟨⟨hx, hb, hml, hown, hts⟩, hK, hlk, hb0, hnt, hsx, -, hR1, hR2, -, -⟩, hmc, hms, hin9, hao⟩ := C0
  intro H locs ls hP hD hS hl
  exact lv_bipush hx hb hdg hv (kk H locs ls hP hD hS hl)
theorem ak_sipush {G : am_T} {cc : ByteArray} {nL : Nat} {own : String} {d0 mc ms : Nat} (C0 : ak_C G cc nL own d0 mc ms) {cells slots pc : Nat} {lv : List (Nat × Value)} {st : List Value} {L : va_W} {n : Int} {v : Int32} (hdg : decode cc pc = .ok (.sipush n, 3)) (hv : (Int16.ofInt n).toInt32 = v) (kk : ak_K G nL (cells) (slots) (pc + 3) lv (.int v :: st) (L)) : ak_K G nL (cells) (slots) (pc) lv (st) (L) := by
  obtain ⟨p, l, e, R, s, m, args, below, meth, c, Λ, D, cI, cF, b0, b, X, cells0, slots0, Q⟩ := G
  obtain ⟨⟨⟨hx, hb, hml, hown, hts⟩, hK, hlk, hb0, hnt, hsx, -, hR1, hR2, -, -⟩, hmc, hms, hin9, hao⟩ := C0
  intro H locs ls hP hD hS hl
  exact lv_sipush hx hb hdg hv (kk H locs ls hP hD hS hl)
theorem ak_imul {G : am_T} {cc : ByteArray} {nL : Nat} {own : String} {d0 mc ms : Nat} (C0 : ak_C G cc nL own d0 mc ms) {cells slots pc : Nat} {lv : List (Nat × Value)} {st : List Value} {L : va_W} {x y : Int32} (hdg : decode cc pc = .ok (.imul, 1)) (kk : ak_K G nL (cells) (slots) (pc + 1) lv (.int (x * y) :: st) (L)) : ak_K G nL (cells) (slots) (pc) lv (.int y :: .int x :: st) (L) := by
  obtain ⟨p, l, e, R, s, m, args, below, meth, c, Λ, D, cI, cF, b0, b, X, cells0, slots0, Q⟩ := G
  obtain ⟨⟨⟨hx, hb, hml, hown, hts⟩, hK, hlk, hb0, hnt, hsx, -, hR1, hR2, -, -⟩, hmc, hms, hin9, hao⟩ := C0
  intro H locs ls hP hD hS hl
  exact lv_imul hx hb hdg (kk H locs ls hP hD hS hl)
theorem ak_dup {G : am_T} {cc : ByteArray} {nL : Nat} {own : String} {d0 mc ms : Nat} (C0 : ak_C G cc nL own d0 mc ms) {cells slots pc : Nat} {lv : List (Nat × Value)} {st : List Value} {L : va_W} {v : Value} (hdg : decode cc pc = .ok (.dup, 1)) (hva : v.category = 1) (kk : ak_K G nL (cells) (slots) (pc + 1) lv (v :: v :: st) (L)) : ak_K G nL (cells) (slots) (pc) lv (v :: st) (L) := by
  obtain ⟨p, l, e, R, s, m, args, below, meth, c, Λ, D, cI, cF, b0, b, X, cells0, slots0, Q⟩ := G
  obtain ⟨⟨⟨hx, hb, hml, hown, hts⟩, hK, hlk, hb0, hnt, hsx, -, hR1, hR2, -, -⟩, hmc, hms, hin9, hao⟩ := C0
  intro H locs ls hP hD hS hl
  exact lv_dup hx hb hdg hva (kk H locs ls hP hD hS hl)
theorem ak_goto {G : am_T} {cc : ByteArray} {nL : Nat} {own : String} {d0 mc ms : Nat} (C0 : ak_C G cc nL own d0 mc ms) {cells slots pc : Nat} {lv : List (Nat × Value)} {st : List Value} {L : va_W} {off : Int} {tgt : Nat} (hdg : decode cc pc = .ok (.goto off, 3)) (ht : (pc : Int) + off = (tgt : Int)) (kk : ak_K G nL (cells) (slots) (tgt) lv (st) (L)) : ak_K G nL (cells) (slots) (pc) lv (st) (L) := by
  obtain ⟨p, l, e, R, s, m, args, below, meth, c, Λ, D, cI, cF, b0, b, X, cells0, slots0, Q⟩ := G
  obtain ⟨⟨⟨hx, hb, hml, hown, hts⟩, hK, hlk, hb0, hnt, hsx, -, hR1, hR2, -, -⟩, hmc, hms, hin9, hao⟩ := C0
  intro H locs ls hP hD hS hl
  exact lv_goto hx hb hdg ht (kk H locs ls hP hD hS hl)
theorem ak_icmp_ge {G : am_T} {cc : ByteArray} {nL : Nat} {own : String} {d0 mc ms : Nat} (C0 : ak_C G cc nL own d0 mc ms) {cells slots pc : Nat} {lv : List (Nat × Value)} {st : List Value} {L : va_W} {x y : Int32} {off : Int} {tgt : Nat} (hdg : decode cc pc = .ok (.if_icmp .ge off, 3)) (ht : (pc : Int) + off = (tgt : Int)) (kt : ¬ x < y → ak_K G nL (cells) (slots) (tgt) lv (st) (L)) (kf : x < y → ak_K G nL (cells) (slots) (pc + 3) lv (st) (L)) : ak_K G nL (cells) (slots) (pc) lv (.int y :: .int x :: st) (L) := by
  obtain ⟨p, l, e, R, s, m, args, below, meth, c, Λ, D, cI, cF, b0, b, X, cells0, slots0, Q⟩ := G
  obtain ⟨⟨⟨hx, hb, hml, hown, hts⟩, hK, hlk, hb0, hnt, hsx, -, hR1, hR2, -, -⟩, hmc, hms, hin9, hao⟩ := C0
  intro H locs ls hP hD hS hl
  exact lv_icmp_ge hx hb hdg ht (fun q => kt (Int32.not_lt.mpr q) H locs ls hP hD hS hl) (fun q => kf (Int32.not_le.mp q) H locs ls hP hD hS hl)
theorem ak_istore_n {G : am_T} {cc : ByteArray} {nL : Nat} {own : String} {d0 mc ms : Nat} (C0 : ak_C G cc nL own d0 mc ms) {cells slots pc : Nat} {lv : List (Nat × Value)} {st : List Value} {L : va_W} {k : Fin 4} {i : Nat} {x : Int32} (hdg : decode cc pc = .ok (.istore_n k, 1)) (hi : (k : Nat) = i) (hn : i < nL) (hc : lv.all (fun q => !(q.1 + 1 == i && q.2.category == 2)) = true) {lv' : List (Nat × Value)} (hp : am_put lv i (.int x) = lv') (kk : ak_K G nL (cells) (slots) (pc + 1) lv' (st) (L)) : ak_K G nL (cells) (slots) (pc) lv (.int x :: st) (L) := by
  obtain ⟨p, l, e, R, s, m, args, below, meth, c, Λ, D, cI, cF, b0, b, X, cells0, slots0, Q⟩ := G
  obtain ⟨⟨⟨hx, hb, hml, hown, hts⟩, hK, hlk, hb0, hnt, hsx, -, hR1, hR2, -, -⟩, hmc, hms, hin9, hao⟩ := C0
  intro H locs ls hP hD hS hl
  refine lv_istore_n hx hb hdg hi hl hn rfl (fun ls1 hl1 => kk H locs ls1 hP hD hS ?_)
  rw [← hp]
  refine am_put_has (ls := ls) hl1 (fun q hq hne => ?_)
  have h2 := List.all_eq_true.mp hc q hq
  have h3 : (q.1 == i) = false := by simp [hne]
  simp only [h3, Bool.not_false, Bool.true_and]
  exact h2
theorem ak_iinc {G : am_T} {cc : ByteArray} {nL : Nat} {own : String} {d0 mc ms : Nat} (C0 : ak_C G cc nL own d0 mc ms) {cells slots pc : Nat} {lv : List (Nat × Value)} {st : List Value} {L : va_W} {i : Nat} {n : Int} {x v : Int32} (hdg : decode cc pc = .ok (.iinc i n, 3)) (j : Nat) (hj : lv[j]? = some (i, .int x)) (hv : x + Int32.ofInt n = v) (hn : i < nL) (hc : lv.all (fun q => !(q.1 + 1 == i && q.2.category == 2)) = true) {lv' : List (Nat × Value)} (hp : am_put lv i (.int v) = lv') (kk : ak_K G nL (cells) (slots) (pc + 3) lv' (st) (L)) : ak_K G nL (cells) (slots) (pc) lv (st) (L) := by
  obtain ⟨p, l, e, R, s, m, args, below, meth, c, Λ, D, cI, cF, b0, b, X, cells0, slots0, Q⟩ := G
  obtain ⟨⟨⟨hx, hb, hml, hown, hts⟩, hK, hlk, hb0, hnt, hsx, -, hR1, hR2, -, -⟩, hmc, hms, hin9, hao⟩ := C0
  intro H locs ls hP hD hS hl
  refine lv_iinc hx hb hdg hl (k := j) hj hv hn rfl (fun ls1 hl1 => kk H locs ls1 hP hD hS ?_)
  rw [← hp]
  refine am_put_has (ls := ls) hl1 (fun q hq hne => ?_)
  have h2 := List.all_eq_true.mp hc q hq
  have h3 : (q.1 == i) = false := by simp [hne]
  simp only [h3, Bool.not_false, Bool.true_and]
  exact h2
theorem ak_obj {G : am_T} {cc : ByteArray} {nL : Nat} {own : String} {d0 mc ms : Nat} (C0 : ak_C G cc nL own d0 mc ms) {cells slots pc : Nat} {lv : List (Nat × Value)} {st : List Value} {L : va_W} {idx a : Nat} (hw1 : Cond.methodLink own idx objectInit ∈ am_WL) (hd : 1 ≤ d0) (hdg : decode cc pc = .ok (.invokespecial idx, 3)) (hrs : (st.map fun v => v.category).sum ≤ 8) (hw2 : Cond.instanceMethod objectInit ∈ am_WL) (hw3 : Cond.code objectInit ⟨#[0xb1]⟩ 1 none ∈ am_WL) (kk : ak_K G nL (cells) (slots) (pc + 3) lv (st) (L)) : ak_K G nL (cells) (slots) (pc) lv (.ref a :: st) (L) := by
  obtain ⟨p, l, e, R, s, m, args, below, meth, c, Λ, D, cI, cF, b0, b, X, cells0, slots0, Q⟩ := G
  obtain ⟨⟨⟨hx, hb, hml, hown, hts⟩, hK, hlk, hb0, hnt, hsx, -, hR1, hR2, -, -⟩, hmc, hms, hin9, hao⟩ := C0
  intro H locs ls hP hD hS hl
  refine W.objInit hx hb hown (hts _ hw1) (hts _ hw2) (hts _ hw3) rfl (by rw [hml]; exact hl.1) rfl hdg (Nat.le_trans hd hR1) (by have h9 := Nat.le_trans (Nat.mul_le_mul_left 60 hd) hR2; have h8 := lv_room (m := m) (pc := pc) (ls := ls) (rest := .ref a :: st) hrs; omega) ?_
  exact W.eq (g2 := F0 m (pc + 3) ls st) rfl (kk H locs ls hP hD hS hl)
theorem ak_new {G : am_T} {cc : ByteArray} {nL : Nat} {own : String} {d0 mc ms : Nat} (C0 : ak_C G cc nL own d0 mc ms) {cells slots pc : Nat} {lv : List (Nat × Value)} {st : List Value} {L : va_W} {C : String} {T : u_T} {N idx ci : Nat} {fs : List Value} (hc : am_CB ci C T N) (hcl : Cond.classLink own idx C ∈ am_WL) (hi1 : Cond.instantiable C N ∈ am_WL) (hi2 : Cond.initialized C ∈ am_WL) (ty : Nat → FieldType) (hty : ∀ k, k < N → parseFieldDescriptor (T k).2.2.1 = some (ty k)) (hfs : ∀ j, j < N → defaultValue (ty j) = vp_V fs j) (h1 : cells + 1 ≤ mc) (h2 : slots + N ≤ ms) (hdg : decode cc pc = .ok (.new idx, 3)) (kk : ∀ q : Nat, ak_K G nL (cells + 1) (slots + N) (pc + 3) lv (.ref q :: st) (L ++ [(q, .inr (ci, fs))])) : ak_K G nL (cells) (slots) (pc) lv (st) (L) := by
  obtain ⟨p, l, e, R, s, m, args, below, meth, c, Λ, D, cI, cF, b0, b, X, cells0, slots0, Q⟩ := G
  obtain ⟨⟨⟨hx, hb, hml, hown, hts⟩, hK, hlk, hb0, hnt, hsx, -, hR1, hR2, -, -⟩, hmc, hms, hin9, hao⟩ := C0
  intro H locs ls hP hD hS hl
  obtain ⟨hc0, hin, -, -⟩ := hc
  refine va_new (D := D) (tys := am_tys cI cF) (ci := ci) (fs := fs) (C := C) (T := T) (N := N) hx hb hts hin ty hty hown (hts _ hcl) (hts _ hi1) (hts _ hi2) hK hP hD hS (fun q hq => Nat.le_trans hb0 hq) hc0 hfs (Nat.le_trans h1 hmc) (Nat.le_trans h2 hms) hdg (fun q H1 hP1 hD1 hS1 => ?_)
  rw [List.append_assoc] at hP1 hD1
  exact kk q H1 locs ls hP1 hD1 hS1 hl
theorem ak_newa {G : am_T} {cc : ByteArray} {nL : Nat} {own : String} {d0 mc ms : Nat} (C0 : ak_C G cc nL own d0 mc ms) {cells slots pc : Nat} {lv : List (Nat × Value)} {st : List Value} {L : va_W} {n : Int32} (N : Nat) (hw : Cond.arrayClass .int ∈ am_WL) (hn : ¬ n < 0) (hN : n.toNatClampNeg = N) (hb9 : N ≤ 100000) (h1 : cells + 1 ≤ mc) (h2 : slots + N ≤ ms) (hdg : decode cc pc = .ok (.newarray .int, 2)) (kk : ∀ q : Nat, ak_K G nL (cells + 1) (slots + N) (pc + 2) lv (.ref q :: st) (L ++ [(q, .inl (am_cI G, (N, .inl (fun _ => 0))))])) : ak_K G nL (cells) (slots) (pc) lv (.int n :: st) (L) := by
  obtain ⟨p, l, e, R, s, m, args, below, meth, c, Λ, D, cI, cF, b0, b, X, cells0, slots0, Q⟩ := G
  obtain ⟨⟨⟨hx, hb, hml, hown, hts⟩, hK, hlk, hb0, hnt, hsx, -, hR1, hR2, -, -⟩, hmc, hms, hin9, hao⟩ := C0
  intro H locs ls hP hD hS hl
  refine va_newa (D := D) (atype := .int) (ty := .int) (N' := N) (a0 := (N, .inl (fun _ => 0))) hx hb (hts _ hw) rfl hK hP hD hS (fun q hq => Nat.le_trans hb0 hq) (fun cA => rfl) hn hN (by show N * 4 ≤ 536870912; omega) (Nat.le_trans h1 hmc) (Nat.le_trans h2 hms) hdg (fun q cA H1 hK1 hP1 hD1 hS1 => ?_)
  have e1 : s.vm.findClass ("[" ++ (FieldType.int).toString) = some cI := (hK.2 0 (cI, .int) rfl).2
  have e2 : s.vm.findClass ("[" ++ (FieldType.int).toString) = some cA := (hK1.2 2 (cA, .int) rfl).2
  have e3 : cA = cI := Option.some.inj (e2.symm.trans e1)
  subst e3
  rw [List.append_assoc] at hP1 hD1
  exact kk q H1 locs ls hP1 hD1 hS1 hl
theorem ak_newq {G : am_T} {cc : ByteArray} {nL : Nat} {own : String} {d0 mc ms : Nat} (C0 : ak_C G cc nL own d0 mc ms) {cells slots pc : Nat} {lv : List (Nat × Value)} {st : List Value} {L : va_W} {n : Int32} {idx : Nat} (N : Nat) (hcl : Cond.classLink own idx RX0 ∈ am_WL) (hn : ¬ n < 0) (hN : n.toNatClampNeg = N) (hb9 : N ≤ 100000) (h1 : cells + 1 ≤ mc) (h2 : slots + N ≤ ms) (hdg : decode cc pc = .ok (.anewarray idx, 3)) (kk : ∀ q : Nat, ak_K G nL (cells + 1) (slots + N) (pc + 3) lv (.ref q :: st) (L ++ [(q, .inl (am_cF G, (N, .inr (.inr (.inr (.inr (fun _ => none)))))))])) : ak_K G nL (cells) (slots) (pc) lv (.int n :: st) (L) := by
  obtain ⟨p, l, e, R, s, m, args, below, meth, c, Λ, D, cI, cF, b0, b, X, cells0, slots0, Q⟩ := G
  obtain ⟨⟨⟨hx, hb, hml, hown, hts⟩, hK, hlk, hb0, hnt, hsx, -, hR1, hR2, -, -⟩, hmc, hms, hin9, hao⟩ := C0
  intro H locs ls hP hD hS hl
  refine va_newq (D := D) (C := RX0) (N' := N) hx hb hown (hts _ hcl) hao hK hP hD hS (fun q hq => Nat.le_trans hb0 hq) hn hN (by omega) (Nat.le_trans h1 hmc) (Nat.le_trans h2 hms) hdg (fun q cA H1 hK1 hP1 hD1 hS1 => ?_)
  have e3 : cA = cF := by
    obtain ⟨_, _, _, _, _, e1⟩ := (hK.2 1 (cF, .object RX0) rfl).2
    obtain ⟨_, _, _, _, _, e2⟩ := (hK1.2 2 (cA, .object RX0) rfl).2
    exact Option.some.inj (e2.symm.trans e1)
  subst e3
  rw [List.append_assoc] at hP1 hD1
  exact kk q H1 locs ls hP1 hD1 hS1 hl
theorem ak_put {G : am_T} {cc : ByteArray} {nL : Nat} {own : String} {d0 mc ms : Nat} (C0 : ak_C G cc nL own d0 mc ms) {cells slots pc : Nat} {lv : List (Nat × Value)} {st : List Value} {L : va_W} {idx ci f n a : Nat} {ty : FieldType} {v : Value} {fs : List Value} (k : Nat) (hk : L[k]? = some (a, .inr (ci, fs))) {L' : va_W} (hL : L.set k (a, .inr (ci, fs.set f v)) = L') (hF : ∃ (C : String) (T : u_T), am_CB ci C T n ∧ f < n ∧ Cond.fieldLink own idx (T f).1 (T f).2.1 (T f).2.2.1 ∈ am_WL ∧ (T f).2.2.2 = false ∧ parseFieldDescriptor (T f).2.2.1 = some ty) (hnr : narrow ty v = v) (hfit : fits ty v = true) (hfl : f < fs.length) (hdg : decode cc pc = .ok (.putfield idx, 3)) (kk : ak_K G nL (cells) (slots) (pc + 3) lv (st) (L')) : ak_K G nL (cells) (slots) (pc) lv (v :: .ref a :: st) (L) := by
  obtain ⟨p, l, e, R, s, m, args, below, meth, c, Λ, D, cI, cF, b0, b, X, cells0, slots0, Q⟩ := G
  obtain ⟨⟨⟨hx, hb, hml, hown, hts⟩, hK, hlk, hb0, hnt, hsx, -, hR1, hR2, -, -⟩, hmc, hms, hin9, hao⟩ := C0
  intro H locs ls hP hD hS hl
  obtain ⟨C, T, ⟨hc, hin, ⟨ty0, hty⟩, hnm⟩, hkn, hlink, hfin, htd⟩ := hF
  have hq : (X ++ L)[X.length + k]? = some (a, .inr (ci, fs)) := by rw [List.getElem?_append_right (by omega), Nat.add_sub_cancel_left]; exact hk
  refine va_put (C := C) (T := T) (N := n) (D := D) (tys := am_tys cI cF) (ci := ci) (v := v) hx hb hts hin ty0 hty hnm hown hK hP hD hS (X.length + k) hq hc f hkn (hts _ hlink) (fun _ h9 => h9) hfin htd hnr hfit hfl hdg (fun H1 locs1 hP1 hD1 hS1 => ?_)
  rw [show (X ++ L).set (X.length + k) _ = X ++ L' from by rw [List.set_append_right _ _ (by omega), Nat.add_sub_cancel_left]; exact congrArg (X ++ ·) hL] at hP1 hD1
  exact kk H1 locs1 ls hP1 hD1 hS1 hl
theorem ak_putF {G : am_T} {cc : ByteArray} {nL : Nat} {own : String} {d0 mc ms : Nat} (C0 : ak_C G cc nL own d0 mc ms) {cells slots pc : Nat} {lv : List (Nat × Value)} {st : List Value} {L : va_W} {idx ci f n a : Nat} {ty : FieldType} {v : Value} {fs : List Value} (k : Nat) (hk : L[k]? = some (a, .inr (ci, fs))) {L' : va_W} (hL : L.set k (a, .inr (ci, fs.set f v)) = L') (hF : ∃ (C : String) (T : u_T), am_CB ci C T n ∧ f < n ∧ Cond.fieldLink own idx (T f).1 (T f).2.1 (T f).2.2.1 ∈ am_WL ∧ (T f).2.2.2 = true ∧ parseFieldDescriptor (T f).2.2.1 = some ty ∧ (T f).1 = own) (hnr : narrow ty v = v) (hfit : fits ty v = true) (hfl : f < fs.length) (hdg : decode cc pc = .ok (.putfield idx, 3)) (kk : ak_K G nL (cells) (slots) (pc + 3) lv (st) (L')) : ak_K G nL (cells) (slots) (pc) lv (v :: .ref a :: st) (L) := by
  obtain ⟨p, l, e, R, s, m, args, below, meth, c, Λ, D, cI, cF, b0, b, X, cells0, slots0, Q⟩ := G
  obtain ⟨⟨⟨hx, hb, hml, hown, hts⟩, hK, hlk, hb0, hnt, hsx, -, hR1, hR2, -, -⟩, hmc, hms, hin9, hao⟩ := C0
  intro H locs ls hP hD hS hl
  obtain ⟨C, T, ⟨hc, hin, ⟨ty0, hty⟩, hnm⟩, hkn, hlink, hfin, htd, hdecl⟩ := hF
  have hq : (X ++ L)[X.length + k]? = some (a, .inr (ci, fs)) := by rw [List.getElem?_append_right (by omega), Nat.add_sub_cancel_left]; exact hk
  refine va_putF (C := C) (T := T) (N := n) (D := D) (tys := am_tys cI cF) (ci := ci) (v := v) hx hb hts hin ty0 hty hnm hown hK hP hD hS (X.length + k) hq hc f hkn (hts _ hlink) (fun _ h9 => h9) hfin hin9 hdecl htd hnr hfit hfl hdg (fun H1 locs1 hP1 hD1 hS1 => ?_)
  rw [show (X ++ L).set (X.length + k) _ = X ++ L' from by rw [List.set_append_right _ _ (by omega), Nat.add_sub_cancel_left]; exact congrArg (X ++ ·) hL] at hP1 hD1
  exact kk H1 locs1 ls hP1 hD1 hS1 hl
theorem ak_get {G : am_T} {cc : ByteArray} {nL : Nat} {own : String} {d0 mc ms : Nat} (C0 : ak_C G cc nL own d0 mc ms) {cells slots pc : Nat} {lv : List (Nat × Value)} {st : List Value} {L : va_W} {idx ci f n a : Nat} {v : Value} {fs : List Value} (k : Nat) (hk : L[k]? = some (a, .inr (ci, fs))) (hF : am_FL own idx ci f n) (hv : fs[f]? = some v) (hdg : decode cc pc = .ok (.getfield idx, 3)) (kk : ak_K G nL (cells) (slots) (pc + 3) lv (v :: st) (L)) : ak_K G nL (cells) (slots) (pc) lv (.ref a :: st) (L) := by
  obtain ⟨p, l, e, R, s, m, args, below, meth, c, Λ, D, cI, cF, b0, b, X, cells0, slots0, Q⟩ := G
  obtain ⟨⟨⟨hx, hb, hml, hown, hts⟩, hK, hlk, hb0, hnt, hsx, -, hR1, hR2, -, -⟩, hmc, hms, hin9, hao⟩ := C0
  intro H locs ls hP hD hS hl
  obtain ⟨C, T, ⟨hc, hin, -, -⟩, hkn, hlink⟩ := hF
  have hq : (X ++ L)[X.length + k]? = some (a, .inr (ci, fs)) := by rw [List.getElem?_append_right (by omega), Nat.add_sub_cancel_left]; exact hk
  rcases hlink with hlink | hlink
  · exact va_get (C := C) (T := T) (N := n) (D := D) (tys := am_tys cI cF) (ci := ci) hx hb hts hin hown hK hP (X.length + k) hq hc f hkn (hts _ hlink) (fun _ h9 => h9) hv hdg (kk H locs ls hP hD hS hl)
  · exact va_getN (C := C) (T := T) (N := n) (D := D) (tys := am_tys cI cF) (ci := ci) hx hb hts hin hown hK hP (X.length + k) hq hc f hkn (va_Nw.use rfl (hnt.2 _ hlink)) (fun _ h9 => h9) hv hdg (kk H locs ls hP hD hS hl)
theorem ak_iast {G : am_T} {cc : ByteArray} {nL : Nat} {own : String} {d0 mc ms : Nat} (C0 : ak_C G cc nL own d0 mc ms) {cells slots pc : Nat} {lv : List (Nat × Value)} {st : List Value} {L : va_W} {a n : Nat} {f : Nat → Int32} {i v : Int32} (k : Nat) (hk : L[k]? = some (a, .inl (am_cI G, (n, .inl f)))) {L' : va_W} (hL : L.set k (a, .inl (am_cI G, (n, .inl (upd f i.toNatClampNeg v)))) = L') (hi : vp_in i n) (hdg : decode cc pc = .ok (.iastore, 1)) (kk : ak_K G nL (cells) (slots) (pc + 1) lv (st) (L')) : ak_K G nL (cells) (slots) (pc) lv (.int v :: .int i :: .ref a :: st) (L) := by
  obtain ⟨p, l, e, R, s, m, args, below, meth, c, Λ, D, cI, cF, b0, b, X, cells0, slots0, Q⟩ := G
  obtain ⟨⟨⟨hx, hb, hml, hown, hts⟩, hK, hlk, hb0, hnt, hsx, -, hR1, hR2, -, -⟩, hmc, hms, hin9, hao⟩ := C0
  intro H locs ls hP hD hS hl
  have hq : (X ++ L)[X.length + k]? = some (a, .inl (cI, (n, .inl f))) := by rw [List.getElem?_append_right (by omega), Nat.add_sub_cancel_left]; exact hk
  refine va_iast (D := D) hx hb hK hP hD hS (X.length + k) 0 hq rfl hi hdg (fun H1 locs1 hP1 hD1 hS1 => ?_)
  rw [show (X ++ L).set (X.length + k) _ = X ++ L' from by rw [List.set_append_right _ _ (by omega), Nat.add_sub_cancel_left]; exact congrArg (X ++ ·) hL] at hP1 hD1
  exact kk H1 locs1 ls hP1 hD1 hS1 hl
theorem ak_aast {G : am_T} {cc : ByteArray} {nL : Nat} {own : String} {d0 mc ms : Nat} (C0 : ak_C G cc nL own d0 mc ms) {cells slots pc : Nat} {lv : List (Nat × Value)} {st : List Value} {L : va_W} {a n v ci : Nat} {f : Nat → Option Nat} {fs : List Value} {T : u_T} {N : Nat} {i : Int32} (k k2 : Nat) (hk : L[k]? = some (a, .inl (am_cF G, (n, .inr (.inr (.inr (.inr f))))))) (hk2 : L[k2]? = some (v, .inr (ci, fs))) (hc : vwCl[ci]? = some (RX0, T, N)) {L' : va_W} (hL : L.set k (a, .inl (am_cF G, (n, .inr (.inr (.inr (.inr (va_up f i.toNatClampNeg (some v)))))))) = L') (hi : vp_in i n) (hdg : decode cc pc = .ok (.aastore, 1)) (kk : ak_K G nL (cells) (slots) (pc + 1) lv (st) (L')) : ak_K G nL (cells) (slots) (pc) lv (.ref v :: .int i :: .ref a :: st) (L) := by
  obtain ⟨p, l, e, R, s, m, args, below, meth, c, Λ, D, cI, cF, b0, b, X, cells0, slots0, Q⟩ := G
  obtain ⟨⟨⟨hx, hb, hml, hown, hts⟩, hK, hlk, hb0, hnt, hsx, -, hR1, hR2, -, -⟩, hmc, hms, hin9, hao⟩ := C0
  intro H locs ls hP hD hS hl
  have hq : (X ++ L)[X.length + k]? = some (a, .inl (cF, (n, .inr (.inr (.inr (.inr f)))))) := by rw [List.getElem?_append_right (by omega), Nat.add_sub_cancel_left]; exact hk
  have hq2 : (X ++ L)[X.length + k2]? = some (v, .inr (ci, fs)) := by rw [List.getElem?_append_right (by omega), Nat.add_sub_cancel_left]; exact hk2
  refine va_astq (D := D) (r := (RX0, T, N)) hx hb hK hP hD hS (X.length + k) 1 (X.length + k2) ci hq rfl hq2 hc hi hdg (fun H1 locs1 hP1 hD1 hS1 => ?_)
  rw [show (X ++ L).set (X.length + k) _ = X ++ L' from by rw [List.set_append_right _ _ (by omega), Nat.add_sub_cancel_left]; exact congrArg (X ++ ·) hL] at hP1 hD1
  exact kk H1 locs1 ls hP1 hD1 hS1 hl
theorem ak_mmax {G : am_T} {cc : ByteArray} {nL : Nat} {own : String} {d0 mc ms : Nat} (C0 : ak_C G cc nL own d0 mc ms) {cells slots pc : Nat} {lv : List (Nat × Value)} {st : List Value} {L : va_W} {x y : Int32} {idx : Nat} (hl1 : Cond.methodLink own idx Lib.Math.max.name ∈ am_WL) (hw1 : Cond.static Lib.Math.max.name ∈ am_WL) (hw2 : Cond.initialized "java/lang/Math" ∈ am_WL) (hw3 : Cond.code Lib.Math.max.name Lib.Math.max.code 2 (some .int) ∈ am_WL) (hd : 1 ≤ d0) (hrs : (st.map fun v => v.category).sum ≤ 8) (h1 : cells ≤ mc) (h2 : slots ≤ ms) (hdg : decode cc pc = .ok (.invokestatic idx, 3)) (kk : ak_K G nL (cells) (slots) (pc + 3) lv (.int (if x < y then y else x) :: st) (L)) : ak_K G nL (cells) (slots) (pc) lv (.int y :: .int x :: st) (L) := by
  obtain ⟨p, l, e, R, s, m, args, below, meth, c, Λ, D, cI, cF, b0, b, X, cells0, slots0, Q⟩ := G
  obtain ⟨⟨⟨hx, hb, hml, hown, hts⟩, hK, hlk, hb0, hnt, hsx, -, hR1, hR2, -, -⟩, hmc, hms, hin9, hao⟩ := C0
  intro H locs ls hP hD hS hl
  exact va_mmax hx hb (hml.trans hl.1.symm) hown (hts _ hl1) (hts _ hw1) (hts _ hw2) (hts _ hw3) (Nat.le_trans hd hR1) (by have h9 := Nat.le_trans (Nat.mul_le_mul_left 60 hd) hR2; omega) (Nat.le_trans h1 hmc) (Nat.le_trans h2 hms) hdg (kk H locs ls hP hD hS hl)
theorem ak_mmin {G : am_T} {cc : ByteArray} {nL : Nat} {own : String} {d0 mc ms : Nat} (C0 : ak_C G cc nL own d0 mc ms) {cells slots pc : Nat} {lv : List (Nat × Value)} {st : List Value} {L : va_W} {x y : Int32} {idx : Nat} (hl1 : Cond.methodLink own idx Lib.Math.min.name ∈ am_WL) (hw1 : Cond.static Lib.Math.min.name ∈ am_WL) (hw2 : Cond.initialized "java/lang/Math" ∈ am_WL) (hw3 : Cond.code Lib.Math.min.name Lib.Math.min.code 2 (some .int) ∈ am_WL) (hd : 1 ≤ d0) (hrs : (st.map fun v => v.category).sum ≤ 8) (h1 : cells ≤ mc) (h2 : slots ≤ ms) (hdg : decode cc pc = .ok (.invokestatic idx, 3)) (kk : ak_K G nL (cells) (slots) (pc + 3) lv (.int (if y < x then y else x) :: st) (L)) : ak_K G nL (cells) (slots) (pc) lv (.int y :: .int x :: st) (L) := by
  obtain ⟨p, l, e, R, s, m, args, below, meth, c, Λ, D, cI, cF, b0, b, X, cells0, slots0, Q⟩ := G
  obtain ⟨⟨⟨hx, hb, hml, hown, hts⟩, hK, hlk, hb0, hnt, hsx, -, hR1, hR2, -, -⟩, hmc, hms, hin9, hao⟩ := C0
  intro H locs ls hP hD hS hl
  exact va_mmin hx hb (hml.trans hl.1.symm) hown (hts _ hl1) (hts _ hw1) (hts _ hw2) (hts _ hw3) (Nat.le_trans hd hR1) (by have h9 := Nat.le_trans (Nat.mul_le_mul_left 60 hd) hR2; omega) (Nat.le_trans h1 hmc) (Nat.le_trans h2 hms) hdg (kk H locs ls hP hD hS hl)
def ak_Pc (vs : List Value) (D : va_G) (cI cF : ClassId) (b0 : Nat) (ws : va_W) : Array Value → State → Prop := va_Pc vs (fun U => b0 ≤ U.heap.size ∧ va_P D vwCl ws U.heap ∧ va_D (fun q => b0 ≤ q) ws ∧ va_K D vwCl (am_tys cI cF) U ∧ am_nest U ∧ am_sx b0 U ∧ va_AO RX0 U)
def ak_Q (D : va_G) (b0 : Nat) (f : (Nat → Nat) → va_W) : Array Value → State → Outcome → State → Prop := fun _ st oc t => oc = .returned none ∧ (∃ ad : Nat → Nat, va_P D vwCl (f ad) t.heap ∧ va_D (fun q => b0 ≤ q) (f ad)) ∧ va_F (fun q => b0 ≤ q) st t
/-- a constructor's contract: from the cell h as it is born, to 'post' of h and of the cells ad 0, ad 1 .. that it made -/
def ak_Met (l : Launch) (y : MethodName) (cc : ByteArray) (nL d mc ms : Nat) (vs : Nat → List Value) (e0 : va_E) (post : ClassId → ClassId → Nat → (Nat → Nat) → va_W) : Prop :=
  ∀ (D : va_G) (cI cF : ClassId) (b0 : Nat) (X : va_W) (h : Nat), Met l y (.code y cc nL none :: am_WL) (am_rm d mc ms) (ak_Pc (vs h) D cI cF b0 (X ++ [(h, e0)])) (ak_Q D b0 (fun ad => X ++ post cI cF h ad)) mc ms (fun q => b0 ≤ q)
theorem ak_Pc.blind {vs : List Value} {D : va_G} {cI cF : ClassId} {b0 : Nat} {ws : va_W} : FrameBlind (ak_Pc vs D cI cF b0 ws) := by
  intro a U g mk q
  obtain ⟨q0, q1, q2, q3, q4, q5, q6, q7⟩ := q
  exact ⟨q0, q1, q2, q3, va_K.moved (u := U) (U := U.calling g mk a) (Vm.Alike.refl U.vm) q4, q5.same rfl, q6.same rfl rfl, va_AO.moved (u := U) (U := U.calling g mk a) (Vm.Alike.refl U.vm) q7⟩
theorem ak_Pc.at {D : va_G} {cI cF : ClassId} {b0 : Nat} {ws : va_W} {vs : List Value} {s : State} {H : Heap} {locs : List Loc} (hb0 : b0 ≤ s.heap.size) (hP : va_P D vwCl ws H) (hD : va_D (fun q => b0 ≤ q) ws) (hS : va_S (fun q => b0 ≤ q) s.heap H locs) (hK : va_K D vwCl (am_tys cI cF) s) (hne : am_nest s) (hsx : am_sx b0 s) (hao : va_AO RX0 s) :
    ∀ U : State, U.heap = H → s.WarmedH U.vm → ak_Pc vs D cI cF b0 ws vs.toArray U := by
  intro U hU hW
  refine ⟨rfl, ?_, ?_, hD, va_K.moved hW.alike hK, hne.warm hW, hsx.move hW ?_, hao.moved hW.alike⟩
  · rw [hU]; exact Nat.le_trans hb0 hS.1
  · rw [hU]; exact hP
  · intro a h1 h2; rw [hU]; exact hS.2.1 a h1 h2
section AKC
variable {p : Program} {l : Launch} {e : Env} {R : Room} {s : State} {m : MethodId} {args : Array Value} {below : List Frame} {meth : Method} {c : Code} {H : Heap} {locs : List Loc} {cells slots : Nat} {Q : State → Prop}
theorem ak_callW {D : va_G} {b0 : Nat} {f : (Nat → Nat) → va_W} {H0 : Heap} {pc mc ms : Nat} {ls : Array Slot} {st0 rest : List Value} {a : Array Value} (hr : va_Run p l e R s m args below meth c H locs cells slots mc ms (F0 m pc ls st0) rest (ak_Q D b0 f a) (fun q => b0 ≤ q)) (hS : va_S (fun q => b0 ≤ q) H0 H locs)
    (kk : ∀ (ad : Nat → Nat) (H1 : Heap) (locs1 : List Loc), va_P D vwCl (f ad) H1 → va_D (fun q => b0 ≤ q) (f ad) → va_S (fun q => b0 ≤ q) H0 H1 locs1 → W p l e R s m args below meth c H1 locs1 (cells + mc) (slots + ms) Q (F0 m (pc + 3) ls rest)) : W p l e R s m args below meth c H locs cells slots Q (F0 m pc ls st0) := by
  intro T hT X0
  obtain ⟨v, st₀, t, T', L, h0, X', hL, e1, e2, ⟨hv, ⟨ad, hP, hD⟩, hz, hk⟩, st⟩ := hr T hT X0
  cases hv
  rw [h0] at hz hk
  obtain ⟨t2, a1, b1⟩ := kk ad T'.heap (locs ++ L) (by rw [e1]; exact hP) hD
    ⟨Nat.le_trans hS.1 (by rw [e1]; exact hz), fun q h1 h2 => by rw [e1, hk q (Nat.lt_of_lt_of_le h1 hS.1) h2]; exact hS.2.1 q h1 h2, fun q hq => by
      rcases List.mem_append.mp hq with h | h
      · exact hS.2.2 q h
      · exact hL q h⟩ T' rfl X'
  exact ⟨t2, st t2 a1, b1⟩
end AKC
def ak_MI (y : MethodName) (bytes : ByteArray) (maxL n : Nat) : Prop := am_M0 y bytes maxL none n ∧ Cond.instanceMethod y ∈ am_WL ∧ y.name = "<init>"
theorem ak_init {G : am_T} {cc : ByteArray} {nL : Nat} {own : String} {d0 mc ms : Nat} (C0 : ak_C G cc nL own d0 mc ms) {cells slots pc : Nat} {lv : List (Nat × Value)} {st : List Value} {L : va_W} {y : MethodName} {bytes : ByteArray} {maxL n d idx mc1 ms1 h : Nat} {vs : Nat → List Value} {e0 : va_E} {post : ClassId → ClassId → Nat → (Nat → Nat) → va_W} {L0 : va_W} {st0 : List Value} (hM : ak_Met (am_l G) y bytes maxL d mc1 ms1 vs e0 post) (hMI : ak_MI y bytes maxL n) (hL : L0 ++ [(h, e0)] = L) {As : List Value} (hvs : vs h = .ref h :: As) (hAs : As.length = n) (hdd : d + 1 ≤ d0) (h1 : cells + mc1 ≤ mc) (h2 : slots + ms1 ≤ ms) (hst : As.reverse ++ .ref h :: st = st0) (hrs : (st.map fun v => v.category).sum ≤ 8) (hdg : decode cc pc = .ok (.invokespecial idx, 3)) (hln : Cond.methodLink own idx y ∈ am_WL) (kk : ∀ ad : Nat → Nat, ak_K G nL (cells + mc1) (slots + ms1) (pc + 3) lv (st) (L0 ++ post (am_cI G) (am_cF G) h ad)) : ak_K G nL (cells) (slots) (pc) lv (st0) (L) := by
  obtain ⟨p, l, e, R, s, m, args, below, meth, c, Λ, D, cI, cF, b0, b, X, cells0, slots0, Q⟩ := G
  obtain ⟨⟨⟨hx, hb, hml, hown, hts⟩, hK, hlk, hb0, hnt, hsx, -, hR1, hR2, -, -⟩, hmc, hms, hin9, hao⟩ := C0
  intro H locs ls hP hD hS hl
  subst hL
  subst hst
  rw [← List.append_assoc] at hP hD
  have hM1 := hM D cI cF b0 (X ++ L0) h
  have hpre : ∀ U : State, U.heap = H → s.WarmedH U.vm → ak_Pc (vs h) D cI cF b0 ((X ++ L0) ++ [(h, e0)]) (vs h).toArray U := ak_Pc.at hb0 hP hD hS hK hnt hsx hao
  rw [hvs] at hM1 hpre
  obtain ⟨hM0, hin1, hini⟩ := hMI
  have hcw : CallB R s args own idx y bytes maxL none (.code y bytes maxL none :: am_WL) (am_rm d mc1 ms1) mc1 ms1 n ∧ y.name = "<init>" ∧ (Cond.instanceMethod y).before args s = true := ⟨am_cb hts hM0 hln (Nat.le_trans hdd hR1) (Nat.le_trans (Nat.mul_le_mul_left 60 hdd) hR2), hini, hts _ hin1⟩
  have hrun := va_runI (p := p) (l := l) (e := e) (R := R) (s := s) (m := m) (args := args) (below := below) (meth := meth) (c := c) (H := H) (locs := locs) (cells := cells) (slots := slots) (As := As) (rest := st) (b := h) (g := F0 m pc ls (As.reverse ++ .ref h :: st)) (Ts := am_WL) ⟨hx, hb, hml, hown, hts⟩ hM1 hcw ⟨ak_Pc.blind, hpre⟩ rfl hAs hl.1 rfl (lv_room hrs) hdg ⟨Nat.le_trans h1 hmc, Nat.le_trans h2 hms⟩
  refine ak_callW hrun hS (fun ad H1 locs1 hP1 hD1 hS1 => ?_)
  rw [List.append_assoc] at hP1 hD1
  exact kk ad H1 locs1 ls hP1 hD1 hS1 hl
theorem ak_initN {G : am_T} {cc : ByteArray} {nL : Nat} {own : String} {d0 mc ms : Nat} (C0 : ak_C G cc nL own d0 mc ms) {cells slots pc : Nat} {lv : List (Nat × Value)} {st : List Value} {L : va_W} {y : MethodName} {bytes : ByteArray} {maxL n d idx mc1 ms1 h : Nat} {vs : Nat → List Value} {e0 : va_E} {post : ClassId → ClassId → Nat → (Nat → Nat) → va_W} {L0 : va_W} {st0 : List Value} (hM : ak_Met (am_l G) y bytes maxL d mc1 ms1 vs e0 post) (hMI : ak_MI y bytes maxL n) (hL : L0 ++ [(h, e0)] = L) {As : List Value} (hvs : vs h = .ref h :: As) (hAs : As.length = n) (hdd : d + 1 ≤ d0) (h1 : cells + mc1 ≤ mc) (h2 : slots + ms1 ≤ ms) (hst : As.reverse ++ .ref h :: st = st0) (hrs : (st.map fun v => v.category).sum ≤ 8) (hdg : decode cc pc = .ok (.invokespecial idx, 3)) (hln : (own, idx, y) ∈ am_nl) (kk : ∀ ad : Nat → Nat, ak_K G nL (cells + mc1) (slots + ms1) (pc + 3) lv (st) (L0 ++ post (am_cI G) (am_cF G) h ad)) : ak_K G nL (cells) (slots) (pc) lv (st0) (L) := by
  obtain ⟨p, l, e, R, s, m, args, below, meth, c, Λ, D, cI, cF, b0, b, X, cells0, slots0, Q⟩ := G
  obtain ⟨⟨⟨hx, hb, hml, hown, hts⟩, hK, hlk, hb0, hnt, hsx, -, hR1, hR2, -, -⟩, hmc, hms, hin9, hao⟩ := C0
  intro H locs ls hP hD hS hl
  subst hL
  subst hst
  rw [← List.append_assoc] at hP hD
  have hM1 := hM D cI cF b0 (X ++ L0) h
  have hpre : ∀ U : State, U.heap = H → s.WarmedH U.vm → ak_Pc (vs h) D cI cF b0 ((X ++ L0) ++ [(h, e0)]) (vs h).toArray U := ak_Pc.at hb0 hP hD hS hK hnt hsx hao
  rw [hvs] at hM1 hpre
  obtain ⟨hM0, hin1, hini⟩ := hMI
  obtain ⟨⟨i1, i2⟩, hd, hm⟩ := hM0
  have hG : GoodIn am_WL (.code y bytes maxL none :: am_WL) := by
    intro w hw
    rcases List.mem_cons.mp hw with rfl | hw
    · exact ⟨i2, am_good i2⟩
    · exact ⟨hw, am_good hw⟩
  have hcw : va_CN R s args own idx y RX9 bytes maxL none (.code y bytes maxL none :: am_WL) (am_rm d mc1 ms1) mc1 ms1 n ∧ y.name = "<init>" ∧ (Cond.instanceMethod y).before args s = true := ⟨va_cnB n hts hG rfl rfl rfl (hnt.1 _ hln) (hts _ i1) hd ⟨Nat.le_trans hdd hR1, by show 8 + (maxL + 11) + 60 * d ≤ R.locals; have := Nat.le_trans (Nat.mul_le_mul_left 60 hdd) hR2; omega⟩, hini, hts _ hin1⟩
  have hrun := va_runIN (p := p) (l := l) (e := e) (R := R) (s := s) (m := m) (args := args) (below := below) (meth := meth) (c := c) (H := H) (locs := locs) (cells := cells) (slots := slots) (As := As) (rest := st) (b := h) (g := F0 m pc ls (As.reverse ++ .ref h :: st)) (Ts := am_WL) ⟨hx, hb, hml, hown, hts⟩ hM1 hcw ⟨ak_Pc.blind, hpre⟩ rfl hAs hl.1 rfl (lv_room hrs) hdg ⟨Nat.le_trans h1 hmc, Nat.le_trans h2 hms⟩
  refine ak_callW hrun hS (fun ad H1 locs1 hP1 hD1 hS1 => ?_)
  rw [List.append_assoc] at hP1 hD1
  exact kk ad H1 locs1 ls hP1 hD1 hS1 hl
def ak_ret (G : am_T) (cc : ByteArray) (nL cells slots : Nat) (f : (Nat → Nat) → va_W) : Prop := ∀ (pc : Nat) (lv : List (Nat × Value)) (ad : Nat → Nat), decode cc pc = .ok (.return_, 1) → ak_K G nL cells slots pc lv [] (f ad)
theorem ak_met {l : Launch} {y : MethodName} {cc : ByteArray} {nL d mc ms : Nat} {vs : Nat → List Value} {e0 : va_E} {post : ClassId → ClassId → Nat → (Nat → Nat) → va_W} (hy : plainFor y = true) (hn : y.name = "<init>") {lv : Nat → List (Nat × Value)} (hlv : ∀ h, lv_args 0 (vs h) = lv h) (hlen : ∀ h, (lg_sl (vs h)).length ≤ nL)
    (body : ∀ (G : am_T) (h : Nat), ak_C G cc nL y.cls d mc ms → am_l G = l → ak_ret G cc nL mc ms (post (am_cI G) (am_cF G) h) → ak_K G nL 0 0 0 (lv h) [] [(h, e0)]) : ak_Met l y cc nL d mc ms vs e0 post := by
  intro D cI cF b0 X h
  refine am_ofW (cc := cc) (maxL := nL) (ret := none) hy rfl ?_
  intro p e s m args below meth c s₁ B hml hv
  obtain ⟨rfl, hb0, hP, hD, hK, hne, hsx, hao⟩ := hv
  have hr := B.returns
  have hts0 := atoms_spec (ws := .code y cc nL none :: am_WL) B.pre
  have hts : ∀ w ∈ am_WL, w.before (vs h).toArray s = true := fun w hw => hts0 w (List.mem_cons_of_mem _ hw)
  have hown : s.vm.findClass y.cls = some m.cls := findClass_of_methodNamed B.named
  have hlocks := B.notSynchronized
  have hin : meth.name = "<init>" := (name_of_methodNamed B.named B.method).1.trans hn
  have hl := lv_entry (vs h) (n := nL) (hlen h)
  rw [hlv h] at hl
  rw [lg_entry_eq]
  have hx := B.exec
  have hb := B.bytes
  refine body (p, l, e, (headSpec (.code y cc nL none :: am_WL) (am_rm d mc ms)).room, s, m, (vs h).toArray, below, meth, c, LC, D, cI, cF, b0, (fun _ => 0), X, 0, 0, MQ below (ak_Q D b0 (fun ad => X ++ post cI cF h ad)) (vs h).toArray s mc ms (fun q => b0 ≤ q)) h ⟨⟨⟨hx, hb, hml, hown, hts⟩, hK, hlocks, hb0, hne, hsx, rfl, Nat.le_refl _, Nat.le_refl _, Nat.zero_le _, Nat.zero_le _⟩, Nat.le_refl _, Nat.le_refl _, hin, hao⟩ rfl ?_ s.heap [] _ hP hD va_S.rf hl
  intro pc lv1 ad hdg H locs ls hP1 hD1 hS1 hl1
  exact W.vret hx hb hr (fun t ht hW => ⟨rfl, ⟨ad, by rw [ht]; exact hP1, hD1⟩, hS1.F ht⟩) hS1.2.2 hdg
