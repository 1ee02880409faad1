/-- a G with one int array of 16 ahead of its other cells -/
def am_GX (G : am_T) (qx : Nat) (row : Nat → Int32) : am_T := match G with
  | (p, l, e, R, s, m, args, below, meth, c, Λ, D, cI, cF, b0, b, X, cells, slots, Q) => (p, l, e, R, s, m, args, below, meth, c, Λ, D, cI, cF, b0, b, (qx, .inl (cI, (16, .inl row))) :: X, cells, slots, Q)
/-- a G with one cell of 16 slots more made -/
def am_G1 (G : am_T) : am_T := match G with
  | (p, l, e, R, s, m, args, below, meth, c, Λ, D, cI, cF, b0, b, X, cells, slots, Q) => (p, l, e, R, s, m, args, below, meth, c, Λ, D, cI, cF, b0, b, X, cells + 1, slots + 16, Q)
theorem am_CX {G : am_T} {cc : ByteArray} {nL : Nat} {own : String} {Λ0 : am_L} {d0 : Nat} (C0 : am_C G cc nL own Λ0 d0) (qx : Nat) (row : Nat → Int32) : am_C (am_GX G qx row) cc nL own Λ0 d0 := by
  obtain ⟨p, l, e, R, s, m, args, below, meth, c, Λ, D, cI, cF, b0, b, X, cells, slots, Q⟩ := G
  obtain ⟨h1, h2, h3, h4, h5, h6, h7, h8, h9, h10, h11⟩ := C0
  exact ⟨h1, h2, h3, h4, h5, h6, h7, h8, h9, h10, h11⟩
theorem am_bX (G : am_T) (qx : Nat) (row : Nat → Int32) : am_b (am_GX G qx row) = am_b G := by
  obtain ⟨p, l, e, R, s, m, args, below, meth, c, Λ, D, cI, cF, b0, b, X, cells, slots, Q⟩ := G
  simp only [am_b, am_GX]
theorem am_lX (G : am_T) (qx : Nat) (row : Nat → Int32) : am_l (am_GX G qx row) = am_l G := by
  obtain ⟨p, l, e, R, s, m, args, below, meth, c, Λ, D, cI, cF, b0, b, X, cells, slots, Q⟩ := G
  simp only [am_l, am_GX]
theorem am_b1 (G : am_T) : am_b (am_G1 G) = am_b G := by
  obtain ⟨p, l, e, R, s, m, args, below, meth, c, Λ, D, cI, cF, b0, b, X, cells, slots, Q⟩ := G
  simp only [am_b, am_G1]
theorem am_l1 (G : am_T) : am_l (am_G1 G) = am_l G := by
  obtain ⟨p, l, e, R, s, m, args, below, meth, c, Λ, D, cI, cF, b0, b, X, cells, slots, Q⟩ := G
  simp only [am_l, am_G1]
theorem am_widenG {G : am_T} {nL pc : Nat} {lv : List (Nat × Value)} {st : List Value} {σ : am_SS} (k : am_K (am_G1 G) nL pc lv st σ) : am_K G nL pc lv st σ := by
  obtain ⟨p, l, e, R, s, m, args, below, meth, c, Λ, D, cI, cF, b0, b, X, cells, slots, Q⟩ := G
  exact fun H locs ls hP hD hS hl => W.widen (by omega) (by omega) (k H locs ls hP hD hS hl)
theorem am_dropX {G : am_T} {qx : Nat} {row : Nat → Int32} {nL pc : Nat} {lv : List (Nat × Value)} {st : List Value} {σ : am_SS} (k : am_K G nL pc lv st σ) : am_K (am_GX G qx row) nL pc lv st σ := by
  obtain ⟨p, l, e, R, s, m, args, below, meth, c, Λ, D, cI, cF, b0, b, X, cells, slots, Q⟩ := G
  intro H locs ls hP hD hS hl
  refine k H locs ls (fun i q hq => hP (i + 1) q hq) ⟨fun i j x y hi hj hxy => ?_, fun i q hq => hD.2 (i + 1) q hq⟩ hS hl
  have := hD.1 (i + 1) (j + 1) x y hi hj hxy
  omega
theorem am_ialdX {G : am_T} {cc : ByteArray} {nL : Nat} {own : String} {Λ0 : am_L} {d0 : Nat} (C0 : am_C G cc nL own Λ0 d0) {qx pc : Nat} {row : Nat → Int32} {lv : List (Nat × Value)} {st : List Value} {σ : am_SS} {i x : Int32} (h : am_rd (fun _ => row) 0 16 i = some x) (hdg : decode cc pc = .ok (.iaload, 1)) (kk : am_K (am_GX G qx row) nL (pc + 1) lv (.int x :: st) σ) : am_K (am_GX G qx row) nL pc lv (.int i :: .ref qx :: st) σ := by
  obtain ⟨p, l, e, R, s, m, args, below, meth, c, Λ, D, cI, cF, b0, b, X, cells, slots, Q⟩ := G
  obtain ⟨⟨hx, hb, hml, hown, hts⟩, hK, hlk, hb0, hnt, hsx, rfl, hR1, hR2, hR3, hR4⟩ := C0
  intro H locs ls hP hD hS hl
  obtain ⟨hi, rfl⟩ := am_rd_some h
  exact va_iald (D := D) hx hb hK hP 0 0 (cA := cI) (n := 16) (f := row) rfl rfl hi hdg (kk H locs ls hP hD hS hl)
theorem am_alenX {G : am_T} {cc : ByteArray} {nL : Nat} {own : String} {Λ0 : am_L} {d0 : Nat} (C0 : am_C G cc nL own Λ0 d0) {qx pc : Nat} {row : Nat → Int32} {lv : List (Nat × Value)} {st : List Value} {σ : am_SS} (hdg : decode cc pc = .ok (.arraylength, 1)) (kk : am_K (am_GX G qx row) nL (pc + 1) lv (.int 16 :: st) σ) : am_K (am_GX G qx row) nL pc lv (.ref qx :: st) σ := by
  obtain ⟨p, l, e, R, s, m, args, below, meth, c, Λ, D, cI, cF, b0, b, X, cells, slots, Q⟩ := G
  obtain ⟨⟨hx, hb, hml, hown, hts⟩, hK, hlk, hb0, hnt, hsx, rfl, hR1, hR2, hR3, hR4⟩ := C0
  intro H locs ls hP hD hS hl
  exact va_alen (D := D) hx hb hK hP 0 0 (cA := cI) (x := (16, .inl row)) rfl (ty := .int) rfl (v := 16) (show Int32.ofNat 16 = 16 from by decide) hdg (kk H locs ls hP hD hS hl)
theorem am_iastX {G : am_T} {cc : ByteArray} {nL : Nat} {own : String} {Λ0 : am_L} {d0 : Nat} (C0 : am_C G cc nL own Λ0 d0) {qx pc : Nat} {row : Nat → Int32} {lv : List (Nat × Value)} {st : List Value} {σ : am_SS} {i v : Int32} (hi : ¬ (i < 0 ∨ 16 ≤ i.toNatClampNeg)) (hdg : decode cc pc = .ok (.iastore, 1)) (kk : am_K (am_GX G qx (upd row i.toNatClampNeg v)) nL (pc + 1) lv st σ) : am_K (am_GX G qx row) nL pc lv (.int v :: .int i :: .ref qx :: st) σ := by
  obtain ⟨p, l, e, R, s, m, args, below, meth, c, Λ, D, cI, cF, b0, b, X, cells, slots, Q⟩ := G
  obtain ⟨⟨hx, hb, hml, hown, hts⟩, hK, hlk, hb0, hnt, hsx, rfl, hR1, hR2, hR3, hR4⟩ := C0
  intro H locs ls hP hD hS hl
  exact va_iast (D := D) hx hb hK hP hD hS 0 0 (cA := cI) (n := 16) (f := row) rfl rfl hi hdg (fun H1 locs1 hP1 hD1 hS1 => kk H1 locs1 ls hP1 hD1 hS1 hl)
theorem am_newX {G : am_T} {cc : ByteArray} {nL : Nat} {own : String} {Λ0 : am_L} {d0 : Nat} (C0 : am_C G cc nL own Λ0 d0) (C1 : am_C (am_G1 G) cc nL own Λ0 d0) {pc : Nat} {lv : List (Nat × Value)} {st : List Value} {σ : am_SS} (hw : Cond.arrayClass .int ∈ am_WL) (hdg : decode cc pc = .ok (.newarray .int, 2)) (kk : ∀ qx : Nat, am_K (am_GX (am_G1 G) qx (fun _ => 0)) nL (pc + 2) lv (.ref qx :: st) σ) : am_K G nL pc lv (.int 16 :: st) σ := by
  obtain ⟨p, l, e, R, s, m, args, below, meth, c, Λ, D, cI, cF, b0, b, X, cells, slots, Q⟩ := G
  obtain ⟨⟨hx, hb, hml, hown, hts⟩, hK, hlk, hb0, hnt, hsx, rfl, hR1, hR2, hR3, hR4⟩ := C0
  obtain ⟨-, -, -, -, -, -, -, -, -, hc1, hs1⟩ := C1
  intro H locs ls hP hD hS hl
  refine va_newa (D := D) (atype := .int) (ty := .int) (N' := 16) (a0 := (16, .inl (fun _ => 0))) hx hb (hts _ hw) rfl hK hP hD hS (fun q hq => Nat.le_trans hb0 hq) (fun cA => rfl) (by decide) (by decide) (Nat.le_of_ble_eq_true rfl) hc1 hs1 hdg (fun q cA H1 hK1 hP1 hD1 hS1 => ?_)
  have e1 : s.vm.findClass ("[" ++ (FieldType.int).toString) = some cI := (hK.2 0 (cI, .int) rfl).2
  have e2 : s.vm.findClass ("[" ++ (FieldType.int).toString) = some cA := (hK1.2 2 (cA, .int) rfl).2
  have e3 : cA = cI := Option.some.inj (e2.symm.trans e1)
  subst e3
  exact kk q H1 locs ls (am_swapP (w1 := X ++ am_pl Λ cA cF b σ) (w2 := [(q, .inl (cA, (16, .inl (fun _ => 0))))]) hP1) (am_swapD (w1 := X ++ am_pl Λ cA cF b σ) (w2 := [(q, .inl (cA, (16, .inl (fun _ => 0))))]) hD1) hS1 hl
def am_MetX (l : Launch) (y : MethodName) (cc : ByteArray) (nL : Nat) (ret : Option FieldType) (d : Nat) (Λ : am_L) (vs : (Nat → Nat) → Nat → List Value) (row : Nat → Int32) (σ : am_SS) (rv : Option Value) : Prop :=
  ∀ (D : va_G) (cI cF : ClassId) (b0 : Nat) (b : Nat → Nat) (X : va_W) (qx : Nat), Met l y (.code y cc nL ret :: am_WL) (am_rm d 0 0) (am_Pc (vs b qx) D cI cF b0 b Λ ((qx, .inl (cI, (16, .inl row))) :: X) σ) (am_Q rv D cI cF b0 b Λ ((qx, .inl (cI, (16, .inl row))) :: X) σ) 0 0 (fun q => b0 ≤ q)
theorem am_metIX {l : Launch} {y : MethodName} {cc : ByteArray} {nL : Nat} {ty : FieldType} {d : Nat} {Λ : am_L} {vs : (Nat → Nat) → Nat → List Value} {row : Nat → Int32} {σ : am_SS} {r : Int32} (hy : plainFor y = true) (hnr : narrow ty (.int r) = .int r) {lv : (Nat → Nat) → Nat → List (Nat × Value)} (hlv : ∀ b qx, lv_args 0 (vs b qx) = lv b qx) (hlen : ∀ b qx, (lg_sl (vs b qx)).length ≤ nL)
    (body : ∀ (G : am_T) (qx : Nat), am_C G cc nL y.cls Λ d → am_l G = l → am_retI (am_GX G qx row) cc nL r σ → am_K (am_GX G qx row) nL 0 (lv (am_b G) qx) [] σ) : am_MetX l y cc nL (some ty) d Λ vs row σ (some (.int r)) := by
  intro D cI cF b0 b X qx
  refine am_ofW (cc := cc) (maxL := nL) (ret := some ty) hy rfl ?_
  intro p e s m args below meth c s₁ B hml hv
  obtain ⟨rfl, hb0, hP, hD, hK, hne, hsx⟩ := hv
  have hr := B.returns
  have hts0 := atoms_spec (ws := .code y cc nL (some ty) :: am_WL) B.pre
  have hts : ∀ w ∈ am_WL, w.before (vs b qx).toArray s = true := fun w hw => hts0 w (List.mem_cons_of_mem _ hw)
  have hown : s.vm.findClass y.cls = some m.cls := findClass_of_methodNamed B.named
  have hlocks := B.notSynchronized
  have hl := lv_entry (vs b qx) (n := nL) (hlen b qx)
  rw [hlv b qx] at hl
  rw [lg_entry_eq]
  have hx := B.exec
  have hb := B.bytes
  refine body (p, l, e, (headSpec (.code y cc nL (some ty) :: am_WL) (am_rm d 0 0)).room, s, m, (vs b qx).toArray, below, meth, c, Λ, D, cI, cF, b0, b, X, 0, 0, MQ below (am_Q (some (.int r)) D cI cF b0 b Λ ((qx, .inl (cI, (16, .inl row))) :: X) σ) (vs b qx).toArray s 0 0 (fun q => b0 ≤ q)) qx ⟨⟨hx, hb, hml, hown, hts⟩, hK, hlocks, hb0, hne, hsx, rfl, Nat.le_refl _, Nat.le_refl _, Nat.zero_le _, Nat.zero_le _⟩ rfl ?_ s.heap [] _ hP hD va_S.rf hl
  intro pc lv1 hdg H locs ls hP1 hD1 hS1 hl1
  exact W.zret hx hb hr hnr (fun t ht hW => ⟨rfl, by rw [ht]; exact hP1, hS1.F ht⟩) hS1.2.2 hdg
theorem am_metIA {l : Launch} {y : MethodName} {cc : ByteArray} {nL : Nat} {ty : FieldType} {d : Nat} {Λ : am_L} {vs : (Nat → Nat) → List Value} {σ σ' : am_SS} {r : Int32} (hy : plainFor y = true) (hnr : narrow ty (.int r) = .int r) {lv : (Nat → Nat) → List (Nat × Value)} (hlv : ∀ b, lv_args 0 (vs b) = lv b) (hlen : ∀ b, (lg_sl (vs b)).length ≤ nL)
    (body : ∀ G : am_T, am_C G cc nL y.cls Λ d → am_C (am_G1 G) cc nL y.cls Λ d → am_l G = l → am_retI (am_G1 G) cc nL r σ' → am_K G nL 0 (lv (am_b G)) [] σ) : am_Met l y cc nL (some ty) d 1 16 Λ vs σ (some (.int r)) σ' := by
  intro D cI cF b0 b X
  refine am_ofW (cc := cc) (maxL := nL) (ret := some ty) hy rfl ?_
  intro p e s m args below meth c s₁ B hml hv
  obtain ⟨rfl, hb0, hP, hD, hK, hne, hsx⟩ := hv
  have hr := B.returns
  have hts0 := atoms_spec (ws := .code y cc nL (some ty) :: am_WL) B.pre
  have hts : ∀ w ∈ am_WL, w.before (vs b).toArray s = true := fun w hw => hts0 w (List.mem_cons_of_mem _ hw)
  have hown : s.vm.findClass y.cls = some m.cls := findClass_of_methodNamed B.named
  have hlocks := B.notSynchronized
  have hl := lv_entry (vs b) (n := nL) (hlen b)
  rw [hlv b] at hl
  rw [lg_entry_eq]
  have hx := B.exec
  have hb := B.bytes
  refine body (p, l, e, (headSpec (.code y cc nL (some ty) :: am_WL) (am_rm d 1 16)).room, s, m, (vs b).toArray, below, meth, c, Λ, D, cI, cF, b0, b, X, 0, 0, MQ below (am_Q (some (.int r)) D cI cF b0 b Λ X σ') (vs b).toArray s 1 16 (fun q => b0 ≤ q)) ⟨⟨hx, hb, hml, hown, hts⟩, hK, hlocks, hb0, hne, hsx, rfl, Nat.le_refl _, Nat.le_refl _, Nat.zero_le _, Nat.zero_le _⟩ ⟨⟨hx, hb, hml, hown, hts⟩, hK, hlocks, hb0, hne, hsx, rfl, Nat.le_refl _, Nat.le_refl _, Nat.le_refl _, Nat.le_refl _⟩ rfl ?_ s.heap [] _ hP hD va_S.rf hl
  intro pc lv1 hdg H locs ls hP1 hD1 hS1 hl1
  exact W.zret hx hb hr hnr (fun t ht hW => ⟨rfl, by rw [ht]; exact hP1, hS1.F ht⟩) hS1.2.2 hdg
theorem am_callSX {G : am_T} {cc : ByteArray} {nL : Nat} {own : String} {Λ0 : am_L} {d0 : Nat} (C0 : am_C G cc nL own Λ0 d0) {pc qx : Nat} {row : Nat → Int32} {lv : List (Nat × Value)} {st st0 : List Value} {σ : am_SS} {y : MethodName} {bytes : ByteArray} {maxL : Nat} {ret : Option FieldType} {n d idx : Nat} {vs : (Nat → Nat) → Nat → List Value} {rv : Option Value} (hM : am_MetX (am_l G) y bytes maxL ret d Λ0 vs row σ rv) (hMS : am_MS y bytes maxL ret n) (hln : Cond.methodLink own idx y ∈ am_WL) (hAs : ∀ b qx, (vs b qx).length = n) (hdd : d + 1 ≤ d0) (hst : (vs (am_b G) qx).reverse ++ st = st0) (hrs : (st.map fun v => v.category).sum ≤ 8) (hdg : decode cc pc = .ok (.invokestatic idx, 3)) (kk : am_K (am_GX G qx row) nL (pc + 3) lv (rv.toList ++ st) σ) : am_K (am_GX G qx row) nL pc lv st0 σ := by
  obtain ⟨p, l, e, R, s, m, args, below, meth, c, Λ, D, cI, cF, b0, b, X, cells, slots, Q⟩ := G
  obtain ⟨⟨hx, hb, hml, hown, hts⟩, hK, hlk, hb0, hnt, hsx, rfl, hR1, hR2, hR3, hR4⟩ := C0
  intro H locs ls hP hD hS hl
  subst hst
  have hM1 := hM D cI cF b0 b X qx
  have hpre : ∀ U : State, U.heap = H → s.WarmedH U.vm → am_Pc (vs b qx) D cI cF b0 b Λ ((qx, .inl (cI, (16, .inl row))) :: X) σ (vs b qx).toArray U := am_Pc.at hb0 hP hD hS hK hnt hsx
  show W p l e R s m args below meth c H locs cells slots Q (F0 m pc ls ((vs b qx).reverse ++ st))
  have hcw : CallB R s args own idx y bytes maxL ret (.code y bytes maxL ret :: am_WL) (am_rm d 0 0) 0 0 n ∧ (Cond.static y).before args s = true := ⟨am_cb hts hMS.1 hln (Nat.le_trans hdd hR1) (Nat.le_trans (Nat.mul_le_mul_left 60 hdd) hR2), hts _ hMS.2⟩
  have hrun := va_runS (p := p) (l := l) (e := e) (R := R) (s := s) (m := m) (args := args) (below := below) (meth := meth) (c := c) (H := H) (locs := locs) (cells := cells) (slots := slots) (As := vs b qx) (rest := st) (g := F0 m pc ls ((vs b qx).reverse ++ st)) (Ts := am_WL) ⟨hx, hb, hml, hown, hts⟩ hM1 hcw ⟨am_Pc.blind, hpre⟩ rfl (hAs b qx) hl.1 rfl (lv_room hrs) hdg ⟨hR3, hR4⟩
  exact am_callW hrun hS (fun H1 locs1 hP1 hS1 => kk H1 locs1 ls hP1 (am_D hD) hS1 hl)
theorem am_callSA {G : am_T} {cc : ByteArray} {nL : Nat} {own : String} {Λ0 : am_L} {d0 : Nat} (C0 : am_C G cc nL own Λ0 d0) (C1 : am_C (am_G1 G) cc nL own Λ0 d0) {pc : Nat} {lv : List (Nat × Value)} {st st0 : List Value} {σ σ' : am_SS} {y : MethodName} {bytes : ByteArray} {maxL : Nat} {ret : Option FieldType} {n d idx : Nat} {vs : (Nat → Nat) → List Value} {rv : Option Value} (hM : am_Met (am_l G) y bytes maxL ret d 1 16 Λ0 vs σ rv σ') (hMS : am_MS y bytes maxL ret n) (hln : Cond.methodLink own idx y ∈ am_WL) (hAs : ∀ b, (vs b).length = n) (hdd : d + 1 ≤ d0) (hst : (vs (am_b G)).reverse ++ st = st0) (hrs : (st.map fun v => v.category).sum ≤ 8) (hdg : decode cc pc = .ok (.invokestatic idx, 3)) (kk : am_K (am_G1 G) nL (pc + 3) lv (rv.toList ++ st) σ') : am_K G nL pc lv st0 σ := by
  obtain ⟨p, l, e, R, s, m, args, below, meth, c, Λ, D, cI, cF, b0, b, X, cells, slots, Q⟩ := G
  obtain ⟨⟨hx, hb, hml, hown, hts⟩, hK, hlk, hb0, hnt, hsx, rfl, hR1, hR2, hR3, hR4⟩ := C0
  obtain ⟨-, -, -, -, -, -, -, -, -, hc1, hs1⟩ := C1
  intro H locs ls hP hD hS hl
  subst hst
  have hM1 := hM D cI cF b0 b X
  have hpre : ∀ U : State, U.heap = H → s.WarmedH U.vm → am_Pc (vs b) D cI cF b0 b Λ X σ (vs b).toArray U := am_Pc.at hb0 hP hD hS hK hnt hsx
  show W p l e R s m args below meth c H locs cells slots Q (F0 m pc ls ((vs b).reverse ++ st))
  have hcw : CallB R s args own idx y bytes maxL ret (.code y bytes maxL ret :: am_WL) (am_rm d 1 16) 1 16 n ∧ (Cond.static y).before args s = true := ⟨am_cb hts hMS.1 hln (Nat.le_trans hdd hR1) (Nat.le_trans (Nat.mul_le_mul_left 60 hdd) hR2), hts _ hMS.2⟩
  have hrun := va_runS (p := p) (l := l) (e := e) (R := R) (s := s) (m := m) (args := args) (below := below) (meth := meth) (c := c) (H := H) (locs := locs) (cells := cells) (slots := slots) (As := vs b) (rest := st) (g := F0 m pc ls ((vs b).reverse ++ st)) (Ts := am_WL) ⟨hx, hb, hml, hown, hts⟩ hM1 hcw ⟨am_Pc.blind, hpre⟩ rfl (hAs b) hl.1 rfl (lv_room hrs) hdg ⟨hc1, hs1⟩
  exact am_callW hrun hS (fun H1 locs1 hP1 hS1 => kk H1 locs1 ls hP1 (am_D hD) hS1 hl)
set_option maxRecDepth 100000 in
set_option maxHeartbeats 4000000 in
theorem k_C_Nights_stands_l {G : am_T} {d0 : Nat} (C0 : am_C G cX2_stands 4 RX2 LC d0) {qx : Nat} {row : Nat → Int32} {σ : am_SS} {q : Bool} (hret : am_retI (am_GX G qx row) cX2_stands 4 (am_bI q) σ) (x1 x2 : Int32) : ∀ (n : Nat) (x3 : Int32) (h : C_Nights_stands_l row x1 x2 n x3 = some q), am_K (am_GX G qx row) 4 2 [(0, .ref qx), (1, .int x1), (2, .int x2), (3, .int x3)] [] σ := by
  intro n
  have CX := am_CX C0 qx row
  induction n with
  | zero =>
    intro x3 h
    rw [C_Nights_stands_l] at h; cases h
  | succ n ih =>
    intro x3 h
    rw [C_Nights_stands_l] at h
    refine am_iload_n CX dX2_stands_2 3 rfl ?_
    refine am_iload_n CX dX2_stands_3 1 rfl ?_
    refine am_icmp_ge CX dX2_stands_4 (tgt := 28) (by decide) (fun c1 => ?_) (fun c1 => ?_)
    · replace h := am_in h c1
      have e := Option.some.inj h
      subst e
      refine am_iconst CX dX2_stands_28 ci_0 ?_
      exact hret _ _ dX2_stands_29
    · replace h := am_ip h c1
      refine am_iload_n CX dX2_stands_7 3 rfl ?_
      refine am_aload_n CX dX2_stands_8 0 rfl ?_
      refine am_alenX C0 dX2_stands_9 ?_
      refine am_icmp_ge CX dX2_stands_10 (tgt := 28) (by decide) (fun c2 => ?_) (fun c2 => ?_)
      · replace h := am_in h c2
        have e := Option.some.inj h
        subst e
        refine am_iconst CX dX2_stands_28 ci_0 ?_
        exact hret _ _ dX2_stands_29
      · replace h := am_ip h c2
        refine am_aload_n CX dX2_stands_13 0 rfl ?_
        refine am_iload_n CX dX2_stands_14 3 rfl ?_
        obtain ⟨t, ht, h⟩ := am_bind h
        refine am_ialdX C0 ht dX2_stands_15 ?_
        refine am_iload_n CX dX2_stands_16 2 rfl ?_
        refine am_icmp_ne CX dX2_stands_17 (tgt := 22) (by decide) (fun c3 => ?_) (fun c3 => ?_)
        · replace h := am_in h c3
          obtain ⟨x, ex, h⟩ := am_lt h
          refine am_iinc CX dX2_stands_22 3 rfl (by rw [ci_1]; exact ex) (by decide) rfl (lv' := [(0, .ref qx), (1, .int x1), (2, .int x2), (3, .int x)]) rfl ?_
          refine am_goto CX dX2_stands_25 (tgt := 2) (by decide) ?_
          exact ih x h
        · replace h := am_ip h c3
          have e := Option.some.inj h
          subst e
          refine am_iconst CX dX2_stands_20 ci_1 ?_
          exact hret _ _ dX2_stands_21
set_option maxRecDepth 100000 in
set_option maxHeartbeats 4000000 in
theorem m_C_Nights_stands {l : Launch} {d : Nat} {σ : am_SS} {q : Bool} (F : Nat) (row : Nat → Int32) (x1 x2 : Int32) (h : C_Nights_stands F row x1 x2 = some q) : am_MetX l yX2_stands cX2_stands 4 (some .boolean) d LC (fun _ qx => [.ref qx, .int x1, .int x2]) row σ (some (.int (am_bI q))) :=
  am_metIX (plainFor_of_name (by decide)) (am_bI_nr _) (lv := fun _ qx => [(0, .ref qx), (1, .int x1), (2, .int x2)]) (fun _ _ => rfl) (fun _ _ => Nat.le_of_ble_eq_true rfl) (fun G qx C0 _ hret => by
    have CX := am_CX C0 qx row
    refine am_iconst CX dX2_stands_0 ci_0 ?_
    refine am_istore_n CX dX2_stands_1 rfl (by decide) rfl (lv' := [(0, .ref qx), (1, .int x1), (2, .int x2), (3, .int 0)]) rfl ?_
    exact k_C_Nights_stands_l C0 hret x1 x2 F 0 h)
set_option maxRecDepth 100000 in
set_option maxHeartbeats 4000000 in
theorem k_C_Nights_pieces_l {G : am_T} {d0 : Nat} (C1 : am_C (am_G1 G) cX2_pieces 5 RX2 LC d0) (hd : 2 ≤ d0) (F : Nat) {qx : Nat} {σ : am_SS} {q : Int32} (hret : am_retI (am_G1 G) cX2_pieces 5 q σ) (a0 : Nat) (ha0 : LC.1 a0 = 6) : ∀ (n : Nat) (row : Nat → Int32) (x2 x3 x4 : Int32) (h : C_Nights_pieces_l F a0 n row x2 x3 x4 σ = some q), am_K (am_GX (am_G1 G) qx row) 5 12 [(0, .ref (am_b G a0)), (1, .ref qx), (2, .int x2), (3, .int x3), (4, .int x4)] [] σ := by
  have hbb : ∀ row, am_b (am_GX (am_G1 G) qx row) = am_b G := fun row => by rw [am_bX, am_b1]
  have hll : ∀ row, am_l (am_GX (am_G1 G) qx row) = am_l (am_G1 G) := fun row => am_lX _ _ _
  generalize am_b G = bb at hbb ⊢
  intro n
  induction n with
  | zero =>
    intro row x2 x3 x4 h
    rw [C_Nights_pieces_l] at h; cases h
  | succ n ih =>
    intro row x2 x3 x4 h
    rw [C_Nights_pieces_l] at h
    have CX := am_CX C1 qx row
    refine am_iload CX dX2_pieces_12 4 rfl ?_
    refine am_aload_n CX dX2_pieces_14 0 rfl ?_
    rw [← hbb row]
    refine am_getI CX ff_RX2_9 (loC_4_2 ha0).1 (loC_4_2 ha0).2.1 (loC_4_2 ha0).2.2.1 (loC_4_2 ha0).2.2.2 dX2_pieces_15 ?_
    refine am_icmp_ge CX dX2_pieces_18 (tgt := 63) (by decide) (fun c1 => ?_) (fun c1 => ?_)
    · replace h := am_in h c1
      refine am_iload_n CX dX2_pieces_63 3 rfl ?_
      refine am_iconst CX dX2_pieces_64 ci_1 ?_
      refine am_icmp_ne CX dX2_pieces_65 (tgt := 72) (by decide) (fun c2 => ?_) (fun c2 => ?_)
      · replace h := am_in h c2
        have e := Option.some.inj h
        subst e
        refine am_iload_n CX dX2_pieces_72 2 rfl ?_
        refine am_iconst CX dX2_pieces_73 ci_1 ?_
        refine am_iadd CX dX2_pieces_74 ?_
        exact am_dropX (hret _ _ dX2_pieces_75)
      · replace h := am_ip h c2
        have e := Option.some.inj h
        subst e
        refine am_iload_n CX dX2_pieces_68 2 rfl ?_
        refine am_goto CX dX2_pieces_69 (tgt := 75) (by decide) ?_
        exact am_dropX (hret _ _ dX2_pieces_75)
    · replace h := am_ip h c1
      refine am_iload_n CX dX2_pieces_21 3 rfl ?_
      refine am_iconst CX dX2_pieces_22 ci_2 ?_
      refine am_imul CX dX2_pieces_23 ?_
      refine am_aload_n CX dX2_pieces_24 0 rfl ?_
      refine am_iload CX dX2_pieces_25 4 rfl ?_
      refine am_iconst CX dX2_pieces_27 ci_0 ?_
      obtain ⟨q1, hq1, h⟩ := am_bind h
      refine am_callV CX (m_C_Table_at (σ := σ) (Nat.le_refl _) a0 x4 0 ha0 hq1) mm_yX6_at ln_RX2_15 (As := fun b => [.int x4, .int 0]) (fun _ => rfl) (fun _ => rfl) (loC_4_0 ha0).1 (loC_4_0 ha0).2.1 rfl (Nat.le_trans (by decide) hd) rfl (Nat.le_of_ble_eq_true rfl) dX2_pieces_28 ?_
      rw [hbb row]
      refine am_iadd CX dX2_pieces_31 ?_
      obtain ⟨x3a, e3, h⟩ := am_lt h
      refine am_top e3 ?_
      refine am_istore_n CX dX2_pieces_32 rfl (by decide) rfl (lv' := [(0, .ref (bb a0)), (1, .ref qx), (2, .int x2), (3, .int x3a), (4, .int x4)]) rfl ?_
      refine am_aload_n CX dX2_pieces_33 1 rfl ?_
      refine am_iload_n CX dX2_pieces_34 2 rfl ?_
      refine am_iload_n CX dX2_pieces_35 3 rfl ?_
      obtain ⟨q2, hq2, h⟩ := am_bind h
      refine am_callSX C1 (vs := fun _ qx => [.ref qx, .int x2, .int x3a]) (m_C_Nights_stands (d := 1) F row x2 x3a hq2) mm_yX2_stands ln_RX2_38 (fun _ _ => rfl) hd rfl (Nat.le_of_ble_eq_true rfl) dX2_pieces_36 ?_
      refine am_ifB_ne CX dX2_pieces_39 (tgt := 57) (by decide) (fun c3 => ?_) (fun c3 => ?_)
      · replace h := am_ip h c3
        obtain ⟨x4a, e4, h⟩ := am_lt h
        refine am_iinc CX dX2_pieces_57 4 rfl (by rw [ci_1]; exact e4) (by decide) rfl (lv' := [(0, .ref (bb a0)), (1, .ref qx), (2, .int x2), (3, .int x3a), (4, .int x4a)]) rfl ?_
        refine am_goto CX dX2_pieces_60 (tgt := 12) (by decide) ?_
        exact ih row x2 x3a x4a h
      · replace h := am_in h c3
        refine am_iload_n CX dX2_pieces_42 2 rfl ?_
        refine am_bipush CX dX2_pieces_43 kb_16 ?_
        refine am_icmp_ge CX dX2_pieces_45 (tgt := 57) (by decide) (fun c4 => ?_) (fun c4 => ?_)
        · replace h := am_in h c4
          obtain ⟨x4a, e4, h⟩ := am_lt h
          refine am_iinc CX dX2_pieces_57 4 rfl (by rw [ci_1]; exact e4) (by decide) rfl (lv' := [(0, .ref (bb a0)), (1, .ref qx), (2, .int x2), (3, .int x3a), (4, .int x4a)]) rfl ?_
          refine am_goto CX dX2_pieces_60 (tgt := 12) (by decide) ?_
          exact ih row x2 x3a x4a h
        · replace h := am_ip h c4
          obtain ⟨hz, h⟩ := am_gd h
          refine am_aload_n CX dX2_pieces_48 1 rfl ?_
          refine am_iload_n CX dX2_pieces_49 2 rfl ?_
          refine am_iload_n CX dX2_pieces_50 3 rfl ?_
          refine am_iastX C1 hz dX2_pieces_51 ?_
          have CY := am_CX C1 qx (upd row x2.toNatClampNeg x3a)
          obtain ⟨x2a, e2, h⟩ := am_lt h
          refine am_iinc CY dX2_pieces_52 2 rfl (by rw [ci_1]; exact e2) (by decide) rfl (lv' := [(0, .ref (bb a0)), (1, .ref qx), (2, .int x2a), (3, .int x3a), (4, .int x4)]) rfl ?_
          refine am_iconst CY dX2_pieces_55 ci_1 ?_
          refine am_istore_n CY dX2_pieces_56 rfl (by decide) rfl (lv' := [(0, .ref (bb a0)), (1, .ref qx), (2, .int x2a), (3, .int 1), (4, .int x4)]) rfl ?_
          obtain ⟨x4a, e4, h⟩ := am_lt h
          refine am_iinc CY dX2_pieces_57 4 rfl (by rw [ci_1]; exact e4) (by decide) rfl (lv' := [(0, .ref (bb a0)), (1, .ref qx), (2, .int x2a), (3, .int 1), (4, .int x4a)]) rfl ?_
          refine am_goto CY dX2_pieces_60 (tgt := 12) (by decide) ?_
          exact ih _ x2a 1 x4a h
set_option maxRecDepth 100000 in
set_option maxHeartbeats 4000000 in
theorem m_C_Nights_pieces {l : Launch} {d : Nat} {σ : am_SS} {q : Int32} (hd : 2 ≤ d) (F : Nat) (a0 : Nat) (ha0 : LC.1 a0 = 6) (h : C_Nights_pieces F a0 σ = some q) : am_Met l yX2_pieces cX2_pieces 5 (some .int) d 1 16 LC (fun b => [.ref (b a0)]) σ (some (.int q)) σ :=
  am_metIA (plainFor_of_name (by decide)) rfl (lv := fun b => [(0, .ref (b a0))]) (fun _ => rfl) (fun _ => Nat.le_of_ble_eq_true rfl) (fun G C0 C1 _ hret => by
    refine am_bipush C0 dX2_pieces_0 kb_16 ?_
    refine am_newX C0 C1 kc_arrI dX2_pieces_2 (fun qx => ?_)
    have CX := am_CX C1 qx (fun _ => 0)
    refine am_astore_n CX dX2_pieces_4 rfl (by decide) rfl (lv' := [(0, .ref (am_b G a0)), (1, .ref qx)]) rfl ?_
    refine am_iconst CX dX2_pieces_5 ci_0 ?_
    refine am_istore_n CX dX2_pieces_6 rfl (by decide) rfl (lv' := [(0, .ref (am_b G a0)), (1, .ref qx), (2, .int 0)]) rfl ?_
    refine am_iconst CX dX2_pieces_7 ci_1 ?_
    refine am_istore_n CX dX2_pieces_8 rfl (by decide) rfl (lv' := [(0, .ref (am_b G a0)), (1, .ref qx), (2, .int 0), (3, .int 1)]) rfl ?_
    refine am_iconst CX dX2_pieces_9 ci_0 ?_
    refine am_istore CX dX2_pieces_10 (by decide) rfl (lv' := [(0, .ref (am_b G a0)), (1, .ref qx), (2, .int 0), (3, .int 1), (4, .int 0)]) rfl ?_
    exact k_C_Nights_pieces_l C1 hd F hret a0 ha0 F _ 0 1 0 h)
set_option maxRecDepth 100000 in
set_option maxHeartbeats 4000000 in
theorem m_C_anew {l : Launch} {d : Nat} {σ : am_SS} {q : Int32} (hd : 6 ≤ d) (F : Nat) (x1 : Int32) (h : C_anew F x1 σ = some q) : am_Met l yX9_anew cX9_anew 2 (some .int) d 1 16 LC (fun b => [.ref (b 0), .int x1]) σ (some (.int q)) σ :=
  am_metIA (plainFor_of_name (by decide)) rfl (lv := fun b => [(0, .ref (b 0)), (1, .int x1)]) (fun _ => rfl) (fun _ => Nat.le_of_ble_eq_true rfl) (fun G C0 C1 _ hret => by
    unfold C_anew at h
    refine am_iload_n C0 dX9_anew_0 1 rfl ?_
    by_cases c0 : x1 = 0
    · replace h := am_ip h c0
      refine am_tabIn C0 dX9_anew_1 (tgt := 28) (off := 27) (by rw [c0]; decide) (by rw [c0]; decide) (by rw [c0]; first | done | rfl | decide) (by decide) ?_
      refine am_aload_n C0 dX9_anew_28 0 rfl ?_
      refine am_getR C0 (j := 1) ff_RX9_10 (loC_6_0 kC0).1 (loC_6_0 kC0).2.1 (loC_6_0 kC0).2.2.1 (loC_6_0 kC0).2.2.2 dX9_anew_29 ?_
      refine am_getR C0 (j := 33) ff_RX9_284 (loC_5_9 (tgC_6_0 kC0)).1 (loC_5_9 (tgC_6_0 kC0)).2.1 (loC_5_9 (tgC_6_0 kC0)).2.2.1 (loC_5_9 (tgC_6_0 kC0)).2.2.2 dX9_anew_32 ?_
      refine am_callSA C0 C1 (m_C_Nights_pieces (σ := σ) (Nat.le_refl _) F 33 (tgC_5_9 (tgC_6_0 kC0)) h) mm_yX2_pieces ln_RX9_287 (fun _ => rfl) (Nat.le_trans (by decide) hd) rfl (Nat.le_of_ble_eq_true rfl) dX9_anew_35 ?_
      exact hret _ _ dX9_anew_38
    replace h := am_in h c0
    refine am_widenG ?_
    rw [← am_b1 G]
    by_cases c1 : x1 = 1
    · replace h := am_ip h c1
      refine am_tabIn C1 dX9_anew_1 (tgt := 39) (off := 38) (by rw [c1]; decide) (by rw [c1]; decide) (by rw [c1]; first | done | rfl | decide) (by decide) ?_
      refine am_aload_n C1 dX9_anew_39 0 rfl ?_
      refine am_getR C1 (j := 1) ff_RX9_10 (loC_6_0 kC0).1 (loC_6_0 kC0).2.1 (loC_6_0 kC0).2.2.1 (loC_6_0 kC0).2.2.2 dX9_anew_40 ?_
      refine am_getR C1 (j := 33) ff_RX9_284 (loC_5_9 (tgC_6_0 kC0)).1 (loC_5_9 (tgC_6_0 kC0)).2.1 (loC_5_9 (tgC_6_0 kC0)).2.2.1 (loC_5_9 (tgC_6_0 kC0)).2.2.2 dX9_anew_43 ?_
      refine am_callS C1 (m_C_Nights_longestAlike (σ := σ) (Nat.le_refl _) F 33 (tgC_5_9 (tgC_6_0 kC0)) h) mm_yX2_longestAlike ln_RX9_290 (fun _ => rfl) (Nat.le_trans (by decide) hd) rfl (Nat.le_of_ble_eq_true rfl) dX9_anew_46 ?_
      exact hret _ _ dX9_anew_49
    replace h := am_in h c1
    by_cases c2 : x1 = 2
    · replace h := am_ip h c2
      refine am_tabIn C1 dX9_anew_1 (tgt := 50) (off := 49) (by rw [c2]; decide) (by rw [c2]; decide) (by rw [c2]; first | done | rfl | decide) (by decide) ?_
      refine am_aload_n C1 dX9_anew_50 0 rfl ?_
      refine am_getR C1 (j := 1) ff_RX9_10 (loC_6_0 kC0).1 (loC_6_0 kC0).2.1 (loC_6_0 kC0).2.2.1 (loC_6_0 kC0).2.2.2 dX9_anew_51 ?_
      refine am_getR C1 (j := 33) ff_RX9_284 (loC_5_9 (tgC_6_0 kC0)).1 (loC_5_9 (tgC_6_0 kC0)).2.1 (loC_5_9 (tgC_6_0 kC0)).2.2.1 (loC_5_9 (tgC_6_0 kC0)).2.2.2 dX9_anew_54 ?_
      refine am_aload_n C1 dX9_anew_57 0 rfl ?_
      refine am_getR C1 (j := 1) ff_RX9_10 (loC_6_0 kC0).1 (loC_6_0 kC0).2.1 (loC_6_0 kC0).2.2.1 (loC_6_0 kC0).2.2.2 dX9_anew_58 ?_
      refine am_getR C1 (j := 33) ff_RX9_284 (loC_5_9 (tgC_6_0 kC0)).1 (loC_5_9 (tgC_6_0 kC0)).2.1 (loC_5_9 (tgC_6_0 kC0)).2.2.1 (loC_5_9 (tgC_6_0 kC0)).2.2.2 dX9_anew_61 ?_
      obtain ⟨q1, h1, h⟩ := am_bind h
      refine am_callS C1 (m_C_Nights_longestAlike (σ := σ) (Nat.le_refl _) F 33 (tgC_5_9 (tgC_6_0 kC0)) h1) mm_yX2_longestAlike ln_RX9_290 (fun _ => rfl) (Nat.le_trans (by decide) hd) rfl (Nat.le_of_ble_eq_true rfl) dX9_anew_64 ?_
      refine am_callS C1 (m_C_Nights_firstAlike (σ := σ) (Nat.le_refl _) F 33 q1 (tgC_5_9 (tgC_6_0 kC0)) h) mm_yX2_firstAlike ln_RX9_293 (fun _ => rfl) (Nat.le_trans (by decide) hd) rfl (Nat.le_of_ble_eq_true rfl) dX9_anew_67 ?_
      exact hret _ _ dX9_anew_70
    replace h := am_in h c2
    refine am_tabOut C1 dX9_anew_1 (tgt := 71) (am_sw_0_2 c0 c1 c2) (by decide) ?_
    refine am_iconst C1 dX9_anew_71 ci_m1 ?_
    have e := Option.some.inj h
    subst e
    exact hret _ _ dX9_anew_72)
