/-! the one String constant: its own methods -/
def zs_Z (qs tv b0 : Nat) (U : State) : Prop := ∃ adK adV : Nat → Nat, adK 0 = qs ∧ adV 0 = tv ∧ am_sf b0 adK adV U
theorem zs_mv {qs tv b0 : Nat} {s U : State} (h : zs_Z qs tv b0 s) (hW : s.WarmedH U.vm) (hq : ∀ a : Nat, a < s.heap.size → ¬ (b0 ≤ a) → U.heap[a]? = s.heap[a]?) : zs_Z qs tv b0 U := by
  obtain ⟨adK, adV, h1, h2, h3⟩ := h
  exact ⟨adK, adV, h1, h2, h3.move hW.alike hq⟩
theorem zs_sm {qs tv b0 : Nat} {s U : State} (h : zs_Z qs tv b0 s) (hv : U.vm = s.vm) (hh : U.heap = s.heap) : zs_Z qs tv b0 U := by
  obtain ⟨adK, adV, h1, h2, h3⟩ := h
  exact ⟨adK, adV, h1, h2, h3.move (by rw [hv]; exact Vm.Alike.refl _) (fun a _ _ => by rw [hh])⟩
def zs_at (G : am_T) (qs tv : Nat) : Prop := match G with
  | (p, l, e, R, s, m, args, below, meth, c, Λ, D, cI, cF, b0, b, X, cells, slots, Q) => zs_Z qs tv b0 s
def zs_Pc (qs tv : Nat) (vs : List Value) (D : va_G) (cI cF : ClassId) (b0 : Nat) (b : Nat → Nat) (Λ : am_L) (X : va_W) (σ : am_SS) : Array Value → State → Prop := va_Pc vs (fun U => (b0 ≤ U.heap.size ∧ va_P D vwCl (am_W Λ cI cF b X σ) U.heap ∧ va_D (fun q => b0 ≤ q) (am_W Λ cI cF b X σ) ∧ va_K D vwCl (am_tys cI cF) U ∧ am_nest U ∧ am_sx b0 U) ∧ zs_Z qs tv b0 U)
def zs_Met (qs tv : Nat) (l : Launch) (y : MethodName) (cc : ByteArray) (nL : Nat) (ret : Option FieldType) (d : Nat) (Λ : am_L) (vs : List Value) (σ : am_SS) (rv : Option Value) : Prop :=
  ∀ (D : va_G) (cI cF : ClassId) (b0 : Nat) (b : Nat → Nat) (X : va_W), Met l y (.code y cc nL ret :: am_WL) (am_rm d 0 0) (zs_Pc qs tv vs D cI cF b0 b Λ X σ) (am_Q rv D cI cF b0 b Λ X σ) 0 0 (fun q => b0 ≤ q)
theorem zs_blind {qs tv : Nat} {vs : List Value} {D : va_G} {cI cF : ClassId} {b0 : Nat} {b : Nat → Nat} {Λ : am_L} {X : va_W} {σ : am_SS} : FrameBlind (zs_Pc qs tv vs D cI cF b0 b Λ X σ) := by
  intro a U g mk q
  obtain ⟨q0, ⟨q1, q2, q3, q4, q5, q6⟩, q7⟩ := q
  exact ⟨q0, ⟨q1, q2, q3, va_K.moved (u := U) (U := U.calling g mk a) (Vm.Alike.refl U.vm) q4, q5.same rfl, q6.same rfl rfl⟩, zs_sm q7 rfl rfl⟩
theorem zs_pre {qs tv : Nat} {D : va_G} {cI cF : ClassId} {b0 : Nat} {b : Nat → Nat} {Λ : am_L} {X : va_W} {σ : am_SS} {vs : List Value} {s : State} {H : Heap} {locs : List Loc} (hb0 : b0 ≤ s.heap.size) (hP : va_P D vwCl (am_W Λ cI cF b X σ) H) (hD : va_D (fun q => b0 ≤ q) (am_W Λ cI cF b X σ)) (hS : va_S (fun q => b0 ≤ q) s.heap H locs) (hK : va_K D vwCl (am_tys cI cF) s) (hne : am_nest s) (hsx : am_sx b0 s) (hz : zs_Z qs tv b0 s) :
    ∀ U : State, U.heap = H → s.WarmedH U.vm → zs_Pc qs tv vs D cI cF b0 b Λ X σ vs.toArray U := by
  intro U hU hW
  have hq : ∀ a : Nat, a < s.heap.size → ¬ (b0 ≤ a) → U.heap[a]? = s.heap[a]? := fun a h1 h2 => by rw [hU]; exact hS.2.1 a h1 h2
  refine ⟨rfl, ⟨?_, ?_, hD, va_K.moved hW.alike hK, hne.warm hW, hsx.move hW hq⟩, zs_mv hz hW hq⟩
  · rw [hU]; exact Nat.le_trans hb0 hS.1
  · rw [hU]; exact hP
theorem zs_callV {G : am_T} {cc : ByteArray} {nL : Nat} {own : String} {Λ0 : am_L} {d0 : Nat} (C0 : am_C G cc nL own Λ0 d0) {qs tv : Nat} (hz : zs_at G qs tv) {pc : Nat} {lv : List (Nat × Value)} {st : List Value} {σ : am_SS} {st0 : List Value} {y : MethodName} {bytes : ByteArray} {maxL : Nat} {ret : Option FieldType} {n d idx : Nat} {As : List Value} {rv : Option Value} (hM : zs_Met qs tv (am_l G) y bytes maxL ret d Λ0 (.ref qs :: As) σ rv) (hMV : am_MV y bytes maxL ret n) (hy : y.cls = "java/lang/String") (hln : Cond.methodLink own idx y ∈ am_WL) (hAs : As.length = n) (hdd : d + 1 ≤ d0) (hst : (Value.ref qs :: As).reverse ++ st = st0) (hrs : (st.map fun v => v.category).sum ≤ 8) (hdg : decode cc pc = .ok (.invokevirtual idx, 3)) (kk : am_K G nL (pc + 3) lv (rv.toList ++ st) σ) : am_K G nL pc lv st0 σ := by
  obtain ⟨p, l, e, R, s, m, args, below, meth, c, Λ, D, cI, cF, b0, b, X, cells, slots, Q⟩ := G
  obtain ⟨⟨hx, hb, hml, hown, hts⟩, hK, hlk, hb0, hne, hsx, rfl, hR1, hR2, hR3, hR4⟩ := C0
  intro H locs ls hP hD hS hl
  subst hst
  have hM1 := hM D cI cF b0 b X
  have hpre : ∀ U : State, U.heap = H → s.WarmedH U.vm → zs_Pc qs tv (.ref qs :: As) D cI cF b0 b Λ X σ (Value.ref qs :: As).toArray U := zs_pre hb0 hP hD hS hK hne hsx hz
  show W p l e R s m args below meth c H locs cells slots Q (F0 m pc ls ((Value.ref qs :: As).reverse ++ st))
  have hcw : CallW R s args own y.cls idx y bytes maxL ret (.code y bytes maxL ret :: am_WL) (am_rm d 0 0) 0 0 n := ⟨am_cb hts hMV.1 hln (Nat.le_trans hdd hR1) (Nat.le_trans (Nat.mul_le_mul_left 60 hdd) hR2), hts _ hMV.2.1, hts _ hMV.2.2⟩
  have hrecv : ∃ cell : Cell, H[qs]? = some cell ∧ cell.vm.isStatics = false ∧ s.vm.findClass y.cls = some cell.cls := by
    obtain ⟨adK, adV, e1, e2, h3⟩ := hz
    rw [hy, ← e1]
    exact vk_recv h3.1 (by omega) hS
  have hrun := va_runV (p := p) (l := l) (e := e) (R := R) (s := s) (m := m) (args := args) (below := below) (meth := meth) (c := c) (H := H) (locs := locs) (cells := cells) (slots := slots) (As := As) (rest := st) (b := qs) (g := F0 m pc ls ((Value.ref qs :: As).reverse ++ st)) (Ts := am_WL) ⟨hx, hb, hml, hown, hts⟩ hM1 hcw ⟨zs_blind, hrecv, hpre⟩ rfl hAs hl.1 (by simp) (lv_room hrs) hdg ⟨hR3, hR4⟩
  exact am_callW hrun hS (fun H1 locs1 hP1 hS1 => kk H1 locs1 ls hP1 (am_D hD) hS1 hl)
theorem zs_callS {G : am_T} {cc : ByteArray} {nL : Nat} {own : String} {Λ0 : am_L} {d0 : Nat} (C0 : am_C G cc nL own Λ0 d0) {qs tv : Nat} (hz : zs_at G qs tv) {pc : Nat} {lv : List (Nat × Value)} {st : List Value} {σ : am_SS} {st0 : List Value} {y : MethodName} {bytes : ByteArray} {maxL : Nat} {ret : Option FieldType} {n d idx : Nat} {vs : List Value} {rv : Option Value} (hM : zs_Met qs tv (am_l G) y bytes maxL ret d Λ0 vs σ rv) (hMS : am_MS y bytes maxL ret n) (hln : Cond.methodLink own idx y ∈ am_WL) (hAs : vs.length = n) (hdd : d + 1 ≤ d0) (hst : vs.reverse ++ st = st0) (hrs : (st.map fun v => v.category).sum ≤ 8) (hdg : decode cc pc = .ok (.invokestatic idx, 3)) (kk : am_K G nL (pc + 3) lv (rv.toList ++ st) σ) : am_K G nL pc lv st0 σ := by
  obtain ⟨p, l, e, R, s, m, args, below, meth, c, Λ, D, cI, cF, b0, b, X, cells, slots, Q⟩ := G
  obtain ⟨⟨hx, hb, hml, hown, hts⟩, hK, hlk, hb0, hne, hsx, rfl, hR1, hR2, hR3, hR4⟩ := C0
  intro H locs ls hP hD hS hl
  subst hst
  have hM1 := hM D cI cF b0 b X
  have hpre : ∀ U : State, U.heap = H → s.WarmedH U.vm → zs_Pc qs tv vs D cI cF b0 b Λ X σ vs.toArray U := zs_pre hb0 hP hD hS hK hne hsx hz
  show W p l e R s m args below meth c H locs cells slots Q (F0 m pc ls (vs.reverse ++ st))
  have hcw : CallB R s args own idx y bytes maxL ret (.code y bytes maxL ret :: am_WL) (am_rm d 0 0) 0 0 n ∧ (Cond.static y).before args s = true := ⟨am_cb hts hMS.1 hln (Nat.le_trans hdd hR1) (Nat.le_trans (Nat.mul_le_mul_left 60 hdd) hR2), hts _ hMS.2⟩
  have hrun := va_runS (p := p) (l := l) (e := e) (R := R) (s := s) (m := m) (args := args) (below := below) (meth := meth) (c := c) (H := H) (locs := locs) (cells := cells) (slots := slots) (As := vs) (rest := st) (g := F0 m pc ls (vs.reverse ++ st)) (Ts := am_WL) ⟨hx, hb, hml, hown, hts⟩ hM1 hcw ⟨zs_blind, hpre⟩ rfl hAs hl.1 rfl (lv_room hrs) hdg ⟨hR3, hR4⟩
  exact am_callW hrun hS (fun H1 locs1 hP1 hS1 => kk H1 locs1 ls hP1 (am_D hD) hS1 hl)
theorem zs_metI {qs tv : Nat} {l : Launch} {y : MethodName} {cc : ByteArray} {nL : Nat} {ty : FieldType} {d : Nat} {Λ : am_L} {vs : List Value} {σ : am_SS} {r : Int32} (hy : plainFor y = true) (hnr : narrow ty (.int r) = .int r) {lv : List (Nat × Value)} (hlv : lv_args 0 vs = lv) (hlen : (lg_sl vs).length ≤ nL)
    (body : ∀ G : am_T, am_C G cc nL y.cls Λ d → am_l G = l → zs_at G qs tv → am_retI G cc nL r σ → am_K G nL 0 lv [] σ) : zs_Met qs tv l y cc nL (some ty) d Λ vs σ (some (.int r)) := by
  intro D cI cF b0 b X
  refine am_ofW (cc := cc) (maxL := nL) (ret := (some ty)) hy rfl ?_
  intro p e s m args below meth c s₁ B hml hv
  obtain ⟨rfl, ⟨hb0, hP, hD, hK, hne, hsx⟩, hz⟩ := hv
  have hr := B.returns
  have hts0 := atoms_spec (ws := .code y cc nL (some ty) :: am_WL) B.pre
  have hts : ∀ w ∈ am_WL, w.before vs.toArray s = true := fun w hw => hts0 w (List.mem_cons_of_mem _ hw)
  have hown : s.vm.findClass y.cls = some m.cls := findClass_of_methodNamed B.named
  have hlocks := B.notSynchronized
  have hl := lv_entry vs (n := nL) hlen
  rw [hlv] at hl
  rw [lg_entry_eq]
  have hx := B.exec
  have hb := B.bytes
  refine body (p, l, e, (headSpec (.code y cc nL (some ty) :: am_WL) (am_rm d 0 0)).room, s, m, vs.toArray, below, meth, c, Λ, D, cI, cF, b0, b, X, 0, 0, MQ below (am_Q (some (.int r)) D cI cF b0 b Λ X σ) vs.toArray s 0 0 (fun q => b0 ≤ q)) ⟨⟨hx, hb, hml, hown, hts⟩, hK, hlocks, hb0, hne, hsx, rfl, Nat.le_refl _, Nat.le_refl _, Nat.zero_le _, Nat.zero_le _⟩ rfl hz ?_ s.heap [] _ hP hD va_S.rf hl
  intro pc lv1 hdg H locs ls hP1 hD1 hS1 hl1
  exact W.zret hx hb hr hnr (fun t ht hW => ⟨rfl, by rw [ht]; exact hP1, hS1.F ht⟩) hS1.2.2 hdg
theorem zs_metV {qs tv : Nat} {l : Launch} {y : MethodName} {cc : ByteArray} {nL : Nat} {d : Nat} {Λ : am_L} {vs : List Value} {σ : am_SS} (hy : plainFor y = true) {lv : List (Nat × Value)} (hlv : lv_args 0 vs = lv) (hlen : (lg_sl vs).length ≤ nL)
    (body : ∀ G : am_T, am_C G cc nL y.cls Λ d → am_l G = l → zs_at G qs tv → am_retV G cc nL σ → am_K G nL 0 lv [] σ) : zs_Met qs tv l y cc nL none d Λ vs σ none := by
  intro D cI cF b0 b X
  refine am_ofW (cc := cc) (maxL := nL) (ret := none) hy rfl ?_
  intro p e s m args below meth c s₁ B hml hv
  obtain ⟨rfl, ⟨hb0, hP, hD, hK, hne, hsx⟩, hz⟩ := hv
  have hr := B.returns
  have hts0 := atoms_spec (ws := .code y cc nL none :: am_WL) B.pre
  have hts : ∀ w ∈ am_WL, w.before vs.toArray s = true := fun w hw => hts0 w (List.mem_cons_of_mem _ hw)
  have hown : s.vm.findClass y.cls = some m.cls := findClass_of_methodNamed B.named
  have hlocks := B.notSynchronized
  have hl := lv_entry vs (n := nL) hlen
  rw [hlv] at hl
  rw [lg_entry_eq]
  have hx := B.exec
  have hb := B.bytes
  refine body (p, l, e, (headSpec (.code y cc nL none :: am_WL) (am_rm d 0 0)).room, s, m, vs.toArray, below, meth, c, Λ, D, cI, cF, b0, b, X, 0, 0, MQ below (am_Q none D cI cF b0 b Λ X σ) vs.toArray s 0 0 (fun q => b0 ≤ q)) ⟨⟨hx, hb, hml, hown, hts⟩, hK, hlocks, hb0, hne, hsx, rfl, Nat.le_refl _, Nat.le_refl _, Nat.zero_le _, Nat.zero_le _⟩ rfl hz ?_ s.heap [] _ hP hD va_S.rf hl
  intro pc lv1 hdg H locs ls hP1 hD1 hS1 hl1
  exact W.vret hx hb hr (fun t ht hW => ⟨rfl, by rw [ht]; exact hP1, hS1.F ht⟩) hS1.2.2 hdg
theorem zs_value {G : am_T} {cc : ByteArray} {nL : Nat} {own : String} {Λ0 : am_L} {d0 : Nat} (C0 : am_C G cc nL own Λ0 d0) {qs tv : Nat} (hz : zs_at G qs tv) {pc : Nat} {lv : List (Nat × Value)} {st : List Value} {σ : am_SS} {idx : Nat} (hln : Cond.fieldLink own idx "java/lang/String" "value" "[B" ∈ am_WL) (hdg : decode cc pc = .ok (.getfield idx, 3)) (kk : am_K G nL (pc + 3) lv (.ref tv :: st) σ) : am_K G nL pc lv (.ref qs :: st) σ := by
  obtain ⟨p, l, e, R, s, m, args, below, meth, c, Λ, D, cI, cF, b0, b, X, cells, slots, Q⟩ := G
  obtain ⟨⟨hx, hb, hml, hown, hts⟩, hK, hlk, hb0, hne, hsx, rfl, hR1, hR2, hR3, hR4⟩ := C0
  obtain ⟨adK, adV, e1, e2, h3⟩ := hz
  intro H locs ls hP hD hS hl
  have hE := (h3.1.1 0 (by omega)).2.2.1
  rw [e1, e2] at hE
  exact vk_getf hx hb hE hS hown (hts _ hln) (fun x h => h) hdg (kk H locs ls hP hD hS hl)
theorem zs_coder {G : am_T} {cc : ByteArray} {nL : Nat} {own : String} {Λ0 : am_L} {d0 : Nat} (C0 : am_C G cc nL own Λ0 d0) {qs tv : Nat} (hz : zs_at G qs tv) {pc : Nat} {lv : List (Nat × Value)} {st : List Value} {σ : am_SS} {idx : Nat} (hln : Cond.fieldLink own idx "java/lang/String" "coder" "B" ∈ am_WL) (hdg : decode cc pc = .ok (.getfield idx, 3)) (kk : am_K G nL (pc + 3) lv (.int 0 :: st) σ) : am_K G nL pc lv (.ref qs :: st) σ := by
  obtain ⟨p, l, e, R, s, m, args, below, meth, c, Λ, D, cI, cF, b0, b, X, cells, slots, Q⟩ := G
  obtain ⟨⟨hx, hb, hml, hown, hts⟩, hK, hlk, hb0, hne, hsx, rfl, hR1, hR2, hR3, hR4⟩ := C0
  obtain ⟨adK, adV, e1, e2, h3⟩ := hz
  intro H locs ls hP hD hS hl
  have hE := (h3.1.1 0 (by omega)).2.1
  rw [e1] at hE
  exact vk_getf hx hb hE hS hown (hts _ hln) (fun x h => h) hdg (kk H locs ls hP hD hS hl)
theorem zs_comp {G : am_T} {cc : ByteArray} {nL : Nat} {own : String} {Λ0 : am_L} {d0 : Nat} (C0 : am_C G cc nL own Λ0 d0) {qs tv : Nat} (hz : zs_at G qs tv) {pc : Nat} {lv : List (Nat × Value)} {st : List Value} {σ : am_SS} {idx : Nat} (hln : Cond.fieldLink own idx "java/lang/String" "COMPACT_STRINGS" "Z" ∈ am_WL) (hdg : decode cc pc = .ok (.getstatic idx, 3)) (kk : am_K G nL (pc + 3) lv (.int 1 :: st) σ) : am_K G nL pc lv st σ := by
  obtain ⟨p, l, e, R, s, m, args, below, meth, c, Λ, D, cI, cF, b0, b, X, cells, slots, Q⟩ := G
  obtain ⟨⟨hx, hb, hml, hown, hts⟩, hK, hlk, hb0, hne, hsx, rfl, hR1, hR2, hR3, hR4⟩ := C0
  obtain ⟨adK, adV, e1, e2, h3⟩ := hz
  intro H locs ls hP hD hS hl
  exact va_gets hx hb h3.2.1 hS hown (hts _ hln) (fun x h => h) hdg (kk H locs ls hP hD hS hl)
theorem zs_fmt {G : am_T} {cc : ByteArray} {nL : Nat} {own : String} {Λ0 : am_L} {d0 : Nat} (C0 : am_C G cc nL own Λ0 d0) {qs tv : Nat} (hz : zs_at G qs tv) {pc : Nat} {lv : List (Nat × Value)} {st : List Value} {σ : am_SS} {idx : Nat} (hln : Cond.fieldLink own idx "jdk/internal/util/Preconditions" "SIOOBE_FORMATTER" "Ljava/util/function/BiFunction;" ∈ am_WL) (hdg : decode cc pc = .ok (.getstatic idx, 3)) (k0 : am_K G nL (pc + 3) lv (.null :: st) σ) (k1 : ∀ t : Nat, am_K G nL (pc + 3) lv (.ref t :: st) σ) : am_K G nL pc lv st σ := by
  obtain ⟨p, l, e, R, s, m, args, below, meth, c, Λ, D, cI, cF, b0, b, X, cells, slots, Q⟩ := G
  obtain ⟨⟨hx, hb, hml, hown, hts⟩, hK, hlk, hb0, hne, hsx, rfl, hR1, hR2, hR3, hR4⟩ := C0
  obtain ⟨adK, adV, e1, e2, h3⟩ := hz
  intro H locs ls hP hD hS hl
  rcases h3.2.2 with h | ⟨t, h⟩
  · exact va_gets hx hb h hS hown (hts _ hln) (fun x h => h) hdg (k0 H locs ls hP hD hS hl)
  · exact va_gets hx hb h hS hown (hts _ hln) (fun x h => h) hdg (k1 t H locs ls hP hD hS hl)
theorem zs_alen {G : am_T} {cc : ByteArray} {nL : Nat} {own : String} {Λ0 : am_L} {d0 : Nat} (C0 : am_C G cc nL own Λ0 d0) {qs tv : Nat} (hz : zs_at G qs tv) {pc : Nat} {lv : List (Nat × Value)} {st : List Value} {σ : am_SS} (hdg : decode cc pc = .ok (.arraylength, 1)) (kk : am_K G nL (pc + 1) lv (.int 132 :: st) σ) : am_K G nL pc lv (.ref tv :: st) σ := by
  obtain ⟨p, l, e, R, s, m, args, below, meth, c, Λ, D, cI, cF, b0, b, X, cells, slots, Q⟩ := G
  obtain ⟨⟨hx, hb, hml, hown, hts⟩, hK, hlk, hb0, hne, hsx, rfl, hR1, hR2, hR3, hR4⟩ := C0
  obtain ⟨adK, adV, e1, e2, h3⟩ := hz
  intro H locs ls hP hD hS hl
  have hT := (h3.1.1 0 (by omega)).2.2.2
  rw [e2] at hT
  exact va_tlen hx hb hT hS (v := 132) rfl hdg (kk H locs ls hP hD hS hl)
theorem zs_bald {G : am_T} {cc : ByteArray} {nL : Nat} {own : String} {Λ0 : am_L} {d0 : Nat} (C0 : am_C G cc nL own Λ0 d0) {qs tv : Nat} (hz : zs_at G qs tv) {pc : Nat} {lv : List (Nat × Value)} {st : List Value} {σ : am_SS} {k : Int32} (hin : vp_in k 132) (hdg : decode cc pc = .ok (.baload, 1)) (kk : am_K G nL (pc + 1) lv (.int (am_bytes.getD k.toNatClampNeg 0) :: st) σ) : am_K G nL pc lv (.int k :: .ref tv :: st) σ := by
  obtain ⟨p, l, e, R, s, m, args, below, meth, c, Λ, D, cI, cF, b0, b, X, cells, slots, Q⟩ := G
  obtain ⟨⟨hx, hb, hml, hown, hts⟩, hK, hlk, hb0, hne, hsx, rfl, hR1, hR2, hR3, hR4⟩ := C0
  obtain ⟨adK, adV, e1, e2, h3⟩ := hz
  intro H locs ls hP hD hS hl
  have hT := (h3.1.1 0 (by omega)).2.2.2
  rw [e2] at hT
  exact va_tb hx hb hT hS hin (v := .int (am_bytes.getD k.toNatClampNeg 0)) (by simp only [List.getD_cons_zero]) hdg (kk H locs ls hP hD hS hl)
theorem zs_i2c {G : am_T} {cc : ByteArray} {nL : Nat} {own : String} {Λ0 : am_L} {d0 : Nat} (C0 : am_C G cc nL own Λ0 d0) {pc : Nat} {lv : List (Nat × Value)} {st : List Value} {σ : am_SS} {x v : Int32} (hdg : decode cc pc = .ok (.i2c, 1)) (hv : (x.toUInt32 % 65536).toInt32 = v) (kk : am_K G nL (pc + 1) lv (.int v :: st) σ) : am_K G nL pc lv (.int x :: st) σ := by
  obtain ⟨p, l, e, R, s, m, args, below, meth, c, Λ, D, cI, cF, b0, b, X, cells, slots, Q⟩ := G
  obtain ⟨⟨hx, hb, hml, hown, hts⟩, hK, hlk, hb0, hne, hsx, rfl, hR1, hR2, hR3, hR4⟩ := C0
  intro H locs ls hP hD hS hl
  exact lv_i2c hx hb hdg hv (kk H locs ls hP hD hS hl)
theorem zm_coder {qs tv : Nat} {l : Launch} {Λ : am_L} {σ : am_SS} : zs_Met qs tv l yJ0_coder_7d493 cJ0_coder_7d493 1 (some .byte) 0 Λ [.ref qs] σ (some (.int 0)) := by
  refine zs_metI (by decide) rfl (lv := [(0, .ref qs)]) rfl (Nat.le_of_ble_eq_true rfl) (fun G C0 hl hz hret => ?_)
  refine zs_comp C0 hz (am_t3 40 (by decide +kernel) rfl) dJ0_coder_7d493_0 ?_
  refine am_if_eq C0 dJ0_coder_7d493_3 rfl (fun h => absurd h (by decide)) (fun _ => ?_)
  refine am_aload_n C0 dJ0_coder_7d493_6 0 rfl ?_
  refine zs_coder C0 hz (am_t8 11 (by decide +kernel) rfl) dJ0_coder_7d493_7 ?_
  refine am_goto C0 (tgt := 14) dJ0_coder_7d493_10 rfl ?_
  exact hret 14 _ dJ0_coder_7d493_14
theorem zm_isLatin1 {qs tv : Nat} {l : Launch} {Λ : am_L} {σ : am_SS} : zs_Met qs tv l yJ0_isLatin1_aae02 cJ0_isLatin1_aae02 1 (some .boolean) 0 Λ [.ref qs] σ (some (.int 1)) := by
  refine zs_metI (by decide) rfl (lv := [(0, .ref qs)]) rfl (Nat.le_of_ble_eq_true rfl) (fun G C0 hl hz hret => ?_)
  refine zs_comp C0 hz (am_t3 40 (by decide +kernel) rfl) dJ0_isLatin1_aae02_0 ?_
  refine am_if_eq C0 dJ0_isLatin1_aae02_3 rfl (fun h => absurd h (by decide)) (fun _ => ?_)
  refine am_aload_n C0 dJ0_isLatin1_aae02_6 0 rfl ?_
  refine zs_coder C0 hz (am_t8 11 (by decide +kernel) rfl) dJ0_isLatin1_aae02_7 ?_
  refine am_if_ne C0 dJ0_isLatin1_aae02_10 rfl (fun h => absurd rfl h) (fun _ => ?_)
  refine am_iconst C0 (v := 1) dJ0_isLatin1_aae02_13 rfl ?_
  refine am_goto C0 (tgt := 18) dJ0_isLatin1_aae02_14 rfl ?_
  exact hret 18 _ dJ0_isLatin1_aae02_18
theorem zm_length {qs tv : Nat} {l : Launch} {Λ : am_L} {σ : am_SS} : zs_Met qs tv l yJ0_length_8abf5 cJ0_length_8abf5 1 (some .int) 1 Λ [.ref qs] σ (some (.int 132)) := by
  refine zs_metI (by decide) rfl (lv := [(0, .ref qs)]) rfl (Nat.le_of_ble_eq_true rfl) (fun G C0 hl hz hret => ?_)
  refine am_aload_n C0 dJ0_length_8abf5_0 0 rfl ?_
  refine zs_value C0 hz (am_t8 10 (by decide +kernel) rfl) dJ0_length_8abf5_1 ?_
  refine zs_alen C0 hz dJ0_length_8abf5_4 ?_
  refine am_aload_n C0 dJ0_length_8abf5_5 0 rfl ?_
  refine zs_callV C0 hz (As := []) (st := [.int 132]) (zm_coder (l := am_l G)) ⟨⟨⟨am_t1 10 (by decide +kernel) rfl, am_t3 39 (by decide +kernel) rfl⟩, by decide +kernel, by decide⟩, am_t3 37 (by decide +kernel) rfl, am_t3 38 (by decide +kernel) rfl⟩ rfl (am_t3 36 (by decide +kernel) rfl) rfl (Nat.le_refl _) rfl (by decide) dJ0_length_8abf5_6 ?_
  refine am_ishr C0 dJ0_length_8abf5_9 ?_
  exact hret 10 _ dJ0_length_8abf5_10
theorem zm_pre {qs tv : Nat} {l : Launch} {Λ : am_L} {σ : am_SS} {k n : Int32} {v : Value} (hv : v = .null ∨ ∃ t : Nat, v = .ref t) (h0 : ¬ k < 0) (h1 : k < n) : zs_Met qs tv l yJ3_checkIndex_8e157 cJ3_checkIndex_8e157 3 (some .int) 0 Λ [.int k, .int n, v] σ (some (.int k)) := by
  have go : ∀ (lv : List (Nat × Value)), lv = [(0, .int k), (1, .int n), (2, v)] → ∀ G : am_T, am_C G cJ3_checkIndex_8e157 3 yJ3_checkIndex_8e157.cls Λ 0 → am_retI G cJ3_checkIndex_8e157 3 k σ → am_K G 3 0 lv [] σ := by
    intro lv e G C0 hret
    subst e
    refine am_iload_n C0 dJ3_checkIndex_8e157_0 0 rfl ?_
    refine am_if_lt C0 (tgt := 9) dJ3_checkIndex_8e157_1 rfl (fun h => absurd h h0) (fun _ => ?_)
    refine am_iload_n C0 dJ3_checkIndex_8e157_4 0 rfl ?_
    refine am_iload_n C0 dJ3_checkIndex_8e157_5 1 rfl ?_
    refine am_icmp_lt C0 (tgt := 16) dJ3_checkIndex_8e157_6 rfl (fun _ => ?_) (fun h => absurd h1 h)
    refine am_iload_n C0 dJ3_checkIndex_8e157_16 0 rfl ?_
    exact hret 17 _ dJ3_checkIndex_8e157_17
  rcases hv with rfl | ⟨t, rfl⟩
  · exact zs_metI (by decide) rfl (lv := [(0, .int k), (1, .int n), (2, .null)]) rfl (Nat.le_of_ble_eq_true rfl) (fun G C0 hl hz hret => go _ rfl G C0 hret)
  · exact zs_metI (by decide) rfl (lv := [(0, .int k), (1, .int n), (2, .ref t)]) rfl (Nat.le_of_ble_eq_true rfl) (fun G C0 hl hz hret => go _ rfl G C0 hret)
theorem zm_check {qs tv : Nat} {l : Launch} {Λ : am_L} {σ : am_SS} {k n : Int32} (h0 : ¬ k < 0) (h1 : k < n) : zs_Met qs tv l yJ0_checkIndex_df160 cJ0_checkIndex_df160 2 none 1 Λ [.int k, .int n] σ none := by
  refine zs_metV (by decide) (lv := [(0, .int k), (1, .int n)]) rfl (Nat.le_of_ble_eq_true rfl) (fun G C0 hl hz hret => ?_)
  refine am_iload_n C0 dJ0_checkIndex_df160_0 0 rfl ?_
  refine am_iload_n C0 dJ0_checkIndex_df160_1 1 rfl ?_
  have go : ∀ v : Value, (v = .null ∨ ∃ t : Nat, v = .ref t) → am_K G 2 5 [(0, .int k), (1, .int n)] (v :: .int n :: .int k :: []) σ := by
    intro v hv
    refine zs_callS C0 hz (n := 3) (vs := [.int k, .int n, v]) (st := []) (zm_pre (l := am_l G) hv h0 h1) ⟨⟨⟨am_t1 12 (by decide +kernel) rfl, am_t3 60 (by decide +kernel) rfl⟩, by decide +kernel, by decide⟩, am_t3 59 (by decide +kernel) rfl⟩ (am_t3 58 (by decide +kernel) rfl) rfl (Nat.le_refl _) rfl (by decide) dJ0_checkIndex_df160_5 ?_
    refine am_pop C0 dJ0_checkIndex_df160_8 rfl ?_
    exact hret 9 _ dJ0_checkIndex_df160_9
  exact zs_fmt C0 hz (am_t3 56 (by decide +kernel) rfl) dJ0_checkIndex_df160_2 (go _ (.inl rfl)) (fun t => go _ (.inr ⟨t, rfl⟩))
theorem zm_byte : ∀ k, k < 132 → (((am_bytes.getD k 0) &&& 255).toUInt32 % 65536).toInt32 = am_bytes.getD k 0 ∧ narrow .char (.int (am_bytes.getD k 0)) = .int (am_bytes.getD k 0) := by decide +kernel
theorem zm_latin {qs tv : Nat} {l : Launch} {Λ : am_L} {σ : am_SS} {k : Int32} (h0 : ¬ k < 0) (h1 : k.toNatClampNeg < 132) (h2 : k < 132) : zs_Met qs tv l yJ1_charAt_3b067 cJ1_charAt_3b067 2 (some .char) 2 Λ [.ref tv, .int k] σ (some (.int (am_bytes.getD k.toNatClampNeg 0))) := by
  have hb := zm_byte k.toNatClampNeg h1
  refine zs_metI (by decide) hb.2 (lv := [(0, .ref tv), (1, .int k)]) rfl (Nat.le_of_ble_eq_true rfl) (fun G C0 hl hz hret => ?_)
  refine am_iload_n C0 dJ1_charAt_3b067_0 1 rfl ?_
  refine am_aload_n C0 dJ1_charAt_3b067_1 0 rfl ?_
  refine zs_alen C0 hz dJ1_charAt_3b067_2 ?_
  refine zs_callS C0 hz (n := 2) (vs := [.int k, .int 132]) (st := []) (zm_check (l := am_l G) h0 h2) ⟨⟨⟨am_t1 10 (by decide +kernel) rfl, am_t3 55 (by decide +kernel) rfl⟩, by decide +kernel, by decide⟩, am_t3 54 (by decide +kernel) rfl⟩ (am_t3 53 (by decide +kernel) rfl) rfl (Nat.le_refl _) rfl (by decide) dJ1_charAt_3b067_3 ?_
  refine am_aload_n C0 dJ1_charAt_3b067_6 0 rfl ?_
  refine am_iload_n C0 dJ1_charAt_3b067_7 1 rfl ?_
  refine zs_bald C0 hz (fun q => q.elim h0 (fun q => by omega)) dJ1_charAt_3b067_8 ?_
  refine am_sipush C0 (v := 255) dJ1_charAt_3b067_9 rfl ?_
  refine am_iand C0 dJ1_charAt_3b067_12 ?_
  refine zs_i2c C0 dJ1_charAt_3b067_13 hb.1 ?_
  exact hret 14 _ dJ1_charAt_3b067_14
theorem zm_charAt {qs tv : Nat} {l : Launch} {Λ : am_L} {σ : am_SS} {k : Int32} (h0 : ¬ k < 0) (h1 : k.toNatClampNeg < 132) (h2 : k < 132) : zs_Met qs tv l yJ0_charAt_5068e cJ0_charAt_5068e 2 (some .char) 3 Λ [.ref qs, .int k] σ (some (.int (am_bytes.getD k.toNatClampNeg 0))) := by
  have hb := zm_byte k.toNatClampNeg h1
  refine zs_metI (by decide) hb.2 (lv := [(0, .ref qs), (1, .int k)]) rfl (Nat.le_of_ble_eq_true rfl) (fun G C0 hl hz hret => ?_)
  refine am_aload_n C0 dJ0_charAt_5068e_0 0 rfl ?_
  refine zs_callV C0 hz (As := []) (st := []) (zm_isLatin1 (l := am_l G)) ⟨⟨⟨am_t1 10 (by decide +kernel) rfl, am_t3 49 (by decide +kernel) rfl⟩, by decide +kernel, by decide⟩, am_t3 47 (by decide +kernel) rfl, am_t3 48 (by decide +kernel) rfl⟩ rfl (am_t3 46 (by decide +kernel) rfl) rfl (by omega) rfl (by decide) dJ0_charAt_5068e_1 ?_
  refine am_if_eq C0 (tgt := 16) dJ0_charAt_5068e_4 rfl (fun h => absurd h (by decide)) (fun _ => ?_)
  refine am_aload_n C0 dJ0_charAt_5068e_7 0 rfl ?_
  refine zs_value C0 hz (am_t8 10 (by decide +kernel) rfl) dJ0_charAt_5068e_8 ?_
  refine am_iload_n C0 dJ0_charAt_5068e_11 1 rfl ?_
  refine zs_callS C0 hz (n := 2) (vs := [.ref tv, .int k]) (st := []) (zm_latin (l := am_l G) h0 h1 h2) ⟨⟨⟨am_t1 11 (by decide +kernel) rfl, am_t3 52 (by decide +kernel) rfl⟩, by decide +kernel, by decide⟩, am_t3 51 (by decide +kernel) rfl⟩ (am_t3 50 (by decide +kernel) rfl) rfl (Nat.le_refl _) rfl (by decide) dJ0_charAt_5068e_12 ?_
  exact hret 15 _ dJ0_charAt_5068e_15
theorem zs_of {G : am_T} {qs : Nat} (hq : am_isS G qs) : ∃ tv, zs_at G qs tv := by
  obtain ⟨p, l, e, R, s, m, args, below, meth, c, Λ, D, cI, cF, b0, b, X, cells, slots, Q⟩ := G
  obtain ⟨adK, adV, e1, h⟩ := hq
  exact ⟨adV 0, adK, adV, e1.symm, rfl, h⟩
theorem am_strlen {G : am_T} {cc : ByteArray} {nL : Nat} {own : String} {Λ0 : am_L} {d0 : Nat} (C0 : am_C G cc nL own Λ0 d0) {pc idx qs : Nat} {lv : List (Nat × Value)} {st : List Value} {σ : am_SS} (hq : am_isS G qs) (hln : Cond.methodLink own idx yJ0_length_8abf5 ∈ am_WL) (hd : 7 ≤ d0) (hrs : (st.map fun v => v.category).sum ≤ 8) (hdg : decode cc pc = .ok (.invokevirtual idx, 3)) (kk : am_K G nL (pc + 3) lv (.int 132 :: st) σ) : am_K G nL pc lv (.ref qs :: st) σ := by
  obtain ⟨tv, hz⟩ := zs_of hq
  exact zs_callV C0 hz (As := []) (st := st) (zm_length (l := am_l G)) mm_yJ0_length_8abf5 rfl hln rfl (by omega) rfl hrs hdg kk
theorem am_charAt {G : am_T} {cc : ByteArray} {nL : Nat} {own : String} {Λ0 : am_L} {d0 : Nat} (C0 : am_C G cc nL own Λ0 d0) {pc idx qs : Nat} {lv : List (Nat × Value)} {st : List Value} {σ : am_SS} {i x : Int32} (hq : am_isS G qs) (hln : Cond.methodLink own idx yJ0_charAt_5068e ∈ am_WL) (h : am_ch i = some x) (hd : 7 ≤ d0) (hrs : (st.map fun v => v.category).sum ≤ 8) (hdg : decode cc pc = .ok (.invokevirtual idx, 3)) (kk : am_K G nL (pc + 3) lv (.int x :: st) σ) : am_K G nL pc lv (.int i :: .ref qs :: st) σ := by
  obtain ⟨tv, hz⟩ := zs_of hq
  unfold am_ch at h
  by_cases c : i < 0 ∨ 132 ≤ i.toNatClampNeg
  · rw [if_pos c] at h; cases h
  · rw [if_neg c] at h
    have h0 : ¬ i < 0 := fun q => c (.inl q)
    have h1 : i.toNatClampNeg < 132 := Nat.lt_of_not_le (fun q => c (.inr q))
    have h2 : i < 132 := by
      have e := (Int32.ofNat_toNatClampNeg i (Int32.not_lt.mp h0)).symm
      rw [e]
      show Int32.ofNat i.toNatClampNeg < Int32.ofNat 132
      exact (Int32.ofNat_lt_iff_lt (by omega) (by omega)).mpr h1
    have e := Option.some.inj h
    rw [← e] at kk
    exact zs_callV C0 hz (As := [.int i]) (st := st) (zm_charAt (l := am_l G) h0 h1 h2) mm_yJ0_charAt_5068e rfl hln rfl (by omega) rfl hrs hdg kk
