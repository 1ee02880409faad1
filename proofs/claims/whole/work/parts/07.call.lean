def am_rm (d mc ms : Nat) : Room := { frames := d, cells := mc, slots := ms, locals := 60 * d }
def am_Pc (vs : List Value) (D : va_G) (cI cF : ClassId) (b0 : Nat) (b : Nat → Nat) (Λ : am_L) (X : va_W) (σ : am_SS) : Array Value → State → Prop := va_Pc vs (fun U => b0 ≤ U.heap.size ∧ va_P D vwCl (am_W Λ cI cF b X σ) U.heap ∧ va_D (fun q => b0 ≤ q) (am_W Λ cI cF b X σ) ∧ va_K D vwCl (am_tys cI cF) U ∧ am_nest U ∧ am_sx b0 U)
def am_Q (rv : Option Value) (D : va_G) (cI cF : ClassId) (b0 : Nat) (b : Nat → Nat) (Λ : am_L) (X : va_W) (σ : am_SS) : Array Value → State → Outcome → State → Prop := fun _ st oc t => oc = .returned rv ∧ va_P D vwCl (am_W Λ cI cF b X σ) t.heap ∧ va_F (fun q => b0 ≤ q) st t
/-- a method's contract: from the cells σ, with these arguments, it returns rv, and the cells are σ' then -/
def am_Met (l : Launch) (y : MethodName) (cc : ByteArray) (nL : Nat) (ret : Option FieldType) (d mc ms : Nat) (Λ : am_L) (vs : (Nat → Nat) → List Value) (σ : am_SS) (rv : Option Value) (σ' : am_SS) : Prop :=
  ∀ (D : va_G) (cI cF : ClassId) (b0 : Nat) (b : Nat → Nat) (X : va_W), Met l y (.code y cc nL ret :: am_WL) (am_rm d mc ms) (am_Pc (vs b) D cI cF b0 b Λ X σ) (am_Q rv D cI cF b0 b Λ X σ') mc ms (fun q => b0 ≤ q)
theorem am_Pc.blind {vs : List Value} {D : va_G} {cI cF : ClassId} {b0 : Nat} {b : Nat → Nat} {Λ : am_L} {X : va_W} {σ : am_SS} : FrameBlind (am_Pc vs D cI cF b0 b Λ X σ) := by
  intro a U g mk q
  obtain ⟨q0, q1, q2, q3, q4, q5, q6⟩ := q
  exact ⟨q0, q1, q2, q3, va_K.moved (u := U) (U := U.calling g mk a) (Vm.Alike.refl U.vm) q4, q5.same rfl, q6.same rfl rfl⟩
theorem am_Pc.at {D : va_G} {cI cF : ClassId} {b0 : Nat} {b : Nat → Nat} {Λ : am_L} {X : va_W} {σ : am_SS} {vs : List Value} {s : State} {H : Heap} {locs : List Loc} (hb0 : b0 ≤ s.heap.size) (hP : va_P D vwCl (am_W Λ cI cF b X σ) H) (hD : va_D (fun q => b0 ≤ q) (am_W Λ cI cF b X σ)) (hS : va_S (fun q => b0 ≤ q) s.heap H locs) (hK : va_K D vwCl (am_tys cI cF) s) (hne : am_nest s) (hsx : am_sx b0 s) :
    ∀ U : State, U.heap = H → s.WarmedH U.vm → am_Pc vs D cI cF b0 b Λ X σ vs.toArray U := by
  intro U hU hW
  refine ⟨rfl, ?_, ?_, hD, va_K.moved hW.alike hK, hne.warm hW, hsx.move hW ?_⟩
  · rw [hU]; exact Nat.le_trans hb0 hS.1
  · rw [hU]; exact hP
  · intro a h1 h2; rw [hU]; exact hS.2.1 a h1 h2
section AMC
variable {p : Program} {l : Launch} {e : Env} {R : Room} {s : State} {m : MethodId} {args : Array Value} {below : List Frame} {meth : Method} {c : Code} {H : Heap} {locs : List Loc} {cells slots : Nat} {Q : State → Prop}
theorem am_callW {D : va_G} {cI cF : ClassId} {b0 : Nat} {b : Nat → Nat} {Λ : am_L} {X : va_W} {σ' : am_SS} {H0 : Heap} {pc mc ms : Nat} {ls : Array Slot} {st0 rest : List Value} {rv : Option Value} {a : Array Value} (hr : va_Run p l e R s m args below meth c H locs cells slots mc ms (F0 m pc ls st0) rest (am_Q rv D cI cF b0 b Λ X σ' a) (fun q => b0 ≤ q)) (hS : va_S (fun q => b0 ≤ q) H0 H locs)
    (kk : ∀ (H1 : Heap) (locs1 : List Loc), va_P D vwCl (am_W Λ cI cF b X σ') H1 → va_S (fun q => b0 ≤ q) H0 H1 locs1 → W p l e R s m args below meth c H1 locs1 (cells + mc) (slots + ms) Q (F0 m (pc + 3) ls (rv.toList ++ rest))) : W p l e R s m args below meth c H locs cells slots Q (F0 m pc ls st0) := by
  intro T hT X0
  obtain ⟨v, st₀, t, T', L, h0, X', hL, e1, e2, ⟨hv, hP, hz, hk⟩, st⟩ := hr T hT X0
  cases hv
  rw [h0] at hz hk
  obtain ⟨t2, a1, b1⟩ := kk T'.heap (locs ++ L) (by rw [e1]; exact hP)
    ⟨Nat.le_trans hS.1 (by rw [e1]; exact hz), fun q h1 h2 => by rw [e1, hk q (Nat.lt_of_lt_of_le h1 hS.1) h2]; exact hS.2.1 q h1 h2, fun q hq => by
      rcases List.mem_append.mp hq with h | h
      · exact hS.2.2 q h
      · exact hL q h⟩ T' rfl X'
  exact ⟨t2, st t2 a1, b1⟩
end AMC
def am_M0 (y : MethodName) (bytes : ByteArray) (maxL : Nat) (ret : Option FieldType) (n : Nat) : Prop := (Cond.initialized y.cls ∈ am_WL ∧ Cond.code y bytes maxL ret ∈ am_WL) ∧ (y.cls ≠ "java/lang/invoke/MethodHandle" ∧ y.cls ≠ "java/lang/invoke/VarHandle" ∧ (parseMethodDescriptor y.desc).map (fun d => d.parameters.length) = some n) ∧ maxL ≤ 41
def am_MV (y : MethodName) (bytes : ByteArray) (maxL : Nat) (ret : Option FieldType) (n : Nat) : Prop := am_M0 y bytes maxL ret n ∧ Cond.instanceMethod y ∈ am_WL ∧ Cond.selects y.cls y y ∈ am_WL
def am_MS (y : MethodName) (bytes : ByteArray) (maxL : Nat) (ret : Option FieldType) (n : Nat) : Prop := am_M0 y bytes maxL ret n ∧ Cond.static y ∈ am_WL
theorem am_cb {R : Room} {s : State} {args : Array Value} {own : String} {index n d mc ms : Nat} {y : MethodName} {bytes : ByteArray} {maxL : Nat} {ret : Option FieldType} (hts : ∀ w ∈ am_WL, w.before args s = true) (hM : am_M0 y bytes maxL ret n) (hl : Cond.methodLink own index y ∈ am_WL) (h1 : d + 1 ≤ R.frames) (h2 : 60 * (d + 1) ≤ R.locals) :
    CallB R s args own index y bytes maxL ret (.code y bytes maxL ret :: am_WL) (am_rm d mc ms) mc ms n := by
  obtain ⟨⟨i1, i2⟩, hd, hm⟩ := hM
  refine callB_of (Ts := am_WL) n hts ?_ rfl rfl rfl (hts _ i1) (hts _ hl) hd ⟨h1, ?_⟩
  · intro w hw
    rcases List.mem_cons.mp hw with rfl | hw
    · exact ⟨i2, am_good i2⟩
    · exact ⟨hw, am_good hw⟩
  · show 8 + (maxL + 11) + 60 * d ≤ R.locals
    omega

theorem am_callV {G : am_T} {cc : ByteArray} {nL : Nat} {own : String} {Λ0 : am_L} {d0 : Nat} (C0 : am_C G cc nL own Λ0 d0) {pc : Nat} {lv : List (Nat × Value)} {st st0 : List Value} {σ σ' : am_SS} {y : MethodName} {bytes : ByteArray} {maxL : Nat} {ret : Option FieldType} {n d idx : Nat} {vs : (Nat → Nat) → List Value} {rv : Option Value} (hM : am_Met (am_l G) y bytes maxL ret d 0 0 Λ0 vs σ rv σ') (hMV : am_MV y bytes maxL ret n) (hln : Cond.methodLink own idx y ∈ am_WL) {a ci k : Nat} {T : u_T} {As : (Nat → Nat) → List Value} (hvs : ∀ b, vs b = .ref (b a) :: As b) (hAs : ∀ b, (As b).length = n) (ha : a < Λ0.2.2.2) (hka : Λ0.1 a = ci + 2) (hci : vwCl[ci]? = some (y.cls, T, k)) (hdd : d + 1 ≤ d0) (hst : (vs (am_b G)).reverse ++ st = st0) (hrs : (st.map fun v => v.category).sum ≤ 8) (hdg : decode cc pc = .ok (.invokevirtual idx, 3)) (kk : am_K G nL (pc + 3) lv (rv.toList ++ st) σ') : am_K G nL pc lv st0 σ := by
  obtain ⟨p, l, e, R, s, m, args, below, meth, c, Λ, D, cI, cF, b0, b, X, cells, slots, Q⟩ := G
  obtain ⟨⟨hx, hb, hml, hown, hts⟩, hK, hlk, hb0, hne, hsx, rfl, hR1, hR2, hR3, hR4⟩ := C0
  intro H locs ls hP hD hS hl
  subst hst
  have hM1 := hM D cI cF b0 b X
  have hpre : ∀ U : State, U.heap = H → s.WarmedH U.vm → am_Pc (vs b) D cI cF b0 b Λ X σ (vs b).toArray U := am_Pc.at hb0 hP hD hS hK hne hsx
  show W p l e R s m args below meth c H locs cells slots Q (F0 m pc ls ((vs b).reverse ++ st))
  rw [hvs b] at hM1 hpre ⊢
  have hq := am_at (cI := cI) (cF := cF) (b := b) (X := X) (σ := σ) ha
  rw [am_ent_obj hka] at hq
  have hcw : CallW R s args own y.cls idx y bytes maxL ret (.code y bytes maxL ret :: am_WL) (am_rm d 0 0) 0 0 n := ⟨am_cb hts hMV.1 hln (Nat.le_trans hdd hR1) (Nat.le_trans (Nat.mul_le_mul_left 60 hdd) hR2), hts _ hMV.2.1, hts _ hMV.2.2⟩
  have hrecv := va_recv hK hP hci hq
  have hrun := va_runV (p := p) (l := l) (e := e) (R := R) (s := s) (m := m) (args := args) (below := below) (meth := meth) (c := c) (H := H) (locs := locs) (cells := cells) (slots := slots) (As := As b) (rest := st) (b := b a) (g := F0 m pc ls ((Value.ref (b a) :: As b).reverse ++ st)) (Ts := am_WL) ⟨hx, hb, hml, hown, hts⟩ hM1 hcw ⟨am_Pc.blind, hrecv, hpre⟩ rfl (hAs b) hl.1 (by simp) (lv_room hrs) hdg ⟨hR3, hR4⟩
  exact am_callW hrun hS (fun H1 locs1 hP1 hS1 => kk H1 locs1 ls hP1 (am_D hD) hS1 hl)
theorem am_callS {G : am_T} {cc : ByteArray} {nL : Nat} {own : String} {Λ0 : am_L} {d0 : Nat} (C0 : am_C G cc nL own Λ0 d0) {pc : Nat} {lv : List (Nat × Value)} {st st0 : List Value} {σ σ' : am_SS} {y : MethodName} {bytes : ByteArray} {maxL : Nat} {ret : Option FieldType} {n d idx : Nat} {vs : (Nat → Nat) → List Value} {rv : Option Value} (hM : am_Met (am_l G) y bytes maxL ret d 0 0 Λ0 vs σ rv σ') (hMS : am_MS y bytes maxL ret n) (hln : Cond.methodLink own idx y ∈ am_WL) (hAs : ∀ b, (vs b).length = n) (hdd : d + 1 ≤ d0) (hst : (vs (am_b G)).reverse ++ st = st0) (hrs : (st.map fun v => v.category).sum ≤ 8) (hdg : decode cc pc = .ok (.invokestatic idx, 3)) (kk : am_K G nL (pc + 3) lv (rv.toList ++ st) σ') : am_K G nL pc lv st0 σ := by
  obtain ⟨p, l, e, R, s, m, args, below, meth, c, Λ, D, cI, cF, b0, b, X, cells, slots, Q⟩ := G
  obtain ⟨⟨hx, hb, hml, hown, hts⟩, hK, hlk, hb0, hne, hsx, rfl, hR1, hR2, hR3, hR4⟩ := C0
  intro H locs ls hP hD hS hl
  subst hst
  have hM1 := hM D cI cF b0 b X
  have hpre : ∀ U : State, U.heap = H → s.WarmedH U.vm → am_Pc (vs b) D cI cF b0 b Λ X σ (vs b).toArray U := am_Pc.at hb0 hP hD hS hK hne hsx
  show W p l e R s m args below meth c H locs cells slots Q (F0 m pc ls ((vs b).reverse ++ st))
  have hcw : CallB R s args own idx y bytes maxL ret (.code y bytes maxL ret :: am_WL) (am_rm d 0 0) 0 0 n ∧ (Cond.static y).before args s = true := ⟨am_cb hts hMS.1 hln (Nat.le_trans hdd hR1) (Nat.le_trans (Nat.mul_le_mul_left 60 hdd) hR2), hts _ hMS.2⟩
  have hrun := va_runS (p := p) (l := l) (e := e) (R := R) (s := s) (m := m) (args := args) (below := below) (meth := meth) (c := c) (H := H) (locs := locs) (cells := cells) (slots := slots) (As := vs b) (rest := st) (g := F0 m pc ls ((vs b).reverse ++ st)) (Ts := am_WL) ⟨hx, hb, hml, hown, hts⟩ hM1 hcw ⟨am_Pc.blind, hpre⟩ rfl (hAs b) hl.1 rfl (lv_room hrs) hdg ⟨hR3, hR4⟩
  exact am_callW hrun hS (fun H1 locs1 hP1 hS1 => kk H1 locs1 ls hP1 (am_D hD) hS1 hl)
theorem am_callSN {G : am_T} {cc : ByteArray} {nL : Nat} {own : String} {Λ0 : am_L} {d0 : Nat} (C0 : am_C G cc nL own Λ0 d0) {pc : Nat} {lv : List (Nat × Value)} {st st0 : List Value} {σ σ' : am_SS} {y : MethodName} {bytes : ByteArray} {maxL : Nat} {ret : Option FieldType} {n d idx : Nat} {vs : (Nat → Nat) → List Value} {rv : Option Value} (hM : am_Met (am_l G) y bytes maxL ret d 0 0 Λ0 vs σ rv σ') (hMS : am_MS y bytes maxL ret n) (hln : (own, idx, y) ∈ am_nl) (hAs : ∀ b, (vs b).length = n) (hdd : d + 1 ≤ d0) (hst : (vs (am_b G)).reverse ++ st = st0) (hrs : (st.map fun v => v.category).sum ≤ 8) (hdg : decode cc pc = .ok (.invokestatic idx, 3)) (kk : am_K G nL (pc + 3) lv (rv.toList ++ st) σ') : am_K G nL pc lv st0 σ := by
  obtain ⟨p, l, e, R, s, m, args, below, meth, c, Λ, D, cI, cF, b0, b, X, cells, slots, Q⟩ := G
  obtain ⟨⟨hx, hb, hml, hown, hts⟩, hK, hlk, hb0, hne, hsx, rfl, hR1, hR2, hR3, hR4⟩ := C0
  intro H locs ls hP hD hS hl
  subst hst
  have hM1 := hM D cI cF b0 b X
  have hpre : ∀ U : State, U.heap = H → s.WarmedH U.vm → am_Pc (vs b) D cI cF b0 b Λ X σ (vs b).toArray U := am_Pc.at hb0 hP hD hS hK hne hsx
  show W p l e R s m args below meth c H locs cells slots Q (F0 m pc ls ((vs b).reverse ++ st))
  obtain ⟨⟨⟨i1, i2⟩, hd, hm⟩, hsta⟩ := hMS
  have hG : GoodIn am_WL (.code y bytes maxL ret :: am_WL) := by
    intro w hw
    rcases List.mem_cons.mp hw with rfl | hw
    · exact ⟨i2, am_good i2⟩
    · exact ⟨hw, am_good hw⟩
  have hcw : va_CN R s args own idx y RX9 bytes maxL ret (.code y bytes maxL ret :: am_WL) (am_rm d 0 0) 0 0 n ∧ (Cond.static y).before args s = true ∧ True := ⟨va_cnB n hts hG rfl rfl rfl (hne.1 _ hln) (hts _ i1) hd ⟨Nat.le_trans hdd hR1, by show 8 + (maxL + 11) + 60 * d ≤ R.locals; have := Nat.le_trans (Nat.mul_le_mul_left 60 hdd) hR2; omega⟩, hts _ hsta, trivial⟩
  have hrun := va_runSN (p := p) (l := l) (e := e) (R := R) (s := s) (m := m) (args := args) (below := below) (meth := meth) (c := c) (H := H) (locs := locs) (cells := cells) (slots := slots) (As := vs b) (rest := st) (g := F0 m pc ls ((vs b).reverse ++ st)) (Ts := am_WL) ⟨hx, hb, hml, hown, hts⟩ hM1 hcw ⟨am_Pc.blind, hpre⟩ rfl (hAs b) hl.1 rfl (lv_room hrs) hdg ⟨hR3, hR4⟩
  exact am_callW hrun hS (fun H1 locs1 hP1 hS1 => kk H1 locs1 ls hP1 (am_D hD) hS1 hl)
/-- where a method of this G may end -/
def am_retI (G : am_T) (cc : ByteArray) (nL : Nat) (r : Int32) (σ : am_SS) : Prop := ∀ (pc : Nat) (lv : List (Nat × Value)), decode cc pc = .ok (.ireturn, 1) → am_K G nL pc lv [.int r] σ
def am_retV (G : am_T) (cc : ByteArray) (nL : Nat) (σ : am_SS) : Prop := ∀ (pc : Nat) (lv : List (Nat × Value)), decode cc pc = .ok (.return_, 1) → am_K G nL pc lv [] σ
theorem am_ofW {l : Launch} {y : MethodName} {ws ws' : List Cond} {rm : Room} {Pc : Array Value → State → Prop} {Qc : Array Value → State → Outcome → State → Prop} {mc ms : Nat} {free : Addr → Prop} {cc : ByteArray} {maxL : Nat} {ret : Option FieldType}
    (hy : plainFor y = true) (hw : ws = Cond.code y cc maxL ret :: ws')
    (body : ∀ p e s m args below meth c s₁, BodyLoose p l y (headSpec ws rm) cc maxL ret e s m args below meth c s₁ → c.maxLocals = maxL → Pc args s →
      W p l e (headSpec ws rm).room s m args below meth c s.heap [] 0 0 (MQ below Qc args s mc ms free) (entryFrame m args maxL)) : Met l y ws rm Pc Qc mc ms free := by
  refine MetFree.of_bodySF (code := cc) (maxLocals := maxL) (ret := ret) hy ?_ ?_
  · intro args s m h hn
    obtain ⟨meth, c, h1, h2, h3, h4, h5, h6, -, -⟩ := Cond.code_spec hn (atoms_spec (ws := ws) h _ (by rw [hw]; exact List.mem_cons_self))
    exact ⟨meth, c, h1, h2, h3, h4, h5, h6⟩
  · intro p e s m args below meth c s₁ B hml hP _
    have hh0 : s₁.heap = s.heap := by rw [B.state]; rfl
    obtain ⟨t, a1, o, b1, b2, b3⟩ := body p e s m args below meth c s₁ B hml hP s₁ hh0 (Stand.of_body B)
    exact ⟨t, o, a1, b1, b2, ⟨b3.1, b3.2⟩⟩
theorem am_metI {l : Launch} {y : MethodName} {cc : ByteArray} {nL : Nat} {ty : FieldType} {d : Nat} {Λ : am_L} {vs : (Nat → Nat) → List Value} {σ σ' : am_SS} {r : Int32} (hy : plainFor y = true) (hnr : narrow ty (.int r) = .int r) {lv : (Nat → Nat) → List (Nat × Value)} (hlv : ∀ b, lv_args 0 (vs b) = lv b) (hlen : ∀ b, (lg_sl (vs b)).length ≤ nL)
    (body : ∀ G : am_T, am_C G cc nL y.cls Λ d → am_l G = l → am_retI G cc nL r σ' → am_K G nL 0 (lv (am_b G)) [] σ) : am_Met l y cc nL (some ty) d 0 0 Λ vs σ (some (.int r)) σ' := by
  intro D cI cF b0 b X
  refine am_ofW (cc := cc) (maxL := nL) (ret := some ty) hy rfl ?_
  intro p e s m args below meth c s₁ B hml hv
  obtain ⟨rfl, hb0, hP, hD, hK, hne, hsx⟩ := hv
  have hr := B.returns
  have hts0 := atoms_spec (ws := .code y cc nL (some ty) :: am_WL) B.pre
  have hts : ∀ w ∈ am_WL, w.before (vs b).toArray s = true := fun w hw => hts0 w (List.mem_cons_of_mem _ hw)
  have hown : s.vm.findClass y.cls = some m.cls := findClass_of_methodNamed B.named
  have hlocks := B.notSynchronized
  have hl := lv_entry (vs b) (n := nL) (hlen b)
  rw [hlv b] at hl
  rw [lg_entry_eq]
  have hx := B.exec
  have hb := B.bytes
  refine body (p, l, e, (headSpec (.code y cc nL (some ty) :: am_WL) (am_rm d 0 0)).room, s, m, (vs b).toArray, below, meth, c, Λ, D, cI, cF, b0, b, X, 0, 0, MQ below (am_Q (some (.int r)) D cI cF b0 b Λ X σ') (vs b).toArray s 0 0 (fun q => b0 ≤ q)) ⟨⟨hx, hb, hml, hown, hts⟩, hK, hlocks, hb0, hne, hsx, rfl, Nat.le_refl _, Nat.le_refl _, Nat.zero_le _, Nat.zero_le _⟩ rfl ?_ s.heap [] _ hP hD va_S.rf hl
  intro pc lv1 hdg H locs ls hP1 hD1 hS1 hl1
  exact W.zret hx hb hr hnr (fun t ht hW => ⟨rfl, by rw [ht]; exact hP1, hS1.F ht⟩) hS1.2.2 hdg
theorem am_metV {l : Launch} {y : MethodName} {cc : ByteArray} {nL : Nat} {d : Nat} {Λ : am_L} {vs : (Nat → Nat) → List Value} {σ σ' : am_SS} (hy : plainFor y = true) {lv : (Nat → Nat) → List (Nat × Value)} (hlv : ∀ b, lv_args 0 (vs b) = lv b) (hlen : ∀ b, (lg_sl (vs b)).length ≤ nL)
    (body : ∀ G : am_T, am_C G cc nL y.cls Λ d → am_l G = l → am_retV G cc nL σ' → am_K G nL 0 (lv (am_b G)) [] σ) : am_Met l y cc nL none d 0 0 Λ vs σ none σ' := by
  intro D cI cF b0 b X
  refine am_ofW (cc := cc) (maxL := nL) (ret := none) hy rfl ?_
  intro p e s m args below meth c s₁ B hml hv
  obtain ⟨rfl, hb0, hP, hD, hK, hne, hsx⟩ := hv
  have hr := B.returns
  have hts0 := atoms_spec (ws := .code y cc nL none :: am_WL) B.pre
  have hts : ∀ w ∈ am_WL, w.before (vs b).toArray s = true := fun w hw => hts0 w (List.mem_cons_of_mem _ hw)
  have hown : s.vm.findClass y.cls = some m.cls := findClass_of_methodNamed B.named
  have hlocks := B.notSynchronized
  have hl := lv_entry (vs b) (n := nL) (hlen b)
  rw [hlv b] at hl
  rw [lg_entry_eq]
  have hx := B.exec
  have hb := B.bytes
  refine body (p, l, e, (headSpec (.code y cc nL none :: am_WL) (am_rm d 0 0)).room, s, m, (vs b).toArray, below, meth, c, Λ, D, cI, cF, b0, b, X, 0, 0, MQ below (am_Q none D cI cF b0 b Λ X σ') (vs b).toArray s 0 0 (fun q => b0 ≤ q)) ⟨⟨hx, hb, hml, hown, hts⟩, hK, hlocks, hb0, hne, hsx, rfl, Nat.le_refl _, Nat.le_refl _, Nat.zero_le _, Nat.zero_le _⟩ rfl ?_ s.heap [] _ hP hD va_S.rf hl
  intro pc lv1 hdg H locs ls hP1 hD1 hS1 hl1
  exact W.vret hx hb hr (fun t ht hW => ⟨rfl, by rw [ht]; exact hP1, hS1.F ht⟩) hS1.2.2 hdg
