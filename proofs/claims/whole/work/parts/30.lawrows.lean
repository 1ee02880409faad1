section AMW
variable {p : Program} {l : Launch} {e : Env} {R : Room} {s : State} {m : MethodId} {args : Array Value} {below : List Frame} {meth : Method} {c : Code} {H : Heap} {locs : List Loc} {cells slots : Nat} {Q : State → Prop}
/-- a call at W: the callee's pool behind all else -/
theorem am_callVW {D : va_G} {cI cF : ClassId} {b0 : Nat} {b : Nat → Nat} {Λ : am_L} {X : va_W} {σ σ' : am_SS} {pc nL mc ms : Nat} {cc : ByteArray} {own : String} {lv : List (Nat × Value)} {ls : Array Slot} {st : List Value} (hF : CallFix p m c cc nL s args am_WL own) (hK : va_K D vwCl (am_tys cI cF) s) (hb0 : b0 ≤ s.heap.size) (hnt : am_nest s) (hsx : am_sx b0 s) {y : MethodName} {bytes : ByteArray} {maxL : Nat} {ret : Option FieldType} {n d idx : Nat} {vs : (Nat → Nat) → List Value} {rv : Option Value} (hM : am_Met l y bytes maxL ret d mc ms Λ vs σ rv σ') (hMV : am_MV y bytes maxL ret n) (hln : Cond.methodLink own idx y ∈ am_WL) {a ci k : Nat} {T : u_T} {As : (Nat → Nat) → List Value} (hvs : ∀ b, vs b = .ref (b a) :: As b) (hAs : ∀ b, (As b).length = n) (ha : a < Λ.2.2.2) (hka : Λ.1 a = ci + 2) (hci : vwCl[ci]? = some (y.cls, T, k)) (hR1 : d + 1 ≤ R.frames) (hR2 : 60 * (d + 1) ≤ R.locals) (hc : cells + mc ≤ R.cells) (hs : slots + ms ≤ R.slots) (hrs : (st.map fun v => v.category).sum ≤ 8) (hdg : decode cc pc = .ok (.invokevirtual idx, 3))
    (hP : va_P D vwCl (am_W Λ cI cF b X σ) H) (hD : va_D (fun q => b0 ≤ q) (am_W Λ cI cF b X σ)) (hS : va_S (fun q => b0 ≤ q) s.heap H locs) (hl : lv_has ls nL lv)
    (kk : ∀ (H1 : Heap) (locs1 : List Loc), va_P D vwCl (am_W Λ cI cF b X σ') H1 → va_D (fun q => b0 ≤ q) (am_W Λ cI cF b X σ') → va_S (fun q => b0 ≤ q) s.heap H1 locs1 → W p l e R s m args below meth c H1 locs1 (cells + mc) (slots + ms) Q (F0 m (pc + 3) ls (rv.toList ++ st))) :
    W p l e R s m args below meth c H locs cells slots Q (F0 m pc ls ((vs b).reverse ++ st)) := by
  obtain ⟨hx, hb, hml, hown, hts⟩ := hF
  have hM1 := hM D cI cF b0 b X
  have hpre : ∀ U : State, U.heap = H → s.WarmedH U.vm → am_Pc (vs b) D cI cF b0 b Λ X σ (vs b).toArray U := am_Pc.at hb0 hP hD hS hK hnt hsx
  rw [hvs b] at hM1 hpre ⊢
  have hq := am_at (cI := cI) (cF := cF) (b := b) (X := X) (σ := σ) ha
  rw [am_ent_obj hka] at hq
  have hcw : CallW R s args own y.cls idx y bytes maxL ret (.code y bytes maxL ret :: am_WL) (am_rm d mc ms) mc ms n := ⟨am_cb hts hMV.1 hln hR1 hR2, hts _ hMV.2.1, hts _ hMV.2.2⟩
  have hrecv := va_recv hK hP hci hq
  have hrun := va_runV (p := p) (l := l) (e := e) (R := R) (s := s) (m := m) (args := args) (below := below) (meth := meth) (c := c) (H := H) (locs := locs) (cells := cells) (slots := slots) (As := As b) (rest := st) (b := b a) (g := F0 m pc ls ((Value.ref (b a) :: As b).reverse ++ st)) (Ts := am_WL) ⟨hx, hb, hml, hown, hts⟩ hM1 hcw ⟨am_Pc.blind, hrecv, hpre⟩ rfl (hAs b) hl.1 (by simp) (lv_room hrs) hdg ⟨hc, hs⟩
  exact am_callW hrun hS (fun H1 locs1 hP1 hS1 => kk H1 locs1 hP1 (am_D hD) hS1)
end AMW
/-- what is fixed while the law runs: program, launch, env, state, method, frames, tables, the two address maps, the script -/
abbrev aj_T : Type := Program × Launch × Env × State × MethodId × List Frame × Method × Code × va_G × ClassId × ClassId × (Nat → Nat) × (Nat → Nat) × Nat × Nat × (Nat → Int32)
def aj_C (G : aj_T) : Prop := match G with
  | (p, l, e, s, m, below, meth, c, D, cI, cF, bC, bM, b, L, xs) => CallFix p m c cL_law 4 s #[Value.ref b] am_WL RL ∧ va_K D vwCl (am_tys cI cF) s ∧ am_nest s ∧ am_sx s.heap.size s ∧ va_X b L xs s s.heap ∧ b < s.heap.size ∧ L ≤ 3072 ∧ meth.sig.returnType = ret ∧ meth.locks = false
def aj_bC (G : aj_T) : Nat → Nat := G.2.2.2.2.2.2.2.2.2.2.2.1
def aj_bM (G : aj_T) : Nat → Nat := G.2.2.2.2.2.2.2.2.2.2.2.2.1
def aj_b (G : aj_T) : Nat := G.2.2.2.2.2.2.2.2.2.2.2.2.2.1
def aj_N (G : aj_T) : Nat := G.2.2.2.2.2.2.2.2.2.2.2.2.2.2.1
def aj_xs (G : aj_T) : Nat → Int32 := G.2.2.2.2.2.2.2.2.2.2.2.2.2.2.2
def aj_l (G : aj_T) : Launch := G.2.1
def aj_K (G : aj_T) (cells slots pc : Nat) (lv : List (Nat × Value)) (st : List Value) (σ τ : am_SS) : Prop := match G with
  | (p, l, e, s, m, below, meth, c, D, cI, cF, bC, bM, b, L, xs) => ∀ (H : Heap) (locs : List Loc) (ls : Array Slot), va_P D vwCl (am_pl LC cI cF bC σ ++ am_pl LM cI cF bM τ) H → va_D (fun q => s.heap.size ≤ q) (am_pl LC cI cF bC σ ++ am_pl LM cI cF bM τ) → va_S (fun q => s.heap.size ≤ q) s.heap H locs → lv_has ls 4 lv → W p l e room_1 s m #[Value.ref b] below meth c H locs cells slots (lw_Z below #[Value.ref b] s) (F0 m pc ls st)
theorem aj_sub {G : aj_T} {cells slots pc : Nat} {lv lv' : List (Nat × Value)} {st : List Value} {σ τ : am_SS} (ks : List Nat) (hl : lv_pick lv ks = lv') (k : aj_K G cells slots pc lv' st σ τ) : aj_K G cells slots pc lv st σ τ := by
  obtain ⟨p, l, e, s, m, below, meth, c, D, cI, cF, bC, bM, b, L, xs⟩ := G
  exact fun H locs ls hP hD hS hl1 => k H locs ls hP hD hS (lv_sub hl1 ks hl)
theorem aj_widen {G : aj_T} {cells slots k n pc : Nat} {lv : List (Nat × Value)} {st : List Value} {σ τ : am_SS} (h1 : cells ≤ k) (h2 : slots ≤ n) (kk : aj_K G k n pc lv st σ τ) : aj_K G cells slots pc lv st σ τ := by
  obtain ⟨p, l, e, s, m, below, meth, c, D, cI, cF, bC, bM, b, L, xs⟩ := G
  exact fun H locs ls hP hD hS hl1 => W.widen h1 h2 (kk H locs ls hP hD hS hl1)
theorem aj_iload_n {G : aj_T} (C0 : aj_C G) {cells slots pc : Nat} {lv : List (Nat × Value)} {st : List Value} {σ τ : am_SS} {k : Fin 4} {x : Int32} (hdg : decode cL_law pc = .ok (.iload_n k, 1)) (j : Nat) (hj : lv[j]? = some ((k : Nat), .int x)) (kk : aj_K G cells slots (pc + 1) lv (.int x :: st) σ τ) : aj_K G cells slots (pc) lv (st) σ τ := by
  obtain ⟨p, l, e, s, m, below, meth, c, D, cI, cF, bC, bM, b, L, xs⟩ := G
  obtain ⟨⟨hx, hb, hml, hown, hts⟩, hK, hnt, hsx, hX, hbl, hL, hr, hlk⟩ := C0
  intro H locs ls hP hD hS hl
  exact lv_iload_n hx hb hdg rfl (lv_at hl j hj) (kk H locs ls hP hD hS hl)
theorem aj_aload_n {G : aj_T} (C0 : aj_C G) {cells slots pc : Nat} {lv : List (Nat × Value)} {st : List Value} {σ τ : am_SS} {k : Fin 4} {x : Nat} (hdg : decode cL_law pc = .ok (.aload_n k, 1)) (j : Nat) (hj : lv[j]? = some ((k : Nat), .ref x)) (kk : aj_K G cells slots (pc + 1) lv (.ref x :: st) σ τ) : aj_K G cells slots (pc) lv (st) σ τ := by
  obtain ⟨p, l, e, s, m, below, meth, c, D, cI, cF, bC, bM, b, L, xs⟩ := G
  obtain ⟨⟨hx, hb, hml, hown, hts⟩, hK, hnt, hsx, hX, hbl, hL, hr, hlk⟩ := C0
  intro H locs ls hP hD hS hl
  exact lv_aload_n hx hb hdg rfl (lv_at hl j hj) (kk H locs ls hP hD hS hl)
theorem aj_iconst {G : aj_T} (C0 : aj_C G) {cells slots pc : Nat} {lv : List (Nat × Value)} {st : List Value} {σ τ : am_SS} {n : Int} {v : Int32} (hdg : decode cL_law pc = .ok (.iconst n, 1)) (hv : Int32.ofInt n = v) (kk : aj_K G cells slots (pc + 1) lv (.int v :: st) σ τ) : aj_K G cells slots (pc) lv (st) σ τ := by
  obtain ⟨p, l, e, s, m, below, meth, c, D, cI, cF, bC, bM, b, L, xs⟩ := G
  obtain ⟨⟨hx, hb, hml, hown, hts⟩, hK, hnt, hsx, hX, hbl, hL, hr, hlk⟩ := C0
  intro H locs ls hP hD hS hl
  exact lv_iconst hx hb hdg hv (kk H locs ls hP hD hS hl)
theorem aj_bipush {G : aj_T} (C0 : aj_C G) {cells slots pc : Nat} {lv : List (Nat × Value)} {st : List Value} {σ τ : am_SS} {n : Int} {v : Int32} (hdg : decode cL_law pc = .ok (.bipush n, 2)) (hv : (Int8.ofInt n).toInt32 = v) (kk : aj_K G cells slots (pc + 2) lv (.int v :: st) σ τ) : aj_K G cells slots (pc) lv (st) σ τ := by
  obtain ⟨p, l, e, s, m, below, meth, c, D, cI, cF, bC, bM, b, L, xs⟩ := G
  obtain ⟨⟨hx, hb, hml, hown, hts⟩, hK, hnt, hsx, hX, hbl, hL, hr, hlk⟩ := C0
  intro H locs ls hP hD hS hl
  exact lv_bipush hx hb hdg hv (kk H locs ls hP hD hS hl)
theorem aj_iadd {G : aj_T} (C0 : aj_C G) {cells slots pc : Nat} {lv : List (Nat × Value)} {st : List Value} {σ τ : am_SS} {x y : Int32} (hdg : decode cL_law pc = .ok (.iadd, 1)) (kk : aj_K G cells slots (pc + 1) lv (.int (x + y) :: st) σ τ) : aj_K G cells slots (pc) lv (.int y :: .int x :: st) σ τ := by
  obtain ⟨p, l, e, s, m, below, meth, c, D, cI, cF, bC, bM, b, L, xs⟩ := G
  obtain ⟨⟨hx, hb, hml, hown, hts⟩, hK, hnt, hsx, hX, hbl, hL, hr, hlk⟩ := C0
  intro H locs ls hP hD hS hl
  exact lv_iadd hx hb hdg (kk H locs ls hP hD hS hl)
theorem aj_isub {G : aj_T} (C0 : aj_C G) {cells slots pc : Nat} {lv : List (Nat × Value)} {st : List Value} {σ τ : am_SS} {x y : Int32} (hdg : decode cL_law pc = .ok (.isub, 1)) (kk : aj_K G cells slots (pc + 1) lv (.int (x - y) :: st) σ τ) : aj_K G cells slots (pc) lv (.int y :: .int x :: st) σ τ := by
  obtain ⟨p, l, e, s, m, below, meth, c, D, cI, cF, bC, bM, b, L, xs⟩ := G
  obtain ⟨⟨hx, hb, hml, hown, hts⟩, hK, hnt, hsx, hX, hbl, hL, hr, hlk⟩ := C0
  intro H locs ls hP hD hS hl
  exact lv_isub hx hb hdg (kk H locs ls hP hD hS hl)
theorem aj_iand {G : aj_T} (C0 : aj_C G) {cells slots pc : Nat} {lv : List (Nat × Value)} {st : List Value} {σ τ : am_SS} {x y : Int32} (hdg : decode cL_law pc = .ok (.iand, 1)) (kk : aj_K G cells slots (pc + 1) lv (.int (x &&& y) :: st) σ τ) : aj_K G cells slots (pc) lv (.int y :: .int x :: st) σ τ := by
  obtain ⟨p, l, e, s, m, below, meth, c, D, cI, cF, bC, bM, b, L, xs⟩ := G
  obtain ⟨⟨hx, hb, hml, hown, hts⟩, hK, hnt, hsx, hX, hbl, hL, hr, hlk⟩ := C0
  intro H locs ls hP hD hS hl
  exact lv_iand hx hb hdg (kk H locs ls hP hD hS hl)
theorem aj_iinc {G : aj_T} (C0 : aj_C G) {cells slots pc : Nat} {lv : List (Nat × Value)} {st : List Value} {σ τ : am_SS} {i : Nat} {n : Int} {x v : Int32} (hdg : decode cL_law pc = .ok (.iinc i n, 3)) (j : Nat) (hj : lv[j]? = some (i, .int x)) (hv : x + Int32.ofInt n = v) (hn : i < 4) (hc : lv.all (fun q => !(q.1 + 1 == i && q.2.category == 2)) = true) {lv' : List (Nat × Value)} (hp : am_put lv i (.int v) = lv') (kk : aj_K G cells slots (pc + 3) lv' (st) σ τ) : aj_K G cells slots (pc) lv (st) σ τ := by
  obtain ⟨p, l, e, s, m, below, meth, c, D, cI, cF, bC, bM, b, L, xs⟩ := G
  obtain ⟨⟨hx, hb, hml, hown, hts⟩, hK, hnt, hsx, hX, hbl, hL, hr, hlk⟩ := C0
  intro H locs ls hP hD hS hl
  refine lv_iinc hx hb hdg hl (k := j) hj hv hn rfl (fun ls1 hl1 => kk H locs ls1 hP hD hS ?_)
  rw [← hp]
  refine am_put_has (ls := ls) hl1 (fun q hq hne => ?_)
  have h2 := List.all_eq_true.mp hc q hq
  have h3 : (q.1 == i) = false := by simp [hne]
  simp only [h3, Bool.not_false, Bool.true_and]
  exact h2
theorem aj_goto {G : aj_T} (C0 : aj_C G) {cells slots pc : Nat} {lv : List (Nat × Value)} {st : List Value} {σ τ : am_SS} {off : Int} {tgt : Nat} (hdg : decode cL_law pc = .ok (.goto off, 3)) (ht : (pc : Int) + off = (tgt : Int)) (kk : aj_K G cells slots (tgt) lv (st) σ τ) : aj_K G cells slots (pc) lv (st) σ τ := by
  obtain ⟨p, l, e, s, m, below, meth, c, D, cI, cF, bC, bM, b, L, xs⟩ := G
  obtain ⟨⟨hx, hb, hml, hown, hts⟩, hK, hnt, hsx, hX, hbl, hL, hr, hlk⟩ := C0
  intro H locs ls hP hD hS hl
  exact lv_goto hx hb hdg ht (kk H locs ls hP hD hS hl)
theorem aj_icmp_gt {G : aj_T} (C0 : aj_C G) {cells slots pc : Nat} {lv : List (Nat × Value)} {st : List Value} {σ τ : am_SS} {x y : Int32} {off : Int} {tgt : Nat} (hdg : decode cL_law pc = .ok (.if_icmp .gt off, 3)) (ht : (pc : Int) + off = (tgt : Int)) (kt : y < x → aj_K G cells slots (tgt) lv (st) σ τ) (kf : ¬ y < x → aj_K G cells slots (pc + 3) lv (st) σ τ) : aj_K G cells slots (pc) lv (.int y :: .int x :: st) σ τ := by
  obtain ⟨p, l, e, s, m, below, meth, c, D, cI, cF, bC, bM, b, L, xs⟩ := G
  obtain ⟨⟨hx, hb, hml, hown, hts⟩, hK, hnt, hsx, hX, hbl, hL, hr, hlk⟩ := C0
  intro H locs ls hP hD hS hl
  exact lv_icmp_gt hx hb hdg ht (fun q => kt q H locs ls hP hD hS hl) (fun q => kf q H locs ls hP hD hS hl)
theorem aj_icmp_eq {G : aj_T} (C0 : aj_C G) {cells slots pc : Nat} {lv : List (Nat × Value)} {st : List Value} {σ τ : am_SS} {x y : Int32} {off : Int} {tgt : Nat} (hdg : decode cL_law pc = .ok (.if_icmp .eq off, 3)) (ht : (pc : Int) + off = (tgt : Int)) (hxy : x = y) (kt : aj_K G cells slots (tgt) lv (st) σ τ) : aj_K G cells slots (pc) lv (.int y :: .int x :: st) σ τ := by
  obtain ⟨p, l, e, s, m, below, meth, c, D, cI, cF, bC, bM, b, L, xs⟩ := G
  obtain ⟨⟨hx, hb, hml, hown, hts⟩, hK, hnt, hsx, hX, hbl, hL, hr, hlk⟩ := C0
  intro H locs ls hP hD hS hl
  exact lv_icmp_eq hx hb hdg ht (fun q => kt H locs ls hP hD hS hl) (fun q => absurd hxy q)
theorem aj_if_eq {G : aj_T} (C0 : aj_C G) {cells slots pc : Nat} {lv : List (Nat × Value)} {st : List Value} {σ τ : am_SS} {x : Int32} {off : Int} {tgt : Nat} (hdg : decode cL_law pc = .ok (.ifCond .eq off, 3)) (ht : (pc : Int) + off = (tgt : Int)) (kt : x = 0 → aj_K G cells slots (tgt) lv (st) σ τ) (kf : ¬ x = 0 → aj_K G cells slots (pc + 3) lv (st) σ τ) : aj_K G cells slots (pc) lv (.int x :: st) σ τ := by
  obtain ⟨p, l, e, s, m, below, meth, c, D, cI, cF, bC, bM, b, L, xs⟩ := G
  obtain ⟨⟨hx, hb, hml, hown, hts⟩, hK, hnt, hsx, hX, hbl, hL, hr, hlk⟩ := C0
  intro H locs ls hP hD hS hl
  exact lv_if_eq hx hb hdg ht (fun q => kt q H locs ls hP hD hS hl) (fun q => kf q H locs ls hP hD hS hl)
theorem aj_tabIn {G : aj_T} (C0 : aj_C G) {cells slots pc : Nat} {lv : List (Nat × Value)} {st : List Value} {σ τ : am_SS} {dflt lo hi : Int} {offs : Array Int} {len : Nat} {x : Int32} {off : Int} {tgt : Nat} (hdg : decode cL_law pc = .ok (.tableswitch dflt lo hi offs, len)) (h1 : ¬ x.toInt < lo) (h2 : ¬ hi < x.toInt) (ho : offs[(x.toInt - lo).toNat]? = some off) (ht : (pc : Int) + off = (tgt : Int)) (kk : aj_K G cells slots (tgt) lv (st) σ τ) : aj_K G cells slots (pc) lv (.int x :: st) σ τ := by
  obtain ⟨p, l, e, s, m, below, meth, c, D, cI, cF, bC, bM, b, L, xs⟩ := G
  obtain ⟨⟨hx, hb, hml, hown, hts⟩, hK, hnt, hsx, hX, hbl, hL, hr, hlk⟩ := C0
  intro H locs ls hP hD hS hl
  exact lv_tableIn hx hb hdg h1 h2 ho ht (kk H locs ls hP hD hS hl)
theorem aj_tabOut {G : aj_T} (C0 : aj_C G) {cells slots pc : Nat} {lv : List (Nat × Value)} {st : List Value} {σ τ : am_SS} {dflt lo hi : Int} {offs : Array Int} {len : Nat} {x : Int32} {tgt : Nat} (hdg : decode cL_law pc = .ok (.tableswitch dflt lo hi offs, len)) (h : x.toInt < lo ∨ hi < x.toInt) (ht : (pc : Int) + dflt = (tgt : Int)) (kk : aj_K G cells slots (tgt) lv (st) σ τ) : aj_K G cells slots (pc) lv (.int x :: st) σ τ := by
  obtain ⟨p, l, e, s, m, below, meth, c, D, cI, cF, bC, bM, b, L, xs⟩ := G
  obtain ⟨⟨hx, hb, hml, hown, hts⟩, hK, hnt, hsx, hX, hbl, hL, hr, hlk⟩ := C0
  intro H locs ls hP hD hS hl
  exact lv_tableOut hx hb hdg h ht (kk H locs ls hP hD hS hl)
theorem aj_slen {G : aj_T} (C0 : aj_C G) {cells slots pc : Nat} {lv : List (Nat × Value)} {st : List Value} {σ τ : am_SS} (hdg : decode cL_law pc = .ok (.arraylength, 1)) (kk : aj_K G cells slots (pc + 1) lv (.int (Int32.ofNat (aj_N G)) :: st) σ τ) : aj_K G cells slots (pc) lv (.ref (aj_b G) :: st) σ τ := by
  obtain ⟨p, l, e, s, m, below, meth, c, D, cI, cF, bC, bM, b, L, xs⟩ := G
  obtain ⟨⟨hx, hb, hml, hown, hts⟩, hK, hnt, hsx, hX, hbl, hL, hr, hlk⟩ := C0
  intro H locs ls hP hD hS hl
  exact va_slen hx hb hX hbl (Nat.not_le.mpr hbl) hS hdg (kk H locs ls hP hD hS hl)
theorem aj_sld {G : aj_T} (C0 : aj_C G) {cells slots pc : Nat} {lv : List (Nat × Value)} {st : List Value} {σ τ : am_SS} {i : Int32} (hin : vp_in i (aj_N G)) (hdg : decode cL_law pc = .ok (.iaload, 1)) (kk : aj_K G cells slots (pc + 1) lv (.int (aj_xs G i.toNatClampNeg) :: st) σ τ) : aj_K G cells slots (pc) lv (.int i :: .ref (aj_b G) :: st) σ τ := by
  obtain ⟨p, l, e, s, m, below, meth, c, D, cI, cF, bC, bM, b, L, xs⟩ := G
  obtain ⟨⟨hx, hb, hml, hown, hts⟩, hK, hnt, hsx, hX, hbl, hL, hr, hlk⟩ := C0
  intro H locs ls hP hD hS hl
  exact va_sld hx hb hX hbl (Nat.not_le.mpr hbl) hS hin hdg (kk H locs ls hP hD hS hl)
theorem aj_ret1 {G : aj_T} (C0 : aj_C G) {cells slots pc : Nat} {lv : List (Nat × Value)} {st : List Value} {σ τ : am_SS} (hdg : decode cL_law pc = .ok (.ireturn, 1)) (hc : cells ≤ 600000) (hs : slots ≤ 7302250)  : aj_K G cells slots (pc) lv ([.int 1]) σ τ := by
  obtain ⟨p, l, e, s, m, below, meth, c, D, cI, cF, bC, bM, b, L, xs⟩ := G
  obtain ⟨⟨hx, hb, hml, hown, hts⟩, hK, hnt, hsx, hX, hbl, hL, hr, hlk⟩ := C0
  intro H locs ls hP hD hS hl
  refine va_forget (fun q hq => hS.2.2 q hq) ?_
  refine W.widen (k := 600000) (n := 7302250) hc hs ?_
  exact lw_ret hx hb hr hlk hdg
theorem aj_callC {G : aj_T} (C0 : aj_C G) {cells slots pc : Nat} {lv : List (Nat × Value)} {st : List Value} {σ τ : am_SS} {σ' : am_SS} {st0 : List Value} {y : MethodName} {bytes : ByteArray} {maxL : Nat} {rt : Option FieldType} {n d idx mc ms : Nat} {vs : (Nat → Nat) → List Value} {rv : Option Value} (hM : am_Met (aj_l G) y bytes maxL rt d mc ms LC vs σ rv σ') (hMV : am_MV y bytes maxL rt n) (hln : Cond.methodLink RL idx y ∈ am_WL) {a ci k : Nat} {T : u_T} {As : (Nat → Nat) → List Value} (hvs : ∀ b, vs b = .ref (b a) :: As b) (hAs : ∀ b, (As b).length = n) (ha : a < LC.2.2.2) (hka : LC.1 a = ci + 2) (hci : vwCl[ci]? = some (y.cls, T, k)) (hd : d ≤ 1000) (hc : cells + mc ≤ 600000) (hs : slots + ms ≤ 7302250) (hst : (vs (aj_bC G)).reverse ++ st = st0) (hrs : (st.map fun v => v.category).sum ≤ 8) (hdg : decode cL_law pc = .ok (.invokevirtual idx, 3)) (kk : aj_K G (cells + mc) (slots + ms) (pc + 3) lv (rv.toList ++ st) σ' τ) : aj_K G cells slots pc lv st0 σ τ := by
  obtain ⟨p, l, e, s, m, below, meth, c, D, cI, cF, bC, bM, b, L, xs⟩ := G
  obtain ⟨⟨hx, hb, hml, hown, hts⟩, hK, hnt, hsx, hX, hbl, hL, hr, hlk⟩ := C0
  subst hst
  intro H locs ls hP hD hS hl
  have hfr : d + 1 ≤ room_1.frames := Nat.le_trans (Nat.succ_le_succ hd) (Nat.le_of_ble_eq_true rfl)
  have hlo : 60 * (d + 1) ≤ room_1.locals := Nat.le_trans (Nat.mul_le_mul_left 60 (Nat.succ_le_succ hd)) (Nat.le_of_ble_eq_true rfl)
  refine am_callVW (X := am_pl LM cI cF bM τ) (b := bC) (cI := cI) (cF := cF) (D := D) (b0 := s.heap.size) ⟨hx, hb, hml, hown, hts⟩ hK (Nat.le_refl _) hnt hsx hM hMV hln hvs hAs ha hka hci hfr hlo hc hs hrs hdg (am_swapP hP) (am_swapD hD) hS hl (fun H1 locs1 hP1 hD1 hS1 => ?_)
  exact kk H1 locs1 ls (am_swapP hP1) (am_swapD hD1) hS1 hl
theorem aj_callM {G : aj_T} (C0 : aj_C G) {cells slots pc : Nat} {lv : List (Nat × Value)} {st : List Value} {σ τ : am_SS} {τ' : am_SS} {st0 : List Value} {y : MethodName} {bytes : ByteArray} {maxL : Nat} {rt : Option FieldType} {n d idx mc ms : Nat} {vs : (Nat → Nat) → List Value} {rv : Option Value} (hM : am_Met (aj_l G) y bytes maxL rt d mc ms LM vs τ rv τ') (hMV : am_MV y bytes maxL rt n) (hln : Cond.methodLink RL idx y ∈ am_WL) {a ci k : Nat} {T : u_T} {As : (Nat → Nat) → List Value} (hvs : ∀ b, vs b = .ref (b a) :: As b) (hAs : ∀ b, (As b).length = n) (ha : a < LM.2.2.2) (hka : LM.1 a = ci + 2) (hci : vwCl[ci]? = some (y.cls, T, k)) (hd : d ≤ 1000) (hc : cells + mc ≤ 600000) (hs : slots + ms ≤ 7302250) (hst : (vs (aj_bM G)).reverse ++ st = st0) (hrs : (st.map fun v => v.category).sum ≤ 8) (hdg : decode cL_law pc = .ok (.invokevirtual idx, 3)) (kk : aj_K G (cells + mc) (slots + ms) (pc + 3) lv (rv.toList ++ st) σ τ') : aj_K G cells slots pc lv st0 σ τ := by
  obtain ⟨p, l, e, s, m, below, meth, c, D, cI, cF, bC, bM, b, L, xs⟩ := G
  obtain ⟨⟨hx, hb, hml, hown, hts⟩, hK, hnt, hsx, hX, hbl, hL, hr, hlk⟩ := C0
  subst hst
  intro H locs ls hP hD hS hl
  have hfr : d + 1 ≤ room_1.frames := Nat.le_trans (Nat.succ_le_succ hd) (Nat.le_of_ble_eq_true rfl)
  have hlo : 60 * (d + 1) ≤ room_1.locals := Nat.le_trans (Nat.mul_le_mul_left 60 (Nat.succ_le_succ hd)) (Nat.le_of_ble_eq_true rfl)
  refine am_callVW (X := am_pl LC cI cF bC σ) (b := bM) (cI := cI) (cF := cF) (D := D) (b0 := s.heap.size) ⟨hx, hb, hml, hown, hts⟩ hK (Nat.le_refl _) hnt hsx hM hMV hln hvs hAs ha hka hci hfr hlo hc hs hrs hdg hP hD hS hl (fun H1 locs1 hP1 hD1 hS1 => ?_)
  exact kk H1 locs1 ls hP1 hD1 hS1 hl
