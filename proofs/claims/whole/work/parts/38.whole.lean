theorem jn_RL_7 : Cond.classLink RL 7 RX9 ∈ am_WL := am_t1 17 (by decide +kernel) rfl
theorem jins_6 : Cond.instantiable RX9 6 ∈ am_WL := am_t1 18 (by decide +kernel) rfl
theorem jini_6 : Cond.initialized RX9 ∈ am_WL := am_t1 1 (by decide +kernel) rfl
theorem jdf_6 : ∀ j, j < 6 → defaultValue (tyX9 j) = vp_V [.null, .null, .int 0, .null, .null, .null] j
  | 0, _ => rfl
  | 1, _ => rfl
  | 2, _ => rfl
  | 3, _ => rfl
  | 4, _ => rfl
  | 5, _ => rfl
  | j + 6, h => absurd h (by omega)
theorem jm_RL_9 : Cond.methodLink RL 9 yX9_init ∈ am_WL := am_t1 19 (by decide +kernel) rfl
theorem mi_yX9_init : ak_MI yX9_init cX9_init 1 0 := ⟨⟨⟨am_t1 1 (by decide +kernel) rfl, am_t1 21 rfl rfl⟩, by decide +kernel, by decide⟩, am_t1 20 (by decide +kernel) rfl, rfl⟩
theorem jn_RL_10 : Cond.classLink RL 10 RX10 ∈ am_WL := am_t5 2 (by decide +kernel) rfl
theorem jins_7 : Cond.instantiable RX10 67 ∈ am_WL := am_t5 3 (by decide +kernel) rfl
theorem jini_7 : Cond.initialized RX10 ∈ am_WL := am_t1 9 (by decide +kernel) rfl
theorem jdf_7 : ∀ j, j < 67 → defaultValue (tyX10 j) = vp_V [.int 0, .null, .null, .int 0, .null, .int 0, .int 0, .int 0, .null, .null, .null, .null, .null, .null, .int 0, .int 0, .int 0, .int 0, .int 0, .null, .null, .null, .null, .null, .null, .null, .null, .int 0, .int 0, .int 0, .null, .int 0, .int 0, .int 0, .int 0, .int 0, .int 0, .null, .int 0, .null, .int 0, .null, .null, .null, .int 0, .null, .null, .null, .null, .null, .null, .null, .null, .int 0, .null, .null, .int 0, .null, .null, .int 0, .null, .null, .null, .int 0, .int 0, .int 0, .null] j
  | 0, _ => rfl
  | 1, _ => rfl
  | 2, _ => rfl
  | 3, _ => rfl
  | 4, _ => rfl
  | 5, _ => rfl
  | 6, _ => rfl
  | 7, _ => rfl
  | 8, _ => rfl
  | 9, _ => rfl
  | 10, _ => rfl
  | 11, _ => rfl
  | 12, _ => rfl
  | 13, _ => rfl
  | 14, _ => rfl
  | 15, _ => rfl
  | 16, _ => rfl
  | 17, _ => rfl
  | 18, _ => rfl
  | 19, _ => rfl
  | 20, _ => rfl
  | 21, _ => rfl
  | 22, _ => rfl
  | 23, _ => rfl
  | 24, _ => rfl
  | 25, _ => rfl
  | 26, _ => rfl
  | 27, _ => rfl
  | 28, _ => rfl
  | 29, _ => rfl
  | 30, _ => rfl
  | 31, _ => rfl
  | 32, _ => rfl
  | 33, _ => rfl
  | 34, _ => rfl
  | 35, _ => rfl
  | 36, _ => rfl
  | 37, _ => rfl
  | 38, _ => rfl
  | 39, _ => rfl
  | 40, _ => rfl
  | 41, _ => rfl
  | 42, _ => rfl
  | 43, _ => rfl
  | 44, _ => rfl
  | 45, _ => rfl
  | 46, _ => rfl
  | 47, _ => rfl
  | 48, _ => rfl
  | 49, _ => rfl
  | 50, _ => rfl
  | 51, _ => rfl
  | 52, _ => rfl
  | 53, _ => rfl
  | 54, _ => rfl
  | 55, _ => rfl
  | 56, _ => rfl
  | 57, _ => rfl
  | 58, _ => rfl
  | 59, _ => rfl
  | 60, _ => rfl
  | 61, _ => rfl
  | 62, _ => rfl
  | 63, _ => rfl
  | 64, _ => rfl
  | 65, _ => rfl
  | 66, _ => rfl
  | j + 67, h => absurd h (by omega)
theorem jm_RL_12 : Cond.methodLink RL 12 yX10_init ∈ am_WL := am_t5 4 (by decide +kernel) rfl
theorem mi_yX10_init : ak_MI yX10_init cX10_init 1 0 := ⟨⟨⟨am_t1 9 (by decide +kernel) rfl, am_t5 6 rfl rfl⟩, by decide +kernel, by decide⟩, am_t5 5 (by decide +kernel) rfl, rfl⟩
theorem st_call {p : Program} {l : Launch} {e : Env} {R : Room} {s : State} {m : MethodId} {args : Array Value} {below : List Frame} {meth : Method} {c : Code} {H : Heap} {locs : List Loc} {cells slots : Nat} {Q : State → Prop} {D : va_G} {cI cF : ClassId} {b0 pc nL mc1 ms1 : Nat} {cc : ByteArray} {own : String} {lv : List (Nat × Value)} {ls : Array Slot} {st : List Value} {X : va_W} (hF : CallFix p m c cc nL s args am_WL own) (hK : va_K D vwCl (am_tys cI cF) s) (hb0 : b0 ≤ s.heap.size) (hnt : am_nest s) (hsx : am_sx b0 s) (hao : va_AO RX0 s) {y : MethodName} {bytes : ByteArray} {maxL d idx h : Nat} {e0 : va_E} {post : ClassId → ClassId → Nat → (Nat → Nat) → va_W} (hM : ak_Met l y bytes maxL d mc1 ms1 (fun h => [.ref h]) e0 post) (hMI : ak_MI y bytes maxL 0) (hln : Cond.methodLink own idx y ∈ am_WL) (hR1 : d + 1 ≤ R.frames) (hR2 : 60 * (d + 1) ≤ R.locals) (hc : cells + mc1 ≤ R.cells) (hs : slots + ms1 ≤ R.slots) (hrs : (st.map fun v => v.category).sum ≤ 8) (hdg : decode cc pc = .ok (.invokespecial idx, 3))
    (hP : va_P D vwCl (X ++ [(h, e0)]) H) (hD : va_D (fun q => b0 ≤ q) (X ++ [(h, e0)])) (hS : va_S (fun q => b0 ≤ q) s.heap H locs) (hl : lv_has ls nL lv)
    (kk : ∀ (ad : Nat → Nat) (H1 : Heap) (locs1 : List Loc), va_P D vwCl (X ++ post cI cF h ad) H1 → va_D (fun q => b0 ≤ q) (X ++ post cI cF h ad) → va_S (fun q => b0 ≤ q) s.heap H1 locs1 → W p l e R s m args below meth c H1 locs1 (cells + mc1) (slots + ms1) Q (F0 m (pc + 3) ls st)) :
    W p l e R s m args below meth c H locs cells slots Q (F0 m pc ls (.ref h :: st)) := by
  obtain ⟨hx, hb, hml, hown, hts⟩ := hF
  have hM1 := hM D cI cF b0 X h
  have hpre : ∀ U : State, U.heap = H → s.WarmedH U.vm → ak_Pc [Value.ref h] D cI cF b0 (X ++ [(h, e0)]) ([Value.ref h] : List Value).toArray U := ak_Pc.at hb0 hP hD hS hK hnt hsx hao
  obtain ⟨hM0, hin1, hini⟩ := hMI
  have hcw : CallB R s args own idx y bytes maxL none (.code y bytes maxL none :: am_WL) (am_rm d mc1 ms1) mc1 ms1 0 ∧ y.name = "<init>" ∧ (Cond.instanceMethod y).before args s = true := ⟨am_cb hts hM0 hln hR1 hR2, hini, hts _ hin1⟩
  have hrun := va_runI (p := p) (l := l) (e := e) (R := R) (s := s) (m := m) (args := args) (below := below) (meth := meth) (c := c) (H := H) (locs := locs) (cells := cells) (slots := slots) (As := []) (rest := st) (b := h) (g := F0 m pc ls (.ref h :: st)) (Ts := am_WL) ⟨hx, hb, hml, hown, hts⟩ hM1 hcw ⟨ak_Pc.blind, hpre⟩ rfl rfl hl.1 rfl (lv_room hrs) hdg ⟨hc, hs⟩
  exact ak_callW hrun hS (fun ad H1 locs1 hP1 hD1 hS1 => kk ad H1 locs1 hP1 hD1 hS1)
set_option maxRecDepth 100000 in
set_option maxHeartbeats 4000000 in
/-- the law from its entry, with any relation that the 39 cases keep -/
theorem st_whole {F : Nat} {Rel : am_SS → am_SS → Prop} (hR0 : Rel sC0 sM0) (kh0 : aj_S0 F Rel) (kh1 : aj_S1 F Rel) (kh2 : aj_S2 F Rel) (kh3 : aj_S3 F Rel) (kh4 : aj_S4 F Rel) (kh5 : aj_S5 F Rel) (kh6 : aj_S6 F Rel) (kh7 : aj_S7 F Rel) (kh8 : aj_S8 F Rel) (kh9 : aj_S9 F Rel) (kh10 : aj_S10 F Rel) (kh11 : aj_S11 F Rel) (kh12 : aj_S12 F Rel) (kh13 : aj_S13 F Rel) (kh14 : aj_S14 F Rel) (kh15 : aj_S15 F Rel) (kh16 : aj_S16 F Rel) (kh17 : aj_S17 F Rel) (kh18 : aj_S18 F Rel) (kh19 : aj_S19 F Rel) (kh20 : aj_S20 F Rel) (kh21 : aj_S21 F Rel) (kh22 : aj_S22 F Rel) (kh23 : aj_S23 F Rel) (kh24 : aj_S24 F Rel) (kh25 : aj_S25 F Rel) (kh26 : aj_S26 F Rel) (kh27 : aj_S27 F Rel) (kh28 : aj_S28 F Rel) (kh29 : aj_S29 F Rel) (kh30 : aj_S30 F Rel) (kh31 : aj_S31 F Rel) (kh32 : aj_S32 F Rel) (kh33 : aj_S33 F Rel) (kh34 : aj_S34 F Rel) (kh35 : aj_S35 F Rel) (kh36 : aj_S36 F Rel) (kh37 : aj_S37 F Rel) (kh38 : aj_S38 F Rel) {p : Program} {e : Env} {s : State} {m : MethodId} {below : List Frame} {meth : Method} {c : Code} (l : Launch) {b L : Nat} {xs : Nat → Int32} (hL : L ≤ 3072) (C0 : lw_At p s m meth c b L xs) : W p l e room_1 s m #[Value.ref b] below meth c s.heap [] 0 0 (lw_Z below #[Value.ref b] s) (entryFrame m ([Value.ref b] : List Value).toArray 4) := by
  obtain ⟨hx, hb, hr, hml, hown, hts, hX, hbl, hlocks, hgv⟩ := C0
  obtain ⟨D, cI, cF, hK⟩ := st_K hts
  have hnt := st_nest hts
  have hsx := st_sx hts hgv
  have hao := st_ao hts
  have htw := am_hts hts
  have hF : CallFix p m c cL_law 4 s #[Value.ref b] am_WL RL := ⟨hx, hb, hml, hown, htw⟩
  have hS0 : va_S (fun q : Nat => s.heap.size ≤ q) s.heap s.heap [] := va_S.rf
  have hP0 : va_P D vwCl [] s.heap := fun k q h => by simp at h
  have hD0 : va_D (fun q : Nat => s.heap.size ≤ q) [] := ⟨fun i j p q h => by simp at h, fun k q h => by simp at h⟩
  have hl := lv_entry ([.ref b]) (n := 4) (Nat.le_of_ble_eq_true rfl)
  rw [lg_entry_eq]
  generalize (lg_sl ([.ref b]) ++ List.replicate (4 - (lg_sl ([.ref b])).length) Slot.unset).toArray = ls at hl ⊢
  have hl : lv_has ls 4 [(0, .ref b)] := hl
  refine va_new (D := D) (tys := am_tys cI cF) (ci := 6) (fs := [.null, .null, .int 0, .null, .null, .null]) (C := RX9) (T := TX9) (N := 6) hx hb htw cb_6.2.1 tyX9 tyX9_ok hown (htw _ jn_RL_7) (htw _ jins_6) (htw _ jini_6) hK hP0 hD0 hS0 (fun q h => h) cb_6.1 jdf_6 (Nat.le_of_ble_eq_true rfl) (Nat.le_of_ble_eq_true rfl) dL_law_0 (fun h1 H1 hP1 hD1 hS1 => ?_)
  refine lv_dup hx hb dL_law_3 rfl ?_
  refine st_call (X := []) (cI := cI) (cF := cF) (D := D) (b0 := s.heap.size) hF hK (Nat.le_refl _) hnt hsx hao (i_SlipperTruce (l := l) (Nat.le_refl _)) mi_yX9_init jm_RL_9 (Nat.le_of_ble_eq_true rfl) (Nat.le_of_ble_eq_true rfl) (Nat.le_of_ble_eq_true rfl) (Nat.le_of_ble_eq_true rfl) (Nat.le_of_ble_eq_true rfl) dL_law_4 hP1 hD1 hS1 hl (fun ad1 H2 locs2 hP2 hD2 hS2 => ?_)
  rw [List.nil_append, ec_all] at hP2 hD2
  refine lv_astore_n (lv' := [(1, .ref h1), (0, .ref b)]) hx hb dL_law_7 rfl hl (by decide) rfl (fun ls hl => ?_)
  refine va_new (D := D) (tys := am_tys cI cF) (ci := 7) (fs := [.int 0, .null, .null, .int 0, .null, .int 0, .int 0, .int 0, .null, .null, .null, .null, .null, .null, .int 0, .int 0, .int 0, .int 0, .int 0, .null, .null, .null, .null, .null, .null, .null, .null, .int 0, .int 0, .int 0, .null, .int 0, .int 0, .int 0, .int 0, .int 0, .int 0, .null, .int 0, .null, .int 0, .null, .null, .null, .int 0, .null, .null, .null, .null, .null, .null, .null, .null, .int 0, .null, .null, .int 0, .null, .null, .int 0, .null, .null, .null, .int 0, .int 0, .int 0, .null]) (C := RX10) (T := TX10) (N := 67) hx hb htw cb_7.2.1 tyX10 tyX10_ok hown (htw _ jn_RL_10) (htw _ jins_7) (htw _ jini_7) hK hP2 hD2 hS2 (fun q h => h) cb_7.1 jdf_7 (Nat.le_of_ble_eq_true rfl) (Nat.le_of_ble_eq_true rfl) dL_law_8 (fun h2 H3 hP3 hD3 hS3 => ?_)
  refine lv_dup hx hb dL_law_11 rfl ?_
  refine st_call (cI := cI) (cF := cF) (D := D) (b0 := s.heap.size) hF hK (Nat.le_refl _) hnt hsx hao (i_SlipperTruceModel (l := l) (Nat.le_refl _)) mi_yX10_init jm_RL_12 (Nat.le_of_ble_eq_true rfl) (Nat.le_of_ble_eq_true rfl) (Nat.le_of_ble_eq_true rfl) (Nat.le_of_ble_eq_true rfl) (Nat.le_of_ble_eq_true rfl) dL_law_12 hP3 hD3 hS3 hl (fun ad2 H4 locs4 hP4 hD4 hS4 => ?_)
  rw [em_all] at hP4 hD4
  refine lv_astore_n (lv' := [(2, .ref h2), (1, .ref h1), (0, .ref b)]) hx hb dL_law_15 rfl hl (by decide) rfl (fun ls hl => ?_)
  refine lv_iconst (v := 0) hx hb dL_law_16 (by decide) ?_
  refine lv_istore_n (lv' := [(3, .int 0), (2, .ref h2), (1, .ref h1), (0, .ref b)]) hx hb dL_law_17 rfl hl (by decide) rfl (fun ls hl => ?_)
  refine W.widen (k := 1000 + 0) (n := 20000 + 16 * 0) (Nat.le_of_ble_eq_true rfl) (Nat.le_of_ble_eq_true rfl) ?_
  exact aj_loop (G := (p, l, e, s, m, below, meth, c, D, cI, cF, st_b h1 ad1, st_b h2 ad2, b, L, xs)) ⟨hF, hK, hnt, hsx, hX, hbl, hL, hr, hlocks⟩ hL kh0 kh1 kh2 kh3 kh4 kh5 kh6 kh7 kh8 kh9 kh10 kh11 kh12 kh13 kh14 kh15 kh16 kh17 kh18 kh19 kh20 kh21 kh22 kh23 kh24 kh25 kh26 kh27 kh28 kh29 kh30 kh31 kh32 kh33 kh34 kh35 kh36 kh37 kh38 L 0 0 sC0 sM0 (Nat.le_of_eq (Nat.zero_add L).symm) (Nat.zero_le _) rfl hR0 H4 locs4 ls hP4 hD4 hS4 (lv_sub hl [3, 2, 1, 0] rfl)
