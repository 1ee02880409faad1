theorem am_sw_0_38 {x : Int32} (c0 : ¬ x = 0) (c1 : ¬ x = 1) (c2 : ¬ x = 2) (c3 : ¬ x = 3) (c4 : ¬ x = 4) (c5 : ¬ x = 5) (c6 : ¬ x = 6) (c7 : ¬ x = 7) (c8 : ¬ x = 8) (c9 : ¬ x = 9) (c10 : ¬ x = 10) (c11 : ¬ x = 11) (c12 : ¬ x = 12) (c13 : ¬ x = 13) (c14 : ¬ x = 14) (c15 : ¬ x = 15) (c16 : ¬ x = 16) (c17 : ¬ x = 17) (c18 : ¬ x = 18) (c19 : ¬ x = 19) (c20 : ¬ x = 20) (c21 : ¬ x = 21) (c22 : ¬ x = 22) (c23 : ¬ x = 23) (c24 : ¬ x = 24) (c25 : ¬ x = 25) (c26 : ¬ x = 26) (c27 : ¬ x = 27) (c28 : ¬ x = 28) (c29 : ¬ x = 29) (c30 : ¬ x = 30) (c31 : ¬ x = 31) (c32 : ¬ x = 32) (c33 : ¬ x = 33) (c34 : ¬ x = 34) (c35 : ¬ x = 35) (c36 : ¬ x = 36) (c37 : ¬ x = 37) (c38 : ¬ x = 38) : x.toInt < 0 ∨ 38 < x.toInt := by
  have z0 : x.toInt ≠ 0 := fun e => c0 (Int32.toInt_inj.mp e)
  have z1 : x.toInt ≠ 1 := fun e => c1 (Int32.toInt_inj.mp e)
  have z2 : x.toInt ≠ 2 := fun e => c2 (Int32.toInt_inj.mp e)
  have z3 : x.toInt ≠ 3 := fun e => c3 (Int32.toInt_inj.mp e)
  have z4 : x.toInt ≠ 4 := fun e => c4 (Int32.toInt_inj.mp e)
  have z5 : x.toInt ≠ 5 := fun e => c5 (Int32.toInt_inj.mp e)
  have z6 : x.toInt ≠ 6 := fun e => c6 (Int32.toInt_inj.mp e)
  have z7 : x.toInt ≠ 7 := fun e => c7 (Int32.toInt_inj.mp e)
  have z8 : x.toInt ≠ 8 := fun e => c8 (Int32.toInt_inj.mp e)
  have z9 : x.toInt ≠ 9 := fun e => c9 (Int32.toInt_inj.mp e)
  have z10 : x.toInt ≠ 10 := fun e => c10 (Int32.toInt_inj.mp e)
  have z11 : x.toInt ≠ 11 := fun e => c11 (Int32.toInt_inj.mp e)
  have z12 : x.toInt ≠ 12 := fun e => c12 (Int32.toInt_inj.mp e)
  have z13 : x.toInt ≠ 13 := fun e => c13 (Int32.toInt_inj.mp e)
  have z14 : x.toInt ≠ 14 := fun e => c14 (Int32.toInt_inj.mp e)
  have z15 : x.toInt ≠ 15 := fun e => c15 (Int32.toInt_inj.mp e)
  have z16 : x.toInt ≠ 16 := fun e => c16 (Int32.toInt_inj.mp e)
  have z17 : x.toInt ≠ 17 := fun e => c17 (Int32.toInt_inj.mp e)
  have z18 : x.toInt ≠ 18 := fun e => c18 (Int32.toInt_inj.mp e)
  have z19 : x.toInt ≠ 19 := fun e => c19 (Int32.toInt_inj.mp e)
  have z20 : x.toInt ≠ 20 := fun e => c20 (Int32.toInt_inj.mp e)
  have z21 : x.toInt ≠ 21 := fun e => c21 (Int32.toInt_inj.mp e)
  have z22 : x.toInt ≠ 22 := fun e => c22 (Int32.toInt_inj.mp e)
  have z23 : x.toInt ≠ 23 := fun e => c23 (Int32.toInt_inj.mp e)
  have z24 : x.toInt ≠ 24 := fun e => c24 (Int32.toInt_inj.mp e)
  have z25 : x.toInt ≠ 25 := fun e => c25 (Int32.toInt_inj.mp e)
  have z26 : x.toInt ≠ 26 := fun e => c26 (Int32.toInt_inj.mp e)
  have z27 : x.toInt ≠ 27 := fun e => c27 (Int32.toInt_inj.mp e)
  have z28 : x.toInt ≠ 28 := fun e => c28 (Int32.toInt_inj.mp e)
  have z29 : x.toInt ≠ 29 := fun e => c29 (Int32.toInt_inj.mp e)
  have z30 : x.toInt ≠ 30 := fun e => c30 (Int32.toInt_inj.mp e)
  have z31 : x.toInt ≠ 31 := fun e => c31 (Int32.toInt_inj.mp e)
  have z32 : x.toInt ≠ 32 := fun e => c32 (Int32.toInt_inj.mp e)
  have z33 : x.toInt ≠ 33 := fun e => c33 (Int32.toInt_inj.mp e)
  have z34 : x.toInt ≠ 34 := fun e => c34 (Int32.toInt_inj.mp e)
  have z35 : x.toInt ≠ 35 := fun e => c35 (Int32.toInt_inj.mp e)
  have z36 : x.toInt ≠ 36 := fun e => c36 (Int32.toInt_inj.mp e)
  have z37 : x.toInt ≠ 37 := fun e => c37 (Int32.toInt_inj.mp e)
  have z38 : x.toInt ≠ 38 := fun e => c38 (Int32.toInt_inj.mp e)
  omega
theorem aj_cmp {L i : Nat} (hL : L ≤ 3072) (hi : i ≤ 3072) (h : ¬ (Int32.ofNat L - 6 < nI i)) : i + 6 ≤ L := by
  rw [Int32.lt_iff_toInt_lt, Int32.toInt_sub, nI_toInt (by omega), show Int32.ofNat L = nI L from rfl, nI_toInt (by omega)] at h
  rw [show (6 : Int32).toInt = 6 from rfl, Int.bmod_eq_of_le (by omega) (by omega)] at h
  omega
theorem aj_six (i : Nat) : nI i + Int32.ofInt 6 = nI (i + 6) := by
  unfold nI
  rw [Int32.ofNat_add]; rfl
set_option maxRecDepth 100000 in
set_option maxHeartbeats 4000000 in
theorem aj_loop {G : aj_T} (C0 : aj_C G) (hL : aj_N G ≤ 3072) {F : Nat} {Rel : am_SS → am_SS → Prop} (h0 : aj_S0 F Rel) (h1 : aj_S1 F Rel) (h2 : aj_S2 F Rel) (h3 : aj_S3 F Rel) (h4 : aj_S4 F Rel) (h5 : aj_S5 F Rel) (h6 : aj_S6 F Rel) (h7 : aj_S7 F Rel) (h8 : aj_S8 F Rel) (h9 : aj_S9 F Rel) (h10 : aj_S10 F Rel) (h11 : aj_S11 F Rel) (h12 : aj_S12 F Rel) (h13 : aj_S13 F Rel) (h14 : aj_S14 F Rel) (h15 : aj_S15 F Rel) (h16 : aj_S16 F Rel) (h17 : aj_S17 F Rel) (h18 : aj_S18 F Rel) (h19 : aj_S19 F Rel) (h20 : aj_S20 F Rel) (h21 : aj_S21 F Rel) (h22 : aj_S22 F Rel) (h23 : aj_S23 F Rel) (h24 : aj_S24 F Rel) (h25 : aj_S25 F Rel) (h26 : aj_S26 F Rel) (h27 : aj_S27 F Rel) (h28 : aj_S28 F Rel) (h29 : aj_S29 F Rel) (h30 : aj_S30 F Rel) (h31 : aj_S31 F Rel) (h32 : aj_S32 F Rel) (h33 : aj_S33 F Rel) (h34 : aj_S34 F Rel) (h35 : aj_S35 F Rel) (h36 : aj_S36 F Rel) (h37 : aj_S37 F Rel) (h38 : aj_S38 F Rel) : ∀ (n i : Nat) (x3 : Int32) (σ τ : am_SS), aj_N G ≤ i + n → i ≤ 3072 → x3 = nI i → Rel σ τ → aj_K G (1000 + i) (20000 + 16 * i) 18 [(0, .ref (aj_b G)), (1, .ref (aj_bC G 0)), (2, .ref (aj_bM G 0)), (3, .int x3)] [] σ τ := by
  intro n
  induction n with
  | zero =>
    intro i x3 σ τ hn hi hx hR
    refine aj_iload_n C0 dL_law_18 3 rfl ?_
    refine aj_aload_n C0 dL_law_19 0 rfl ?_
    refine aj_slen C0 dL_law_20 ?_
    refine aj_bipush C0 dL_law_21 kb_6 ?_
    refine aj_isub C0 dL_law_23 ?_
    refine aj_icmp_gt C0 dL_law_24 (tgt := 1423) (by decide) (fun z => ?_) (fun z => ?_)
    · refine aj_iconst C0 dL_law_1423 ci_1 ?_
      exact aj_ret1 C0 (st := []) dL_law_1424 (by omega) (by omega)
    · exact absurd (aj_cmp hL hi (by rw [← hx]; exact z)) (by omega)
  | succ n ih =>
    intro i x3 σ τ hn hi hx hR
    refine aj_iload_n C0 dL_law_18 3 rfl ?_
    refine aj_aload_n C0 dL_law_19 0 rfl ?_
    refine aj_slen C0 dL_law_20 ?_
    refine aj_bipush C0 dL_law_21 kb_6 ?_
    refine aj_isub C0 dL_law_23 ?_
    refine aj_icmp_gt C0 dL_law_24 (tgt := 1423) (by decide) (fun z => ?_) (fun z => ?_)
    · refine aj_iconst C0 dL_law_1423 ci_1 ?_
      exact aj_ret1 C0 (st := []) dL_law_1424 (by omega) (by omega)
    · have hlt : i + 6 ≤ aj_N G := aj_cmp hL hi (by rw [← hx]; exact z)
      have nxt : ∀ (mc ms : Nat) (σ1 τ1 : am_SS), mc ≤ 1 → ms ≤ 16 → Rel σ1 τ1 → aj_K G (1000 + i + mc) (20000 + 16 * i + ms) 1417 [(0, .ref (aj_b G)), (1, .ref (aj_bC G 0)), (2, .ref (aj_bM G 0)), (3, .int x3)] [] σ1 τ1 := by
        intro mc ms σ1 τ1 h1 h2 hR1
        refine aj_widen (k := 1000 + (i + 6)) (n := 20000 + 16 * (i + 6)) (by omega) (by omega) ?_
        refine aj_iinc C0 dL_law_1417 3 rfl (v := nI (i + 6)) (by rw [hx]; exact aj_six i) (by decide) rfl (lv' := [(0, .ref (aj_b G)), (1, .ref (aj_bC G 0)), (2, .ref (aj_bM G 0)), (3, .int (nI (i + 6)))]) rfl ?_
        refine aj_goto C0 dL_law_1420 (tgt := 18) (by decide) ?_
        exact ih (i + 6) (nI (i + 6)) σ1 τ1 (by omega) (by omega) rfl hR1
      refine aj_aload_n C0 dL_law_27 0 rfl ?_
      refine aj_iload_n C0 dL_law_28 3 rfl ?_
      have hin : vp_in x3 (aj_N G) := by rw [hx]; exact vp_in_nI (by omega) (by omega)
      refine aj_sld C0 hin dL_law_29 ?_
      refine aj_bipush C0 dL_law_30 kb_63 ?_
      refine aj_iand C0 dL_law_32 ?_
      generalize hv : (aj_xs G x3.toNatClampNeg &&& 63 : Int32) = v
      by_cases c0 : v = 0
      · refine aj_tabIn C0 dL_law_33 (tgt := 204) (off := 171) (by rw [c0]; decide) (by rw [c0]; decide) (by rw [c0]; first | done | rfl | decide) (by decide) ?_
        obtain ⟨qC, qM, e1, e2, e3, e4⟩ := h0 (aj_xs G (i + 1)) σ τ hR
        exact aj_case0 C0 (F := F) hlt hL hx e1 e2 e3 (by omega) (by omega) (nxt 0 0 _ _ (by decide) (by decide) e4)
      by_cases c1 : v = 1
      · refine aj_tabIn C0 dL_law_33 (tgt := 227) (off := 194) (by rw [c1]; decide) (by rw [c1]; decide) (by rw [c1]; first | done | rfl | decide) (by decide) ?_
        obtain ⟨qC, qM, e1, e2, e3, e4⟩ := h1 (aj_xs G (i + 1)) (aj_xs G (i + 2)) σ τ hR
        exact aj_case1 C0 (F := F) hlt hL hx e1 e2 e3 (by omega) (by omega) (nxt 0 0 _ _ (by decide) (by decide) e4)
      by_cases c2 : v = 2
      · refine aj_tabIn C0 dL_law_33 (tgt := 260) (off := 227) (by rw [c2]; decide) (by rw [c2]; decide) (by rw [c2]; first | done | rfl | decide) (by decide) ?_
        obtain ⟨qC, qM, e1, e2, e3, e4⟩ := h2 (aj_xs G (i + 1)) (aj_xs G (i + 2)) σ τ hR
        exact aj_case2 C0 (F := F) hlt hL hx e1 e2 e3 (by omega) (by omega) (nxt 0 0 _ _ (by decide) (by decide) e4)
      by_cases c3 : v = 3
      · refine aj_tabIn C0 dL_law_33 (tgt := 293) (off := 260) (by rw [c3]; decide) (by rw [c3]; decide) (by rw [c3]; first | done | rfl | decide) (by decide) ?_
        obtain ⟨qC, qM, e1, e2, e3, e4⟩ := h3 (aj_xs G (i + 1)) (aj_xs G (i + 2)) (aj_xs G (i + 3)) σ τ hR
        exact aj_case3 C0 (F := F) hlt hL hx e1 e2 e3 (by omega) (by omega) (nxt 0 0 _ _ (by decide) (by decide) e4)
      by_cases c4 : v = 4
      · refine aj_tabIn C0 dL_law_33 (tgt := 336) (off := 303) (by rw [c4]; decide) (by rw [c4]; decide) (by rw [c4]; first | done | rfl | decide) (by decide) ?_
        obtain ⟨qC, qM, e1, e2, e3, e4⟩ := h4 (aj_xs G (i + 1)) (aj_xs G (i + 2)) (aj_xs G (i + 3)) σ τ hR
        exact aj_case4 C0 (F := F) hlt hL hx e1 e2 e3 (by omega) (by omega) (nxt 0 0 _ _ (by decide) (by decide) e4)
      by_cases c5 : v = 5
      · refine aj_tabIn C0 dL_law_33 (tgt := 379) (off := 346) (by rw [c5]; decide) (by rw [c5]; decide) (by rw [c5]; first | done | rfl | decide) (by decide) ?_
        obtain ⟨qC, qM, e1, e2, e3, e4⟩ := h5 (aj_xs G (i + 1)) σ τ hR
        exact aj_case5 C0 (F := F) hlt hL hx e1 e2 e3 (by omega) (by omega) (nxt 0 0 _ _ (by decide) (by decide) e4)
      by_cases c6 : v = 6
      · refine aj_tabIn C0 dL_law_33 (tgt := 402) (off := 369) (by rw [c6]; decide) (by rw [c6]; decide) (by rw [c6]; first | done | rfl | decide) (by decide) ?_
        obtain ⟨qC, qM, e1, e2, e3, e4⟩ := h6 (aj_xs G (i + 1)) (aj_xs G (i + 2)) (aj_xs G (i + 3)) (aj_xs G (i + 4)) (aj_xs G (i + 5)) σ τ hR
        exact aj_case6 C0 (F := F) hlt hL hx e1 e2 e3 (by omega) (by omega) (nxt 0 0 _ _ (by decide) (by decide) e4)
      by_cases c7 : v = 7
      · refine aj_tabIn C0 dL_law_33 (tgt := 465) (off := 432) (by rw [c7]; decide) (by rw [c7]; decide) (by rw [c7]; first | done | rfl | decide) (by decide) ?_
        obtain ⟨qC, qM, e1, e2, e3, e4⟩ := h7 (aj_xs G (i + 1)) σ τ hR
        exact aj_case7 C0 (F := F) hlt hL hx e1 e2 e3 (by omega) (by omega) (nxt 0 0 _ _ (by decide) (by decide) e4)
      by_cases c8 : v = 8
      · refine aj_tabIn C0 dL_law_33 (tgt := 488) (off := 455) (by rw [c8]; decide) (by rw [c8]; decide) (by rw [c8]; first | done | rfl | decide) (by decide) ?_
        obtain ⟨qC, qM, e1, e2, e3, e4⟩ := h8 (aj_xs G (i + 1)) σ τ hR
        exact aj_case8 C0 (F := F) hlt hL hx e1 e2 e3 (by omega) (by omega) (nxt 0 0 _ _ (by decide) (by decide) e4)
      by_cases c9 : v = 9
      · refine aj_tabIn C0 dL_law_33 (tgt := 511) (off := 478) (by rw [c9]; decide) (by rw [c9]; decide) (by rw [c9]; first | done | rfl | decide) (by decide) ?_
        obtain ⟨qC, qM, e1, e2, e3, e4⟩ := h9 (aj_xs G (i + 1)) σ τ hR
        exact aj_case9 C0 (F := F) hlt hL hx e1 e2 e3 (by omega) (by omega) (nxt 0 0 _ _ (by decide) (by decide) e4)
      by_cases c10 : v = 10
      · refine aj_tabIn C0 dL_law_33 (tgt := 534) (off := 501) (by rw [c10]; decide) (by rw [c10]; decide) (by rw [c10]; first | done | rfl | decide) (by decide) ?_
        obtain ⟨qC, qM, e1, e2, e3, e4⟩ := h10 (aj_xs G (i + 1)) (aj_xs G (i + 2)) σ τ hR
        exact aj_case10 C0 (F := F) hlt hL hx e1 e2 e3 (by omega) (by omega) (nxt 0 0 _ _ (by decide) (by decide) e4)
      by_cases c11 : v = 11
      · refine aj_tabIn C0 dL_law_33 (tgt := 567) (off := 534) (by rw [c11]; decide) (by rw [c11]; decide) (by rw [c11]; first | done | rfl | decide) (by decide) ?_
        obtain ⟨qC, qM, e1, e2, e3, e4⟩ := h11 (aj_xs G (i + 1)) (aj_xs G (i + 2)) σ τ hR
        exact aj_case11 C0 (F := F) hlt hL hx e1 e2 e3 (by omega) (by omega) (nxt 0 0 _ _ (by decide) (by decide) e4)
      by_cases c12 : v = 12
      · refine aj_tabIn C0 dL_law_33 (tgt := 600) (off := 567) (by rw [c12]; decide) (by rw [c12]; decide) (by rw [c12]; first | done | rfl | decide) (by decide) ?_
        obtain ⟨qC, qM, e1, e2, e3, e4⟩ := h12 (aj_xs G (i + 1)) (aj_xs G (i + 2)) σ τ hR
        exact aj_case12 C0 (F := F) hlt hL hx e1 e2 e3 (by omega) (by omega) (nxt 0 0 _ _ (by decide) (by decide) e4)
      by_cases c13 : v = 13
      · refine aj_tabIn C0 dL_law_33 (tgt := 633) (off := 600) (by rw [c13]; decide) (by rw [c13]; decide) (by rw [c13]; first | done | rfl | decide) (by decide) ?_
        obtain ⟨qC, qM, e1, e2, e3, e4⟩ := h13 (aj_xs G (i + 1)) (aj_xs G (i + 2)) σ τ hR
        exact aj_case13 C0 (F := F) hlt hL hx e1 e2 e3 (by omega) (by omega) (nxt 0 0 _ _ (by decide) (by decide) e4)
      by_cases c14 : v = 14
      · refine aj_tabIn C0 dL_law_33 (tgt := 666) (off := 633) (by rw [c14]; decide) (by rw [c14]; decide) (by rw [c14]; first | done | rfl | decide) (by decide) ?_
        obtain ⟨qC, qM, e1, e2, e3, e4⟩ := h14  σ τ hR
        exact aj_case14 C0 (F := F) hlt hL hx e1 e2 e3 (by omega) (by omega) (nxt 0 0 _ _ (by decide) (by decide) e4)
      by_cases c15 : v = 15
      · refine aj_tabIn C0 dL_law_33 (tgt := 679) (off := 646) (by rw [c15]; decide) (by rw [c15]; decide) (by rw [c15]; first | done | rfl | decide) (by decide) ?_
        obtain ⟨qC, qM, e1, e2, e3, e4⟩ := h15 (aj_xs G (i + 1)) (aj_xs G (i + 2)) (aj_xs G (i + 3)) σ τ hR
        exact aj_case15 C0 (F := F) hlt hL hx e1 e2 e3 (by omega) (by omega) (nxt 0 0 _ _ (by decide) (by decide) e4)
      by_cases c16 : v = 16
      · refine aj_tabIn C0 dL_law_33 (tgt := 722) (off := 689) (by rw [c16]; decide) (by rw [c16]; decide) (by rw [c16]; first | done | rfl | decide) (by decide) ?_
        obtain ⟨qC, qM, e1, e2, e3, e4⟩ := h16 (aj_xs G (i + 1)) σ τ hR
        exact aj_case16 C0 (F := F) hlt hL hx e1 e2 e3 (by omega) (by omega) (nxt 0 0 _ _ (by decide) (by decide) e4)
      by_cases c17 : v = 17
      · refine aj_tabIn C0 dL_law_33 (tgt := 745) (off := 712) (by rw [c17]; decide) (by rw [c17]; decide) (by rw [c17]; first | done | rfl | decide) (by decide) ?_
        obtain ⟨qC, qM, e1, e2, e3, e4⟩ := h17 (aj_xs G (i + 1)) (aj_xs G (i + 2)) (aj_xs G (i + 3)) σ τ hR
        exact aj_case17 C0 (F := F) hlt hL hx e1 e2 e3 (by omega) (by omega) (nxt 0 0 _ _ (by decide) (by decide) e4)
      by_cases c18 : v = 18
      · refine aj_tabIn C0 dL_law_33 (tgt := 788) (off := 755) (by rw [c18]; decide) (by rw [c18]; decide) (by rw [c18]; first | done | rfl | decide) (by decide) ?_
        obtain ⟨qC, qM, e1, e2, e3, e4⟩ := h18 (aj_xs G (i + 1)) σ τ hR
        exact aj_case18 C0 (F := F) hlt hL hx e1 e2 e3 (by omega) (by omega) (nxt 0 0 _ _ (by decide) (by decide) e4)
      by_cases c19 : v = 19
      · refine aj_tabIn C0 dL_law_33 (tgt := 811) (off := 778) (by rw [c19]; decide) (by rw [c19]; decide) (by rw [c19]; first | done | rfl | decide) (by decide) ?_
        obtain ⟨qC, qM, e1, e2, e3, e4⟩ := h19 (aj_xs G (i + 1)) (aj_xs G (i + 2)) σ τ hR
        exact aj_case19 C0 (F := F) hlt hL hx e1 e2 e3 (by omega) (by omega) (nxt 0 0 _ _ (by decide) (by decide) e4)
      by_cases c20 : v = 20
      · refine aj_tabIn C0 dL_law_33 (tgt := 844) (off := 811) (by rw [c20]; decide) (by rw [c20]; decide) (by rw [c20]; first | done | rfl | decide) (by decide) ?_
        obtain ⟨qC, qM, e1, e2, e3, e4⟩ := h20 (aj_xs G (i + 1)) (aj_xs G (i + 2)) σ τ hR
        exact aj_case20 C0 (F := F) hlt hL hx e1 e2 e3 (by omega) (by omega) (nxt 0 0 _ _ (by decide) (by decide) e4)
      by_cases c21 : v = 21
      · refine aj_tabIn C0 dL_law_33 (tgt := 877) (off := 844) (by rw [c21]; decide) (by rw [c21]; decide) (by rw [c21]; first | done | rfl | decide) (by decide) ?_
        obtain ⟨qC, qM, e1, e2, e3, e4⟩ := h21 (aj_xs G (i + 1)) (aj_xs G (i + 2)) (aj_xs G (i + 3)) σ τ hR
        exact aj_case21 C0 (F := F) hlt hL hx e1 e2 e3 (by omega) (by omega) (nxt 0 0 _ _ (by decide) (by decide) e4)
      by_cases c22 : v = 22
      · refine aj_tabIn C0 dL_law_33 (tgt := 920) (off := 887) (by rw [c22]; decide) (by rw [c22]; decide) (by rw [c22]; first | done | rfl | decide) (by decide) ?_
        obtain ⟨qC, qM, e1, e2, e3, e4⟩ := h22 (aj_xs G (i + 1)) (aj_xs G (i + 2)) σ τ hR
        exact aj_case22 C0 (F := F) hlt hL hx e1 e2 e3 (by omega) (by omega) (nxt 0 0 _ _ (by decide) (by decide) e4)
      by_cases c23 : v = 23
      · refine aj_tabIn C0 dL_law_33 (tgt := 953) (off := 920) (by rw [c23]; decide) (by rw [c23]; decide) (by rw [c23]; first | done | rfl | decide) (by decide) ?_
        obtain ⟨qC, qM, e1, e2, e3, e4⟩ := h23 (aj_xs G (i + 1)) (aj_xs G (i + 2)) σ τ hR
        exact aj_case23 C0 (F := F) hlt hL hx e1 e2 e3 (by omega) (by omega) (nxt 0 0 _ _ (by decide) (by decide) e4)
      by_cases c24 : v = 24
      · refine aj_tabIn C0 dL_law_33 (tgt := 986) (off := 953) (by rw [c24]; decide) (by rw [c24]; decide) (by rw [c24]; first | done | rfl | decide) (by decide) ?_
        obtain ⟨qC, qM, e1, e2, e3, e4⟩ := h24 (aj_xs G (i + 1)) (aj_xs G (i + 2)) σ τ hR
        exact aj_case24 C0 (F := F) hlt hL hx e1 e2 e3 (by omega) (by omega) (nxt 0 0 _ _ (by decide) (by decide) e4)
      by_cases c25 : v = 25
      · refine aj_tabIn C0 dL_law_33 (tgt := 1019) (off := 986) (by rw [c25]; decide) (by rw [c25]; decide) (by rw [c25]; first | done | rfl | decide) (by decide) ?_
        obtain ⟨qC, qM, e1, e2, e3, e4⟩ := h25 (aj_xs G (i + 1)) (aj_xs G (i + 2)) σ τ hR
        exact aj_case25 C0 (F := F) hlt hL hx e1 e2 e3 (by omega) (by omega) (nxt 0 0 _ _ (by decide) (by decide) e4)
      by_cases c26 : v = 26
      · refine aj_tabIn C0 dL_law_33 (tgt := 1052) (off := 1019) (by rw [c26]; decide) (by rw [c26]; decide) (by rw [c26]; first | done | rfl | decide) (by decide) ?_
        obtain ⟨qC, qM, e1, e2, e3, e4⟩ := h26 (aj_xs G (i + 1)) σ τ hR
        exact aj_case26 C0 (F := F) hlt hL hx e1 e2 e3 (by omega) (by omega) (nxt 0 0 _ _ (by decide) (by decide) e4)
      by_cases c27 : v = 27
      · refine aj_tabIn C0 dL_law_33 (tgt := 1075) (off := 1042) (by rw [c27]; decide) (by rw [c27]; decide) (by rw [c27]; first | done | rfl | decide) (by decide) ?_
        obtain ⟨qC, qM, e1, e2, e3, e4⟩ := h27 (aj_xs G (i + 1)) σ τ hR
        exact aj_case27 C0 (F := F) hlt hL hx e1 e2 e3 (by omega) (by omega) (nxt 1 16 _ _ (by decide) (by decide) e4)
      by_cases c28 : v = 28
      · refine aj_tabIn C0 dL_law_33 (tgt := 1098) (off := 1065) (by rw [c28]; decide) (by rw [c28]; decide) (by rw [c28]; first | done | rfl | decide) (by decide) ?_
        obtain ⟨qC, qM, e1, e2, e3, e4⟩ := h28 (aj_xs G (i + 1)) (aj_xs G (i + 2)) σ τ hR
        exact aj_case28 C0 (F := F) hlt hL hx e1 e2 e3 (by omega) (by omega) (nxt 0 0 _ _ (by decide) (by decide) e4)
      by_cases c29 : v = 29
      · refine aj_tabIn C0 dL_law_33 (tgt := 1131) (off := 1098) (by rw [c29]; decide) (by rw [c29]; decide) (by rw [c29]; first | done | rfl | decide) (by decide) ?_
        obtain ⟨qC, qM, e1, e2, e3, e4⟩ := h29 (aj_xs G (i + 1)) σ τ hR
        exact aj_case29 C0 (F := F) hlt hL hx e1 e2 e3 (by omega) (by omega) (nxt 0 0 _ _ (by decide) (by decide) e4)
      by_cases c30 : v = 30
      · refine aj_tabIn C0 dL_law_33 (tgt := 1154) (off := 1121) (by rw [c30]; decide) (by rw [c30]; decide) (by rw [c30]; first | done | rfl | decide) (by decide) ?_
        obtain ⟨qC, qM, e1, e2, e3, e4⟩ := h30 (aj_xs G (i + 1)) (aj_xs G (i + 2)) σ τ hR
        exact aj_case30 C0 (F := F) hlt hL hx e1 e2 e3 (by omega) (by omega) (nxt 0 0 _ _ (by decide) (by decide) e4)
      by_cases c31 : v = 31
      · refine aj_tabIn C0 dL_law_33 (tgt := 1187) (off := 1154) (by rw [c31]; decide) (by rw [c31]; decide) (by rw [c31]; first | done | rfl | decide) (by decide) ?_
        obtain ⟨qC, qM, e1, e2, e3, e4⟩ := h31 (aj_xs G (i + 1)) (aj_xs G (i + 2)) σ τ hR
        exact aj_case31 C0 (F := F) hlt hL hx e1 e2 e3 (by omega) (by omega) (nxt 0 0 _ _ (by decide) (by decide) e4)
      by_cases c32 : v = 32
      · refine aj_tabIn C0 dL_law_33 (tgt := 1220) (off := 1187) (by rw [c32]; decide) (by rw [c32]; decide) (by rw [c32]; first | done | rfl | decide) (by decide) ?_
        obtain ⟨qC, qM, e1, e2, e3, e4⟩ := h32  σ τ hR
        exact aj_case32 C0 (F := F) hlt hL hx e1 e2 e3 (by omega) (by omega) (nxt 0 0 _ _ (by decide) (by decide) e4)
      by_cases c33 : v = 33
      · refine aj_tabIn C0 dL_law_33 (tgt := 1233) (off := 1200) (by rw [c33]; decide) (by rw [c33]; decide) (by rw [c33]; first | done | rfl | decide) (by decide) ?_
        obtain ⟨qC, qM, e1, e2, e3, e4⟩ := h33 (aj_xs G (i + 1)) (aj_xs G (i + 2)) σ τ hR
        exact aj_case33 C0 (F := F) hlt hL hx e1 e2 e3 (by omega) (by omega) (nxt 0 0 _ _ (by decide) (by decide) e4)
      by_cases c34 : v = 34
      · refine aj_tabIn C0 dL_law_33 (tgt := 1266) (off := 1233) (by rw [c34]; decide) (by rw [c34]; decide) (by rw [c34]; first | done | rfl | decide) (by decide) ?_
        obtain ⟨qC, qM, e1, e2, e3, e4⟩ := h34 (aj_xs G (i + 1)) (aj_xs G (i + 2)) (aj_xs G (i + 3)) σ τ hR
        exact aj_case34 C0 (F := F) hlt hL hx e1 e2 e3 (by omega) (by omega) (nxt 0 0 _ _ (by decide) (by decide) e4)
      by_cases c35 : v = 35
      · refine aj_tabIn C0 dL_law_33 (tgt := 1309) (off := 1276) (by rw [c35]; decide) (by rw [c35]; decide) (by rw [c35]; first | done | rfl | decide) (by decide) ?_
        obtain ⟨qC, qM, e1, e2, e3, e4⟩ := h35 (aj_xs G (i + 1)) (aj_xs G (i + 2)) σ τ hR
        exact aj_case35 C0 (F := F) hlt hL hx e1 e2 e3 (by omega) (by omega) (nxt 0 0 _ _ (by decide) (by decide) e4)
      by_cases c36 : v = 36
      · refine aj_tabIn C0 dL_law_33 (tgt := 1342) (off := 1309) (by rw [c36]; decide) (by rw [c36]; decide) (by rw [c36]; first | done | rfl | decide) (by decide) ?_
        obtain ⟨qC, qM, e1, e2, e3, e4⟩ := h36  σ τ hR
        exact aj_case36 C0 (F := F) hlt hL hx e1 e2 e3 (by omega) (by omega) (nxt 0 0 _ _ (by decide) (by decide) e4)
      by_cases c37 : v = 37
      · refine aj_tabIn C0 dL_law_33 (tgt := 1355) (off := 1322) (by rw [c37]; decide) (by rw [c37]; decide) (by rw [c37]; first | done | rfl | decide) (by decide) ?_
        obtain ⟨qC, qM, e1, e2, e3, e4⟩ := h37 (decide (¬ aj_xs G (i + 1) = 0)) σ τ hR
        exact aj_case37 C0 (F := F) hlt hL hx e1 e2 e3 (by omega) (by omega) (nxt 0 0 _ _ (by decide) (by decide) e4)
      by_cases c38 : v = 38
      · refine aj_tabIn C0 dL_law_33 (tgt := 1394) (off := 1361) (by rw [c38]; decide) (by rw [c38]; decide) (by rw [c38]; first | done | rfl | decide) (by decide) ?_
        obtain ⟨qC, qM, e1, e2, e3, e4⟩ := h38 (aj_xs G (i + 1)) σ τ hR
        exact aj_case38 C0 (F := F) hlt hL hx e1 e2 e3 (by omega) (by omega) (nxt 0 0 _ _ (by decide) (by decide) e4)
      refine aj_tabOut C0 dL_law_33 (tgt := 1417) (am_sw_0_38 c0 c1 c2 c3 c4 c5 c6 c7 c8 c9 c10 c11 c12 c13 c14 c15 c16 c17 c18 c19 c20 c21 c22 c23 c24 c25 c26 c27 c28 c29 c30 c31 c32 c33 c34 c35 c36 c37 c38) (by decide) ?_
      exact nxt 0 0 _ _ (by decide) (by decide) hR
