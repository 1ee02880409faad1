set_option maxRecDepth 100000 in
set_option maxHeartbeats 4000000 in
theorem k_C_within {G : am_T} {d0 : Nat} (C0 : am_C G cX9_within 3 RX9 LC d0) (hd : 4 ≤ d0) (F : Nat) {σ : am_SS} {q : Int32} (hret : am_retI G cX9_within 3 q σ) (x1 : Int32) (x2 : Int32) (h : C_within F x1 x2 σ = some q) : am_K G 3 0 [(0, .ref (am_b G 0)), (1, .int x1), (2, .int x2)] [] σ := by
  unfold C_within at h
  refine am_iload_n C0 dX9_within_0 1 rfl ?_
  refine am_iload_n C0 dX9_within_1 2 rfl ?_
  refine am_callS C0 (m_C_Ways_isPoint (σ := σ) (Nat.le_refl _) x1 x2  rfl) mm_yX8_isPoint ln_RX9_311 (fun _ => rfl) (Nat.le_trans (by decide) hd) rfl (Nat.le_of_ble_eq_true rfl) dX9_within_2 ?_
  refine am_ifB_eq C0 dX9_within_5 (tgt := 23) (by decide) (fun c_2 => ?_) (fun c_2 => ?_)
  · replace h := am_in h c_2
    refine am_iconst C0 dX9_within_23 ci_m1 ?_
    have e := Option.some.inj h
    subst e
    exact hret _ _ dX9_within_24
  · replace h := am_ip h c_2
    refine am_aload_n C0 dX9_within_8 0 rfl ?_
    refine am_getR C0 (j := 1) ff_RX9_10 (loC_6_0 kC0).1 (loC_6_0 kC0).2.1 (loC_6_0 kC0).2.2.1 (loC_6_0 kC0).2.2.2 dX9_within_9 ?_
    refine am_getR C0 (j := 37) ff_RX9_308 (loC_5_11 (tgC_6_0 kC0)).1 (loC_5_11 (tgC_6_0 kC0)).2.1 (loC_5_11 (tgC_6_0 kC0)).2.2.1 (loC_5_11 (tgC_6_0 kC0)).2.2.2 dX9_within_12 ?_
    refine am_iload_n C0 dX9_within_15 1 rfl ?_
    refine am_iload_n C0 dX9_within_16 2 rfl ?_
    obtain ⟨q_3, h_q_3, h⟩ := am_bind h
    refine am_callS C0 (m_C_Ways_meets (σ := σ) (Nat.le_refl _) F 37 x1 x2 (tgC_5_11 (tgC_6_0 kC0)) h_q_3) mm_yX8_meets ln_RX9_316 (fun _ => rfl) (Nat.le_trans (by decide) hd) rfl (Nat.le_of_ble_eq_true rfl) dX9_within_17 ?_
    refine am_goto C0 dX9_within_20 (tgt := 24) (by decide) ?_
    have e := Option.some.inj h
    subst e
    exact hret _ _ dX9_within_24
set_option maxRecDepth 100000 in
set_option maxHeartbeats 4000000 in
theorem m_C_within {l : Launch} {d : Nat} {σ : am_SS} {q : Int32} (hd : 4 ≤ d) (F : Nat) (x1 : Int32) (x2 : Int32) (h : C_within F x1 x2 σ = some q) : am_Met l yX9_within cX9_within 3 (some .int) d 0 0 LC (fun b => [.ref (b 0), .int x1, .int x2]) σ (some (.int q)) σ :=
  am_metI (plainFor_of_name (by decide)) rfl (lv := fun b => [(0, .ref (b 0)), (1, .int x1), (2, .int x2)]) (fun _ => rfl) (fun _ => Nat.le_of_ble_eq_true rfl) (fun G C0 _ hret => k_C_within C0 hd F hret x1 x2  h)
set_option maxRecDepth 100000 in
set_option maxHeartbeats 4000000 in
theorem k_C_area {G : am_T} {d0 : Nat} (C0 : am_C G cX9_area 1 RX9 LC d0) (hd : 3 ≤ d0) (F : Nat) {σ : am_SS} {q : Int32} (hret : am_retI G cX9_area 1 q σ) (h : C_area F  σ = some q) : am_K G 1 0 [(0, .ref (am_b G 0))] [] σ := by
  unfold C_area at h
  refine am_aload_n C0 dX9_area_0 0 rfl ?_
  refine am_getR C0 (j := 1) ff_RX9_10 (loC_6_0 kC0).1 (loC_6_0 kC0).2.1 (loC_6_0 kC0).2.2.1 (loC_6_0 kC0).2.2.2 dX9_area_1 ?_
  refine am_getR C0 (j := 37) ff_RX9_308 (loC_5_11 (tgC_6_0 kC0)).1 (loC_5_11 (tgC_6_0 kC0)).2.1 (loC_5_11 (tgC_6_0 kC0)).2.2.1 (loC_5_11 (tgC_6_0 kC0)).2.2.2 dX9_area_4 ?_
  obtain ⟨q_1, h_q_1, h⟩ := am_bind h
  refine am_callS C0 (m_C_Ways_twiceArea (σ := σ) (Nat.le_refl _) F 37 (tgC_5_11 (tgC_6_0 kC0)) h_q_1) mm_yX8_twiceArea ln_RX9_320 (fun _ => rfl) (Nat.le_trans (by decide) hd) rfl (Nat.le_of_ble_eq_true rfl) dX9_area_7 ?_
  have e := Option.some.inj h
  subst e
  exact hret _ _ dX9_area_10
set_option maxRecDepth 100000 in
set_option maxHeartbeats 4000000 in
theorem m_C_area {l : Launch} {d : Nat} {σ : am_SS} {q : Int32} (hd : 3 ≤ d) (F : Nat) (h : C_area F  σ = some q) : am_Met l yX9_area cX9_area 1 (some .int) d 0 0 LC (fun b => [.ref (b 0)]) σ (some (.int q)) σ :=
  am_metI (plainFor_of_name (by decide)) rfl (lv := fun b => [(0, .ref (b 0))]) (fun _ => rfl) (fun _ => Nat.le_of_ble_eq_true rfl) (fun G C0 _ hret => k_C_area C0 hd F hret   h)
set_option maxRecDepth 100000 in
set_option maxHeartbeats 4000000 in
theorem k_C_boots {G : am_T} {d0 : Nat} (C0 : am_C G cX9_boots 4 RX9 LC d0) (hd : 2 ≤ d0) (F : Nat) {σ0 : am_SS} {q : Int32} (hret : am_retI G cX9_boots 4 q σ0) (x1 : Int32) (x2 : Int32) (x3 : Int32) (h : C_boots F x1 x2 x3 = some q) : am_K G 4 0 [(0, .ref (am_b G 0)), (1, .int x1), (2, .int x2), (3, .int x3)] [] σ0 := by
  unfold C_boots at h
  refine am_iload_n C0 dX9_boots_0 1 rfl ?_
  refine am_iconst C0 dX9_boots_1 ci_1 ?_
  refine am_icmp_lt C0 dX9_boots_2 (tgt := 31) (by decide) (fun c_1 => ?_) (fun c_1 => ?_)
  · replace h := am_ip h c_1
    refine am_iconst C0 dX9_boots_31 ci_m1 ?_
    have e := Option.some.inj h
    subst e
    exact hret _ _ dX9_boots_32
  · replace h := am_in h c_1
    refine am_iload_n C0 dX9_boots_5 1 rfl ?_
    refine am_bipush C0 dX9_boots_6 kb_10 ?_
    refine am_icmp_gt C0 dX9_boots_8 (tgt := 31) (by decide) (fun c_2 => ?_) (fun c_2 => ?_)
    · replace h := am_ip h c_2
      refine am_iconst C0 dX9_boots_31 ci_m1 ?_
      have e := Option.some.inj h
      subst e
      exact hret _ _ dX9_boots_32
    · replace h := am_in h c_2
      refine am_iload_n C0 dX9_boots_11 2 rfl ?_
      refine am_if_lt C0 dX9_boots_12 (tgt := 31) (by decide) (fun c_3 => ?_) (fun c_3 => ?_)
      · replace h := am_ip h c_3
        refine am_iconst C0 dX9_boots_31 ci_m1 ?_
        have e := Option.some.inj h
        subst e
        exact hret _ _ dX9_boots_32
      · replace h := am_in h c_3
        refine am_iload_n C0 dX9_boots_15 2 rfl ?_
        refine am_iload_n C0 dX9_boots_16 1 rfl ?_
        refine am_icmp_ge C0 dX9_boots_17 (tgt := 31) (by decide) (fun c_4 => ?_) (fun c_4 => ?_)
        · replace h := am_in h c_4
          refine am_iconst C0 dX9_boots_31 ci_m1 ?_
          have e := Option.some.inj h
          subst e
          exact hret _ _ dX9_boots_32
        · replace h := am_ip h c_4
          refine am_iload_n C0 dX9_boots_20 3 rfl ?_
          refine am_if_lt C0 dX9_boots_21 (tgt := 31) (by decide) (fun c_5 => ?_) (fun c_5 => ?_)
          · replace h := am_ip h c_5
            refine am_iconst C0 dX9_boots_31 ci_m1 ?_
            have e := Option.some.inj h
            subst e
            exact hret _ _ dX9_boots_32
          · replace h := am_in h c_5
            refine am_iload_n C0 dX9_boots_24 3 rfl ?_
            refine am_iconst C0 dX9_boots_25 ci_1 ?_
            refine am_iload_n C0 dX9_boots_26 1 rfl ?_
            refine am_ishl C0 dX9_boots_27 ?_
            refine am_icmp_lt C0 dX9_boots_28 (tgt := 33) (by decide) (fun c_6 => ?_) (fun c_6 => ?_)
            · replace h := am_ip h c_6
              refine am_iload_n C0 dX9_boots_33 1 rfl ?_
              refine am_iload_n C0 dX9_boots_34 2 rfl ?_
              refine am_iload_n C0 dX9_boots_35 3 rfl ?_
              obtain ⟨q_7, h_q_7, h⟩ := am_bind h
              refine am_callS C0 (m_C_Sums_peg (σ := σ0) (Nat.le_refl _) F x1 x2 x3  h_q_7) mm_yX5_peg ln_RX9_323 (fun _ => rfl) (Nat.le_trans (by decide) hd) rfl (Nat.le_of_ble_eq_true rfl) dX9_boots_36 ?_
              have e := Option.some.inj h
              subst e
              exact hret _ _ dX9_boots_39
            · replace h := am_in h c_6
              refine am_iconst C0 dX9_boots_31 ci_m1 ?_
              have e := Option.some.inj h
              subst e
              exact hret _ _ dX9_boots_32
set_option maxRecDepth 100000 in
set_option maxHeartbeats 4000000 in
theorem m_C_boots {l : Launch} {d : Nat} {σ : am_SS} {q : Int32} (hd : 2 ≤ d) (F : Nat) (x1 : Int32) (x2 : Int32) (x3 : Int32) (h : C_boots F x1 x2 x3 = some q) : am_Met l yX9_boots cX9_boots 4 (some .int) d 0 0 LC (fun b => [.ref (b 0), .int x1, .int x2, .int x3]) σ (some (.int q)) σ :=
  am_metI (plainFor_of_name (by decide)) rfl (lv := fun b => [(0, .ref (b 0)), (1, .int x1), (2, .int x2), (3, .int x3)]) (fun _ => rfl) (fun _ => Nat.le_of_ble_eq_true rfl) (fun G C0 _ hret => k_C_boots C0 hd F hret x1 x2 x3  h)
set_option maxRecDepth 100000 in
set_option maxHeartbeats 4000000 in
theorem k_C_moves {G : am_T} {d0 : Nat} (C0 : am_C G cX9_moves 2 RX9 LC d0) (hd : 3 ≤ d0) (F : Nat) {σ0 : am_SS} {q : Int32} (hret : am_retI G cX9_moves 2 q σ0) (x1 : Int32) (h : C_moves F x1 = some q) : am_K G 2 0 [(0, .ref (am_b G 0)), (1, .int x1)] [] σ0 := by
  unfold C_moves at h
  refine am_iload_n C0 dX9_moves_0 1 rfl ?_
  obtain ⟨q_1, h_q_1, h⟩ := am_bind h
  refine am_callS C0 (m_C_Sums_movesLeft (σ := σ0) (Nat.le_refl _) F x1  h_q_1) mm_yX5_movesLeft ln_RX9_328 (fun _ => rfl) (Nat.le_trans (by decide) hd) rfl (Nat.le_of_ble_eq_true rfl) dX9_moves_1 ?_
  have e := Option.some.inj h
  subst e
  exact hret _ _ dX9_moves_4
set_option maxRecDepth 100000 in
set_option maxHeartbeats 4000000 in
theorem m_C_moves {l : Launch} {d : Nat} {σ : am_SS} {q : Int32} (hd : 3 ≤ d) (F : Nat) (x1 : Int32) (h : C_moves F x1 = some q) : am_Met l yX9_moves cX9_moves 2 (some .int) d 0 0 LC (fun b => [.ref (b 0), .int x1]) σ (some (.int q)) σ :=
  am_metI (plainFor_of_name (by decide)) rfl (lv := fun b => [(0, .ref (b 0)), (1, .int x1)]) (fun _ => rfl) (fun _ => Nat.le_of_ble_eq_true rfl) (fun G C0 _ hret => k_C_moves C0 hd F hret x1  h)
set_option maxRecDepth 100000 in
set_option maxHeartbeats 4000000 in
theorem k_C_billets_l39 {G : am_T} {d0 : Nat} (C0 : am_C G cX9_billets 5 RX9 LC d0) (hd : 14 ≤ d0) (F : Nat) {σ0 : am_SS} {q : Int32} (hret : am_retI G cX9_billets 5 q σ0) : ∀ (n : Nat) (x1 : Int32) (x3 : Int32) (x4 : Int32) (h : C_billets_l39 F n x1 x3 x4 = some q), am_K G 5 39 [(1, .int x1), (3, .int x3), (4, .int x4)] [] σ0 := by
  intro n
  induction n with
  | zero =>
    intro x1 x3 x4 h
    rw [C_billets_l39] at h
    cases h
  | succ n ih =>
    intro x1 x3 x4 h
    rw [C_billets_l39] at h
    refine am_iload C0 dX9_billets_39 2 rfl ?_
    refine am_iload_n C0 dX9_billets_41 0 rfl ?_
    refine am_icmp_gt C0 dX9_billets_42 (tgt := 60) (by decide) (fun c_1 => ?_) (fun c_1 => ?_)
    · replace h := am_ip h c_1
      refine am_iload_n C0 dX9_billets_60 1 rfl ?_
      have e := Option.some.inj h
      subst e
      exact hret _ _ dX9_billets_61
    · replace h := am_in h c_1
      refine am_iload_n C0 dX9_billets_45 1 rfl ?_
      refine am_iload_n C0 dX9_billets_46 0 rfl ?_
      refine am_iload C0 dX9_billets_47 2 rfl ?_
      obtain ⟨q_2, h_q_2, h⟩ := am_bind h
      refine am_callSN C0 (m_C_Sums_housed (σ := σ0) (Nat.le_refl _) F x1 x4  h_q_2) mm_yX5_housed nl_RX9_331 (fun _ => rfl) (Nat.le_trans (by decide) hd) rfl (Nat.le_of_ble_eq_true rfl) dX9_billets_49 ?_
      refine am_iadd C0 dX9_billets_52 ?_
      obtain ⟨x3_3, e_x3_3, h⟩ := am_lt h
      refine am_top e_x3_3 ?_
      refine am_istore_n C0 dX9_billets_53 rfl (by decide) rfl (lv' := [(1, .int x1), (3, .int x3_3), (4, .int x4)]) rfl ?_
      obtain ⟨x4_4, e_x4_4, h⟩ := am_lt h
      refine am_iinc C0 dX9_billets_54 2 rfl (by rw [ci_1]; exact e_x4_4) (by decide) rfl (lv' := [(1, .int x1), (3, .int x3_3), (4, .int x4_4)]) rfl ?_
      refine am_goto C0 dX9_billets_57 (tgt := 39) (by decide) ?_
      exact am_sub [0, 1, 2] rfl (ih x1 x3_3 x4_4  h)
set_option maxRecDepth 100000 in
set_option maxHeartbeats 4000000 in
theorem k_C_billets {G : am_T} {d0 : Nat} (C0 : am_C G cX9_billets 5 RX9 LC d0) (hd : 14 ≤ d0) (F : Nat) {σ0 : am_SS} {q : Int32} (hret : am_retI G cX9_billets 5 q σ0) (x1 : Int32) (x2 : Int32) (h : C_billets F x1 x2 = some q) : am_K G 5 0 [(0, .ref (am_b G 0)), (1, .int x1), (2, .int x2)] [] σ0 := by
  unfold C_billets at h
  refine am_iload_n C0 dX9_billets_0 1 rfl ?_
  refine am_if_lt C0 dX9_billets_1 (tgt := 21) (by decide) (fun c_1 => ?_) (fun c_1 => ?_)
  · replace h := am_ip h c_1
    refine am_iconst C0 dX9_billets_21 ci_m1 ?_
    have e := Option.some.inj h
    subst e
    exact hret _ _ dX9_billets_22
  · replace h := am_in h c_1
    refine am_iload_n C0 dX9_billets_4 1 rfl ?_
    refine am_bipush C0 dX9_billets_5 kb_10 ?_
    refine am_icmp_gt C0 dX9_billets_7 (tgt := 21) (by decide) (fun c_2 => ?_) (fun c_2 => ?_)
    · replace h := am_ip h c_2
      refine am_iconst C0 dX9_billets_21 ci_m1 ?_
      have e := Option.some.inj h
      subst e
      exact hret _ _ dX9_billets_22
    · replace h := am_in h c_2
      refine am_iload_n C0 dX9_billets_10 2 rfl ?_
      refine am_iconst C0 dX9_billets_11 ci_m1 ?_
      refine am_icmp_lt C0 dX9_billets_12 (tgt := 21) (by decide) (fun c_3 => ?_) (fun c_3 => ?_)
      · replace h := am_ip h c_3
        refine am_iconst C0 dX9_billets_21 ci_m1 ?_
        have e := Option.some.inj h
        subst e
        exact hret _ _ dX9_billets_22
      · replace h := am_in h c_3
        refine am_iload_n C0 dX9_billets_15 2 rfl ?_
        refine am_bipush C0 dX9_billets_16 kb_10 ?_
        refine am_icmp_le C0 dX9_billets_18 (tgt := 23) (by decide) (fun c_4 => ?_) (fun c_4 => ?_)
        · replace h := am_in h c_4
          refine am_iload_n C0 dX9_billets_23 2 rfl ?_
          refine am_iconst C0 dX9_billets_24 ci_m1 ?_
          refine am_icmp_eq C0 dX9_billets_25 (tgt := 34) (by decide) (fun c_5 => ?_) (fun c_5 => ?_)
          · replace h := am_ip h c_5
            refine am_iconst C0 dX9_billets_34 ci_0 ?_
            refine am_istore_n C0 dX9_billets_35 rfl (by decide) rfl (lv' := [(0, .ref (am_b G 0)), (1, .int x1), (2, .int x2), (3, .int 0)]) rfl ?_
            refine am_iconst C0 dX9_billets_36 ci_0 ?_
            refine am_istore C0 dX9_billets_37 (by decide) rfl (lv' := [(0, .ref (am_b G 0)), (1, .int x1), (2, .int x2), (3, .int 0), (4, .int 0)]) rfl ?_
            exact am_sub [1, 3, 4] rfl (k_C_billets_l39 C0 hd F hret F x1 0 0  h)
          · replace h := am_in h c_5
            refine am_iload_n C0 dX9_billets_28 1 rfl ?_
            refine am_iload_n C0 dX9_billets_29 2 rfl ?_
            obtain ⟨q_6, h_q_6, h⟩ := am_bind h
            refine am_callSN C0 (m_C_Sums_housed (σ := σ0) (Nat.le_refl _) F x1 x2  h_q_6) mm_yX5_housed nl_RX9_331 (fun _ => rfl) (Nat.le_trans (by decide) hd) rfl (Nat.le_of_ble_eq_true rfl) dX9_billets_30 ?_
            have e := Option.some.inj h
            subst e
            exact hret _ _ dX9_billets_33
        · replace h := am_ip h c_4
          refine am_iconst C0 dX9_billets_21 ci_m1 ?_
          have e := Option.some.inj h
          subst e
          exact hret _ _ dX9_billets_22
set_option maxRecDepth 100000 in
set_option maxHeartbeats 4000000 in
theorem m_C_billets {l : Launch} {d : Nat} {σ : am_SS} {q : Int32} (hd : 14 ≤ d) (F : Nat) (x1 : Int32) (x2 : Int32) (h : C_billets F x1 x2 = some q) : am_Met l yX9_billets cX9_billets 5 (some .int) d 0 0 LC (fun b => [.ref (b 0), .int x1, .int x2]) σ (some (.int q)) σ :=
  am_metI (plainFor_of_name (by decide)) rfl (lv := fun b => [(0, .ref (b 0)), (1, .int x1), (2, .int x2)]) (fun _ => rfl) (fun _ => Nat.le_of_ble_eq_true rfl) (fun G C0 _ hret => k_C_billets C0 hd F hret x1 x2  h)
set_option maxRecDepth 100000 in
set_option maxHeartbeats 4000000 in
theorem k_C_pairs {G : am_T} {d0 : Nat} (C0 : am_C G cX9_pairs 3 RX9 LC d0) (hd : 2 ≤ d0) (F : Nat) {σ0 : am_SS} {q : Int32} (hret : am_retI G cX9_pairs 3 q σ0) (x1 : Int32) (x2 : Int32) (h : C_pairs F x1 x2 = some q) : am_K G 3 0 [(0, .ref (am_b G 0)), (1, .int x1), (2, .int x2)] [] σ0 := by
  unfold C_pairs at h
  refine am_iload_n C0 dX9_pairs_0 1 rfl ?_
  refine am_if_lt C0 dX9_pairs_1 (tgt := 19) (by decide) (fun c_1 => ?_) (fun c_1 => ?_)
  · replace h := am_ip h c_1
    refine am_iconst C0 dX9_pairs_19 ci_m1 ?_
    have e := Option.some.inj h
    subst e
    exact hret _ _ dX9_pairs_20
  · replace h := am_in h c_1
    refine am_iload_n C0 dX9_pairs_4 1 rfl ?_
    refine am_bipush C0 dX9_pairs_5 kb_10 ?_
    refine am_icmp_gt C0 dX9_pairs_7 (tgt := 19) (by decide) (fun c_2 => ?_) (fun c_2 => ?_)
    · replace h := am_ip h c_2
      refine am_iconst C0 dX9_pairs_19 ci_m1 ?_
      have e := Option.some.inj h
      subst e
      exact hret _ _ dX9_pairs_20
    · replace h := am_in h c_2
      refine am_iload_n C0 dX9_pairs_10 2 rfl ?_
      refine am_if_lt C0 dX9_pairs_11 (tgt := 19) (by decide) (fun c_3 => ?_) (fun c_3 => ?_)
      · replace h := am_ip h c_3
        refine am_iconst C0 dX9_pairs_19 ci_m1 ?_
        have e := Option.some.inj h
        subst e
        exact hret _ _ dX9_pairs_20
      · replace h := am_in h c_3
        refine am_iload_n C0 dX9_pairs_14 2 rfl ?_
        refine am_iload_n C0 dX9_pairs_15 1 rfl ?_
        refine am_icmp_le C0 dX9_pairs_16 (tgt := 21) (by decide) (fun c_4 => ?_) (fun c_4 => ?_)
        · replace h := am_in h c_4
          refine am_iload_n C0 dX9_pairs_21 1 rfl ?_
          refine am_iload_n C0 dX9_pairs_22 2 rfl ?_
          obtain ⟨q_5, h_q_5, h⟩ := am_bind h
          refine am_callS C0 (m_C_Sums_choose (σ := σ0) (Nat.le_refl _) F x1 x2  h_q_5) mm_yX5_choose ln_RX9_334 (fun _ => rfl) (Nat.le_trans (by decide) hd) rfl (Nat.le_of_ble_eq_true rfl) dX9_pairs_23 ?_
          refine am_iload_n C0 dX9_pairs_26 1 rfl ?_
          refine am_iload_n C0 dX9_pairs_27 2 rfl ?_
          refine am_isub C0 dX9_pairs_28 ?_
          obtain ⟨q_6, h_q_6, h⟩ := am_bind h
          refine am_callS C0 (m_C_Sums_noneHisOwn (σ := σ0) (Nat.le_refl _) F (x1 - x2)  h_q_6) mm_yX5_noneHisOwn ln_RX9_337 (fun _ => rfl) (Nat.le_trans (by decide) hd) rfl (Nat.le_of_ble_eq_true rfl) dX9_pairs_29 ?_
          refine am_imul C0 dX9_pairs_32 ?_
          have e := Option.some.inj h
          subst e
          exact hret _ _ dX9_pairs_33
        · replace h := am_ip h c_4
          refine am_iconst C0 dX9_pairs_19 ci_m1 ?_
          have e := Option.some.inj h
          subst e
          exact hret _ _ dX9_pairs_20
set_option maxRecDepth 100000 in
set_option maxHeartbeats 4000000 in
theorem m_C_pairs {l : Launch} {d : Nat} {σ : am_SS} {q : Int32} (hd : 2 ≤ d) (F : Nat) (x1 : Int32) (x2 : Int32) (h : C_pairs F x1 x2 = some q) : am_Met l yX9_pairs cX9_pairs 3 (some .int) d 0 0 LC (fun b => [.ref (b 0), .int x1, .int x2]) σ (some (.int q)) σ :=
  am_metI (plainFor_of_name (by decide)) rfl (lv := fun b => [(0, .ref (b 0)), (1, .int x1), (2, .int x2)]) (fun _ => rfl) (fun _ => Nat.le_of_ble_eq_true rfl) (fun G C0 _ hret => k_C_pairs C0 hd F hret x1 x2  h)
set_option maxRecDepth 100000 in
set_option maxHeartbeats 4000000 in
theorem k_C_ahead_p78 {G : am_T} {d0 : Nat} (C0 : am_C G cX9_ahead 7 RX9 LC d0) (hd : 3 ≤ d0) (F : Nat) {σ0 : am_SS} {q : Int32} (hret : am_retI G cX9_ahead 7 q σ0) (x6 : Int32) (s0 : Int32) (h : C_ahead_p78 F x6 s0 = some q) : am_K G 7 78 [(6, .int x6)] [.int s0] σ0 := by
  unfold C_ahead_p78 at h
  refine am_iload C0 dX9_ahead_78 0 rfl ?_
  obtain ⟨hz_1, h⟩ := am_gd h
  refine am_idiv C0 dX9_ahead_80 hz_1 ?_
  have e := Option.some.inj h
  subst e
  exact hret _ _ dX9_ahead_81
set_option maxRecDepth 100000 in
set_option maxHeartbeats 4000000 in
theorem k_C_ahead {G : am_T} {d0 : Nat} (C0 : am_C G cX9_ahead 7 RX9 LC d0) (hd : 3 ≤ d0) (F : Nat) {σ0 : am_SS} {q : Int32} (hret : am_retI G cX9_ahead 7 q σ0) (x1 : Int32) (x2 : Int32) (x3 : Int32) (h : C_ahead F x1 x2 x3 = some q) : am_K G 7 0 [(0, .ref (am_b G 0)), (1, .int x1), (2, .int x2), (3, .int x3)] [] σ0 := by
  unfold C_ahead at h
  refine am_iload_n C0 dX9_ahead_0 1 rfl ?_
  refine am_if_lt C0 dX9_ahead_1 (tgt := 28) (by decide) (fun c_1 => ?_) (fun c_1 => ?_)
  · replace h := am_ip h c_1
    refine am_iconst C0 dX9_ahead_28 ci_m1 ?_
    have e := Option.some.inj h
    subst e
    exact hret _ _ dX9_ahead_29
  · replace h := am_in h c_1
    refine am_iload_n C0 dX9_ahead_4 1 rfl ?_
    refine am_bipush C0 dX9_ahead_5 kb_12 ?_
    refine am_icmp_gt C0 dX9_ahead_7 (tgt := 28) (by decide) (fun c_2 => ?_) (fun c_2 => ?_)
    · replace h := am_ip h c_2
      refine am_iconst C0 dX9_ahead_28 ci_m1 ?_
      have e := Option.some.inj h
      subst e
      exact hret _ _ dX9_ahead_29
    · replace h := am_in h c_2
      refine am_iload_n C0 dX9_ahead_10 2 rfl ?_
      refine am_if_lt C0 dX9_ahead_11 (tgt := 28) (by decide) (fun c_3 => ?_) (fun c_3 => ?_)
      · replace h := am_ip h c_3
        refine am_iconst C0 dX9_ahead_28 ci_m1 ?_
        have e := Option.some.inj h
        subst e
        exact hret _ _ dX9_ahead_29
      · replace h := am_in h c_3
        refine am_iload_n C0 dX9_ahead_14 2 rfl ?_
        refine am_iload_n C0 dX9_ahead_15 1 rfl ?_
        refine am_icmp_ge C0 dX9_ahead_16 (tgt := 28) (by decide) (fun c_4 => ?_) (fun c_4 => ?_)
        · replace h := am_in h c_4
          refine am_iconst C0 dX9_ahead_28 ci_m1 ?_
          have e := Option.some.inj h
          subst e
          exact hret _ _ dX9_ahead_29
        · replace h := am_ip h c_4
          refine am_iload_n C0 dX9_ahead_19 3 rfl ?_
          refine am_if_lt C0 dX9_ahead_20 (tgt := 28) (by decide) (fun c_5 => ?_) (fun c_5 => ?_)
          · replace h := am_ip h c_5
            refine am_iconst C0 dX9_ahead_28 ci_m1 ?_
            have e := Option.some.inj h
            subst e
            exact hret _ _ dX9_ahead_29
          · replace h := am_in h c_5
            refine am_iload_n C0 dX9_ahead_23 3 rfl ?_
            refine am_iconst C0 dX9_ahead_24 ci_2 ?_
            refine am_icmp_le C0 dX9_ahead_25 (tgt := 30) (by decide) (fun c_6 => ?_) (fun c_6 => ?_)
            · replace h := am_in h c_6
              refine am_iload_n C0 dX9_ahead_30 1 rfl ?_
              refine am_iload_n C0 dX9_ahead_31 2 rfl ?_
              refine am_iadd C0 dX9_ahead_32 ?_
              obtain ⟨x4_7, e_x4_7, h⟩ := am_lt h
              refine am_top e_x4_7 ?_
              refine am_istore C0 dX9_ahead_33 (by decide) rfl (lv' := [(0, .ref (am_b G 0)), (1, .int x1), (2, .int x2), (3, .int x3), (4, .int x4_7)]) rfl ?_
              refine am_iload_n C0 dX9_ahead_35 1 rfl ?_
              refine am_iload_n C0 dX9_ahead_36 2 rfl ?_
              refine am_isub C0 dX9_ahead_37 ?_
              obtain ⟨x5_8, e_x5_8, h⟩ := am_lt h
              refine am_top e_x5_8 ?_
              refine am_istore C0 dX9_ahead_38 (by decide) rfl (lv' := [(0, .ref (am_b G 0)), (1, .int x1), (2, .int x2), (3, .int x3), (4, .int x4_7), (5, .int x5_8)]) rfl ?_
              refine am_iload_n C0 dX9_ahead_40 3 rfl ?_
              refine am_if_ne C0 dX9_ahead_41 (tgt := 57) (by decide) (fun c_9 => ?_) (fun c_9 => ?_)
              · replace h := am_in h c_9
                refine am_iload C0 dX9_ahead_57 4 rfl ?_
                refine am_iload C0 dX9_ahead_59 5 rfl ?_
                obtain ⟨q_10, h_q_10, h⟩ := am_bind h
                refine am_callS C0 (m_C_Sums_commonPart (σ := σ0) (Nat.le_refl _) F x4_7 x5_8  h_q_10) mm_yX5_commonPart ln_RX9_340 (fun _ => rfl) (Nat.le_trans (by decide) hd) rfl (Nat.le_of_ble_eq_true rfl) dX9_ahead_61 ?_
                refine am_istore C0 dX9_ahead_64 (by decide) rfl (lv' := [(0, .ref (am_b G 0)), (1, .int x1), (2, .int x2), (3, .int x3), (4, .int x4_7), (5, .int x5_8), (6, .int q_10)]) rfl ?_
                refine am_iload_n C0 dX9_ahead_66 3 rfl ?_
                refine am_iconst C0 dX9_ahead_67 ci_1 ?_
                refine am_icmp_ne C0 dX9_ahead_68 (tgt := 76) (by decide) (fun c_11 => ?_) (fun c_11 => ?_)
                · replace h := am_in h c_11
                  refine am_iload C0 dX9_ahead_76 4 rfl ?_
                  exact am_sub [6] rfl (k_C_ahead_p78 C0 hd F hret q_10 x4_7  h)
                · replace h := am_ip h c_11
                  refine am_iload C0 dX9_ahead_71 5 rfl ?_
                  refine am_goto C0 dX9_ahead_73 (tgt := 78) (by decide) ?_
                  exact am_sub [6] rfl (k_C_ahead_p78 C0 hd F hret q_10 x5_8  h)
              · replace h := am_ip h c_9
                refine am_iload C0 dX9_ahead_44 4 rfl ?_
                refine am_iload_n C0 dX9_ahead_46 1 rfl ?_
                obtain ⟨q_12, h_q_12, h⟩ := am_bind h
                refine am_callS C0 (m_C_Sums_choose (σ := σ0) (Nat.le_refl _) F x4_7 x1  h_q_12) mm_yX5_choose ln_RX9_334 (fun _ => rfl) (Nat.le_trans (by decide) hd) rfl (Nat.le_of_ble_eq_true rfl) dX9_ahead_47 ?_
                refine am_iload C0 dX9_ahead_50 5 rfl ?_
                refine am_imul C0 dX9_ahead_52 ?_
                refine am_iload C0 dX9_ahead_53 4 rfl ?_
                obtain ⟨hz_13, h⟩ := am_gd h
                refine am_idiv C0 dX9_ahead_55 hz_13 ?_
                have e := Option.some.inj h
                subst e
                exact hret _ _ dX9_ahead_56
            · replace h := am_ip h c_6
              refine am_iconst C0 dX9_ahead_28 ci_m1 ?_
              have e := Option.some.inj h
              subst e
              exact hret _ _ dX9_ahead_29
set_option maxRecDepth 100000 in
set_option maxHeartbeats 4000000 in
theorem m_C_ahead {l : Launch} {d : Nat} {σ : am_SS} {q : Int32} (hd : 3 ≤ d) (F : Nat) (x1 : Int32) (x2 : Int32) (x3 : Int32) (h : C_ahead F x1 x2 x3 = some q) : am_Met l yX9_ahead cX9_ahead 7 (some .int) d 0 0 LC (fun b => [.ref (b 0), .int x1, .int x2, .int x3]) σ (some (.int q)) σ :=
  am_metI (plainFor_of_name (by decide)) rfl (lv := fun b => [(0, .ref (b 0)), (1, .int x1), (2, .int x2), (3, .int x3)]) (fun _ => rfl) (fun _ => Nat.le_of_ble_eq_true rfl) (fun G C0 _ hret => k_C_ahead C0 hd F hret x1 x2 x3  h)
set_option maxRecDepth 100000 in
set_option maxHeartbeats 4000000 in
theorem k_C_feast {G : am_T} {d0 : Nat} (C0 : am_C G cX9_feast 4 RX9 LC d0) (hd : 2 ≤ d0) {σ0 : am_SS} {q : Int32} (hret : am_retI G cX9_feast 4 q σ0) (x1 : Int32) (x2 : Int32) (h : C_feast x1 x2 = q) : am_K G 4 0 [(0, .ref (am_b G 0)), (1, .int x1), (2, .int x2)] [] σ0 := by
  unfold C_feast at h
  refine am_iload_n C0 dX9_feast_0 1 rfl ?_
  refine am_sipush C0 dX9_feast_1 cs_1600 ?_
  refine am_icmp_lt C0 dX9_feast_4 (tgt := 23) (by decide) (fun c_1 => ?_) (fun c_1 => ?_)
  · replace h := am_ip h c_1
    refine am_iconst C0 dX9_feast_23 ci_m1 ?_
    have e := h
    subst e
    exact hret _ _ dX9_feast_24
  · replace h := am_in h c_1
    refine am_iload_n C0 dX9_feast_7 1 rfl ?_
    refine am_sipush C0 dX9_feast_8 cs_2400 ?_
    refine am_icmp_gt C0 dX9_feast_11 (tgt := 23) (by decide) (fun c_2 => ?_) (fun c_2 => ?_)
    · replace h := am_ip h c_2
      refine am_iconst C0 dX9_feast_23 ci_m1 ?_
      have e := h
      subst e
      exact hret _ _ dX9_feast_24
    · replace h := am_in h c_2
      refine am_iload_n C0 dX9_feast_14 2 rfl ?_
      refine am_if_lt C0 dX9_feast_15 (tgt := 23) (by decide) (fun c_3 => ?_) (fun c_3 => ?_)
      · replace h := am_ip h c_3
        refine am_iconst C0 dX9_feast_23 ci_m1 ?_
        have e := h
        subst e
        exact hret _ _ dX9_feast_24
      · replace h := am_in h c_3
        refine am_iload_n C0 dX9_feast_18 2 rfl ?_
        refine am_iconst C0 dX9_feast_19 ci_1 ?_
        refine am_icmp_le C0 dX9_feast_20 (tgt := 25) (by decide) (fun c_4 => ?_) (fun c_4 => ?_)
        · replace h := am_in h c_4
          refine am_iload_n C0 dX9_feast_25 1 rfl ?_
          refine am_callS C0 (m_C_Sums_feastDay (σ := σ0) (Nat.le_refl _) x1  rfl) mm_yX5_feastDay ln_RX9_343 (fun _ => rfl) (Nat.le_trans (by decide) hd) rfl (Nat.le_of_ble_eq_true rfl) dX9_feast_26 ?_
          obtain ⟨x3_6, e_x3_6, h⟩ := am_lt h
          refine am_top e_x3_6 ?_
          refine am_istore_n C0 dX9_feast_29 rfl (by decide) rfl (lv' := [(0, .ref (am_b G 0)), (1, .int x1), (2, .int x2), (3, .int x3_6)]) rfl ?_
          refine am_iload_n C0 dX9_feast_30 2 rfl ?_
          refine am_if_ne C0 dX9_feast_31 (tgt := 41) (by decide) (fun c_7 => ?_) (fun c_7 => ?_)
          · replace h := am_in h c_7
            refine am_iload_n C0 dX9_feast_41 3 rfl ?_
            refine am_bipush C0 dX9_feast_42 kb_31 ?_
            refine am_irem C0 dX9_feast_44 nz_31 ?_
            refine am_iconst C0 dX9_feast_45 ci_1 ?_
            refine am_iadd C0 dX9_feast_46 ?_
            have e := h
            subst e
            exact hret _ _ dX9_feast_47
          · replace h := am_ip h c_7
            refine am_iload_n C0 dX9_feast_34 3 rfl ?_
            refine am_bipush C0 dX9_feast_35 kb_31 ?_
            refine am_idiv C0 dX9_feast_37 nz_31 ?_
            refine am_goto C0 dX9_feast_38 (tgt := 47) (by decide) ?_
            have e := h
            subst e
            exact hret _ _ dX9_feast_47
        · replace h := am_ip h c_4
          refine am_iconst C0 dX9_feast_23 ci_m1 ?_
          have e := h
          subst e
          exact hret _ _ dX9_feast_24
set_option maxRecDepth 100000 in
set_option maxHeartbeats 4000000 in
theorem m_C_feast {l : Launch} {d : Nat} {σ : am_SS} {q : Int32} (hd : 2 ≤ d) (x1 : Int32) (x2 : Int32) (h : C_feast x1 x2 = q) : am_Met l yX9_feast cX9_feast 4 (some .int) d 0 0 LC (fun b => [.ref (b 0), .int x1, .int x2]) σ (some (.int q)) σ :=
  am_metI (plainFor_of_name (by decide)) rfl (lv := fun b => [(0, .ref (b 0)), (1, .int x1), (2, .int x2)]) (fun _ => rfl) (fun _ => Nat.le_of_ble_eq_true rfl) (fun G C0 _ hret => k_C_feast C0 hd hret x1 x2  h)
set_option maxRecDepth 100000 in
set_option maxHeartbeats 4000000 in
theorem k_C_happy {G : am_T} {d0 : Nat} (C0 : am_C G cX9_happy 3 RX9 LC d0) (hd : 4 ≤ d0) (F : Nat) {σ0 : am_SS} {q : Int32} (hret : am_retI G cX9_happy 3 q σ0) (x1 : Int32) (x2 : Int32) (h : C_happy F x1 x2 = some q) : am_K G 3 0 [(0, .ref (am_b G 0)), (1, .int x1), (2, .int x2)] [] σ0 := by
  unfold C_happy at h
  refine am_iload_n C0 dX9_happy_0 1 rfl ?_
  refine am_iconst C0 dX9_happy_1 ci_1 ?_
  refine am_icmp_lt C0 dX9_happy_2 (tgt := 12) (by decide) (fun c_1 => ?_) (fun c_1 => ?_)
  · replace h := am_ip h c_1
    refine am_iconst C0 dX9_happy_12 ci_m1 ?_
    have e := Option.some.inj h
    subst e
    exact hret _ _ dX9_happy_13
  · replace h := am_in h c_1
    refine am_iload_n C0 dX9_happy_5 1 rfl ?_
    refine am_ldcw C0 kc_RX9_346 dX9_happy_6 ?_
    refine am_icmp_le C0 dX9_happy_9 (tgt := 14) (by decide) (fun c_2 => ?_) (fun c_2 => ?_)
    · replace h := am_in h c_2
      refine am_iload_n C0 dX9_happy_14 2 rfl ?_
      by_cases c_3 : x2 = 0
      · replace h := am_ip h c_3
        refine am_tabIn C0 dX9_happy_15 (tgt := 40) (off := 25) (by rw [c_3]; decide) (by rw [c_3]; decide) (by rw [c_3]; first | done | rfl | decide) (by decide) ?_
        refine am_iload_n C0 dX9_happy_40 1 rfl ?_
        obtain ⟨q_4, h_q_4, h⟩ := am_bind h
        refine am_callS C0 (m_C_Sums_happyEnd (σ := σ0) (Nat.le_refl _) F x1  h_q_4) mm_yX5_happyEnd ln_RX9_347 (fun _ => rfl) (Nat.le_trans (by decide) hd) rfl (Nat.le_of_ble_eq_true rfl) dX9_happy_41 ?_
        refine am_iconst C0 dX9_happy_44 ci_1 ?_
        refine am_icmp_ne C0 dX9_happy_45 (tgt := 52) (by decide) (fun c_5 => ?_) (fun c_5 => ?_)
        · replace h := am_in h c_5
          refine am_iconst C0 dX9_happy_52 ci_0 ?_
          have e := Option.some.inj h
          subst e
          exact hret _ _ dX9_happy_53
        · replace h := am_ip h c_5
          refine am_iconst C0 dX9_happy_48 ci_1 ?_
          refine am_goto C0 dX9_happy_49 (tgt := 53) (by decide) ?_
          have e := Option.some.inj h
          subst e
          exact hret _ _ dX9_happy_53
      replace h := am_in h c_3
      by_cases c_6 : x2 = 1
      · replace h := am_ip h c_6
        refine am_tabIn C0 dX9_happy_15 (tgt := 54) (off := 39) (by rw [c_6]; decide) (by rw [c_6]; decide) (by rw [c_6]; first | done | rfl | decide) (by decide) ?_
        refine am_iload_n C0 dX9_happy_54 1 rfl ?_
        obtain ⟨q_7, h_q_7, h⟩ := am_bind h
        refine am_callS C0 (m_C_Sums_happySteps (σ := σ0) (Nat.le_refl _) F x1  h_q_7) mm_yX5_happySteps ln_RX9_350 (fun _ => rfl) (Nat.le_trans (by decide) hd) rfl (Nat.le_of_ble_eq_true rfl) dX9_happy_55 ?_
        have e := Option.some.inj h
        subst e
        exact hret _ _ dX9_happy_58
      replace h := am_in h c_6
      by_cases c_8 : x2 = 2
      · replace h := am_ip h c_8
        refine am_tabIn C0 dX9_happy_15 (tgt := 59) (off := 44) (by rw [c_8]; decide) (by rw [c_8]; decide) (by rw [c_8]; first | done | rfl | decide) (by decide) ?_
        refine am_iload_n C0 dX9_happy_59 1 rfl ?_
        refine am_sipush C0 dX9_happy_60 cs_999 ?_
        refine am_icmp_le C0 dX9_happy_63 (tgt := 70) (by decide) (fun c_9 => ?_) (fun c_9 => ?_)
        · replace h := am_in h c_9
          refine am_iload_n C0 dX9_happy_70 1 rfl ?_
          obtain ⟨q_10, h_q_10, h⟩ := am_bind h
          refine am_callS C0 (m_C_Sums_happyUpTo (σ := σ0) (Nat.le_refl _) F x1  h_q_10) mm_yX5_happyUpTo ln_RX9_353 (fun _ => rfl) (Nat.le_trans (by decide) hd) rfl (Nat.le_of_ble_eq_true rfl) dX9_happy_71 ?_
          have e := Option.some.inj h
          subst e
          exact hret _ _ dX9_happy_74
        · replace h := am_ip h c_9
          refine am_iconst C0 dX9_happy_66 ci_m1 ?_
          refine am_goto C0 dX9_happy_67 (tgt := 74) (by decide) ?_
          have e := Option.some.inj h
          subst e
          exact hret _ _ dX9_happy_74
      replace h := am_in h c_8
      refine am_tabOut C0 dX9_happy_15 (tgt := 75) (am_sw_0_2 c_3 c_6 c_8) (by decide) ?_
      refine am_iconst C0 dX9_happy_75 ci_m1 ?_
      have e := Option.some.inj h
      subst e
      exact hret _ _ dX9_happy_76
    · replace h := am_ip h c_2
      refine am_iconst C0 dX9_happy_12 ci_m1 ?_
      have e := Option.some.inj h
      subst e
      exact hret _ _ dX9_happy_13
set_option maxRecDepth 100000 in
set_option maxHeartbeats 4000000 in
theorem m_C_happy {l : Launch} {d : Nat} {σ : am_SS} {q : Int32} (hd : 4 ≤ d) (F : Nat) (x1 : Int32) (x2 : Int32) (h : C_happy F x1 x2 = some q) : am_Met l yX9_happy cX9_happy 3 (some .int) d 0 0 LC (fun b => [.ref (b 0), .int x1, .int x2]) σ (some (.int q)) σ :=
  am_metI (plainFor_of_name (by decide)) rfl (lv := fun b => [(0, .ref (b 0)), (1, .int x1), (2, .int x2)]) (fun _ => rfl) (fun _ => Nat.le_of_ble_eq_true rfl) (fun G C0 _ hret => k_C_happy C0 hd F hret x1 x2  h)
set_option maxRecDepth 100000 in
set_option maxHeartbeats 4000000 in
theorem k_C_parts {G : am_T} {d0 : Nat} (C0 : am_C G cX9_parts 3 RX9 LC d0) (hd : 2 ≤ d0) (F : Nat) {σ0 : am_SS} {q : Int32} (hret : am_retI G cX9_parts 3 q σ0) (x1 : Int32) (x2 : Int32) (h : C_parts F x1 x2 = some q) : am_K G 3 0 [(0, .ref (am_b G 0)), (1, .int x1), (2, .int x2)] [] σ0 := by
  unfold C_parts at h
  refine am_iload_n C0 dX9_parts_0 1 rfl ?_
  refine am_iconst C0 dX9_parts_1 ci_2 ?_
  refine am_icmp_lt C0 dX9_parts_2 (tgt := 21) (by decide) (fun c_1 => ?_) (fun c_1 => ?_)
  · replace h := am_ip h c_1
    refine am_iconst C0 dX9_parts_21 ci_m1 ?_
    have e := Option.some.inj h
    subst e
    exact hret _ _ dX9_parts_22
  · replace h := am_in h c_1
    refine am_iload_n C0 dX9_parts_5 1 rfl ?_
    refine am_ldcw C0 kc_RX9_346 dX9_parts_6 ?_
    refine am_icmp_gt C0 dX9_parts_9 (tgt := 21) (by decide) (fun c_2 => ?_) (fun c_2 => ?_)
    · replace h := am_ip h c_2
      refine am_iconst C0 dX9_parts_21 ci_m1 ?_
      have e := Option.some.inj h
      subst e
      exact hret _ _ dX9_parts_22
    · replace h := am_in h c_2
      refine am_iload_n C0 dX9_parts_12 2 rfl ?_
      refine am_if_lt C0 dX9_parts_13 (tgt := 21) (by decide) (fun c_3 => ?_) (fun c_3 => ?_)
      · replace h := am_ip h c_3
        refine am_iconst C0 dX9_parts_21 ci_m1 ?_
        have e := Option.some.inj h
        subst e
        exact hret _ _ dX9_parts_22
      · replace h := am_in h c_3
        refine am_iload_n C0 dX9_parts_16 2 rfl ?_
        refine am_iconst C0 dX9_parts_17 ci_3 ?_
        refine am_icmp_le C0 dX9_parts_18 (tgt := 23) (by decide) (fun c_4 => ?_) (fun c_4 => ?_)
        · replace h := am_in h c_4
          refine am_iload_n C0 dX9_parts_23 1 rfl ?_
          refine am_iload_n C0 dX9_parts_24 2 rfl ?_
          obtain ⟨q_5, h_q_5, h⟩ := am_bind h
          refine am_callS C0 (m_C_Sums_ofPrimes (σ := σ0) (Nat.le_refl _) F x1 x2  h_q_5) mm_yX5_ofPrimes ln_RX9_356 (fun _ => rfl) (Nat.le_trans (by decide) hd) rfl (Nat.le_of_ble_eq_true rfl) dX9_parts_25 ?_
          have e := Option.some.inj h
          subst e
          exact hret _ _ dX9_parts_28
        · replace h := am_ip h c_4
          refine am_iconst C0 dX9_parts_21 ci_m1 ?_
          have e := Option.some.inj h
          subst e
          exact hret _ _ dX9_parts_22
set_option maxRecDepth 100000 in
set_option maxHeartbeats 4000000 in
theorem m_C_parts {l : Launch} {d : Nat} {σ : am_SS} {q : Int32} (hd : 2 ≤ d) (F : Nat) (x1 : Int32) (x2 : Int32) (h : C_parts F x1 x2 = some q) : am_Met l yX9_parts cX9_parts 3 (some .int) d 0 0 LC (fun b => [.ref (b 0), .int x1, .int x2]) σ (some (.int q)) σ :=
  am_metI (plainFor_of_name (by decide)) rfl (lv := fun b => [(0, .ref (b 0)), (1, .int x1), (2, .int x2)]) (fun _ => rfl) (fun _ => Nat.le_of_ble_eq_true rfl) (fun G C0 _ hret => k_C_parts C0 hd F hret x1 x2  h)
set_option maxRecDepth 100000 in
set_option maxHeartbeats 4000000 in
theorem k_C_brackets_p63 {G : am_T} {d0 : Nat} (C0 : am_C G cX9_brackets 4 RX9 LC d0) (hd : 4 ≤ d0) (F : Nat) {σ0 : am_SS} {q : Int32} (hret : am_retI G cX9_brackets 4 q σ0) (h : C_brackets_p63 F  = some q) : am_K G 4 63 [] [] σ0 := by
  unfold C_brackets_p63 at h
  refine am_iconst C0 dX9_brackets_63 ci_m1 ?_
  refine am_goto C0 dX9_brackets_64 (tgt := 72) (by decide) ?_
  have e := Option.some.inj h
  subst e
  exact hret _ _ dX9_brackets_72
set_option maxRecDepth 100000 in
set_option maxHeartbeats 4000000 in
theorem k_C_brackets_p86 {G : am_T} {d0 : Nat} (C0 : am_C G cX9_brackets 4 RX9 LC d0) (hd : 4 ≤ d0) (F : Nat) {σ0 : am_SS} {q : Int32} (hret : am_retI G cX9_brackets 4 q σ0) (h : C_brackets_p86 F  = some q) : am_K G 4 86 [] [] σ0 := by
  unfold C_brackets_p86 at h
  refine am_iconst C0 dX9_brackets_86 ci_m1 ?_
  refine am_goto C0 dX9_brackets_87 (tgt := 95) (by decide) ?_
  have e := Option.some.inj h
  subst e
  exact hret _ _ dX9_brackets_95
set_option maxRecDepth 100000 in
set_option maxHeartbeats 4000000 in
theorem k_C_brackets {G : am_T} {d0 : Nat} (C0 : am_C G cX9_brackets 4 RX9 LC d0) (hd : 4 ≤ d0) (F : Nat) {σ0 : am_SS} {q : Int32} (hret : am_retI G cX9_brackets 4 q σ0) (x1 : Int32) (x2 : Int32) (x3 : Int32) (h : C_brackets F x1 x2 x3 = some q) : am_K G 4 0 [(0, .ref (am_b G 0)), (1, .int x1), (2, .int x2), (3, .int x3)] [] σ0 := by
  unfold C_brackets at h
  refine am_iload_n C0 dX9_brackets_0 1 rfl ?_
  refine am_if_lt C0 dX9_brackets_1 (tgt := 10) (by decide) (fun c_1 => ?_) (fun c_1 => ?_)
  · replace h := am_ip h c_1
    refine am_iconst C0 dX9_brackets_10 ci_m1 ?_
    have e := Option.some.inj h
    subst e
    exact hret _ _ dX9_brackets_11
  · replace h := am_in h c_1
    refine am_iload_n C0 dX9_brackets_4 1 rfl ?_
    refine am_bipush C0 dX9_brackets_5 kb_8 ?_
    refine am_icmp_le C0 dX9_brackets_7 (tgt := 12) (by decide) (fun c_2 => ?_) (fun c_2 => ?_)
    · replace h := am_in h c_2
      refine am_iload_n C0 dX9_brackets_12 3 rfl ?_
      by_cases c_3 : x3 = 0
      · replace h := am_ip h c_3
        refine am_tabIn C0 dX9_brackets_13 (tgt := 40) (off := 27) (by rw [c_3]; decide) (by rw [c_3]; decide) (by rw [c_3]; first | done | rfl | decide) (by decide) ?_
        refine am_iconst C0 dX9_brackets_40 ci_2 ?_
        refine am_iload_n C0 dX9_brackets_41 1 rfl ?_
        refine am_imul C0 dX9_brackets_42 ?_
        refine am_iconst C0 dX9_brackets_43 ci_0 ?_
        obtain ⟨q_4, h_q_4, h⟩ := am_bind h
        refine am_callS C0 (m_C_Sums_closings (σ := σ0) (Nat.le_refl _) F (2 * x1) 0  h_q_4) mm_yX5_closings ln_RX9_359 (fun _ => rfl) (Nat.le_trans (by decide) hd) rfl (Nat.le_of_ble_eq_true rfl) dX9_brackets_44 ?_
        have e := Option.some.inj h
        subst e
        exact hret _ _ dX9_brackets_47
      replace h := am_in h c_3
      by_cases c_5 : x3 = 1
      · replace h := am_ip h c_5
        refine am_tabIn C0 dX9_brackets_13 (tgt := 48) (off := 35) (by rw [c_5]; decide) (by rw [c_5]; decide) (by rw [c_5]; first | done | rfl | decide) (by decide) ?_
        refine am_iload_n C0 dX9_brackets_48 2 rfl ?_
        refine am_if_lt C0 dX9_brackets_49 (tgt := 63) (by decide) (fun c_6 => ?_) (fun c_6 => ?_)
        · replace h := am_ip h c_6
          exact am_sub [] rfl (k_C_brackets_p63 C0 hd F hret   h)
        · replace h := am_in h c_6
          refine am_iload_n C0 dX9_brackets_52 2 rfl ?_
          refine am_iconst C0 dX9_brackets_53 ci_2 ?_
          refine am_iload_n C0 dX9_brackets_54 1 rfl ?_
          refine am_imul C0 dX9_brackets_55 ?_
          refine am_iconst C0 dX9_brackets_56 ci_0 ?_
          obtain ⟨q_7, h_q_7, h⟩ := am_bind h
          refine am_callS C0 (m_C_Sums_closings (σ := σ0) (Nat.le_refl _) F (2 * x1) 0  h_q_7) mm_yX5_closings ln_RX9_359 (fun _ => rfl) (Nat.le_trans (by decide) hd) rfl (Nat.le_of_ble_eq_true rfl) dX9_brackets_57 ?_
          refine am_icmp_lt C0 dX9_brackets_60 (tgt := 67) (by decide) (fun c_8 => ?_) (fun c_8 => ?_)
          · replace h := am_ip h c_8
            refine am_iload_n C0 dX9_brackets_67 1 rfl ?_
            refine am_iload_n C0 dX9_brackets_68 2 rfl ?_
            obtain ⟨q_9, h_q_9, h⟩ := am_bind h
            refine am_callS C0 (m_C_Sums_bracketRow (σ := σ0) (Nat.le_refl _) F x1 x2  h_q_9) mm_yX5_bracketRow ln_RX9_362 (fun _ => rfl) (Nat.le_trans (by decide) hd) rfl (Nat.le_of_ble_eq_true rfl) dX9_brackets_69 ?_
            have e := Option.some.inj h
            subst e
            exact hret _ _ dX9_brackets_72
          · replace h := am_in h c_8
            exact am_sub [] rfl (k_C_brackets_p63 C0 hd F hret   h)
      replace h := am_in h c_5
      by_cases c_10 : x3 = 2
      · replace h := am_ip h c_10
        refine am_tabIn C0 dX9_brackets_13 (tgt := 73) (off := 60) (by rw [c_10]; decide) (by rw [c_10]; decide) (by rw [c_10]; first | done | rfl | decide) (by decide) ?_
        refine am_iload_n C0 dX9_brackets_73 2 rfl ?_
        refine am_if_lt C0 dX9_brackets_74 (tgt := 86) (by decide) (fun c_11 => ?_) (fun c_11 => ?_)
        · replace h := am_ip h c_11
          exact am_sub [] rfl (k_C_brackets_p86 C0 hd F hret   h)
        · replace h := am_in h c_11
          refine am_iload_n C0 dX9_brackets_77 2 rfl ?_
          refine am_iconst C0 dX9_brackets_78 ci_1 ?_
          refine am_iconst C0 dX9_brackets_79 ci_2 ?_
          refine am_iload_n C0 dX9_brackets_80 1 rfl ?_
          refine am_imul C0 dX9_brackets_81 ?_
          refine am_ishl C0 dX9_brackets_82 ?_
          refine am_icmp_lt C0 dX9_brackets_83 (tgt := 90) (by decide) (fun c_12 => ?_) (fun c_12 => ?_)
          · replace h := am_ip h c_12
            refine am_iload_n C0 dX9_brackets_90 1 rfl ?_
            refine am_iload_n C0 dX9_brackets_91 2 rfl ?_
            obtain ⟨q_13, h_q_13, h⟩ := am_bind h
            refine am_callS C0 (m_C_Sums_bracketPlace (σ := σ0) (Nat.le_refl _) F x1 x2  h_q_13) mm_yX5_bracketPlace ln_RX9_365 (fun _ => rfl) (Nat.le_trans (by decide) hd) rfl (Nat.le_of_ble_eq_true rfl) dX9_brackets_92 ?_
            have e := Option.some.inj h
            subst e
            exact hret _ _ dX9_brackets_95
          · replace h := am_in h c_12
            exact am_sub [] rfl (k_C_brackets_p86 C0 hd F hret   h)
      replace h := am_in h c_10
      refine am_tabOut C0 dX9_brackets_13 (tgt := 96) (am_sw_0_2 c_3 c_5 c_10) (by decide) ?_
      refine am_iconst C0 dX9_brackets_96 ci_m1 ?_
      have e := Option.some.inj h
      subst e
      exact hret _ _ dX9_brackets_97
    · replace h := am_ip h c_2
      refine am_iconst C0 dX9_brackets_10 ci_m1 ?_
      have e := Option.some.inj h
      subst e
      exact hret _ _ dX9_brackets_11
set_option maxRecDepth 100000 in
set_option maxHeartbeats 4000000 in
theorem m_C_brackets {l : Launch} {d : Nat} {σ : am_SS} {q : Int32} (hd : 4 ≤ d) (F : Nat) (x1 : Int32) (x2 : Int32) (x3 : Int32) (h : C_brackets F x1 x2 x3 = some q) : am_Met l yX9_brackets cX9_brackets 4 (some .int) d 0 0 LC (fun b => [.ref (b 0), .int x1, .int x2, .int x3]) σ (some (.int q)) σ :=
  am_metI (plainFor_of_name (by decide)) rfl (lv := fun b => [(0, .ref (b 0)), (1, .int x1), (2, .int x2), (3, .int x3)]) (fun _ => rfl) (fun _ => Nat.le_of_ble_eq_true rfl) (fun G C0 _ hret => k_C_brackets C0 hd F hret x1 x2 x3  h)
set_option maxRecDepth 100000 in
set_option maxHeartbeats 4000000 in
theorem k_C_game_p47 {G : am_T} {d0 : Nat} (C0 : am_C G cX9_game 4 RX9 LC d0) (hd : 3 ≤ d0) (F : Nat) {σ0 : am_SS} {q : Int32} (hret : am_retI G cX9_game 4 q σ0) (x3 : Int32) (s0 : Int32) (s1 : Int32) (h : C_game_p47 F x3 s0 s1 = some q) : am_K G 4 47 [(3, .int x3)] [.int s1, .int s0] σ0 := by
  unfold C_game_p47 at h
  refine am_icmp_gt C0 dX9_game_47 (tgt := 54) (by decide) (fun c_1 => ?_) (fun c_1 => ?_)
  · replace h := am_ip h c_1
    refine am_iconst C0 dX9_game_54 ci_m1 ?_
    have e := Option.some.inj h
    subst e
    exact hret _ _ dX9_game_55
  · replace h := am_in h c_1
    refine am_iload_n C0 dX9_game_50 0 rfl ?_
    refine am_goto C0 dX9_game_51 (tgt := 55) (by decide) ?_
    have e := Option.some.inj h
    subst e
    exact hret _ _ dX9_game_55
set_option maxRecDepth 100000 in
set_option maxHeartbeats 4000000 in
theorem k_C_game_p29 {G : am_T} {d0 : Nat} (C0 : am_C G cX9_game 4 RX9 LC d0) (hd : 3 ≤ d0) (F : Nat) {σ0 : am_SS} {q : Int32} (hret : am_retI G cX9_game 4 q σ0) (x1 : Int32) (x2 : Int32) (h : C_game_p29 F x1 x2 = some q) : am_K G 4 29 [(1, .int x1), (2, .int x2)] [] σ0 := by
  unfold C_game_p29 at h
  refine am_iload_n C0 dX9_game_29 0 rfl ?_
  obtain ⟨q_1, h_q_1, h⟩ := am_bind h
  refine am_callS C0 (m_C_Sums_leastPart (σ := σ0) (Nat.le_refl _) F x1  h_q_1) mm_yX5_leastPart ln_RX9_368 (fun _ => rfl) (Nat.le_trans (by decide) hd) rfl (Nat.le_of_ble_eq_true rfl) dX9_game_30 ?_
  refine am_istore_n C0 dX9_game_33 rfl (by decide) rfl (lv' := [(1, .int x1), (2, .int x2), (3, .int q_1)]) rfl ?_
  refine am_iload_n C0 dX9_game_34 2 rfl ?_
  refine am_iload_n C0 dX9_game_35 1 rfl ?_
  refine am_iconst C0 dX9_game_36 ci_m1 ?_
  refine am_icmp_ne C0 dX9_game_37 (tgt := 46) (by decide) (fun c_2 => ?_) (fun c_2 => ?_)
  · replace h := am_in h c_2
    refine am_iload_n C0 dX9_game_46 1 rfl ?_
    exact am_sub [2] rfl (k_C_game_p47 C0 hd F hret q_1 q_1 x2  h)
  · replace h := am_ip h c_2
    refine am_iload_n C0 dX9_game_40 0 rfl ?_
    refine am_iconst C0 dX9_game_41 ci_1 ?_
    refine am_isub C0 dX9_game_42 ?_
    refine am_goto C0 dX9_game_43 (tgt := 47) (by decide) ?_
    exact am_sub [2] rfl (k_C_game_p47 C0 hd F hret q_1 q_1 (x1 - 1)  h)
set_option maxRecDepth 100000 in
set_option maxHeartbeats 4000000 in
theorem k_C_game {G : am_T} {d0 : Nat} (C0 : am_C G cX9_game 4 RX9 LC d0) (hd : 3 ≤ d0) (F : Nat) {σ0 : am_SS} {q : Int32} (hret : am_retI G cX9_game 4 q σ0) (x1 : Int32) (x2 : Int32) (h : C_game F x1 x2 = some q) : am_K G 4 0 [(0, .ref (am_b G 0)), (1, .int x1), (2, .int x2)] [] σ0 := by
  unfold C_game at h
  refine am_iload_n C0 dX9_game_0 1 rfl ?_
  refine am_iconst C0 dX9_game_1 ci_1 ?_
  refine am_icmp_lt C0 dX9_game_2 (tgt := 27) (by decide) (fun c_1 => ?_) (fun c_1 => ?_)
  · replace h := am_ip h c_1
    refine am_iconst C0 dX9_game_27 ci_m1 ?_
    have e := Option.some.inj h
    subst e
    exact hret _ _ dX9_game_28
  · replace h := am_in h c_1
    refine am_iload_n C0 dX9_game_5 1 rfl ?_
    refine am_bipush C0 dX9_game_6 kb_120 ?_
    refine am_icmp_gt C0 dX9_game_8 (tgt := 27) (by decide) (fun c_2 => ?_) (fun c_2 => ?_)
    · replace h := am_ip h c_2
      refine am_iconst C0 dX9_game_27 ci_m1 ?_
      have e := Option.some.inj h
      subst e
      exact hret _ _ dX9_game_28
    · replace h := am_in h c_2
      refine am_iload_n C0 dX9_game_11 2 rfl ?_
      refine am_bipush C0 dX9_game_12 kb_120 ?_
      refine am_icmp_gt C0 dX9_game_14 (tgt := 27) (by decide) (fun c_3 => ?_) (fun c_3 => ?_)
      · replace h := am_ip h c_3
        refine am_iconst C0 dX9_game_27 ci_m1 ?_
        have e := Option.some.inj h
        subst e
        exact hret _ _ dX9_game_28
      · replace h := am_in h c_3
        refine am_iload_n C0 dX9_game_17 2 rfl ?_
        refine am_iconst C0 dX9_game_18 ci_1 ?_
        refine am_icmp_ge C0 dX9_game_19 (tgt := 29) (by decide) (fun c_4 => ?_) (fun c_4 => ?_)
        · replace h := am_in h c_4
          exact am_sub [1, 2] rfl (k_C_game_p29 C0 hd F hret x1 x2  h)
        · replace h := am_ip h c_4
          refine am_iload_n C0 dX9_game_22 2 rfl ?_
          refine am_iconst C0 dX9_game_23 ci_m1 ?_
          refine am_icmp_eq C0 dX9_game_24 (tgt := 29) (by decide) (fun c_5 => ?_) (fun c_5 => ?_)
          · replace h := am_ip h c_5
            exact am_sub [1, 2] rfl (k_C_game_p29 C0 hd F hret x1 x2  h)
          · replace h := am_in h c_5
            refine am_iconst C0 dX9_game_27 ci_m1 ?_
            have e := Option.some.inj h
            subst e
            exact hret _ _ dX9_game_28
set_option maxRecDepth 100000 in
set_option maxHeartbeats 4000000 in
theorem m_C_game {l : Launch} {d : Nat} {σ : am_SS} {q : Int32} (hd : 3 ≤ d) (F : Nat) (x1 : Int32) (x2 : Int32) (h : C_game F x1 x2 = some q) : am_Met l yX9_game cX9_game 4 (some .int) d 0 0 LC (fun b => [.ref (b 0), .int x1, .int x2]) σ (some (.int q)) σ :=
  am_metI (plainFor_of_name (by decide)) rfl (lv := fun b => [(0, .ref (b 0)), (1, .int x1), (2, .int x2)]) (fun _ => rfl) (fun _ => Nat.le_of_ble_eq_true rfl) (fun G C0 _ hret => k_C_game C0 hd F hret x1 x2  h)
set_option maxRecDepth 100000 in
set_option maxHeartbeats 4000000 in
theorem k_C_undo {G : am_T} {d0 : Nat} (C0 : am_C G cX9_undo 1 RX9 LC d0) (hd : 4 ≤ d0) (F : Nat) {q : Bool × am_SS} (hret : am_retI G cX9_undo 1 (am_bI q.1) q.2) (σ : am_SS) (h : C_undo F  σ = some q) : am_K G 1 0 [(0, .ref (am_b G 0))] [] σ := by
  unfold C_undo at h
  refine am_aload_n C0 dX9_undo_0 0 rfl ?_
  refine am_getR C0 (j := 88) ff_RX9_33 (loC_6_4 kC0).1 (loC_6_4 kC0).2.1 (loC_6_4 kC0).2.2.1 (loC_6_4 kC0).2.2.2 dX9_undo_1 ?_
  refine am_aload_n C0 dX9_undo_4 0 rfl ?_
  refine am_getR C0 (j := 1) ff_RX9_10 (loC_6_0 kC0).1 (loC_6_0 kC0).2.1 (loC_6_0 kC0).2.2.1 (loC_6_0 kC0).2.2.2 dX9_undo_5 ?_
  obtain ⟨q_1, h_q_1, h⟩ := am_bind h
  refine am_callV C0 (m_C_Past_goBack (σ := σ) (Nat.le_refl _) F 88 1 (tgC_6_4 kC0) (tgC_6_0 kC0) h_q_1) mm_yX3_goBack ln_RX9_371 (As := fun b => [.ref (b 1)]) (fun _ => rfl) (fun _ => rfl) (loC_2_0 (tgC_6_4 kC0)).1 (loC_2_0 (tgC_6_4 kC0)).2.1 rfl (Nat.le_trans (by decide) hd) rfl (Nat.le_of_ble_eq_true rfl) dX9_undo_8 ?_
  have e := Option.some.inj h
  subst e
  exact hret _ _ dX9_undo_11
set_option maxRecDepth 100000 in
set_option maxHeartbeats 4000000 in
theorem m_C_undo {l : Launch} {d : Nat} {σ : am_SS} {q : Bool × am_SS} (hd : 4 ≤ d) (F : Nat) (h : C_undo F  σ = some q) : am_Met l yX9_undo cX9_undo 1 (some .boolean) d 0 0 LC (fun b => [.ref (b 0)]) σ (some (.int (am_bI q.1))) q.2 :=
  am_metI (plainFor_of_name (by decide)) (am_bI_nr _) (lv := fun b => [(0, .ref (b 0))]) (fun _ => rfl) (fun _ => Nat.le_of_ble_eq_true rfl) (fun G C0 _ hret => k_C_undo C0 hd F hret  σ  h)
set_option maxRecDepth 100000 in
set_option maxHeartbeats 4000000 in
theorem k_C_image_p48 {G : am_T} {d0 : Nat} (C0 : am_C G cX9_image 2 RX9 LC d0) (hd : 5 ≤ d0) (F : Nat) {q : Bool × am_SS} (hret : am_retI G cX9_image 2 (am_bI q.1) q.2) (σ : am_SS) (h : C_image_p48 F  σ = some q) : am_K G 2 48 [(0, .ref (am_b G 0))] [] σ := by
  unfold C_image_p48 at h
  refine am_aload_n C0 dX9_image_48 0 rfl ?_
  refine am_getI C0 ff_RX9_19 (loC_6_2 kC0).1 (loC_6_2 kC0).2.1 (loC_6_2 kC0).2.2.1 (loC_6_2 kC0).2.2.2 dX9_image_49 ?_
  by_cases c_1 : (σ 0 2) = 0
  · replace h := am_ip h c_1; have e := Option.some.inj h; subst e; refine am_top c_1 ?_; exact hret _ _ dX9_image_52
  · replace h := am_in h c_1
    by_cases c_1b : (σ 0 2) = 1
    · replace h := am_ip h c_1b; have e := Option.some.inj h; subst e; refine am_top c_1b ?_; exact hret _ _ dX9_image_52
    · replace h := am_in h c_1b; cases h
set_option maxRecDepth 100000 in
set_option maxHeartbeats 4000000 in
theorem k_C_image {G : am_T} {d0 : Nat} (C0 : am_C G cX9_image 2 RX9 LC d0) (hd : 5 ≤ d0) (F : Nat) {q : Bool × am_SS} (hret : am_retI G cX9_image 2 (am_bI q.1) q.2) (x1 : Bool) (σ : am_SS) (h : C_image F x1 σ = some q) : am_K G 2 0 [(0, .ref (am_b G 0)), (1, .int (am_bI x1))] [] σ := by
  unfold C_image at h
  refine am_iload_n C0 dX9_image_0 1 rfl ?_
  refine am_ifB_eq C0 dX9_image_1 (tgt := 23) (by decide) (fun c_1 => ?_) (fun c_1 => ?_)
  · replace h := am_in h c_1
    refine am_aload_n C0 dX9_image_23 0 rfl ?_
    refine am_getI C0 ff_RX9_19 (loC_6_2 kC0).1 (loC_6_2 kC0).2.1 (loC_6_2 kC0).2.2.1 (loC_6_2 kC0).2.2.2 dX9_image_24 ?_
    refine am_if_eq C0 dX9_image_27 (tgt := 48) (by decide) (fun c_2 => ?_) (fun c_2 => ?_)
    · replace h := am_ip h c_2
      exact am_sub [0] rfl (k_C_image_p48 C0 hd F hret  σ  h)
    · replace h := am_in h c_2
      refine am_aload_n C0 dX9_image_30 0 rfl ?_
      refine am_getR C0 (j := 1) ff_RX9_10 (loC_6_0 kC0).1 (loC_6_0 kC0).2.1 (loC_6_0 kC0).2.2.1 (loC_6_0 kC0).2.2.2 dX9_image_31 ?_
      refine am_aload_n C0 dX9_image_34 0 rfl ?_
      refine am_getR C0 (j := 39) ff_RX9_16 (loC_6_1 kC0).1 (loC_6_1 kC0).2.1 (loC_6_1 kC0).2.2.1 (loC_6_1 kC0).2.2.2 dX9_image_35 ?_
      obtain ⟨q_3, h_q_3, h⟩ := am_bind h
      refine am_callV C0 (m_C_War_copyFrom (σ := σ) (Nat.le_refl _) F 1 39 (tgC_6_0 kC0) (tgC_6_1 kC0) h_q_3) mm_yX7_copyFrom ln_RX9_375 (As := fun b => [.ref (b 39)]) (fun _ => rfl) (fun _ => rfl) (loC_5_0 (tgC_6_0 kC0)).1 (loC_5_0 (tgC_6_0 kC0)).2.1 rfl (Nat.le_trans (by decide) hd) rfl (Nat.le_of_ble_eq_true rfl) dX9_image_38 ?_
      refine am_aload_n C0 dX9_image_41 0 rfl ?_
      refine am_getR C0 (j := 88) ff_RX9_33 (loC_6_4 kC0).1 (loC_6_4 kC0).2.1 (loC_6_4 kC0).2.2.1 (loC_6_4 kC0).2.2.2 dX9_image_42 ?_
      obtain ⟨q_4, h_q_4, h⟩ := am_lt h
      refine am_callV C0 (m_C_Past_forget (σ := q_3) (Nat.le_refl _) 88 (tgC_6_4 kC0) h_q_4) mm_yX3_forget ln_RX9_51 (As := fun b => []) (fun _ => rfl) (fun _ => rfl) (loC_2_0 (tgC_6_4 kC0)).1 (loC_2_0 (tgC_6_4 kC0)).2.1 rfl (Nat.le_trans (by decide) hd) rfl (Nat.le_of_ble_eq_true rfl) dX9_image_45 ?_
      exact am_sub [0] rfl (k_C_image_p48 C0 hd F hret  q_4  h)
  · replace h := am_ip h c_1
    refine am_aload_n C0 dX9_image_4 0 rfl ?_
    refine am_getR C0 (j := 39) ff_RX9_16 (loC_6_1 kC0).1 (loC_6_1 kC0).2.1 (loC_6_1 kC0).2.2.1 (loC_6_1 kC0).2.2.2 dX9_image_5 ?_
    refine am_aload_n C0 dX9_image_8 0 rfl ?_
    refine am_getR C0 (j := 1) ff_RX9_10 (loC_6_0 kC0).1 (loC_6_0 kC0).2.1 (loC_6_0 kC0).2.2.1 (loC_6_0 kC0).2.2.2 dX9_image_9 ?_
    obtain ⟨q_5, h_q_5, h⟩ := am_bind h
    refine am_callV C0 (m_C_War_copyFrom (σ := σ) (Nat.le_refl _) F 39 1 (tgC_6_1 kC0) (tgC_6_0 kC0) h_q_5) mm_yX7_copyFrom ln_RX9_375 (As := fun b => [.ref (b 1)]) (fun _ => rfl) (fun _ => rfl) (loC_5_0 (tgC_6_1 kC0)).1 (loC_5_0 (tgC_6_1 kC0)).2.1 rfl (Nat.le_trans (by decide) hd) rfl (Nat.le_of_ble_eq_true rfl) dX9_image_12 ?_
    refine am_aload_n C0 dX9_image_15 0 rfl ?_
    refine am_iconst C0 dX9_image_16 ci_1 ?_
    obtain ⟨σ_6, e_σ_6, h⟩ := am_lt h
    refine am_putI C0 e_σ_6 fp_RX9_19 (loC_6_2 kC0).1 (loC_6_2 kC0).2.1 (loC_6_2 kC0).2.2.1 (loC_6_2 kC0).2.2.2 rfl rfl dX9_image_17 ?_
    refine am_goto C0 dX9_image_20 (tgt := 48) (by decide) ?_
    exact am_sub [0] rfl (k_C_image_p48 C0 hd F hret  σ_6  h)
set_option maxRecDepth 100000 in
set_option maxHeartbeats 4000000 in
theorem m_C_image {l : Launch} {d : Nat} {σ : am_SS} {q : Bool × am_SS} (hd : 5 ≤ d) (F : Nat) (x1 : Bool) (h : C_image F x1 σ = some q) : am_Met l yX9_image cX9_image 2 (some .boolean) d 0 0 LC (fun b => [.ref (b 0), .int (am_bI x1)]) σ (some (.int (am_bI q.1))) q.2 :=
  am_metI (plainFor_of_name (by decide)) (am_bI_nr _) (lv := fun b => [(0, .ref (b 0)), (1, .int (am_bI x1))]) (fun _ => rfl) (fun _ => Nat.le_of_ble_eq_true rfl) (fun G C0 _ hret => k_C_image C0 hd F hret x1 σ  h)
