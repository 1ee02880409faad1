set_option maxRecDepth 100000 in
set_option maxHeartbeats 4000000 in
theorem k_M_nextCorner {G : am_T} {d0 : Nat} (C0 : am_C G cX10_nextCorner 2 RX10 LM d0) (hd : 1 ≤ d0) {σ : am_SS} {q : Int32} (hret : am_retI G cX10_nextCorner 2 q σ) (x1 : Int32) (h : M_nextCorner x1 σ = some q) : am_K G 2 0 [(0, .ref (am_b G 0)), (1, .int x1)] [] σ := by
  unfold M_nextCorner at h
  refine am_iload_n C0 dX10_nextCorner_0 1 rfl ?_
  refine am_iconst C0 dX10_nextCorner_1 ci_1 ?_
  refine am_iadd C0 dX10_nextCorner_2 ?_
  refine am_aload_n C0 dX10_nextCorner_3 0 rfl ?_
  refine am_getI C0 ff_RX10_459 (loM_7_59 kM0).1 (loM_7_59 kM0).2.1 (loM_7_59 kM0).2.2.1 (loM_7_59 kM0).2.2.2 dX10_nextCorner_4 ?_
  obtain ⟨hz_1, h⟩ := am_gd h
  refine am_irem C0 dX10_nextCorner_7 hz_1 ?_
  have e := Option.some.inj h
  subst e
  exact hret _ _ dX10_nextCorner_8
set_option maxRecDepth 100000 in
set_option maxHeartbeats 4000000 in
theorem m_M_nextCorner {l : Launch} {d : Nat} {σ : am_SS} {q : Int32} (hd : 1 ≤ d) (x1 : Int32) (h : M_nextCorner x1 σ = some q) : am_Met l yX10_nextCorner cX10_nextCorner 2 (some .int) d 0 0 LM (fun b => [.ref (b 0), .int x1]) σ (some (.int q)) σ :=
  am_metI (plainFor_of_name (by decide)) rfl (lv := fun b => [(0, .ref (b 0)), (1, .int x1)]) (fun _ => rfl) (fun _ => Nat.le_of_ble_eq_true rfl) (fun G C0 _ hret => k_M_nextCorner C0 hd hret x1  h)
set_option maxRecDepth 100000 in
set_option maxHeartbeats 4000000 in
theorem k_M_sideOf {G : am_T} {d0 : Nat} (C0 : am_C G cX10_sideOf 5 RX10 LM d0) (hd : 2 ≤ d0) {σ : am_SS} {q : Int32} (hret : am_retI G cX10_sideOf 5 q σ) (x1 : Int32) (x2 : Int32) (x3 : Int32) (h : M_sideOf x1 x2 x3 σ = some q) : am_K G 5 0 [(0, .ref (am_b G 0)), (1, .int x1), (2, .int x2), (3, .int x3)] [] σ := by
  unfold M_sideOf at h
  refine am_aload_n C0 dX10_sideOf_0 0 rfl ?_
  refine am_iload_n C0 dX10_sideOf_1 1 rfl ?_
  obtain ⟨q_1, h_q_1, h⟩ := am_bind h
  refine am_callV C0 (m_M_nextCorner (σ := σ) (Nat.le_refl _) x1  h_q_1) mm_yX10_nextCorner ln_RX10_462 (As := fun b => [.int x1]) (fun _ => rfl) (fun _ => rfl) (loM_7_0 kM0).1 (loM_7_0 kM0).2.1 rfl (Nat.le_trans (by decide) hd) rfl (Nat.le_of_ble_eq_true rfl) dX10_sideOf_2 ?_
  refine am_istore C0 dX10_sideOf_5 (by decide) rfl (lv' := [(0, .ref (am_b G 0)), (1, .int x1), (2, .int x2), (3, .int x3), (4, .int q_1)]) rfl ?_
  refine am_aload_n C0 dX10_sideOf_7 0 rfl ?_
  refine am_getR C0 (j := 36) ff_RX10_119 (loM_7_60 kM0).1 (loM_7_60 kM0).2.1 (loM_7_60 kM0).2.2.1 (loM_7_60 kM0).2.2.2 dX10_sideOf_8 ?_
  refine am_iload C0 dX10_sideOf_11 4 rfl ?_
  obtain ⟨t_2, h_t_2, h⟩ := am_bind h
  refine am_iald C0 (ltM (tgM_7_60 kM0)) (tgM_7_60 kM0) (lnM_7_60 kM0) h_t_2 dX10_sideOf_13 ?_
  refine am_aload_n C0 dX10_sideOf_14 0 rfl ?_
  refine am_getR C0 (j := 36) ff_RX10_119 (loM_7_60 kM0).1 (loM_7_60 kM0).2.1 (loM_7_60 kM0).2.2.1 (loM_7_60 kM0).2.2.2 dX10_sideOf_15 ?_
  refine am_iload_n C0 dX10_sideOf_18 1 rfl ?_
  obtain ⟨t_3, h_t_3, h⟩ := am_bind h
  refine am_iald C0 (ltM (tgM_7_60 kM0)) (tgM_7_60 kM0) (lnM_7_60 kM0) h_t_3 dX10_sideOf_19 ?_
  refine am_isub C0 dX10_sideOf_20 ?_
  refine am_iload_n C0 dX10_sideOf_21 3 rfl ?_
  refine am_aload_n C0 dX10_sideOf_22 0 rfl ?_
  refine am_getR C0 (j := 37) ff_RX10_122 (loM_7_61 kM0).1 (loM_7_61 kM0).2.1 (loM_7_61 kM0).2.2.1 (loM_7_61 kM0).2.2.2 dX10_sideOf_23 ?_
  refine am_iload_n C0 dX10_sideOf_26 1 rfl ?_
  obtain ⟨t_4, h_t_4, h⟩ := am_bind h
  refine am_iald C0 (ltM (tgM_7_61 kM0)) (tgM_7_61 kM0) (lnM_7_61 kM0) h_t_4 dX10_sideOf_27 ?_
  refine am_isub C0 dX10_sideOf_28 ?_
  refine am_imul C0 dX10_sideOf_29 ?_
  refine am_aload_n C0 dX10_sideOf_30 0 rfl ?_
  refine am_getR C0 (j := 37) ff_RX10_122 (loM_7_61 kM0).1 (loM_7_61 kM0).2.1 (loM_7_61 kM0).2.2.1 (loM_7_61 kM0).2.2.2 dX10_sideOf_31 ?_
  refine am_iload C0 dX10_sideOf_34 4 rfl ?_
  obtain ⟨t_5, h_t_5, h⟩ := am_bind h
  refine am_iald C0 (ltM (tgM_7_61 kM0)) (tgM_7_61 kM0) (lnM_7_61 kM0) h_t_5 dX10_sideOf_36 ?_
  refine am_aload_n C0 dX10_sideOf_37 0 rfl ?_
  refine am_getR C0 (j := 37) ff_RX10_122 (loM_7_61 kM0).1 (loM_7_61 kM0).2.1 (loM_7_61 kM0).2.2.1 (loM_7_61 kM0).2.2.2 dX10_sideOf_38 ?_
  refine am_iload_n C0 dX10_sideOf_41 1 rfl ?_
  obtain ⟨t_6, h_t_6, h⟩ := am_bind h
  refine am_iald C0 (ltM (tgM_7_61 kM0)) (tgM_7_61 kM0) (lnM_7_61 kM0) h_t_6 dX10_sideOf_42 ?_
  refine am_isub C0 dX10_sideOf_43 ?_
  refine am_iload_n C0 dX10_sideOf_44 2 rfl ?_
  refine am_aload_n C0 dX10_sideOf_45 0 rfl ?_
  refine am_getR C0 (j := 36) ff_RX10_119 (loM_7_60 kM0).1 (loM_7_60 kM0).2.1 (loM_7_60 kM0).2.2.1 (loM_7_60 kM0).2.2.2 dX10_sideOf_46 ?_
  refine am_iload_n C0 dX10_sideOf_49 1 rfl ?_
  obtain ⟨t_7, h_t_7, h⟩ := am_bind h
  refine am_iald C0 (ltM (tgM_7_60 kM0)) (tgM_7_60 kM0) (lnM_7_60 kM0) h_t_7 dX10_sideOf_50 ?_
  refine am_isub C0 dX10_sideOf_51 ?_
  refine am_imul C0 dX10_sideOf_52 ?_
  refine am_isub C0 dX10_sideOf_53 ?_
  have e := Option.some.inj h
  subst e
  exact hret _ _ dX10_sideOf_54
set_option maxRecDepth 100000 in
set_option maxHeartbeats 4000000 in
theorem m_M_sideOf {l : Launch} {d : Nat} {σ : am_SS} {q : Int32} (hd : 2 ≤ d) (x1 : Int32) (x2 : Int32) (x3 : Int32) (h : M_sideOf x1 x2 x3 σ = some q) : am_Met l yX10_sideOf cX10_sideOf 5 (some .int) d 0 0 LM (fun b => [.ref (b 0), .int x1, .int x2, .int x3]) σ (some (.int q)) σ :=
  am_metI (plainFor_of_name (by decide)) rfl (lv := fun b => [(0, .ref (b 0)), (1, .int x1), (2, .int x2), (3, .int x3)]) (fun _ => rfl) (fun _ => Nat.le_of_ble_eq_true rfl) (fun G C0 _ hret => k_M_sideOf C0 hd hret x1 x2 x3  h)
set_option maxRecDepth 100000 in
set_option maxHeartbeats 4000000 in
theorem k_M_isOnEdge {G : am_T} {d0 : Nat} (C0 : am_C G cX10_isOnEdge 5 RX10 LM d0) (hd : 3 ≤ d0) {σ : am_SS} {q : Bool} (hret : am_retI G cX10_isOnEdge 5 (am_bI q) σ) (x1 : Int32) (x2 : Int32) (x3 : Int32) (h : M_isOnEdge x1 x2 x3 σ = some q) : am_K G 5 0 [(0, .ref (am_b G 0)), (1, .int x1), (2, .int x2), (3, .int x3)] [] σ := by
  unfold M_isOnEdge at h
  refine am_aload_n C0 dX10_isOnEdge_0 0 rfl ?_
  refine am_iload_n C0 dX10_isOnEdge_1 1 rfl ?_
  obtain ⟨q_1, h_q_1, h⟩ := am_bind h
  refine am_callV C0 (m_M_nextCorner (σ := σ) (Nat.le_refl _) x1  h_q_1) mm_yX10_nextCorner ln_RX10_462 (As := fun b => [.int x1]) (fun _ => rfl) (fun _ => rfl) (loM_7_0 kM0).1 (loM_7_0 kM0).2.1 rfl (Nat.le_trans (by decide) hd) rfl (Nat.le_of_ble_eq_true rfl) dX10_isOnEdge_2 ?_
  refine am_istore C0 dX10_isOnEdge_5 (by decide) rfl (lv' := [(0, .ref (am_b G 0)), (1, .int x1), (2, .int x2), (3, .int x3), (4, .int q_1)]) rfl ?_
  refine am_aload_n C0 dX10_isOnEdge_7 0 rfl ?_
  refine am_iload_n C0 dX10_isOnEdge_8 1 rfl ?_
  refine am_iload_n C0 dX10_isOnEdge_9 2 rfl ?_
  refine am_iload_n C0 dX10_isOnEdge_10 3 rfl ?_
  obtain ⟨q_2, h_q_2, h⟩ := am_bind h
  refine am_callV C0 (m_M_sideOf (σ := σ) (Nat.le_refl _) x1 x2 x3  h_q_2) mm_yX10_sideOf ln_RX10_465 (As := fun b => [.int x1, .int x2, .int x3]) (fun _ => rfl) (fun _ => rfl) (loM_7_0 kM0).1 (loM_7_0 kM0).2.1 rfl (Nat.le_trans (by decide) hd) rfl (Nat.le_of_ble_eq_true rfl) dX10_isOnEdge_11 ?_
  refine am_if_ne C0 dX10_isOnEdge_14 (tgt := 105) (by decide) (fun c_3 => ?_) (fun c_3 => ?_)
  · replace h := am_in h c_3
    refine am_iconst C0 dX10_isOnEdge_105 ci_0 ?_
    have e := Option.some.inj h
    subst e
    exact hret _ _ dX10_isOnEdge_106
  · replace h := am_ip h c_3
    refine am_aload_n C0 dX10_isOnEdge_17 0 rfl ?_
    refine am_iload_n C0 dX10_isOnEdge_18 2 rfl ?_
    refine am_aload_n C0 dX10_isOnEdge_19 0 rfl ?_
    refine am_aload_n C0 dX10_isOnEdge_20 0 rfl ?_
    refine am_getR C0 (j := 36) ff_RX10_119 (loM_7_60 kM0).1 (loM_7_60 kM0).2.1 (loM_7_60 kM0).2.2.1 (loM_7_60 kM0).2.2.2 dX10_isOnEdge_21 ?_
    refine am_iload_n C0 dX10_isOnEdge_24 1 rfl ?_
    obtain ⟨t_4, h_t_4, h⟩ := am_bind h
    refine am_iald C0 (ltM (tgM_7_60 kM0)) (tgM_7_60 kM0) (lnM_7_60 kM0) h_t_4 dX10_isOnEdge_25 ?_
    refine am_aload_n C0 dX10_isOnEdge_26 0 rfl ?_
    refine am_getR C0 (j := 36) ff_RX10_119 (loM_7_60 kM0).1 (loM_7_60 kM0).2.1 (loM_7_60 kM0).2.2.1 (loM_7_60 kM0).2.2.2 dX10_isOnEdge_27 ?_
    refine am_iload C0 dX10_isOnEdge_30 4 rfl ?_
    obtain ⟨t_5, h_t_5, h⟩ := am_bind h
    refine am_iald C0 (ltM (tgM_7_60 kM0)) (tgM_7_60 kM0) (lnM_7_60 kM0) h_t_5 dX10_isOnEdge_32 ?_
    refine am_callV C0 (m_M_lesser (σ := σ) (Nat.le_refl _) t_4 t_5  rfl) mm_yX10_lesser ln_RX10_350 (As := fun b => [.int t_4, .int t_5]) (fun _ => rfl) (fun _ => rfl) (loM_7_0 kM0).1 (loM_7_0 kM0).2.1 rfl (Nat.le_trans (by decide) hd) rfl (Nat.le_of_ble_eq_true rfl) dX10_isOnEdge_33 ?_
    refine am_aload_n C0 dX10_isOnEdge_36 0 rfl ?_
    refine am_aload_n C0 dX10_isOnEdge_37 0 rfl ?_
    refine am_getR C0 (j := 36) ff_RX10_119 (loM_7_60 kM0).1 (loM_7_60 kM0).2.1 (loM_7_60 kM0).2.2.1 (loM_7_60 kM0).2.2.2 dX10_isOnEdge_38 ?_
    refine am_iload_n C0 dX10_isOnEdge_41 1 rfl ?_
    obtain ⟨t_7, h_t_7, h⟩ := am_bind h
    refine am_iald C0 (ltM (tgM_7_60 kM0)) (tgM_7_60 kM0) (lnM_7_60 kM0) h_t_7 dX10_isOnEdge_42 ?_
    refine am_aload_n C0 dX10_isOnEdge_43 0 rfl ?_
    refine am_getR C0 (j := 36) ff_RX10_119 (loM_7_60 kM0).1 (loM_7_60 kM0).2.1 (loM_7_60 kM0).2.2.1 (loM_7_60 kM0).2.2.2 dX10_isOnEdge_44 ?_
    refine am_iload C0 dX10_isOnEdge_47 4 rfl ?_
    obtain ⟨t_8, h_t_8, h⟩ := am_bind h
    refine am_iald C0 (ltM (tgM_7_60 kM0)) (tgM_7_60 kM0) (lnM_7_60 kM0) h_t_8 dX10_isOnEdge_49 ?_
    refine am_callV C0 (m_M_greater (σ := σ) (Nat.le_refl _) t_7 t_8  rfl) mm_yX10_greater ln_RX10_368 (As := fun b => [.int t_7, .int t_8]) (fun _ => rfl) (fun _ => rfl) (loM_7_0 kM0).1 (loM_7_0 kM0).2.1 rfl (Nat.le_trans (by decide) hd) rfl (Nat.le_of_ble_eq_true rfl) dX10_isOnEdge_50 ?_
    refine am_callV C0 (m_M_isIn (σ := σ) (Nat.le_refl _) x2 (M_lesser t_4 t_5) (M_greater t_7 t_8)  rfl) mm_yX10_isIn ln_RX10_149 (As := fun b => [.int x2, .int (M_lesser t_4 t_5), .int (M_greater t_7 t_8)]) (fun _ => rfl) (fun _ => rfl) (loM_7_0 kM0).1 (loM_7_0 kM0).2.1 rfl (Nat.le_trans (by decide) hd) rfl (Nat.le_of_ble_eq_true rfl) dX10_isOnEdge_53 ?_
    refine am_ifB_eq C0 dX10_isOnEdge_56 (tgt := 105) (by decide) (fun c_11 => ?_) (fun c_11 => ?_)
    · replace h := am_in h c_11
      refine am_iconst C0 dX10_isOnEdge_105 ci_0 ?_
      have e := Option.some.inj h
      subst e
      exact hret _ _ dX10_isOnEdge_106
    · replace h := am_ip h c_11
      refine am_aload_n C0 dX10_isOnEdge_59 0 rfl ?_
      refine am_iload_n C0 dX10_isOnEdge_60 3 rfl ?_
      refine am_aload_n C0 dX10_isOnEdge_61 0 rfl ?_
      refine am_aload_n C0 dX10_isOnEdge_62 0 rfl ?_
      refine am_getR C0 (j := 37) ff_RX10_122 (loM_7_61 kM0).1 (loM_7_61 kM0).2.1 (loM_7_61 kM0).2.2.1 (loM_7_61 kM0).2.2.2 dX10_isOnEdge_63 ?_
      refine am_iload_n C0 dX10_isOnEdge_66 1 rfl ?_
      obtain ⟨t_12, h_t_12, h⟩ := am_bind h
      refine am_iald C0 (ltM (tgM_7_61 kM0)) (tgM_7_61 kM0) (lnM_7_61 kM0) h_t_12 dX10_isOnEdge_67 ?_
      refine am_aload_n C0 dX10_isOnEdge_68 0 rfl ?_
      refine am_getR C0 (j := 37) ff_RX10_122 (loM_7_61 kM0).1 (loM_7_61 kM0).2.1 (loM_7_61 kM0).2.2.1 (loM_7_61 kM0).2.2.2 dX10_isOnEdge_69 ?_
      refine am_iload C0 dX10_isOnEdge_72 4 rfl ?_
      obtain ⟨t_13, h_t_13, h⟩ := am_bind h
      refine am_iald C0 (ltM (tgM_7_61 kM0)) (tgM_7_61 kM0) (lnM_7_61 kM0) h_t_13 dX10_isOnEdge_74 ?_
      refine am_callV C0 (m_M_lesser (σ := σ) (Nat.le_refl _) t_12 t_13  rfl) mm_yX10_lesser ln_RX10_350 (As := fun b => [.int t_12, .int t_13]) (fun _ => rfl) (fun _ => rfl) (loM_7_0 kM0).1 (loM_7_0 kM0).2.1 rfl (Nat.le_trans (by decide) hd) rfl (Nat.le_of_ble_eq_true rfl) dX10_isOnEdge_75 ?_
      refine am_aload_n C0 dX10_isOnEdge_78 0 rfl ?_
      refine am_aload_n C0 dX10_isOnEdge_79 0 rfl ?_
      refine am_getR C0 (j := 37) ff_RX10_122 (loM_7_61 kM0).1 (loM_7_61 kM0).2.1 (loM_7_61 kM0).2.2.1 (loM_7_61 kM0).2.2.2 dX10_isOnEdge_80 ?_
      refine am_iload_n C0 dX10_isOnEdge_83 1 rfl ?_
      obtain ⟨t_15, h_t_15, h⟩ := am_bind h
      refine am_iald C0 (ltM (tgM_7_61 kM0)) (tgM_7_61 kM0) (lnM_7_61 kM0) h_t_15 dX10_isOnEdge_84 ?_
      refine am_aload_n C0 dX10_isOnEdge_85 0 rfl ?_
      refine am_getR C0 (j := 37) ff_RX10_122 (loM_7_61 kM0).1 (loM_7_61 kM0).2.1 (loM_7_61 kM0).2.2.1 (loM_7_61 kM0).2.2.2 dX10_isOnEdge_86 ?_
      refine am_iload C0 dX10_isOnEdge_89 4 rfl ?_
      obtain ⟨t_16, h_t_16, h⟩ := am_bind h
      refine am_iald C0 (ltM (tgM_7_61 kM0)) (tgM_7_61 kM0) (lnM_7_61 kM0) h_t_16 dX10_isOnEdge_91 ?_
      refine am_callV C0 (m_M_greater (σ := σ) (Nat.le_refl _) t_15 t_16  rfl) mm_yX10_greater ln_RX10_368 (As := fun b => [.int t_15, .int t_16]) (fun _ => rfl) (fun _ => rfl) (loM_7_0 kM0).1 (loM_7_0 kM0).2.1 rfl (Nat.le_trans (by decide) hd) rfl (Nat.le_of_ble_eq_true rfl) dX10_isOnEdge_92 ?_
      refine am_callV C0 (m_M_isIn (σ := σ) (Nat.le_refl _) x3 (M_lesser t_12 t_13) (M_greater t_15 t_16)  rfl) mm_yX10_isIn ln_RX10_149 (As := fun b => [.int x3, .int (M_lesser t_12 t_13), .int (M_greater t_15 t_16)]) (fun _ => rfl) (fun _ => rfl) (loM_7_0 kM0).1 (loM_7_0 kM0).2.1 rfl (Nat.le_trans (by decide) hd) rfl (Nat.le_of_ble_eq_true rfl) dX10_isOnEdge_95 ?_
      refine am_ifB_eq C0 dX10_isOnEdge_98 (tgt := 105) (by decide) (fun c_19 => ?_) (fun c_19 => ?_)
      · replace h := am_in h c_19
        refine am_iconst C0 dX10_isOnEdge_105 ci_0 ?_
        have e := Option.some.inj h
        subst e
        exact hret _ _ dX10_isOnEdge_106
      · replace h := am_ip h c_19
        refine am_iconst C0 dX10_isOnEdge_101 ci_1 ?_
        refine am_goto C0 dX10_isOnEdge_102 (tgt := 106) (by decide) ?_
        have e := Option.some.inj h
        subst e
        exact hret _ _ dX10_isOnEdge_106
set_option maxRecDepth 100000 in
set_option maxHeartbeats 4000000 in
theorem m_M_isOnEdge {l : Launch} {d : Nat} {σ : am_SS} {q : Bool} (hd : 3 ≤ d) (x1 : Int32) (x2 : Int32) (x3 : Int32) (h : M_isOnEdge x1 x2 x3 σ = some q) : am_Met l yX10_isOnEdge cX10_isOnEdge 5 (some .boolean) d 0 0 LM (fun b => [.ref (b 0), .int x1, .int x2, .int x3]) σ (some (.int (am_bI q))) σ :=
  am_metI (plainFor_of_name (by decide)) (am_bI_nr _) (lv := fun b => [(0, .ref (b 0)), (1, .int x1), (2, .int x2), (3, .int x3)]) (fun _ => rfl) (fun _ => Nat.le_of_ble_eq_true rfl) (fun G C0 _ hret => k_M_isOnEdge C0 hd hret x1 x2 x3  h)
set_option maxRecDepth 100000 in
set_option maxHeartbeats 4000000 in
theorem k_M_isMet {G : am_T} {d0 : Nat} (C0 : am_C G cX10_isMet 5 RX10 LM d0) (hd : 3 ≤ d0) {σ : am_SS} {q : Bool} (hret : am_retI G cX10_isMet 5 (am_bI q) σ) (x1 : Int32) (x2 : Int32) (x3 : Int32) (h : M_isMet x1 x2 x3 σ = some q) : am_K G 5 0 [(0, .ref (am_b G 0)), (1, .int x1), (2, .int x2), (3, .int x3)] [] σ := by
  unfold M_isMet at h
  refine am_aload_n C0 dX10_isMet_0 0 rfl ?_
  refine am_iload_n C0 dX10_isMet_1 1 rfl ?_
  obtain ⟨q_1, h_q_1, h⟩ := am_bind h
  refine am_callV C0 (m_M_nextCorner (σ := σ) (Nat.le_refl _) x1  h_q_1) mm_yX10_nextCorner ln_RX10_462 (As := fun b => [.int x1]) (fun _ => rfl) (fun _ => rfl) (loM_7_0 kM0).1 (loM_7_0 kM0).2.1 rfl (Nat.le_trans (by decide) hd) rfl (Nat.le_of_ble_eq_true rfl) dX10_isMet_2 ?_
  refine am_istore C0 dX10_isMet_5 (by decide) rfl (lv' := [(0, .ref (am_b G 0)), (1, .int x1), (2, .int x2), (3, .int x3), (4, .int q_1)]) rfl ?_
  refine am_aload_n C0 dX10_isMet_7 0 rfl ?_
  refine am_iload_n C0 dX10_isMet_8 3 rfl ?_
  refine am_aload_n C0 dX10_isMet_9 0 rfl ?_
  refine am_aload_n C0 dX10_isMet_10 0 rfl ?_
  refine am_getR C0 (j := 37) ff_RX10_122 (loM_7_61 kM0).1 (loM_7_61 kM0).2.1 (loM_7_61 kM0).2.2.1 (loM_7_61 kM0).2.2.2 dX10_isMet_11 ?_
  refine am_iload_n C0 dX10_isMet_14 1 rfl ?_
  obtain ⟨t_2, h_t_2, h⟩ := am_bind h
  refine am_iald C0 (ltM (tgM_7_61 kM0)) (tgM_7_61 kM0) (lnM_7_61 kM0) h_t_2 dX10_isMet_15 ?_
  refine am_aload_n C0 dX10_isMet_16 0 rfl ?_
  refine am_getR C0 (j := 37) ff_RX10_122 (loM_7_61 kM0).1 (loM_7_61 kM0).2.1 (loM_7_61 kM0).2.2.1 (loM_7_61 kM0).2.2.2 dX10_isMet_17 ?_
  refine am_iload C0 dX10_isMet_20 4 rfl ?_
  obtain ⟨t_3, h_t_3, h⟩ := am_bind h
  refine am_iald C0 (ltM (tgM_7_61 kM0)) (tgM_7_61 kM0) (lnM_7_61 kM0) h_t_3 dX10_isMet_22 ?_
  refine am_callV C0 (m_M_lesser (σ := σ) (Nat.le_refl _) t_2 t_3  rfl) mm_yX10_lesser ln_RX10_350 (As := fun b => [.int t_2, .int t_3]) (fun _ => rfl) (fun _ => rfl) (loM_7_0 kM0).1 (loM_7_0 kM0).2.1 rfl (Nat.le_trans (by decide) hd) rfl (Nat.le_of_ble_eq_true rfl) dX10_isMet_23 ?_
  refine am_aload_n C0 dX10_isMet_26 0 rfl ?_
  refine am_aload_n C0 dX10_isMet_27 0 rfl ?_
  refine am_getR C0 (j := 37) ff_RX10_122 (loM_7_61 kM0).1 (loM_7_61 kM0).2.1 (loM_7_61 kM0).2.2.1 (loM_7_61 kM0).2.2.2 dX10_isMet_28 ?_
  refine am_iload_n C0 dX10_isMet_31 1 rfl ?_
  obtain ⟨t_5, h_t_5, h⟩ := am_bind h
  refine am_iald C0 (ltM (tgM_7_61 kM0)) (tgM_7_61 kM0) (lnM_7_61 kM0) h_t_5 dX10_isMet_32 ?_
  refine am_aload_n C0 dX10_isMet_33 0 rfl ?_
  refine am_getR C0 (j := 37) ff_RX10_122 (loM_7_61 kM0).1 (loM_7_61 kM0).2.1 (loM_7_61 kM0).2.2.1 (loM_7_61 kM0).2.2.2 dX10_isMet_34 ?_
  refine am_iload C0 dX10_isMet_37 4 rfl ?_
  obtain ⟨t_6, h_t_6, h⟩ := am_bind h
  refine am_iald C0 (ltM (tgM_7_61 kM0)) (tgM_7_61 kM0) (lnM_7_61 kM0) h_t_6 dX10_isMet_39 ?_
  refine am_callV C0 (m_M_greater (σ := σ) (Nat.le_refl _) t_5 t_6  rfl) mm_yX10_greater ln_RX10_368 (As := fun b => [.int t_5, .int t_6]) (fun _ => rfl) (fun _ => rfl) (loM_7_0 kM0).1 (loM_7_0 kM0).2.1 rfl (Nat.le_trans (by decide) hd) rfl (Nat.le_of_ble_eq_true rfl) dX10_isMet_40 ?_
  refine am_iconst C0 dX10_isMet_43 ci_1 ?_
  refine am_isub C0 dX10_isMet_44 ?_
  refine am_callV C0 (m_M_isIn (σ := σ) (Nat.le_refl _) x3 (M_lesser t_2 t_3) ((M_greater t_5 t_6) - 1)  rfl) mm_yX10_isIn ln_RX10_149 (As := fun b => [.int x3, .int (M_lesser t_2 t_3), .int ((M_greater t_5 t_6) - 1)]) (fun _ => rfl) (fun _ => rfl) (loM_7_0 kM0).1 (loM_7_0 kM0).2.1 rfl (Nat.le_trans (by decide) hd) rfl (Nat.le_of_ble_eq_true rfl) dX10_isMet_45 ?_
  refine am_ifB_ne C0 dX10_isMet_48 (tgt := 53) (by decide) (fun c_9 => ?_) (fun c_9 => ?_)
  · replace h := am_ip h c_9
    refine am_aload_n C0 dX10_isMet_53 0 rfl ?_
    refine am_getR C0 (j := 37) ff_RX10_122 (loM_7_61 kM0).1 (loM_7_61 kM0).2.1 (loM_7_61 kM0).2.2.1 (loM_7_61 kM0).2.2.2 dX10_isMet_54 ?_
    refine am_iload C0 dX10_isMet_57 4 rfl ?_
    obtain ⟨t_10, h_t_10, h⟩ := am_bind h
    refine am_iald C0 (ltM (tgM_7_61 kM0)) (tgM_7_61 kM0) (lnM_7_61 kM0) h_t_10 dX10_isMet_59 ?_
    refine am_aload_n C0 dX10_isMet_60 0 rfl ?_
    refine am_getR C0 (j := 37) ff_RX10_122 (loM_7_61 kM0).1 (loM_7_61 kM0).2.1 (loM_7_61 kM0).2.2.1 (loM_7_61 kM0).2.2.2 dX10_isMet_61 ?_
    refine am_iload_n C0 dX10_isMet_64 1 rfl ?_
    obtain ⟨t_11, h_t_11, h⟩ := am_bind h
    refine am_iald C0 (ltM (tgM_7_61 kM0)) (tgM_7_61 kM0) (lnM_7_61 kM0) h_t_11 dX10_isMet_65 ?_
    refine am_icmp_le C0 dX10_isMet_66 (tgt := 87) (by decide) (fun c_12 => ?_) (fun c_12 => ?_)
    · replace h := am_in h c_12
      refine am_aload_n C0 dX10_isMet_87 0 rfl ?_
      refine am_iload_n C0 dX10_isMet_88 1 rfl ?_
      refine am_iload_n C0 dX10_isMet_89 2 rfl ?_
      refine am_iload_n C0 dX10_isMet_90 3 rfl ?_
      obtain ⟨q_13, h_q_13, h⟩ := am_bind h
      refine am_callV C0 (m_M_sideOf (σ := σ) (Nat.le_refl _) x1 x2 x3  h_q_13) mm_yX10_sideOf ln_RX10_465 (As := fun b => [.int x1, .int x2, .int x3]) (fun _ => rfl) (fun _ => rfl) (loM_7_0 kM0).1 (loM_7_0 kM0).2.1 rfl (Nat.le_trans (by decide) hd) rfl (Nat.le_of_ble_eq_true rfl) dX10_isMet_91 ?_
      refine am_if_ge C0 dX10_isMet_94 (tgt := 101) (by decide) (fun c_14 => ?_) (fun c_14 => ?_)
      · replace h := am_in h c_14
        refine am_iconst C0 dX10_isMet_101 ci_0 ?_
        have e := Option.some.inj h
        subst e
        exact hret _ _ dX10_isMet_102
      · replace h := am_ip h c_14
        refine am_iconst C0 dX10_isMet_97 ci_1 ?_
        refine am_goto C0 dX10_isMet_98 (tgt := 102) (by decide) ?_
        have e := Option.some.inj h
        subst e
        exact hret _ _ dX10_isMet_102
    · replace h := am_ip h c_12
      refine am_aload_n C0 dX10_isMet_69 0 rfl ?_
      refine am_iload_n C0 dX10_isMet_70 1 rfl ?_
      refine am_iload_n C0 dX10_isMet_71 2 rfl ?_
      refine am_iload_n C0 dX10_isMet_72 3 rfl ?_
      obtain ⟨q_15, h_q_15, h⟩ := am_bind h
      refine am_callV C0 (m_M_sideOf (σ := σ) (Nat.le_refl _) x1 x2 x3  h_q_15) mm_yX10_sideOf ln_RX10_465 (As := fun b => [.int x1, .int x2, .int x3]) (fun _ => rfl) (fun _ => rfl) (loM_7_0 kM0).1 (loM_7_0 kM0).2.1 rfl (Nat.le_trans (by decide) hd) rfl (Nat.le_of_ble_eq_true rfl) dX10_isMet_73 ?_
      refine am_if_le C0 dX10_isMet_76 (tgt := 83) (by decide) (fun c_16 => ?_) (fun c_16 => ?_)
      · replace h := am_in h c_16
        refine am_iconst C0 dX10_isMet_83 ci_0 ?_
        refine am_goto C0 dX10_isMet_84 (tgt := 102) (by decide) ?_
        have e := Option.some.inj h
        subst e
        exact hret _ _ dX10_isMet_102
      · replace h := am_ip h c_16
        refine am_iconst C0 dX10_isMet_79 ci_1 ?_
        refine am_goto C0 dX10_isMet_80 (tgt := 102) (by decide) ?_
        have e := Option.some.inj h
        subst e
        exact hret _ _ dX10_isMet_102
  · replace h := am_in h c_9
    refine am_iconst C0 dX10_isMet_51 ci_0 ?_
    have e := Option.some.inj h
    subst e
    exact hret _ _ dX10_isMet_52
set_option maxRecDepth 100000 in
set_option maxHeartbeats 4000000 in
theorem m_M_isMet {l : Launch} {d : Nat} {σ : am_SS} {q : Bool} (hd : 3 ≤ d) (x1 : Int32) (x2 : Int32) (x3 : Int32) (h : M_isMet x1 x2 x3 σ = some q) : am_Met l yX10_isMet cX10_isMet 5 (some .boolean) d 0 0 LM (fun b => [.ref (b 0), .int x1, .int x2, .int x3]) σ (some (.int (am_bI q))) σ :=
  am_metI (plainFor_of_name (by decide)) (am_bI_nr _) (lv := fun b => [(0, .ref (b 0)), (1, .int x1), (2, .int x2), (3, .int x3)]) (fun _ => rfl) (fun _ => Nat.le_of_ble_eq_true rfl) (fun G C0 _ hret => k_M_isMet C0 hd hret x1 x2 x3  h)
set_option maxRecDepth 100000 in
set_option maxHeartbeats 4000000 in
theorem k_M_within_p73 {G : am_T} {d0 : Nat} (C0 : am_C G cX10_within 5 RX10 LM d0) (hd : 4 ≤ d0) (rec36 : Int32 → Int32 → Int32 → Int32 → am_SS → Option (Int32 × am_SS)) (F : Nat) {q : Int32 × am_SS} (hret : am_retI G cX10_within 5 q.1 q.2) (hrec36 : ∀ (x1 : Int32) (x2 : Int32) (x3 : Int32) (x4 : Int32) (σ : am_SS), rec36 x1 x2 x3 x4 σ = some q → am_K G 5 36 [(0, .ref (am_b G 0)), (1, .int x1), (2, .int x2), (3, .int x3), (4, .int x4)] [] σ) (x1 : Int32) (x2 : Int32) (x3 : Int32) (x4 : Int32) (σ : am_SS) (h : M_within_p73 rec36 F x1 x2 x3 x4 σ = some q) : am_K G 5 73 [(0, .ref (am_b G 0)), (1, .int x1), (2, .int x2), (3, .int x3), (4, .int x4)] [] σ := by
  unfold M_within_p73 at h
  obtain ⟨x4_1, e_x4_1, h⟩ := am_lt h
  refine am_iinc C0 dX10_within_73 4 rfl (by rw [ci_1]; exact e_x4_1) (by decide) rfl (lv' := [(0, .ref (am_b G 0)), (1, .int x1), (2, .int x2), (3, .int x3), (4, .int x4_1)]) rfl ?_
  refine am_goto C0 dX10_within_76 (tgt := 36) (by decide) ?_
  exact am_sub [0, 1, 2, 3, 4] rfl (hrec36 x1 x2 x3 x4_1 σ  h)
set_option maxRecDepth 100000 in
set_option maxHeartbeats 4000000 in
theorem k_M_within_l36 {G : am_T} {d0 : Nat} (C0 : am_C G cX10_within 5 RX10 LM d0) (hd : 4 ≤ d0) (F : Nat) {q : Int32 × am_SS} (hret : am_retI G cX10_within 5 q.1 q.2) : ∀ (n : Nat) (x1 : Int32) (x2 : Int32) (x3 : Int32) (x4 : Int32) (σ : am_SS) (h : M_within_l36 F n x1 x2 x3 x4 σ = some q), am_K G 5 36 [(0, .ref (am_b G 0)), (1, .int x1), (2, .int x2), (3, .int x3), (4, .int x4)] [] σ := by
  intro n
  induction n with
  | zero =>
    intro x1 x2 x3 x4 σ h
    rw [M_within_l36] at h
    cases h
  | succ n ih =>
    intro x1 x2 x3 x4 σ h
    rw [M_within_l36] at h
    refine am_iload C0 dX10_within_36 4 rfl ?_
    refine am_aload_n C0 dX10_within_38 0 rfl ?_
    refine am_getI C0 ff_RX10_459 (loM_7_59 kM0).1 (loM_7_59 kM0).2.1 (loM_7_59 kM0).2.2.1 (loM_7_59 kM0).2.2.2 dX10_within_39 ?_
    refine am_icmp_ge C0 dX10_within_42 (tgt := 79) (by decide) (fun c_1 => ?_) (fun c_1 => ?_)
    · replace h := am_in h c_1
      refine am_iload_n C0 dX10_within_79 3 rfl ?_
      refine am_iconst C0 dX10_within_80 ci_2 ?_
      refine am_irem C0 dX10_within_81 nz_2 ?_
      have e := Option.some.inj h
      subst e
      exact hret _ _ dX10_within_82
    · replace h := am_ip h c_1
      refine am_aload_n C0 dX10_within_45 0 rfl ?_
      refine am_iload C0 dX10_within_46 4 rfl ?_
      refine am_iload_n C0 dX10_within_48 1 rfl ?_
      refine am_iload_n C0 dX10_within_49 2 rfl ?_
      obtain ⟨q_2, h_q_2, h⟩ := am_bind h
      refine am_callV C0 (m_M_isOnEdge (σ := σ) (Nat.le_refl _) x4 x1 x2  h_q_2) mm_yX10_isOnEdge ln_RX10_468 (As := fun b => [.int x4, .int x1, .int x2]) (fun _ => rfl) (fun _ => rfl) (loM_7_0 kM0).1 (loM_7_0 kM0).2.1 rfl (Nat.le_trans (by decide) hd) rfl (Nat.le_of_ble_eq_true rfl) dX10_within_50 ?_
      refine am_ifB_eq C0 dX10_within_53 (tgt := 58) (by decide) (fun c_3 => ?_) (fun c_3 => ?_)
      · replace h := am_in h c_3
        refine am_aload_n C0 dX10_within_58 0 rfl ?_
        refine am_iload C0 dX10_within_59 4 rfl ?_
        refine am_iload_n C0 dX10_within_61 1 rfl ?_
        refine am_iload_n C0 dX10_within_62 2 rfl ?_
        obtain ⟨q_4, h_q_4, h⟩ := am_bind h
        refine am_callV C0 (m_M_isMet (σ := σ) (Nat.le_refl _) x4 x1 x2  h_q_4) mm_yX10_isMet ln_RX10_471 (As := fun b => [.int x4, .int x1, .int x2]) (fun _ => rfl) (fun _ => rfl) (loM_7_0 kM0).1 (loM_7_0 kM0).2.1 rfl (Nat.le_trans (by decide) hd) rfl (Nat.le_of_ble_eq_true rfl) dX10_within_63 ?_
        refine am_ifB_eq C0 dX10_within_66 (tgt := 73) (by decide) (fun c_5 => ?_) (fun c_5 => ?_)
        · replace h := am_in h c_5
          exact am_sub [0, 1, 2, 3, 4] rfl (k_M_within_p73 C0 hd _ F hret (fun z1 z2 z3 z4 zs z => ih z1 z2 z3 z4 zs z) x1 x2 x3 x4 σ  h)
        · replace h := am_ip h c_5
          refine am_iload_n C0 dX10_within_69 3 rfl ?_
          refine am_iconst C0 dX10_within_70 ci_1 ?_
          refine am_iadd C0 dX10_within_71 ?_
          obtain ⟨x3_6, e_x3_6, h⟩ := am_lt h
          refine am_top e_x3_6 ?_
          refine am_istore_n C0 dX10_within_72 rfl (by decide) rfl (lv' := [(0, .ref (am_b G 0)), (1, .int x1), (2, .int x2), (3, .int x3_6), (4, .int x4)]) rfl ?_
          exact am_sub [0, 1, 2, 3, 4] rfl (k_M_within_p73 C0 hd _ F hret (fun z1 z2 z3 z4 zs z => ih z1 z2 z3 z4 zs z) x1 x2 x3_6 x4 σ  h)
      · replace h := am_ip h c_3
        refine am_iconst C0 dX10_within_56 ci_2 ?_
        have e := Option.some.inj h
        subst e
        exact hret _ _ dX10_within_57
set_option maxRecDepth 100000 in
set_option maxHeartbeats 4000000 in
theorem k_M_within {G : am_T} {d0 : Nat} (C0 : am_C G cX10_within 5 RX10 LM d0) (hd : 4 ≤ d0) (F : Nat) {q : Int32 × am_SS} (hret : am_retI G cX10_within 5 q.1 q.2) (x1 : Int32) (x2 : Int32) (σ : am_SS) (h : M_within F x1 x2 σ = some q) : am_K G 5 0 [(0, .ref (am_b G 0)), (1, .int x1), (2, .int x2)] [] σ := by
  unfold M_within at h
  refine am_aload_n C0 dX10_within_0 0 rfl ?_
  refine am_iconst C0 dX10_within_1 ci_0 ?_
  obtain ⟨σ_1, e_σ_1, h⟩ := am_lt h
  refine am_putI C0 e_σ_1 fp_RX10_131 (loM_7_0 kM0).1 (loM_7_0 kM0).2.1 (loM_7_0 kM0).2.2.1 (loM_7_0 kM0).2.2.2 rfl rfl dX10_within_2 ?_
  refine am_aload_n C0 dX10_within_5 0 rfl ?_
  refine am_iload_n C0 dX10_within_6 1 rfl ?_
  refine am_bipush C0 dX10_within_7 kb_m50 ?_
  refine am_bipush C0 dX10_within_9 kb_50 ?_
  refine am_callV C0 (m_M_isIn (σ := σ_1) (Nat.le_refl _) x1 (-50) 50  rfl) mm_yX10_isIn ln_RX10_149 (As := fun b => [.int x1, .int (-50), .int 50]) (fun _ => rfl) (fun _ => rfl) (loM_7_0 kM0).1 (loM_7_0 kM0).2.1 rfl (Nat.le_trans (by decide) hd) rfl (Nat.le_of_ble_eq_true rfl) dX10_within_11 ?_
  refine am_ifB_eq C0 dX10_within_14 (tgt := 29) (by decide) (fun c_3 => ?_) (fun c_3 => ?_)
  · replace h := am_in h c_3
    refine am_iconst C0 dX10_within_29 ci_m1 ?_
    have e := Option.some.inj h
    subst e
    exact hret _ _ dX10_within_30
  · replace h := am_ip h c_3
    refine am_aload_n C0 dX10_within_17 0 rfl ?_
    refine am_iload_n C0 dX10_within_18 2 rfl ?_
    refine am_bipush C0 dX10_within_19 kb_m50 ?_
    refine am_bipush C0 dX10_within_21 kb_50 ?_
    refine am_callV C0 (m_M_isIn (σ := σ_1) (Nat.le_refl _) x2 (-50) 50  rfl) mm_yX10_isIn ln_RX10_149 (As := fun b => [.int x2, .int (-50), .int 50]) (fun _ => rfl) (fun _ => rfl) (loM_7_0 kM0).1 (loM_7_0 kM0).2.1 rfl (Nat.le_trans (by decide) hd) rfl (Nat.le_of_ble_eq_true rfl) dX10_within_23 ?_
    refine am_ifB_ne C0 dX10_within_26 (tgt := 31) (by decide) (fun c_5 => ?_) (fun c_5 => ?_)
    · replace h := am_ip h c_5
      refine am_iconst C0 dX10_within_31 ci_0 ?_
      refine am_istore_n C0 dX10_within_32 rfl (by decide) rfl (lv' := [(0, .ref (am_b G 0)), (1, .int x1), (2, .int x2), (3, .int 0)]) rfl ?_
      refine am_iconst C0 dX10_within_33 ci_0 ?_
      refine am_istore C0 dX10_within_34 (by decide) rfl (lv' := [(0, .ref (am_b G 0)), (1, .int x1), (2, .int x2), (3, .int 0), (4, .int 0)]) rfl ?_
      exact am_sub [0, 1, 2, 3, 4] rfl (k_M_within_l36 C0 hd F hret F x1 x2 0 0 σ_1  h)
    · replace h := am_in h c_5
      refine am_iconst C0 dX10_within_29 ci_m1 ?_
      have e := Option.some.inj h
      subst e
      exact hret _ _ dX10_within_30
set_option maxRecDepth 100000 in
set_option maxHeartbeats 4000000 in
theorem m_M_within {l : Launch} {d : Nat} {σ : am_SS} {q : Int32 × am_SS} (hd : 4 ≤ d) (F : Nat) (x1 : Int32) (x2 : Int32) (h : M_within F x1 x2 σ = some q) : am_Met l yX10_within cX10_within 5 (some .int) d 0 0 LM (fun b => [.ref (b 0), .int x1, .int x2]) σ (some (.int q.1)) q.2 :=
  am_metI (plainFor_of_name (by decide)) rfl (lv := fun b => [(0, .ref (b 0)), (1, .int x1), (2, .int x2)]) (fun _ => rfl) (fun _ => Nat.le_of_ble_eq_true rfl) (fun G C0 _ hret => k_M_within C0 hd F hret x1 x2 σ  h)
set_option maxRecDepth 100000 in
set_option maxHeartbeats 4000000 in
theorem k_M_area_l9 {G : am_T} {d0 : Nat} (C0 : am_C G cX10_area 3 RX10 LM d0) (hd : 2 ≤ d0) (F : Nat) {q : Int32 × am_SS} (hret : am_retI G cX10_area 3 q.1 q.2) : ∀ (n : Nat) (x1 : Int32) (x2 : Int32) (σ : am_SS) (h : M_area_l9 F n x1 x2 σ = some q), am_K G 3 9 [(0, .ref (am_b G 0)), (1, .int x1), (2, .int x2)] [] σ := by
  intro n
  induction n with
  | zero =>
    intro x1 x2 σ h
    rw [M_area_l9] at h
    cases h
  | succ n ih =>
    intro x1 x2 σ h
    rw [M_area_l9] at h
    refine am_iload_n C0 dX10_area_9 2 rfl ?_
    refine am_aload_n C0 dX10_area_10 0 rfl ?_
    refine am_getI C0 ff_RX10_459 (loM_7_59 kM0).1 (loM_7_59 kM0).2.1 (loM_7_59 kM0).2.2.1 (loM_7_59 kM0).2.2.2 dX10_area_11 ?_
    refine am_icmp_ge C0 dX10_area_14 (tgt := 69) (by decide) (fun c_1 => ?_) (fun c_1 => ?_)
    · replace h := am_in h c_1
      refine am_iload_n C0 dX10_area_69 1 rfl ?_
      have e := Option.some.inj h
      subst e
      exact hret _ _ dX10_area_70
    · replace h := am_ip h c_1
      refine am_aload_n C0 dX10_area_17 0 rfl ?_
      refine am_getI C0 ff_RX10_459 (loM_7_59 kM0).1 (loM_7_59 kM0).2.1 (loM_7_59 kM0).2.2.1 (loM_7_59 kM0).2.2.2 dX10_area_18 ?_
      refine am_iconst C0 dX10_area_21 ci_2 ?_
      refine am_icmp_le C0 dX10_area_22 (tgt := 69) (by decide) (fun c_2 => ?_) (fun c_2 => ?_)
      · replace h := am_in h c_2
        refine am_iload_n C0 dX10_area_69 1 rfl ?_
        have e := Option.some.inj h
        subst e
        exact hret _ _ dX10_area_70
      · replace h := am_ip h c_2
        refine am_iload_n C0 dX10_area_25 1 rfl ?_
        refine am_aload_n C0 dX10_area_26 0 rfl ?_
        refine am_getR C0 (j := 36) ff_RX10_119 (loM_7_60 kM0).1 (loM_7_60 kM0).2.1 (loM_7_60 kM0).2.2.1 (loM_7_60 kM0).2.2.2 dX10_area_27 ?_
        refine am_iload_n C0 dX10_area_30 2 rfl ?_
        obtain ⟨t_3, h_t_3, h⟩ := am_bind h
        refine am_iald C0 (ltM (tgM_7_60 kM0)) (tgM_7_60 kM0) (lnM_7_60 kM0) h_t_3 dX10_area_31 ?_
        refine am_aload_n C0 dX10_area_32 0 rfl ?_
        refine am_getR C0 (j := 37) ff_RX10_122 (loM_7_61 kM0).1 (loM_7_61 kM0).2.1 (loM_7_61 kM0).2.2.1 (loM_7_61 kM0).2.2.2 dX10_area_33 ?_
        refine am_aload_n C0 dX10_area_36 0 rfl ?_
        refine am_iload_n C0 dX10_area_37 2 rfl ?_
        obtain ⟨q_4, h_q_4, h⟩ := am_bind h
        refine am_callV C0 (m_M_nextCorner (σ := σ) (Nat.le_refl _) x2  h_q_4) mm_yX10_nextCorner ln_RX10_462 (As := fun b => [.int x2]) (fun _ => rfl) (fun _ => rfl) (loM_7_0 kM0).1 (loM_7_0 kM0).2.1 rfl (Nat.le_trans (by decide) hd) rfl (Nat.le_of_ble_eq_true rfl) dX10_area_38 ?_
        obtain ⟨t_5, h_t_5, h⟩ := am_bind h
        refine am_iald C0 (ltM (tgM_7_61 kM0)) (tgM_7_61 kM0) (lnM_7_61 kM0) h_t_5 dX10_area_41 ?_
        refine am_imul C0 dX10_area_42 ?_
        refine am_iadd C0 dX10_area_43 ?_
        refine am_aload_n C0 dX10_area_44 0 rfl ?_
        refine am_getR C0 (j := 36) ff_RX10_119 (loM_7_60 kM0).1 (loM_7_60 kM0).2.1 (loM_7_60 kM0).2.2.1 (loM_7_60 kM0).2.2.2 dX10_area_45 ?_
        refine am_aload_n C0 dX10_area_48 0 rfl ?_
        refine am_iload_n C0 dX10_area_49 2 rfl ?_
        obtain ⟨q_6, h_q_6, h⟩ := am_bind h
        refine am_callV C0 (m_M_nextCorner (σ := σ) (Nat.le_refl _) x2  h_q_6) mm_yX10_nextCorner ln_RX10_462 (As := fun b => [.int x2]) (fun _ => rfl) (fun _ => rfl) (loM_7_0 kM0).1 (loM_7_0 kM0).2.1 rfl (Nat.le_trans (by decide) hd) rfl (Nat.le_of_ble_eq_true rfl) dX10_area_50 ?_
        obtain ⟨t_7, h_t_7, h⟩ := am_bind h
        refine am_iald C0 (ltM (tgM_7_60 kM0)) (tgM_7_60 kM0) (lnM_7_60 kM0) h_t_7 dX10_area_53 ?_
        refine am_aload_n C0 dX10_area_54 0 rfl ?_
        refine am_getR C0 (j := 37) ff_RX10_122 (loM_7_61 kM0).1 (loM_7_61 kM0).2.1 (loM_7_61 kM0).2.2.1 (loM_7_61 kM0).2.2.2 dX10_area_55 ?_
        refine am_iload_n C0 dX10_area_58 2 rfl ?_
        obtain ⟨t_8, h_t_8, h⟩ := am_bind h
        refine am_iald C0 (ltM (tgM_7_61 kM0)) (tgM_7_61 kM0) (lnM_7_61 kM0) h_t_8 dX10_area_59 ?_
        refine am_imul C0 dX10_area_60 ?_
        refine am_isub C0 dX10_area_61 ?_
        obtain ⟨x1_9, e_x1_9, h⟩ := am_lt h
        refine am_top e_x1_9 ?_
        refine am_istore_n C0 dX10_area_62 rfl (by decide) rfl (lv' := [(0, .ref (am_b G 0)), (1, .int x1_9), (2, .int x2)]) rfl ?_
        obtain ⟨x2_10, e_x2_10, h⟩ := am_lt h
        refine am_iinc C0 dX10_area_63 2 rfl (by rw [ci_1]; exact e_x2_10) (by decide) rfl (lv' := [(0, .ref (am_b G 0)), (1, .int x1_9), (2, .int x2_10)]) rfl ?_
        refine am_goto C0 dX10_area_66 (tgt := 9) (by decide) ?_
        exact am_sub [0, 1, 2] rfl (ih x1_9 x2_10 σ  h)
set_option maxRecDepth 100000 in
set_option maxHeartbeats 4000000 in
theorem k_M_area {G : am_T} {d0 : Nat} (C0 : am_C G cX10_area 3 RX10 LM d0) (hd : 2 ≤ d0) (F : Nat) {q : Int32 × am_SS} (hret : am_retI G cX10_area 3 q.1 q.2) (σ : am_SS) (h : M_area F  σ = some q) : am_K G 3 0 [(0, .ref (am_b G 0))] [] σ := by
  unfold M_area at h
  refine am_aload_n C0 dX10_area_0 0 rfl ?_
  refine am_iconst C0 dX10_area_1 ci_0 ?_
  obtain ⟨σ_1, e_σ_1, h⟩ := am_lt h
  refine am_putI C0 e_σ_1 fp_RX10_131 (loM_7_0 kM0).1 (loM_7_0 kM0).2.1 (loM_7_0 kM0).2.2.1 (loM_7_0 kM0).2.2.2 rfl rfl dX10_area_2 ?_
  refine am_iconst C0 dX10_area_5 ci_0 ?_
  refine am_istore_n C0 dX10_area_6 rfl (by decide) rfl (lv' := [(0, .ref (am_b G 0)), (1, .int 0)]) rfl ?_
  refine am_iconst C0 dX10_area_7 ci_0 ?_
  refine am_istore_n C0 dX10_area_8 rfl (by decide) rfl (lv' := [(0, .ref (am_b G 0)), (1, .int 0), (2, .int 0)]) rfl ?_
  exact am_sub [0, 1, 2] rfl (k_M_area_l9 C0 hd F hret F 0 0 σ_1  h)
set_option maxRecDepth 100000 in
set_option maxHeartbeats 4000000 in
theorem m_M_area {l : Launch} {d : Nat} {σ : am_SS} {q : Int32 × am_SS} (hd : 2 ≤ d) (F : Nat) (h : M_area F  σ = some q) : am_Met l yX10_area cX10_area 3 (some .int) d 0 0 LM (fun b => [.ref (b 0)]) σ (some (.int q.1)) q.2 :=
  am_metI (plainFor_of_name (by decide)) rfl (lv := fun b => [(0, .ref (b 0))]) (fun _ => rfl) (fun _ => Nat.le_of_ble_eq_true rfl) (fun G C0 _ hret => k_M_area C0 hd F hret  σ  h)
set_option maxRecDepth 100000 in
set_option maxHeartbeats 4000000 in
theorem k_M_parts_p132 {G : am_T} {d0 : Nat} (C0 : am_C G cX10_parts 9 RX10 LM d0) (hd : 2 ≤ d0) (rec103 : Int32 → Int32 → Int32 → Int32 → Int32 → am_SS → Option (Int32 × am_SS)) (F : Nat) {q : Int32 × am_SS} (hret : am_retI G cX10_parts 9 q.1 q.2) (hrec103 : ∀ (x1 : Int32) (x2 : Int32) (x6 : Int32) (x7 : Int32) (x8 : Int32) (σ : am_SS), rec103 x1 x2 x6 x7 x8 σ = some q → am_K G 9 103 [(1, .int x1), (2, .int x2), (6, .int x6), (7, .int x7), (8, .int x8)] [] σ) (x1 : Int32) (x2 : Int32) (x6 : Int32) (x7 : Int32) (x8 : Int32) (σ : am_SS) (h : M_parts_p132 rec103 F x1 x2 x6 x7 x8 σ = some q) : am_K G 9 132 [(1, .int x1), (2, .int x2), (6, .int x6), (7, .int x7), (8, .int x8)] [] σ := by
  unfold M_parts_p132 at h
  obtain ⟨x8_1, e_x8_1, h⟩ := am_lt h
  refine am_iinc C0 dX10_parts_132 4 rfl (by rw [ci_1]; exact e_x8_1) (by decide) rfl (lv' := [(1, .int x1), (2, .int x2), (6, .int x6), (7, .int x7), (8, .int x8_1)]) rfl ?_
  refine am_goto C0 dX10_parts_135 (tgt := 103) (by decide) ?_
  exact am_sub [0, 1, 2, 3, 4] rfl (hrec103 x1 x2 x6 x7 x8_1 σ  h)
set_option maxRecDepth 100000 in
set_option maxHeartbeats 4000000 in
theorem k_M_parts_l103 {G : am_T} {d0 : Nat} (C0 : am_C G cX10_parts 9 RX10 LM d0) (hd : 2 ≤ d0) (F : Nat) {q : Int32 × am_SS} (hret : am_retI G cX10_parts 9 q.1 q.2) : ∀ (n : Nat) (x1 : Int32) (x2 : Int32) (x6 : Int32) (x7 : Int32) (x8 : Int32) (σ : am_SS) (h : M_parts_l103 F n x1 x2 x6 x7 x8 σ = some q), am_K G 9 103 [(1, .int x1), (2, .int x2), (6, .int x6), (7, .int x7), (8, .int x8)] [] σ := by
  intro n
  induction n with
  | zero =>
    intro x1 x2 x6 x7 x8 σ h
    rw [M_parts_l103] at h
    cases h
  | succ n ih =>
    intro x1 x2 x6 x7 x8 σ h
    rw [M_parts_l103] at h
    refine am_iload C0 dX10_parts_103 4 rfl ?_
    refine am_iload_n C0 dX10_parts_105 0 rfl ?_
    refine am_icmp_gt C0 dX10_parts_106 (tgt := 138) (by decide) (fun c_1 => ?_) (fun c_1 => ?_)
    · replace h := am_ip h c_1
      refine am_iload_n C0 dX10_parts_138 1 rfl ?_
      refine am_iconst C0 dX10_parts_139 ci_2 ?_
      refine am_icmp_ne C0 dX10_parts_140 (tgt := 148) (by decide) (fun c_2 => ?_) (fun c_2 => ?_)
      · replace h := am_in h c_2
        refine am_iload C0 dX10_parts_148 3 rfl ?_
        have e := Option.some.inj h
        subst e
        exact hret _ _ dX10_parts_150
      · replace h := am_ip h c_2
        refine am_iload C0 dX10_parts_143 2 rfl ?_
        refine am_goto C0 dX10_parts_145 (tgt := 150) (by decide) ?_
        have e := Option.some.inj h
        subst e
        exact hret _ _ dX10_parts_150
    · replace h := am_in h c_1
      refine am_iload_n C0 dX10_parts_109 0 rfl ?_
      refine am_iload C0 dX10_parts_110 4 rfl ?_
      obtain ⟨hz_3, h⟩ := am_gd h
      refine am_irem C0 dX10_parts_112 hz_3 ?_
      refine am_if_eq C0 dX10_parts_113 (tgt := 119) (by decide) (fun c_4 => ?_) (fun c_4 => ?_)
      · replace h := am_ip h c_4
        refine am_iload C0 dX10_parts_119 2 rfl ?_
        refine am_iconst C0 dX10_parts_121 ci_1 ?_
        refine am_iadd C0 dX10_parts_122 ?_
        obtain ⟨x6_5, e_x6_5, h⟩ := am_lt h
        refine am_top e_x6_5 ?_
        refine am_istore C0 dX10_parts_123 (by decide) rfl (lv' := [(1, .int x1), (2, .int x2), (6, .int x6_5), (7, .int x7), (8, .int x8)]) rfl ?_
        refine am_iload C0 dX10_parts_125 3 rfl ?_
        refine am_iload C0 dX10_parts_127 4 rfl ?_
        refine am_iadd C0 dX10_parts_129 ?_
        obtain ⟨x7_6, e_x7_6, h⟩ := am_lt h
        refine am_top e_x7_6 ?_
        refine am_istore C0 dX10_parts_130 (by decide) rfl (lv' := [(1, .int x1), (2, .int x2), (6, .int x6_5), (7, .int x7_6), (8, .int x8)]) rfl ?_
        exact am_sub [0, 1, 2, 3, 4] rfl (k_M_parts_p132 C0 hd _ F hret (fun z0 z1 z2 z3 z4 zs z => ih z0 z1 z2 z3 z4 zs z) x1 x2 x6_5 x7_6 x8 σ  h)
      · replace h := am_in h c_4
        refine am_goto C0 dX10_parts_116 (tgt := 132) (by decide) ?_
        exact am_sub [0, 1, 2, 3, 4] rfl (k_M_parts_p132 C0 hd _ F hret (fun z0 z1 z2 z3 z4 zs z => ih z0 z1 z2 z3 z4 zs z) x1 x2 x6 x7 x8 σ  h)
set_option maxRecDepth 100000 in
set_option maxHeartbeats 4000000 in
theorem k_M_parts_l46 {G : am_T} {d0 : Nat} (C0 : am_C G cX10_parts 9 RX10 LM d0) (hd : 2 ≤ d0) (rec40 : Int32 → Int32 → Int32 → Int32 → Int32 → Int32 → am_SS → Option (Int32 × am_SS)) (F : Nat) {q : Int32 × am_SS} (hret : am_retI G cX10_parts 9 q.1 q.2) (hrec40 : ∀ (x1 : Int32) (x2 : Int32) (x3 : Int32) (x4 : Int32) (x5 : Int32) (x6 : Int32) (σ : am_SS), rec40 x1 x2 x3 x4 x5 x6 σ = some q → am_K G 9 40 [(1, .int x1), (2, .int x2), (3, .int x3), (4, .int x4), (5, .int x5), (6, .int x6)] [] σ) : ∀ (n : Nat) (x1 : Int32) (x2 : Int32) (x3 : Int32) (x4 : Int32) (x5 : Int32) (x6 : Int32) (σ : am_SS) (h : M_parts_l46 rec40 F n x1 x2 x3 x4 x5 x6 σ = some q), am_K G 9 46 [(1, .int x1), (2, .int x2), (3, .int x3), (4, .int x4), (5, .int x5), (6, .int x6)] [] σ := by
  intro n
  induction n with
  | zero =>
    intro x1 x2 x3 x4 x5 x6 σ h
    rw [M_parts_l46] at h
    cases h
  | succ n ih =>
    intro x1 x2 x3 x4 x5 x6 σ h
    rw [M_parts_l46] at h
    refine am_iload C0 dX10_parts_46 4 rfl ?_
    refine am_iload C0 dX10_parts_48 5 rfl ?_
    obtain ⟨hz_1, h⟩ := am_gd h
    refine am_irem C0 dX10_parts_50 hz_1 ?_
    refine am_if_ne C0 dX10_parts_51 (tgt := 72) (by decide) (fun c_2 => ?_) (fun c_2 => ?_)
    · replace h := am_in h c_2
      obtain ⟨x6_3, e_x6_3, h⟩ := am_lt h
      refine am_iinc C0 dX10_parts_72 5 rfl (by rw [ci_1]; exact e_x6_3) (by decide) rfl (lv' := [(1, .int x1), (2, .int x2), (3, .int x3), (4, .int x4), (5, .int x5), (6, .int x6_3)]) rfl ?_
      refine am_goto C0 dX10_parts_75 (tgt := 40) (by decide) ?_
      exact am_sub [0, 1, 2, 3, 4, 5] rfl (hrec40 x1 x2 x3 x4 x5 x6_3 σ  h)
    · replace h := am_ip h c_2
      refine am_iload C0 dX10_parts_54 4 rfl ?_
      refine am_iload C0 dX10_parts_56 5 rfl ?_
      obtain ⟨hz_4, h⟩ := am_gd h
      refine am_idiv C0 dX10_parts_58 hz_4 ?_
      obtain ⟨x5_5, e_x5_5, h⟩ := am_lt h
      refine am_top e_x5_5 ?_
      refine am_istore C0 dX10_parts_59 (by decide) rfl (lv' := [(1, .int x1), (2, .int x2), (3, .int x3), (4, .int x4), (5, .int x5_5), (6, .int x6)]) rfl ?_
      refine am_iload_n C0 dX10_parts_61 2 rfl ?_
      refine am_iconst C0 dX10_parts_62 ci_1 ?_
      refine am_iadd C0 dX10_parts_63 ?_
      obtain ⟨x3_6, e_x3_6, h⟩ := am_lt h
      refine am_top e_x3_6 ?_
      refine am_istore_n C0 dX10_parts_64 rfl (by decide) rfl (lv' := [(1, .int x1), (2, .int x2), (3, .int x3_6), (4, .int x4), (5, .int x5_5), (6, .int x6)]) rfl ?_
      refine am_iload C0 dX10_parts_65 5 rfl ?_
      refine am_istore C0 dX10_parts_67 (by decide) rfl (lv' := [(1, .int x1), (2, .int x2), (3, .int x3_6), (4, .int x6), (5, .int x5_5), (6, .int x6)]) rfl ?_
      refine am_goto C0 dX10_parts_69 (tgt := 46) (by decide) ?_
      exact am_sub [0, 1, 2, 3, 4, 5] rfl (ih x1 x2 x3_6 x6 x5_5 x6 σ  h)
set_option maxRecDepth 100000 in
set_option maxHeartbeats 4000000 in
theorem k_M_parts_l40 {G : am_T} {d0 : Nat} (C0 : am_C G cX10_parts 9 RX10 LM d0) (hd : 2 ≤ d0) (F : Nat) {q : Int32 × am_SS} (hret : am_retI G cX10_parts 9 q.1 q.2) : ∀ (n : Nat) (x1 : Int32) (x2 : Int32) (x3 : Int32) (x4 : Int32) (x5 : Int32) (x6 : Int32) (σ : am_SS) (h : M_parts_l40 F n x1 x2 x3 x4 x5 x6 σ = some q), am_K G 9 40 [(1, .int x1), (2, .int x2), (3, .int x3), (4, .int x4), (5, .int x5), (6, .int x6)] [] σ := by
  intro n
  induction n with
  | zero =>
    intro x1 x2 x3 x4 x5 x6 σ h
    rw [M_parts_l40] at h
    cases h
  | succ n ih =>
    intro x1 x2 x3 x4 x5 x6 σ h
    rw [M_parts_l40] at h
    refine am_iload C0 dX10_parts_40 4 rfl ?_
    refine am_iconst C0 dX10_parts_42 ci_1 ?_
    refine am_icmp_le C0 dX10_parts_43 (tgt := 78) (by decide) (fun c_1 => ?_) (fun c_1 => ?_)
    · replace h := am_in h c_1
      refine am_iload_n C0 dX10_parts_78 1 rfl ?_
      refine am_iconst C0 dX10_parts_79 ci_2 ?_
      refine am_icmp_ge C0 dX10_parts_80 (tgt := 94) (by decide) (fun c_2 => ?_) (fun c_2 => ?_)
      · replace h := am_in h c_2
        refine am_iconst C0 dX10_parts_94 ci_0 ?_
        refine am_istore C0 dX10_parts_95 (by decide) rfl (lv' := [(1, .int x1), (2, .int x2), (3, .int x3), (4, .int x4), (5, .int x5), (6, .int 0)]) rfl ?_
        refine am_iconst C0 dX10_parts_97 ci_0 ?_
        refine am_istore C0 dX10_parts_98 (by decide) rfl (lv' := [(1, .int x1), (2, .int x2), (3, .int x3), (4, .int x4), (5, .int x5), (6, .int 0), (7, .int 0)]) rfl ?_
        refine am_iconst C0 dX10_parts_100 ci_1 ?_
        refine am_istore C0 dX10_parts_101 (by decide) rfl (lv' := [(1, .int x1), (2, .int x2), (3, .int x3), (4, .int x4), (5, .int x5), (6, .int 0), (7, .int 0), (8, .int 1)]) rfl ?_
        exact am_sub [0, 1, 5, 6, 7] rfl (k_M_parts_l103 C0 hd F hret F x1 x2 0 0 1 σ  h)
      · replace h := am_ip h c_2
        refine am_iload_n C0 dX10_parts_83 1 rfl ?_
        refine am_if_ne C0 dX10_parts_84 (tgt := 91) (by decide) (fun c_3 => ?_) (fun c_3 => ?_)
        · replace h := am_in h c_3
          refine am_iload C0 dX10_parts_91 3 rfl ?_
          have e := Option.some.inj h
          subst e
          exact hret _ _ dX10_parts_93
        · replace h := am_ip h c_3
          refine am_iload_n C0 dX10_parts_87 2 rfl ?_
          refine am_goto C0 dX10_parts_88 (tgt := 93) (by decide) ?_
          have e := Option.some.inj h
          subst e
          exact hret _ _ dX10_parts_93
    · replace h := am_ip h c_1
      exact am_sub [0, 1, 2, 3, 4, 5] rfl (k_M_parts_l46 C0 hd _ F hret (fun z0 z1 z2 z3 z4 z5 zs z => ih z0 z1 z2 z3 z4 z5 zs z) F x1 x2 x3 x4 x5 x6 σ  h)
set_option maxRecDepth 100000 in
set_option maxHeartbeats 4000000 in
theorem k_M_parts {G : am_T} {d0 : Nat} (C0 : am_C G cX10_parts 9 RX10 LM d0) (hd : 2 ≤ d0) (F : Nat) {q : Int32 × am_SS} (hret : am_retI G cX10_parts 9 q.1 q.2) (x1 : Int32) (x2 : Int32) (σ : am_SS) (h : M_parts F x1 x2 σ = some q) : am_K G 9 0 [(0, .ref (am_b G 0)), (1, .int x1), (2, .int x2)] [] σ := by
  unfold M_parts at h
  refine am_aload_n C0 dX10_parts_0 0 rfl ?_
  refine am_iconst C0 dX10_parts_1 ci_0 ?_
  obtain ⟨σ_1, e_σ_1, h⟩ := am_lt h
  refine am_putI C0 e_σ_1 fp_RX10_131 (loM_7_0 kM0).1 (loM_7_0 kM0).2.1 (loM_7_0 kM0).2.2.1 (loM_7_0 kM0).2.2.2 rfl rfl dX10_parts_2 ?_
  refine am_aload_n C0 dX10_parts_5 0 rfl ?_
  refine am_iload_n C0 dX10_parts_6 1 rfl ?_
  refine am_iconst C0 dX10_parts_7 ci_2 ?_
  refine am_ldcw C0 kc_RX10_431 dX10_parts_8 ?_
  refine am_callV C0 (m_M_isIn (σ := σ_1) (Nat.le_refl _) x1 2 99999  rfl) mm_yX10_isIn ln_RX10_149 (As := fun b => [.int x1, .int 2, .int 99999]) (fun _ => rfl) (fun _ => rfl) (loM_7_0 kM0).1 (loM_7_0 kM0).2.1 rfl (Nat.le_trans (by decide) hd) rfl (Nat.le_of_ble_eq_true rfl) dX10_parts_11 ?_
  refine am_ifB_eq C0 dX10_parts_14 (tgt := 27) (by decide) (fun c_3 => ?_) (fun c_3 => ?_)
  · replace h := am_in h c_3
    refine am_iconst C0 dX10_parts_27 ci_m1 ?_
    have e := Option.some.inj h
    subst e
    exact hret _ _ dX10_parts_28
  · replace h := am_ip h c_3
    refine am_aload_n C0 dX10_parts_17 0 rfl ?_
    refine am_iload_n C0 dX10_parts_18 2 rfl ?_
    refine am_iconst C0 dX10_parts_19 ci_0 ?_
    refine am_iconst C0 dX10_parts_20 ci_3 ?_
    refine am_callV C0 (m_M_isIn (σ := σ_1) (Nat.le_refl _) x2 0 3  rfl) mm_yX10_isIn ln_RX10_149 (As := fun b => [.int x2, .int 0, .int 3]) (fun _ => rfl) (fun _ => rfl) (loM_7_0 kM0).1 (loM_7_0 kM0).2.1 rfl (Nat.le_trans (by decide) hd) rfl (Nat.le_of_ble_eq_true rfl) dX10_parts_21 ?_
    refine am_ifB_ne C0 dX10_parts_24 (tgt := 29) (by decide) (fun c_5 => ?_) (fun c_5 => ?_)
    · replace h := am_ip h c_5
      refine am_iconst C0 dX10_parts_29 ci_0 ?_
      refine am_istore_n C0 dX10_parts_30 rfl (by decide) rfl (lv' := [(0, .ref (am_b G 0)), (1, .int x1), (2, .int x2), (3, .int 0)]) rfl ?_
      refine am_iconst C0 dX10_parts_31 ci_0 ?_
      refine am_istore C0 dX10_parts_32 (by decide) rfl (lv' := [(0, .ref (am_b G 0)), (1, .int x1), (2, .int x2), (3, .int 0), (4, .int 0)]) rfl ?_
      refine am_iload_n C0 dX10_parts_34 1 rfl ?_
      refine am_istore C0 dX10_parts_35 (by decide) rfl (lv' := [(0, .ref (am_b G 0)), (1, .int x1), (2, .int x2), (3, .int 0), (4, .int 0), (5, .int x1)]) rfl ?_
      refine am_iconst C0 dX10_parts_37 ci_2 ?_
      refine am_istore C0 dX10_parts_38 (by decide) rfl (lv' := [(0, .ref (am_b G 0)), (1, .int x1), (2, .int x2), (3, .int 0), (4, .int 0), (5, .int x1), (6, .int 2)]) rfl ?_
      exact am_sub [1, 2, 3, 4, 5, 6] rfl (k_M_parts_l40 C0 hd F hret F x1 x2 0 0 x1 2 σ_1  h)
    · replace h := am_in h c_5
      refine am_iconst C0 dX10_parts_27 ci_m1 ?_
      have e := Option.some.inj h
      subst e
      exact hret _ _ dX10_parts_28
set_option maxRecDepth 100000 in
set_option maxHeartbeats 4000000 in
theorem m_M_parts {l : Launch} {d : Nat} {σ : am_SS} {q : Int32 × am_SS} (hd : 2 ≤ d) (F : Nat) (x1 : Int32) (x2 : Int32) (h : M_parts F x1 x2 σ = some q) : am_Met l yX10_parts cX10_parts 9 (some .int) d 0 0 LM (fun b => [.ref (b 0), .int x1, .int x2]) σ (some (.int q.1)) q.2 :=
  am_metI (plainFor_of_name (by decide)) rfl (lv := fun b => [(0, .ref (b 0)), (1, .int x1), (2, .int x2)]) (fun _ => rfl) (fun _ => Nat.le_of_ble_eq_true rfl) (fun G C0 _ hret => k_M_parts C0 hd F hret x1 x2 σ  h)
set_option maxRecDepth 100000 in
set_option maxHeartbeats 4000000 in
theorem k_M_isWellSet_p30 {G : am_T} {d0 : Nat} (C0 : am_C G cX10_isWellSet 5 RX10 LM d0) (hd : 2 ≤ d0) (rec9 : Int32 → Int32 → Int32 → Option Bool) (F : Nat) {σ0 : am_SS} {q : Bool} (hret : am_retI G cX10_isWellSet 5 (am_bI q) σ0) (hrec9 : ∀ (x1 : Int32) (x3 : Int32) (x4 : Int32), rec9 x1 x3 x4 = some q → am_K G 5 9 [(0, .ref (am_b G 0)), (1, .int x1), (3, .int x3), (4, .int x4)] [] σ0) (x1 : Int32) (x4 : Int32) (s0 : Int32) (s1 : Int32) (h : M_isWellSet_p30 rec9 F x1 x4 s0 s1 = some q) : am_K G 5 30 [(0, .ref (am_b G 0)), (1, .int x1), (4, .int x4)] [.int s1, .int s0] σ0 := by
  unfold M_isWellSet_p30 at h
  refine am_iadd C0 dX10_isWellSet_30 ?_
  obtain ⟨x3_1, e_x3_1, h⟩ := am_lt h
  refine am_top e_x3_1 ?_
  refine am_istore_n C0 dX10_isWellSet_31 rfl (by decide) rfl (lv' := [(0, .ref (am_b G 0)), (1, .int x1), (4, .int x4), (3, .int x3_1)]) rfl ?_
  refine am_iload_n C0 dX10_isWellSet_32 3 rfl ?_
  refine am_if_ge C0 dX10_isWellSet_33 (tgt := 38) (by decide) (fun c_2 => ?_) (fun c_2 => ?_)
  · replace h := am_in h c_2
    obtain ⟨x4_3, e_x4_3, h⟩ := am_lt h
    refine am_iinc C0 dX10_isWellSet_38 2 rfl (by rw [ci_m1]; exact e_x4_3) (by decide) rfl (lv' := [(0, .ref (am_b G 0)), (1, .int x1), (4, .int x4_3), (3, .int x3_1)]) rfl ?_
    refine am_goto C0 dX10_isWellSet_41 (tgt := 9) (by decide) ?_
    exact am_sub [0, 1, 3, 2] rfl (hrec9 x1 x3_1 x4_3  h)
  · replace h := am_ip h c_2
    refine am_iconst C0 dX10_isWellSet_36 ci_0 ?_
    have e := Option.some.inj h
    subst e
    exact hret _ _ dX10_isWellSet_37
set_option maxRecDepth 100000 in
set_option maxHeartbeats 4000000 in
theorem k_M_isWellSet_l9 {G : am_T} {d0 : Nat} (C0 : am_C G cX10_isWellSet 5 RX10 LM d0) (hd : 2 ≤ d0) (F : Nat) {σ0 : am_SS} {q : Bool} (hret : am_retI G cX10_isWellSet 5 (am_bI q) σ0) : ∀ (n : Nat) (x1 : Int32) (x3 : Int32) (x4 : Int32) (h : M_isWellSet_l9 F n x1 x3 x4 = some q), am_K G 5 9 [(0, .ref (am_b G 0)), (1, .int x1), (3, .int x3), (4, .int x4)] [] σ0 := by
  intro n
  induction n with
  | zero =>
    intro x1 x3 x4 h
    rw [M_isWellSet_l9] at h
    cases h
  | succ n ih =>
    intro x1 x3 x4 h
    rw [M_isWellSet_l9] at h
    refine am_iload C0 dX10_isWellSet_9 3 rfl ?_
    refine am_if_lt C0 dX10_isWellSet_11 (tgt := 44) (by decide) (fun c_1 => ?_) (fun c_1 => ?_)
    · replace h := am_ip h c_1
      refine am_iload_n C0 dX10_isWellSet_44 2 rfl ?_
      refine am_if_ne C0 dX10_isWellSet_45 (tgt := 52) (by decide) (fun c_2 => ?_) (fun c_2 => ?_)
      · replace h := am_in h c_2
        refine am_iconst C0 dX10_isWellSet_52 ci_0 ?_
        have e := Option.some.inj h
        subst e
        exact hret _ _ dX10_isWellSet_53
      · replace h := am_ip h c_2
        refine am_iconst C0 dX10_isWellSet_48 ci_1 ?_
        refine am_goto C0 dX10_isWellSet_49 (tgt := 53) (by decide) ?_
        have e := Option.some.inj h
        subst e
        exact hret _ _ dX10_isWellSet_53
    · replace h := am_in h c_1
      refine am_iload_n C0 dX10_isWellSet_14 2 rfl ?_
      refine am_aload_n C0 dX10_isWellSet_15 0 rfl ?_
      refine am_iload_n C0 dX10_isWellSet_16 1 rfl ?_
      refine am_iload C0 dX10_isWellSet_17 3 rfl ?_
      refine am_callV C0 (m_M_has (σ := σ0) (Nat.le_refl _) x1 x4  rfl) mm_yX10_has ln_RX10_336 (As := fun b => [.int x1, .int x4]) (fun _ => rfl) (fun _ => rfl) (loM_7_0 kM0).1 (loM_7_0 kM0).2.1 rfl (Nat.le_trans (by decide) hd) rfl (Nat.le_of_ble_eq_true rfl) dX10_isWellSet_19 ?_
      refine am_ifB_eq C0 dX10_isWellSet_22 (tgt := 29) (by decide) (fun c_4 => ?_) (fun c_4 => ?_)
      · replace h := am_in h c_4
        refine am_iconst C0 dX10_isWellSet_29 ci_m1 ?_
        exact am_sub [0, 1, 3] rfl (k_M_isWellSet_p30 C0 hd _ F hret (fun z1 z2 z3 z => ih z1 z2 z3 z) x1 x4 x3 (-1)  h)
      · replace h := am_ip h c_4
        refine am_iconst C0 dX10_isWellSet_25 ci_1 ?_
        refine am_goto C0 dX10_isWellSet_26 (tgt := 30) (by decide) ?_
        exact am_sub [0, 1, 3] rfl (k_M_isWellSet_p30 C0 hd _ F hret (fun z1 z2 z3 z => ih z1 z2 z3 z) x1 x4 x3 1  h)
set_option maxRecDepth 100000 in
set_option maxHeartbeats 4000000 in
theorem k_M_isWellSet {G : am_T} {d0 : Nat} (C0 : am_C G cX10_isWellSet 5 RX10 LM d0) (hd : 2 ≤ d0) (F : Nat) {σ0 : am_SS} {q : Bool} (hret : am_retI G cX10_isWellSet 5 (am_bI q) σ0) (x1 : Int32) (x2 : Int32) (h : M_isWellSet F x1 x2 = some q) : am_K G 5 0 [(0, .ref (am_b G 0)), (1, .int x1), (2, .int x2)] [] σ0 := by
  unfold M_isWellSet at h
  refine am_iconst C0 dX10_isWellSet_0 ci_0 ?_
  refine am_istore_n C0 dX10_isWellSet_1 rfl (by decide) rfl (lv' := [(0, .ref (am_b G 0)), (1, .int x1), (2, .int x2), (3, .int 0)]) rfl ?_
  refine am_iconst C0 dX10_isWellSet_2 ci_2 ?_
  refine am_iload_n C0 dX10_isWellSet_3 2 rfl ?_
  refine am_imul C0 dX10_isWellSet_4 ?_
  refine am_iconst C0 dX10_isWellSet_5 ci_1 ?_
  refine am_isub C0 dX10_isWellSet_6 ?_
  obtain ⟨x4_1, e_x4_1, h⟩ := am_lt h
  refine am_top e_x4_1 ?_
  refine am_istore C0 dX10_isWellSet_7 (by decide) rfl (lv' := [(0, .ref (am_b G 0)), (1, .int x1), (2, .int x2), (3, .int 0), (4, .int x4_1)]) rfl ?_
  exact am_sub [0, 1, 3, 4] rfl (k_M_isWellSet_l9 C0 hd F hret F x1 0 x4_1  h)
set_option maxRecDepth 100000 in
set_option maxHeartbeats 4000000 in
theorem m_M_isWellSet {l : Launch} {d : Nat} {σ : am_SS} {q : Bool} (hd : 2 ≤ d) (F : Nat) (x1 : Int32) (x2 : Int32) (h : M_isWellSet F x1 x2 = some q) : am_Met l yX10_isWellSet cX10_isWellSet 5 (some .boolean) d 0 0 LM (fun b => [.ref (b 0), .int x1, .int x2]) σ (some (.int (am_bI q))) σ :=
  am_metI (plainFor_of_name (by decide)) (am_bI_nr _) (lv := fun b => [(0, .ref (b 0)), (1, .int x1), (2, .int x2)]) (fun _ => rfl) (fun _ => Nat.le_of_ble_eq_true rfl) (fun G C0 _ hret => k_M_isWellSet C0 hd F hret x1 x2  h)
set_option maxRecDepth 100000 in
set_option maxHeartbeats 4000000 in
theorem k_M_brackets_p124 {G : am_T} {d0 : Nat} (C0 : am_C G cX10_brackets 6 RX10 LM d0) (hd : 3 ≤ d0) (rec72 : Int32 → Int32 → Int32 → Int32 → Int32 → am_SS → Option (Int32 × am_SS)) (F : Nat) {q : Int32 × am_SS} (hret : am_retI G cX10_brackets 6 q.1 q.2) (hrec72 : ∀ (x1 : Int32) (x2 : Int32) (x3 : Int32) (x4 : Int32) (x5 : Int32) (σ : am_SS), rec72 x1 x2 x3 x4 x5 σ = some q → am_K G 6 72 [(0, .ref (am_b G 0)), (1, .int x1), (2, .int x2), (3, .int x3), (4, .int x4), (5, .int x5)] [] σ) (x1 : Int32) (x2 : Int32) (x3 : Int32) (x4 : Int32) (x5 : Int32) (σ : am_SS) (h : M_brackets_p124 rec72 F x1 x2 x3 x4 x5 σ = some q) : am_K G 6 124 [(0, .ref (am_b G 0)), (1, .int x1), (2, .int x2), (3, .int x3), (4, .int x4), (5, .int x5)] [] σ := by
  unfold M_brackets_p124 at h
  obtain ⟨x5_1, e_x5_1, h⟩ := am_lt h
  refine am_iinc C0 dX10_brackets_124 5 rfl (by rw [ci_m1]; exact e_x5_1) (by decide) rfl (lv' := [(0, .ref (am_b G 0)), (1, .int x1), (2, .int x2), (3, .int x3), (4, .int x4), (5, .int x5_1)]) rfl ?_
  refine am_goto C0 dX10_brackets_127 (tgt := 72) (by decide) ?_
  exact am_sub [0, 1, 2, 3, 4, 5] rfl (hrec72 x1 x2 x3 x4 x5_1 σ  h)
set_option maxRecDepth 100000 in
set_option maxHeartbeats 4000000 in
theorem k_M_brackets_p118 {G : am_T} {d0 : Nat} (C0 : am_C G cX10_brackets 6 RX10 LM d0) (hd : 3 ≤ d0) (rec72 : Int32 → Int32 → Int32 → Int32 → Int32 → am_SS → Option (Int32 × am_SS)) (F : Nat) {q : Int32 × am_SS} (hret : am_retI G cX10_brackets 6 q.1 q.2) (hrec72 : ∀ (x1 : Int32) (x2 : Int32) (x3 : Int32) (x4 : Int32) (x5 : Int32) (σ : am_SS), rec72 x1 x2 x3 x4 x5 σ = some q → am_K G 6 72 [(0, .ref (am_b G 0)), (1, .int x1), (2, .int x2), (3, .int x3), (4, .int x4), (5, .int x5)] [] σ) (x1 : Int32) (x2 : Int32) (x3 : Int32) (x4 : Int32) (x5 : Int32) (σ : am_SS) (h : M_brackets_p118 rec72 F x1 x2 x3 x4 x5 σ = some q) : am_K G 6 118 [(0, .ref (am_b G 0)), (1, .int x1), (2, .int x2), (3, .int x3), (4, .int x4), (5, .int x5)] [] σ := by
  unfold M_brackets_p118 at h
  refine am_iload C0 dX10_brackets_118 4 rfl ?_
  refine am_iconst C0 dX10_brackets_120 ci_1 ?_
  refine am_iadd C0 dX10_brackets_121 ?_
  obtain ⟨x4_1, e_x4_1, h⟩ := am_lt h
  refine am_top e_x4_1 ?_
  refine am_istore C0 dX10_brackets_122 (by decide) rfl (lv' := [(0, .ref (am_b G 0)), (1, .int x1), (2, .int x2), (3, .int x3), (4, .int x4_1), (5, .int x5)]) rfl ?_
  exact am_sub [0, 1, 2, 3, 4, 5] rfl (k_M_brackets_p124 C0 hd rec72 F hret hrec72 x1 x2 x3 x4_1 x5 σ  h)
set_option maxRecDepth 100000 in
set_option maxHeartbeats 4000000 in
theorem k_M_brackets_p104 {G : am_T} {d0 : Nat} (C0 : am_C G cX10_brackets 6 RX10 LM d0) (hd : 3 ≤ d0) (rec72 : Int32 → Int32 → Int32 → Int32 → Int32 → am_SS → Option (Int32 × am_SS)) (F : Nat) {q : Int32 × am_SS} (hret : am_retI G cX10_brackets 6 q.1 q.2) (hrec72 : ∀ (x1 : Int32) (x2 : Int32) (x3 : Int32) (x4 : Int32) (x5 : Int32) (σ : am_SS), rec72 x1 x2 x3 x4 x5 σ = some q → am_K G 6 72 [(0, .ref (am_b G 0)), (1, .int x1), (2, .int x2), (3, .int x3), (4, .int x4), (5, .int x5)] [] σ) (x1 : Int32) (x2 : Int32) (x3 : Int32) (x4 : Int32) (x5 : Int32) (σ : am_SS) (h : M_brackets_p104 rec72 F x1 x2 x3 x4 x5 σ = some q) : am_K G 6 104 [(0, .ref (am_b G 0)), (1, .int x1), (2, .int x2), (3, .int x3), (4, .int x4), (5, .int x5)] [] σ := by
  unfold M_brackets_p104 at h
  refine am_iload_n C0 dX10_brackets_104 3 rfl ?_
  refine am_iconst C0 dX10_brackets_105 ci_2 ?_
  refine am_icmp_ne C0 dX10_brackets_106 (tgt := 118) (by decide) (fun c_1 => ?_) (fun c_1 => ?_)
  · replace h := am_in h c_1
    exact am_sub [0, 1, 2, 3, 4, 5] rfl (k_M_brackets_p118 C0 hd rec72 F hret hrec72 x1 x2 x3 x4 x5 σ  h)
  · replace h := am_ip h c_1
    refine am_iload C0 dX10_brackets_109 5 rfl ?_
    refine am_iload_n C0 dX10_brackets_111 2 rfl ?_
    refine am_icmp_ne C0 dX10_brackets_112 (tgt := 118) (by decide) (fun c_2 => ?_) (fun c_2 => ?_)
    · replace h := am_in h c_2
      exact am_sub [0, 1, 2, 3, 4, 5] rfl (k_M_brackets_p118 C0 hd rec72 F hret hrec72 x1 x2 x3 x4 x5 σ  h)
    · replace h := am_ip h c_2
      refine am_iload C0 dX10_brackets_115 4 rfl ?_
      have e := Option.some.inj h
      subst e
      exact hret _ _ dX10_brackets_117
set_option maxRecDepth 100000 in
set_option maxHeartbeats 4000000 in
theorem k_M_brackets_l72 {G : am_T} {d0 : Nat} (C0 : am_C G cX10_brackets 6 RX10 LM d0) (hd : 3 ≤ d0) (F : Nat) {q : Int32 × am_SS} (hret : am_retI G cX10_brackets 6 q.1 q.2) : ∀ (n : Nat) (x1 : Int32) (x2 : Int32) (x3 : Int32) (x4 : Int32) (x5 : Int32) (σ : am_SS) (h : M_brackets_l72 F n x1 x2 x3 x4 x5 σ = some q), am_K G 6 72 [(0, .ref (am_b G 0)), (1, .int x1), (2, .int x2), (3, .int x3), (4, .int x4), (5, .int x5)] [] σ := by
  intro n
  induction n with
  | zero =>
    intro x1 x2 x3 x4 x5 σ h
    rw [M_brackets_l72] at h
    cases h
  | succ n ih =>
    intro x1 x2 x3 x4 x5 σ h
    rw [M_brackets_l72] at h
    refine am_iload C0 dX10_brackets_72 5 rfl ?_
    refine am_if_lt C0 dX10_brackets_74 (tgt := 130) (by decide) (fun c_1 => ?_) (fun c_1 => ?_)
    · replace h := am_ip h c_1
      refine am_iload_n C0 dX10_brackets_130 3 rfl ?_
      refine am_if_ne C0 dX10_brackets_131 (tgt := 139) (by decide) (fun c_2 => ?_) (fun c_2 => ?_)
      · replace h := am_in h c_2
        refine am_iconst C0 dX10_brackets_139 ci_m1 ?_
        have e := Option.some.inj h
        subst e
        exact hret _ _ dX10_brackets_140
      · replace h := am_ip h c_2
        refine am_iload C0 dX10_brackets_134 4 rfl ?_
        refine am_goto C0 dX10_brackets_136 (tgt := 140) (by decide) ?_
        have e := Option.some.inj h
        subst e
        exact hret _ _ dX10_brackets_140
    · replace h := am_in h c_1
      refine am_aload_n C0 dX10_brackets_77 0 rfl ?_
      refine am_iload C0 dX10_brackets_78 5 rfl ?_
      refine am_iload_n C0 dX10_brackets_80 1 rfl ?_
      obtain ⟨q_3, h_q_3, h⟩ := am_bind h
      refine am_callV C0 (m_M_isWellSet (σ := σ) (Nat.le_refl _) F x5 x1  h_q_3) mm_yX10_isWellSet ln_RX10_474 (As := fun b => [.int x5, .int x1]) (fun _ => rfl) (fun _ => rfl) (loM_7_0 kM0).1 (loM_7_0 kM0).2.1 rfl (Nat.le_trans (by decide) hd) rfl (Nat.le_of_ble_eq_true rfl) dX10_brackets_81 ?_
      refine am_ifB_ne C0 dX10_brackets_84 (tgt := 90) (by decide) (fun c_4 => ?_) (fun c_4 => ?_)
      · replace h := am_ip h c_4
        refine am_iload_n C0 dX10_brackets_90 3 rfl ?_
        refine am_iconst C0 dX10_brackets_91 ci_1 ?_
        refine am_icmp_ne C0 dX10_brackets_92 (tgt := 104) (by decide) (fun c_5 => ?_) (fun c_5 => ?_)
        · replace h := am_in h c_5
          exact am_sub [0, 1, 2, 3, 4, 5] rfl (k_M_brackets_p104 C0 hd _ F hret (fun z1 z2 z3 z4 z5 zs z => ih z1 z2 z3 z4 z5 zs z) x1 x2 x3 x4 x5 σ  h)
        · replace h := am_ip h c_5
          refine am_iload C0 dX10_brackets_95 4 rfl ?_
          refine am_iload_n C0 dX10_brackets_97 2 rfl ?_
          refine am_icmp_ne C0 dX10_brackets_98 (tgt := 104) (by decide) (fun c_6 => ?_) (fun c_6 => ?_)
          · replace h := am_in h c_6
            exact am_sub [0, 1, 2, 3, 4, 5] rfl (k_M_brackets_p104 C0 hd _ F hret (fun z1 z2 z3 z4 z5 zs z => ih z1 z2 z3 z4 z5 zs z) x1 x2 x3 x4 x5 σ  h)
          · replace h := am_ip h c_6
            refine am_iload C0 dX10_brackets_101 5 rfl ?_
            have e := Option.some.inj h
            subst e
            exact hret _ _ dX10_brackets_103
      · replace h := am_in h c_4
        refine am_goto C0 dX10_brackets_87 (tgt := 124) (by decide) ?_
        exact am_sub [0, 1, 2, 3, 4, 5] rfl (k_M_brackets_p124 C0 hd _ F hret (fun z1 z2 z3 z4 z5 zs z => ih z1 z2 z3 z4 z5 zs z) x1 x2 x3 x4 x5 σ  h)
set_option maxRecDepth 100000 in
set_option maxHeartbeats 4000000 in
theorem k_M_brackets_p60 {G : am_T} {d0 : Nat} (C0 : am_C G cX10_brackets 6 RX10 LM d0) (hd : 3 ≤ d0) (F : Nat) {q : Int32 × am_SS} (hret : am_retI G cX10_brackets 6 q.1 q.2) (x1 : Int32) (x2 : Int32) (x3 : Int32) (σ : am_SS) (h : M_brackets_p60 F x1 x2 x3 σ = some q) : am_K G 6 60 [(0, .ref (am_b G 0)), (1, .int x1), (2, .int x2), (3, .int x3)] [] σ := by
  unfold M_brackets_p60 at h
  refine am_iconst C0 dX10_brackets_60 ci_0 ?_
  refine am_istore C0 dX10_brackets_61 (by decide) rfl (lv' := [(0, .ref (am_b G 0)), (1, .int x1), (2, .int x2), (3, .int x3), (4, .int 0)]) rfl ?_
  refine am_iconst C0 dX10_brackets_63 ci_1 ?_
  refine am_iconst C0 dX10_brackets_64 ci_2 ?_
  refine am_iload_n C0 dX10_brackets_65 1 rfl ?_
  refine am_imul C0 dX10_brackets_66 ?_
  refine am_ishl C0 dX10_brackets_67 ?_
  refine am_iconst C0 dX10_brackets_68 ci_1 ?_
  refine am_isub C0 dX10_brackets_69 ?_
  obtain ⟨x5_1, e_x5_1, h⟩ := am_lt h
  refine am_top e_x5_1 ?_
  refine am_istore C0 dX10_brackets_70 (by decide) rfl (lv' := [(0, .ref (am_b G 0)), (1, .int x1), (2, .int x2), (3, .int x3), (4, .int 0), (5, .int x5_1)]) rfl ?_
  exact am_sub [0, 1, 2, 3, 4, 5] rfl (k_M_brackets_l72 C0 hd F hret F x1 x2 x3 0 x5_1 σ  h)
set_option maxRecDepth 100000 in
set_option maxHeartbeats 4000000 in
theorem k_M_brackets {G : am_T} {d0 : Nat} (C0 : am_C G cX10_brackets 6 RX10 LM d0) (hd : 3 ≤ d0) (F : Nat) {q : Int32 × am_SS} (hret : am_retI G cX10_brackets 6 q.1 q.2) (x1 : Int32) (x2 : Int32) (x3 : Int32) (σ : am_SS) (h : M_brackets F x1 x2 x3 σ = some q) : am_K G 6 0 [(0, .ref (am_b G 0)), (1, .int x1), (2, .int x2), (3, .int x3)] [] σ := by
  unfold M_brackets at h
  refine am_aload_n C0 dX10_brackets_0 0 rfl ?_
  refine am_iconst C0 dX10_brackets_1 ci_0 ?_
  obtain ⟨σ_1, e_σ_1, h⟩ := am_lt h
  refine am_putI C0 e_σ_1 fp_RX10_131 (loM_7_0 kM0).1 (loM_7_0 kM0).2.1 (loM_7_0 kM0).2.2.1 (loM_7_0 kM0).2.2.2 rfl rfl dX10_brackets_2 ?_
  refine am_aload_n C0 dX10_brackets_5 0 rfl ?_
  refine am_iload_n C0 dX10_brackets_6 1 rfl ?_
  refine am_iconst C0 dX10_brackets_7 ci_0 ?_
  refine am_bipush C0 dX10_brackets_8 kb_8 ?_
  refine am_callV C0 (m_M_isIn (σ := σ_1) (Nat.le_refl _) x1 0 8  rfl) mm_yX10_isIn ln_RX10_149 (As := fun b => [.int x1, .int 0, .int 8]) (fun _ => rfl) (fun _ => rfl) (loM_7_0 kM0).1 (loM_7_0 kM0).2.1 rfl (Nat.le_trans (by decide) hd) rfl (Nat.le_of_ble_eq_true rfl) dX10_brackets_10 ?_
  refine am_ifB_eq C0 dX10_brackets_13 (tgt := 26) (by decide) (fun c_3 => ?_) (fun c_3 => ?_)
  · replace h := am_in h c_3
    refine am_iconst C0 dX10_brackets_26 ci_m1 ?_
    have e := Option.some.inj h
    subst e
    exact hret _ _ dX10_brackets_27
  · replace h := am_ip h c_3
    refine am_aload_n C0 dX10_brackets_16 0 rfl ?_
    refine am_iload_n C0 dX10_brackets_17 3 rfl ?_
    refine am_iconst C0 dX10_brackets_18 ci_0 ?_
    refine am_iconst C0 dX10_brackets_19 ci_2 ?_
    refine am_callV C0 (m_M_isIn (σ := σ_1) (Nat.le_refl _) x3 0 2  rfl) mm_yX10_isIn ln_RX10_149 (As := fun b => [.int x3, .int 0, .int 2]) (fun _ => rfl) (fun _ => rfl) (loM_7_0 kM0).1 (loM_7_0 kM0).2.1 rfl (Nat.le_trans (by decide) hd) rfl (Nat.le_of_ble_eq_true rfl) dX10_brackets_20 ?_
    refine am_ifB_ne C0 dX10_brackets_23 (tgt := 28) (by decide) (fun c_5 => ?_) (fun c_5 => ?_)
    · replace h := am_ip h c_5
      refine am_iload_n C0 dX10_brackets_28 3 rfl ?_
      refine am_iconst C0 dX10_brackets_29 ci_2 ?_
      refine am_icmp_ne C0 dX10_brackets_30 (tgt := 60) (by decide) (fun c_6 => ?_) (fun c_6 => ?_)
      · replace h := am_in h c_6
        exact am_sub [0, 1, 2, 3] rfl (k_M_brackets_p60 C0 hd F hret x1 x2 x3 σ_1  h)
      · replace h := am_ip h c_6
        refine am_aload_n C0 dX10_brackets_33 0 rfl ?_
        refine am_iload_n C0 dX10_brackets_34 2 rfl ?_
        refine am_iconst C0 dX10_brackets_35 ci_0 ?_
        refine am_iconst C0 dX10_brackets_36 ci_1 ?_
        refine am_iconst C0 dX10_brackets_37 ci_2 ?_
        refine am_iload_n C0 dX10_brackets_38 1 rfl ?_
        refine am_imul C0 dX10_brackets_39 ?_
        refine am_ishl C0 dX10_brackets_40 ?_
        refine am_iconst C0 dX10_brackets_41 ci_1 ?_
        refine am_isub C0 dX10_brackets_42 ?_
        refine am_callV C0 (m_M_isIn (σ := σ_1) (Nat.le_refl _) x2 0 ((1 <<< ((2 * x1) &&& 31)) - 1)  rfl) mm_yX10_isIn ln_RX10_149 (As := fun b => [.int x2, .int 0, .int ((1 <<< ((2 * x1) &&& 31)) - 1)]) (fun _ => rfl) (fun _ => rfl) (loM_7_0 kM0).1 (loM_7_0 kM0).2.1 rfl (Nat.le_trans (by decide) hd) rfl (Nat.le_of_ble_eq_true rfl) dX10_brackets_43 ?_
        refine am_ifB_eq C0 dX10_brackets_46 (tgt := 58) (by decide) (fun c_8 => ?_) (fun c_8 => ?_)
        · replace h := am_in h c_8
          refine am_iconst C0 dX10_brackets_58 ci_m1 ?_
          have e := Option.some.inj h
          subst e
          exact hret _ _ dX10_brackets_59
        · replace h := am_ip h c_8
          refine am_aload_n C0 dX10_brackets_49 0 rfl ?_
          refine am_iload_n C0 dX10_brackets_50 2 rfl ?_
          refine am_iload_n C0 dX10_brackets_51 1 rfl ?_
          obtain ⟨q_9, h_q_9, h⟩ := am_bind h
          refine am_callV C0 (m_M_isWellSet (σ := σ_1) (Nat.le_refl _) F x2 x1  h_q_9) mm_yX10_isWellSet ln_RX10_474 (As := fun b => [.int x2, .int x1]) (fun _ => rfl) (fun _ => rfl) (loM_7_0 kM0).1 (loM_7_0 kM0).2.1 rfl (Nat.le_trans (by decide) hd) rfl (Nat.le_of_ble_eq_true rfl) dX10_brackets_52 ?_
          refine am_ifB_ne C0 dX10_brackets_55 (tgt := 60) (by decide) (fun c_10 => ?_) (fun c_10 => ?_)
          · replace h := am_ip h c_10
            exact am_sub [0, 1, 2, 3] rfl (k_M_brackets_p60 C0 hd F hret x1 x2 x3 σ_1  h)
          · replace h := am_in h c_10
            refine am_iconst C0 dX10_brackets_58 ci_m1 ?_
            have e := Option.some.inj h
            subst e
            exact hret _ _ dX10_brackets_59
    · replace h := am_in h c_5
      refine am_iconst C0 dX10_brackets_26 ci_m1 ?_
      have e := Option.some.inj h
      subst e
      exact hret _ _ dX10_brackets_27
set_option maxRecDepth 100000 in
set_option maxHeartbeats 4000000 in
theorem m_M_brackets {l : Launch} {d : Nat} {σ : am_SS} {q : Int32 × am_SS} (hd : 3 ≤ d) (F : Nat) (x1 : Int32) (x2 : Int32) (x3 : Int32) (h : M_brackets F x1 x2 x3 σ = some q) : am_Met l yX10_brackets cX10_brackets 6 (some .int) d 0 0 LM (fun b => [.ref (b 0), .int x1, .int x2, .int x3]) σ (some (.int q.1)) q.2 :=
  am_metI (plainFor_of_name (by decide)) rfl (lv := fun b => [(0, .ref (b 0)), (1, .int x1), (2, .int x2), (3, .int x3)]) (fun _ => rfl) (fun _ => Nat.le_of_ble_eq_true rfl) (fun G C0 _ hret => k_M_brackets C0 hd F hret x1 x2 x3 σ  h)
set_option maxRecDepth 100000 in
set_option maxHeartbeats 4000000 in
theorem k_M_game_p101 {G : am_T} {d0 : Nat} (C0 : am_C G cX10_game 5 RX10 LM d0) (hd : 2 ≤ d0) (F : Nat) {q : Int32 × am_SS} (hret : am_retI G cX10_game 5 q.1 q.2) (x1 : Int32) (s0 : Int32) (σ : am_SS) (h : M_game_p101 F x1 s0 σ = some q) : am_K G 5 101 [(0, .ref (am_b G 0)), (1, .int x1)] [.int s0] σ := by
  unfold M_game_p101 at h
  refine am_istore_n C0 dX10_game_101 rfl (by decide) rfl (lv' := [(0, .ref (am_b G 0)), (1, .int x1), (3, .int s0)]) rfl ?_
  refine am_aload_n C0 dX10_game_102 0 rfl ?_
  refine am_getR C0 (j := 38) ff_RX10_125 (loM_7_62 kM0).1 (loM_7_62 kM0).2.1 (loM_7_62 kM0).2.2.1 (loM_7_62 kM0).2.2.2 dX10_game_103 ?_
  refine am_iload_n C0 dX10_game_106 1 rfl ?_
  obtain ⟨t_1, h_t_1, h⟩ := am_bind h
  refine am_iald C0 (ltM (tgM_7_62 kM0)) (tgM_7_62 kM0) (lnM_7_62 kM0) h_t_1 dX10_game_107 ?_
  refine am_iload_n C0 dX10_game_108 2 rfl ?_
  refine am_icmp_gt C0 dX10_game_109 (tgt := 121) (by decide) (fun c_2 => ?_) (fun c_2 => ?_)
  · replace h := am_ip h c_2
    refine am_iconst C0 dX10_game_121 ci_m1 ?_
    have e := Option.some.inj h
    subst e
    exact hret _ _ dX10_game_122
  · replace h := am_in h c_2
    refine am_aload_n C0 dX10_game_112 0 rfl ?_
    refine am_getR C0 (j := 38) ff_RX10_125 (loM_7_62 kM0).1 (loM_7_62 kM0).2.1 (loM_7_62 kM0).2.2.1 (loM_7_62 kM0).2.2.2 dX10_game_113 ?_
    refine am_iload_n C0 dX10_game_116 1 rfl ?_
    obtain ⟨t_3, h_t_3, h⟩ := am_bind h
    refine am_iald C0 (ltM (tgM_7_62 kM0)) (tgM_7_62 kM0) (lnM_7_62 kM0) h_t_3 dX10_game_117 ?_
    refine am_goto C0 dX10_game_118 (tgt := 122) (by decide) ?_
    have e := Option.some.inj h
    subst e
    exact hret _ _ dX10_game_122
set_option maxRecDepth 100000 in
set_option maxHeartbeats 4000000 in
theorem k_M_game_p75 {G : am_T} {d0 : Nat} (C0 : am_C G cX10_game 5 RX10 LM d0) (hd : 2 ≤ d0) (rec36 : Int32 → Int32 → Int32 → am_SS → Option (Int32 × am_SS)) (F : Nat) {q : Int32 × am_SS} (hret : am_retI G cX10_game 5 q.1 q.2) (hrec36 : ∀ (x1 : Int32) (x2 : Int32) (x3 : Int32) (σ : am_SS), rec36 x1 x2 x3 σ = some q → am_K G 5 36 [(0, .ref (am_b G 0)), (1, .int x1), (2, .int x2), (3, .int x3)] [] σ) (x1 : Int32) (x2 : Int32) (x3 : Int32) (x4 : Int32) (σ : am_SS) (h : M_game_p75 rec36 F x1 x2 x3 x4 σ = some q) : am_K G 5 75 [(0, .ref (am_b G 0)), (1, .int x1), (2, .int x2), (3, .int x3), (4, .int x4)] [] σ := by
  unfold M_game_p75 at h
  refine am_aload_n C0 dX10_game_75 0 rfl ?_
  refine am_getR C0 (j := 38) ff_RX10_125 (loM_7_62 kM0).1 (loM_7_62 kM0).2.1 (loM_7_62 kM0).2.2.1 (loM_7_62 kM0).2.2.2 dX10_game_76 ?_
  refine am_iload_n C0 dX10_game_79 3 rfl ?_
  refine am_iload C0 dX10_game_80 4 rfl ?_
  obtain ⟨σ_1, h_σ_1, h⟩ := am_bind h
  refine am_iast C0 (ltM (tgM_7_62 kM0)) (tgM_7_62 kM0) (lnM_7_62 kM0) h_σ_1 dX10_game_82 ?_
  obtain ⟨x3_2, e_x3_2, h⟩ := am_lt h
  refine am_iinc C0 dX10_game_83 3 rfl (by rw [ci_1]; exact e_x3_2) (by decide) rfl (lv' := [(0, .ref (am_b G 0)), (1, .int x1), (2, .int x2), (3, .int x3_2), (4, .int x4)]) rfl ?_
  refine am_goto C0 dX10_game_86 (tgt := 36) (by decide) ?_
  exact am_sub [0, 1, 2, 3] rfl (hrec36 x1 x2 x3_2 σ_1  h)
set_option maxRecDepth 100000 in
set_option maxHeartbeats 4000000 in
theorem k_M_game_l44 {G : am_T} {d0 : Nat} (C0 : am_C G cX10_game 5 RX10 LM d0) (hd : 2 ≤ d0) (rec36 : Int32 → Int32 → Int32 → am_SS → Option (Int32 × am_SS)) (F : Nat) {q : Int32 × am_SS} (hret : am_retI G cX10_game 5 q.1 q.2) (hrec36 : ∀ (x1 : Int32) (x2 : Int32) (x3 : Int32) (σ : am_SS), rec36 x1 x2 x3 σ = some q → am_K G 5 36 [(0, .ref (am_b G 0)), (1, .int x1), (2, .int x2), (3, .int x3)] [] σ) : ∀ (n : Nat) (x1 : Int32) (x2 : Int32) (x3 : Int32) (x4 : Int32) (σ : am_SS) (h : M_game_l44 rec36 F n x1 x2 x3 x4 σ = some q), am_K G 5 44 [(0, .ref (am_b G 0)), (1, .int x1), (2, .int x2), (3, .int x3), (4, .int x4)] [] σ := by
  intro n
  induction n with
  | zero =>
    intro x1 x2 x3 x4 σ h
    rw [M_game_l44] at h
    cases h
  | succ n ih =>
    intro x1 x2 x3 x4 σ h
    rw [M_game_l44] at h
    refine am_iload C0 dX10_game_44 4 rfl ?_
    refine am_iload_n C0 dX10_game_46 3 rfl ?_
    refine am_icmp_ge C0 dX10_game_47 (tgt := 75) (by decide) (fun c_1 => ?_) (fun c_1 => ?_)
    · replace h := am_in h c_1
      exact am_sub [0, 1, 2, 3, 4] rfl (k_M_game_p75 C0 hd rec36 F hret hrec36 x1 x2 x3 x4 σ  h)
    · replace h := am_ip h c_1
      refine am_aload_n C0 dX10_game_50 0 rfl ?_
      refine am_getR C0 (j := 38) ff_RX10_125 (loM_7_62 kM0).1 (loM_7_62 kM0).2.1 (loM_7_62 kM0).2.2.1 (loM_7_62 kM0).2.2.2 dX10_game_51 ?_
      refine am_iload_n C0 dX10_game_54 3 rfl ?_
      refine am_iload C0 dX10_game_55 4 rfl ?_
      refine am_isub C0 dX10_game_57 ?_
      obtain ⟨t_2, h_t_2, h⟩ := am_bind h
      refine am_iald C0 (ltM (tgM_7_62 kM0)) (tgM_7_62 kM0) (lnM_7_62 kM0) h_t_2 dX10_game_58 ?_
      refine am_iconst C0 dX10_game_59 ci_2 ?_
      refine am_iload C0 dX10_game_60 4 rfl ?_
      refine am_imul C0 dX10_game_62 ?_
      refine am_icmp_gt C0 dX10_game_63 (tgt := 75) (by decide) (fun c_3 => ?_) (fun c_3 => ?_)
      · replace h := am_ip h c_3
        exact am_sub [0, 1, 2, 3, 4] rfl (k_M_game_p75 C0 hd rec36 F hret hrec36 x1 x2 x3 x4 σ  h)
      · replace h := am_in h c_3
        refine am_iload C0 dX10_game_66 4 rfl ?_
        refine am_iconst C0 dX10_game_68 ci_1 ?_
        refine am_iadd C0 dX10_game_69 ?_
        obtain ⟨x4_4, e_x4_4, h⟩ := am_lt h
        refine am_top e_x4_4 ?_
        refine am_istore C0 dX10_game_70 (by decide) rfl (lv' := [(0, .ref (am_b G 0)), (1, .int x1), (2, .int x2), (3, .int x3), (4, .int x4_4)]) rfl ?_
        refine am_goto C0 dX10_game_72 (tgt := 44) (by decide) ?_
        exact am_sub [0, 1, 2, 3, 4] rfl (ih x1 x2 x3 x4_4 σ  h)
set_option maxRecDepth 100000 in
set_option maxHeartbeats 4000000 in
theorem k_M_game_l36 {G : am_T} {d0 : Nat} (C0 : am_C G cX10_game 5 RX10 LM d0) (hd : 2 ≤ d0) (F : Nat) {q : Int32 × am_SS} (hret : am_retI G cX10_game 5 q.1 q.2) : ∀ (n : Nat) (x1 : Int32) (x2 : Int32) (x3 : Int32) (σ : am_SS) (h : M_game_l36 F n x1 x2 x3 σ = some q), am_K G 5 36 [(0, .ref (am_b G 0)), (1, .int x1), (2, .int x2), (3, .int x3)] [] σ := by
  intro n
  induction n with
  | zero =>
    intro x1 x2 x3 σ h
    rw [M_game_l36] at h
    cases h
  | succ n ih =>
    intro x1 x2 x3 σ h
    rw [M_game_l36] at h
    refine am_iload_n C0 dX10_game_36 3 rfl ?_
    refine am_iload_n C0 dX10_game_37 1 rfl ?_
    refine am_icmp_gt C0 dX10_game_38 (tgt := 89) (by decide) (fun c_1 => ?_) (fun c_1 => ?_)
    · replace h := am_ip h c_1
      refine am_iload_n C0 dX10_game_89 2 rfl ?_
      refine am_iconst C0 dX10_game_90 ci_m1 ?_
      refine am_icmp_ne C0 dX10_game_91 (tgt := 100) (by decide) (fun c_2 => ?_) (fun c_2 => ?_)
      · replace h := am_in h c_2
        refine am_iload_n C0 dX10_game_100 2 rfl ?_
        exact am_sub [0, 1] rfl (k_M_game_p101 C0 hd F hret x1 x2 σ  h)
      · replace h := am_ip h c_2
        refine am_iload_n C0 dX10_game_94 1 rfl ?_
        refine am_iconst C0 dX10_game_95 ci_1 ?_
        refine am_isub C0 dX10_game_96 ?_
        refine am_goto C0 dX10_game_97 (tgt := 101) (by decide) ?_
        exact am_sub [0, 1] rfl (k_M_game_p101 C0 hd F hret x1 (x1 - 1) σ  h)
    · replace h := am_in h c_1
      refine am_iconst C0 dX10_game_41 ci_1 ?_
      refine am_istore C0 dX10_game_42 (by decide) rfl (lv' := [(0, .ref (am_b G 0)), (1, .int x1), (2, .int x2), (3, .int x3), (4, .int 1)]) rfl ?_
      exact am_sub [0, 1, 2, 3, 4] rfl (k_M_game_l44 C0 hd _ F hret (fun z1 z2 z3 zs z => ih z1 z2 z3 zs z) F x1 x2 x3 1 σ  h)
set_option maxRecDepth 100000 in
set_option maxHeartbeats 4000000 in
theorem k_M_game_p34 {G : am_T} {d0 : Nat} (C0 : am_C G cX10_game 5 RX10 LM d0) (hd : 2 ≤ d0) (F : Nat) {q : Int32 × am_SS} (hret : am_retI G cX10_game 5 q.1 q.2) (x1 : Int32) (x2 : Int32) (σ : am_SS) (h : M_game_p34 F x1 x2 σ = some q) : am_K G 5 34 [(0, .ref (am_b G 0)), (1, .int x1), (2, .int x2)] [] σ := by
  unfold M_game_p34 at h
  refine am_iconst C0 dX10_game_34 ci_1 ?_
  refine am_istore_n C0 dX10_game_35 rfl (by decide) rfl (lv' := [(0, .ref (am_b G 0)), (1, .int x1), (2, .int x2), (3, .int 1)]) rfl ?_
  exact am_sub [0, 1, 2, 3] rfl (k_M_game_l36 C0 hd F hret F x1 x2 1 σ  h)
set_option maxRecDepth 100000 in
set_option maxHeartbeats 4000000 in
theorem k_M_game {G : am_T} {d0 : Nat} (C0 : am_C G cX10_game 5 RX10 LM d0) (hd : 2 ≤ d0) (F : Nat) {q : Int32 × am_SS} (hret : am_retI G cX10_game 5 q.1 q.2) (x1 : Int32) (x2 : Int32) (σ : am_SS) (h : M_game F x1 x2 σ = some q) : am_K G 5 0 [(0, .ref (am_b G 0)), (1, .int x1), (2, .int x2)] [] σ := by
  unfold M_game at h
  refine am_aload_n C0 dX10_game_0 0 rfl ?_
  refine am_iconst C0 dX10_game_1 ci_0 ?_
  obtain ⟨σ_1, e_σ_1, h⟩ := am_lt h
  refine am_putI C0 e_σ_1 fp_RX10_131 (loM_7_0 kM0).1 (loM_7_0 kM0).2.1 (loM_7_0 kM0).2.2.1 (loM_7_0 kM0).2.2.2 rfl rfl dX10_game_2 ?_
  refine am_aload_n C0 dX10_game_5 0 rfl ?_
  refine am_iload_n C0 dX10_game_6 1 rfl ?_
  refine am_iconst C0 dX10_game_7 ci_1 ?_
  refine am_bipush C0 dX10_game_8 kb_120 ?_
  refine am_callV C0 (m_M_isIn (σ := σ_1) (Nat.le_refl _) x1 1 120  rfl) mm_yX10_isIn ln_RX10_149 (As := fun b => [.int x1, .int 1, .int 120]) (fun _ => rfl) (fun _ => rfl) (loM_7_0 kM0).1 (loM_7_0 kM0).2.1 rfl (Nat.le_trans (by decide) hd) rfl (Nat.le_of_ble_eq_true rfl) dX10_game_10 ?_
  refine am_ifB_eq C0 dX10_game_13 (tgt := 32) (by decide) (fun c_3 => ?_) (fun c_3 => ?_)
  · replace h := am_in h c_3
    refine am_iconst C0 dX10_game_32 ci_m1 ?_
    have e := Option.some.inj h
    subst e
    exact hret _ _ dX10_game_33
  · replace h := am_ip h c_3
    refine am_iload_n C0 dX10_game_16 2 rfl ?_
    refine am_iconst C0 dX10_game_17 ci_m1 ?_
    refine am_icmp_eq C0 dX10_game_18 (tgt := 34) (by decide) (fun c_4 => ?_) (fun c_4 => ?_)
    · replace h := am_ip h c_4
      exact am_sub [0, 1, 2] rfl (k_M_game_p34 C0 hd F hret x1 x2 σ_1  h)
    · replace h := am_in h c_4
      refine am_aload_n C0 dX10_game_21 0 rfl ?_
      refine am_iload_n C0 dX10_game_22 2 rfl ?_
      refine am_iconst C0 dX10_game_23 ci_1 ?_
      refine am_bipush C0 dX10_game_24 kb_120 ?_
      refine am_callV C0 (m_M_isIn (σ := σ_1) (Nat.le_refl _) x2 1 120  rfl) mm_yX10_isIn ln_RX10_149 (As := fun b => [.int x2, .int 1, .int 120]) (fun _ => rfl) (fun _ => rfl) (loM_7_0 kM0).1 (loM_7_0 kM0).2.1 rfl (Nat.le_trans (by decide) hd) rfl (Nat.le_of_ble_eq_true rfl) dX10_game_26 ?_
      refine am_ifB_ne C0 dX10_game_29 (tgt := 34) (by decide) (fun c_6 => ?_) (fun c_6 => ?_)
      · replace h := am_ip h c_6
        exact am_sub [0, 1, 2] rfl (k_M_game_p34 C0 hd F hret x1 x2 σ_1  h)
      · replace h := am_in h c_6
        refine am_iconst C0 dX10_game_32 ci_m1 ?_
        have e := Option.some.inj h
        subst e
        exact hret _ _ dX10_game_33
set_option maxRecDepth 100000 in
set_option maxHeartbeats 4000000 in
theorem m_M_game {l : Launch} {d : Nat} {σ : am_SS} {q : Int32 × am_SS} (hd : 2 ≤ d) (F : Nat) (x1 : Int32) (x2 : Int32) (h : M_game F x1 x2 σ = some q) : am_Met l yX10_game cX10_game 5 (some .int) d 0 0 LM (fun b => [.ref (b 0), .int x1, .int x2]) σ (some (.int q.1)) q.2 :=
  am_metI (plainFor_of_name (by decide)) rfl (lv := fun b => [(0, .ref (b 0)), (1, .int x1), (2, .int x2)]) (fun _ => rfl) (fun _ => Nat.le_of_ble_eq_true rfl) (fun G C0 _ hret => k_M_game C0 hd F hret x1 x2 σ  h)
set_option maxRecDepth 100000 in
set_option maxHeartbeats 4000000 in
theorem k_M_keeps {G : am_T} {d0 : Nat} (C0 : am_C G cX10_keeps 2 RX10 LM d0) (hd : 1 ≤ d0) {q : Int32 × am_SS} (hret : am_retI G cX10_keeps 2 q.1 q.2) (x1 : Int32) (σ : am_SS) (h : M_keeps x1 σ = some q) : am_K G 2 0 [(0, .ref (am_b G 0)), (1, .int x1)] [] σ := by
  unfold M_keeps at h
  refine am_aload_n C0 dX10_keeps_0 0 rfl ?_
  refine am_aload_n C0 dX10_keeps_1 0 rfl ?_
  refine am_getI C0 ff_RX10_477 (loM_7_65 kM0).1 (loM_7_65 kM0).2.1 (loM_7_65 kM0).2.2.1 (loM_7_65 kM0).2.2.2 dX10_keeps_2 ?_
  refine am_iconst C0 dX10_keeps_5 ci_1 ?_
  refine am_iadd C0 dX10_keeps_6 ?_
  obtain ⟨σ_1, e_σ_1, h⟩ := am_lt h
  refine am_putI C0 e_σ_1 fp_RX10_477 (loM_7_65 kM0).1 (loM_7_65 kM0).2.1 (loM_7_65 kM0).2.2.1 (loM_7_65 kM0).2.2.2 rfl rfl dX10_keeps_7 ?_
  refine am_aload_n C0 dX10_keeps_10 0 rfl ?_
  refine am_getI C0 ff_RX10_480 (loM_7_63 kM0).1 (loM_7_63 kM0).2.1 (loM_7_63 kM0).2.2.1 (loM_7_63 kM0).2.2.2 dX10_keeps_11 ?_
  refine am_if_ne C0 dX10_keeps_14 (tgt := 29) (by decide) (fun c_2 => ?_) (fun c_2 => ?_)
  · replace h := am_in h c_2
    refine am_aload_n C0 dX10_keeps_29 0 rfl ?_
    refine am_getR C0 (j := 39) ff_RX10_128 (loM_7_66 kM0).1 (loM_7_66 kM0).2.1 (loM_7_66 kM0).2.2.1 (loM_7_66 kM0).2.2.2 dX10_keeps_30 ?_
    refine am_aload_n C0 dX10_keeps_33 0 rfl ?_
    refine am_getI C0 ff_RX10_477 (loM_7_65 kM0).1 (loM_7_65 kM0).2.1 (loM_7_65 kM0).2.2.1 (loM_7_65 kM0).2.2.2 dX10_keeps_34 ?_
    refine am_iconst C0 dX10_keeps_37 ci_1 ?_
    refine am_isub C0 dX10_keeps_38 ?_
    refine am_iload_n C0 dX10_keeps_39 1 rfl ?_
    obtain ⟨σ_3, h_σ_3, h⟩ := am_bind h
    refine am_iast C0 (ltM (tgM_7_66 kM0)) (tgM_7_66 kM0) (lnM_7_66 kM0) h_σ_3 dX10_keeps_40 ?_
    refine am_iload_n C0 dX10_keeps_41 1 rfl ?_
    have e := Option.some.inj h
    subst e
    exact hret _ _ dX10_keeps_42
  · replace h := am_ip h c_2
    refine am_aload_n C0 dX10_keeps_17 0 rfl ?_
    refine am_getR C0 (j := 39) ff_RX10_128 (loM_7_66 kM0).1 (loM_7_66 kM0).2.1 (loM_7_66 kM0).2.2.1 (loM_7_66 kM0).2.2.2 dX10_keeps_18 ?_
    refine am_aload_n C0 dX10_keeps_21 0 rfl ?_
    refine am_getI C0 ff_RX10_477 (loM_7_65 kM0).1 (loM_7_65 kM0).2.1 (loM_7_65 kM0).2.2.1 (loM_7_65 kM0).2.2.2 dX10_keeps_22 ?_
    refine am_iconst C0 dX10_keeps_25 ci_1 ?_
    refine am_isub C0 dX10_keeps_26 ?_
    obtain ⟨t_4, h_t_4, h⟩ := am_bind h
    refine am_iald C0 (ltM (tgM_7_66 kM0)) (tgM_7_66 kM0) (lnM_7_66 kM0) h_t_4 dX10_keeps_27 ?_
    have e := Option.some.inj h
    subst e
    exact hret _ _ dX10_keeps_28
set_option maxRecDepth 100000 in
set_option maxHeartbeats 4000000 in
theorem m_M_keeps {l : Launch} {d : Nat} {σ : am_SS} {q : Int32 × am_SS} (hd : 1 ≤ d) (x1 : Int32) (h : M_keeps x1 σ = some q) : am_Met l yX10_keeps cX10_keeps 2 (some .int) d 0 0 LM (fun b => [.ref (b 0), .int x1]) σ (some (.int q.1)) q.2 :=
  am_metI (plainFor_of_name (by decide)) rfl (lv := fun b => [(0, .ref (b 0)), (1, .int x1)]) (fun _ => rfl) (fun _ => Nat.le_of_ble_eq_true rfl) (fun G C0 _ hret => k_M_keeps C0 hd hret x1 σ  h)
set_option maxRecDepth 100000 in
set_option maxHeartbeats 4000000 in
theorem k_M_keepsLaw_l96 {G : am_T} {d0 : Nat} (C0 : am_C G cX10_keepsLaw 2 RX10 LM d0) (hd : 2 ≤ d0) (F : Nat) {q : am_SS} (hret : am_retV G cX10_keepsLaw 2 q) : ∀ (n : Nat) (x1 : Int32) (σ : am_SS) (h : M_keepsLaw_l96 F n x1 σ = some q), am_K G 2 96 [(0, .ref (am_b G 0)), (1, .int x1)] [] σ := by
  intro n
  induction n with
  | zero =>
    intro x1 σ h
    rw [M_keepsLaw_l96] at h
    cases h
  | succ n ih =>
    intro x1 σ h
    rw [M_keepsLaw_l96] at h
    refine am_iload_n C0 dX10_keepsLaw_96 1 rfl ?_
    refine am_sipush C0 dX10_keepsLaw_97 cs_400 ?_
    refine am_icmp_ge C0 dX10_keepsLaw_100 (tgt := 141) (by decide) (fun c_1 => ?_) (fun c_1 => ?_)
    · replace h := am_in h c_1
      have e := Option.some.inj h
      subst e
      exact hret _ _ dX10_keepsLaw_141
    · replace h := am_ip h c_1
      refine am_aload_n C0 dX10_keepsLaw_103 0 rfl ?_
      refine am_getR C0 (j := 16) ff_RX10_55 (loM_7_25 kM0).1 (loM_7_25 kM0).2.1 (loM_7_25 kM0).2.2.1 (loM_7_25 kM0).2.2.2 dX10_keepsLaw_104 ?_
      refine am_iload_n C0 dX10_keepsLaw_107 1 rfl ?_
      refine am_aload_n C0 dX10_keepsLaw_108 0 rfl ?_
      refine am_aload_n C0 dX10_keepsLaw_109 0 rfl ?_
      refine am_getR C0 (j := 16) ff_RX10_55 (loM_7_25 kM0).1 (loM_7_25 kM0).2.1 (loM_7_25 kM0).2.2.1 (loM_7_25 kM0).2.2.2 dX10_keepsLaw_110 ?_
      refine am_iload_n C0 dX10_keepsLaw_113 1 rfl ?_
      obtain ⟨t_2, h_t_2, h⟩ := am_bind h
      refine am_iald C0 (ltM (tgM_7_25 kM0)) (tgM_7_25 kM0) (lnM_7_25 kM0) h_t_2 dX10_keepsLaw_114 ?_
      obtain ⟨q_3, h_q_3, h⟩ := am_bind h
      refine am_callV C0 (m_M_keeps (σ := σ) (Nat.le_refl _) t_2  h_q_3) mm_yX10_keeps ln_RX10_483 (As := fun b => [.int t_2]) (fun _ => rfl) (fun _ => rfl) (loM_7_0 kM0).1 (loM_7_0 kM0).2.1 rfl (Nat.le_trans (by decide) hd) rfl (Nat.le_of_ble_eq_true rfl) dX10_keepsLaw_115 ?_
      obtain ⟨σ_4, h_σ_4, h⟩ := am_bind h
      refine am_iast C0 (ltM (tgM_7_25 kM0)) (tgM_7_25 kM0) (lnM_7_25 kM0) h_σ_4 dX10_keepsLaw_118 ?_
      refine am_aload_n C0 dX10_keepsLaw_119 0 rfl ?_
      refine am_getR C0 (j := 17) ff_RX10_58 (loM_7_26 kM0).1 (loM_7_26 kM0).2.1 (loM_7_26 kM0).2.2.1 (loM_7_26 kM0).2.2.2 dX10_keepsLaw_120 ?_
      refine am_iload_n C0 dX10_keepsLaw_123 1 rfl ?_
      refine am_aload_n C0 dX10_keepsLaw_124 0 rfl ?_
      refine am_aload_n C0 dX10_keepsLaw_125 0 rfl ?_
      refine am_getR C0 (j := 17) ff_RX10_58 (loM_7_26 kM0).1 (loM_7_26 kM0).2.1 (loM_7_26 kM0).2.2.1 (loM_7_26 kM0).2.2.2 dX10_keepsLaw_126 ?_
      refine am_iload_n C0 dX10_keepsLaw_129 1 rfl ?_
      obtain ⟨t_5, h_t_5, h⟩ := am_bind h
      refine am_iald C0 (ltM (tgM_7_26 kM0)) (tgM_7_26 kM0) (lnM_7_26 kM0) h_t_5 dX10_keepsLaw_130 ?_
      obtain ⟨q_6, h_q_6, h⟩ := am_bind h
      refine am_callV C0 (m_M_keeps (σ := σ_4) (Nat.le_refl _) t_5  h_q_6) mm_yX10_keeps ln_RX10_483 (As := fun b => [.int t_5]) (fun _ => rfl) (fun _ => rfl) (loM_7_0 kM0).1 (loM_7_0 kM0).2.1 rfl (Nat.le_trans (by decide) hd) rfl (Nat.le_of_ble_eq_true rfl) dX10_keepsLaw_131 ?_
      obtain ⟨σ_7, h_σ_7, h⟩ := am_bind h
      refine am_iast C0 (ltM (tgM_7_26 kM0)) (tgM_7_26 kM0) (lnM_7_26 kM0) h_σ_7 dX10_keepsLaw_134 ?_
      obtain ⟨x1_8, e_x1_8, h⟩ := am_lt h
      refine am_iinc C0 dX10_keepsLaw_135 1 rfl (by rw [ci_1]; exact e_x1_8) (by decide) rfl (lv' := [(0, .ref (am_b G 0)), (1, .int x1_8)]) rfl ?_
      refine am_goto C0 dX10_keepsLaw_138 (tgt := 96) (by decide) ?_
      exact am_sub [0, 1] rfl (ih x1_8 σ_7  h)
set_option maxRecDepth 100000 in
set_option maxHeartbeats 4000000 in
theorem k_M_keepsLaw_l18 {G : am_T} {d0 : Nat} (C0 : am_C G cX10_keepsLaw 2 RX10 LM d0) (hd : 2 ≤ d0) (F : Nat) {q : am_SS} (hret : am_retV G cX10_keepsLaw 2 q) : ∀ (n : Nat) (x1 : Int32) (σ : am_SS) (h : M_keepsLaw_l18 F n x1 σ = some q), am_K G 2 18 [(0, .ref (am_b G 0)), (1, .int x1)] [] σ := by
  intro n
  induction n with
  | zero =>
    intro x1 σ h
    rw [M_keepsLaw_l18] at h
    cases h
  | succ n ih =>
    intro x1 σ h
    rw [M_keepsLaw_l18] at h
    refine am_iload_n C0 dX10_keepsLaw_18 1 rfl ?_
    refine am_bipush C0 dX10_keepsLaw_19 kb_16 ?_
    refine am_icmp_ge C0 dX10_keepsLaw_21 (tgt := 94) (by decide) (fun c_1 => ?_) (fun c_1 => ?_)
    · replace h := am_in h c_1
      refine am_iconst C0 dX10_keepsLaw_94 ci_0 ?_
      refine am_istore_n C0 dX10_keepsLaw_95 rfl (by decide) rfl (lv' := [(0, .ref (am_b G 0)), (1, .int 0)]) rfl ?_
      exact am_sub [0, 1] rfl (k_M_keepsLaw_l96 C0 hd F hret F 0 σ  h)
    · replace h := am_ip h c_1
      refine am_aload_n C0 dX10_keepsLaw_24 0 rfl ?_
      refine am_getR C0 (j := 12) ff_RX10_43 (loM_7_21 kM0).1 (loM_7_21 kM0).2.1 (loM_7_21 kM0).2.2.1 (loM_7_21 kM0).2.2.2 dX10_keepsLaw_25 ?_
      refine am_iload_n C0 dX10_keepsLaw_28 1 rfl ?_
      refine am_aload_n C0 dX10_keepsLaw_29 0 rfl ?_
      refine am_aload_n C0 dX10_keepsLaw_30 0 rfl ?_
      refine am_getR C0 (j := 12) ff_RX10_43 (loM_7_21 kM0).1 (loM_7_21 kM0).2.1 (loM_7_21 kM0).2.2.1 (loM_7_21 kM0).2.2.2 dX10_keepsLaw_31 ?_
      refine am_iload_n C0 dX10_keepsLaw_34 1 rfl ?_
      obtain ⟨t_2, h_t_2, h⟩ := am_bind h
      refine am_iald C0 (ltM (tgM_7_21 kM0)) (tgM_7_21 kM0) (lnM_7_21 kM0) h_t_2 dX10_keepsLaw_35 ?_
      obtain ⟨q_3, h_q_3, h⟩ := am_bind h
      refine am_callV C0 (m_M_keeps (σ := σ) (Nat.le_refl _) t_2  h_q_3) mm_yX10_keeps ln_RX10_483 (As := fun b => [.int t_2]) (fun _ => rfl) (fun _ => rfl) (loM_7_0 kM0).1 (loM_7_0 kM0).2.1 rfl (Nat.le_trans (by decide) hd) rfl (Nat.le_of_ble_eq_true rfl) dX10_keepsLaw_36 ?_
      obtain ⟨σ_4, h_σ_4, h⟩ := am_bind h
      refine am_iast C0 (ltM (tgM_7_21 kM0)) (tgM_7_21 kM0) (lnM_7_21 kM0) h_σ_4 dX10_keepsLaw_39 ?_
      refine am_aload_n C0 dX10_keepsLaw_40 0 rfl ?_
      refine am_getR C0 (j := 13) ff_RX10_46 (loM_7_22 kM0).1 (loM_7_22 kM0).2.1 (loM_7_22 kM0).2.2.1 (loM_7_22 kM0).2.2.2 dX10_keepsLaw_41 ?_
      refine am_iload_n C0 dX10_keepsLaw_44 1 rfl ?_
      refine am_aload_n C0 dX10_keepsLaw_45 0 rfl ?_
      refine am_aload_n C0 dX10_keepsLaw_46 0 rfl ?_
      refine am_getR C0 (j := 13) ff_RX10_46 (loM_7_22 kM0).1 (loM_7_22 kM0).2.1 (loM_7_22 kM0).2.2.1 (loM_7_22 kM0).2.2.2 dX10_keepsLaw_47 ?_
      refine am_iload_n C0 dX10_keepsLaw_50 1 rfl ?_
      obtain ⟨t_5, h_t_5, h⟩ := am_bind h
      refine am_iald C0 (ltM (tgM_7_22 kM0)) (tgM_7_22 kM0) (lnM_7_22 kM0) h_t_5 dX10_keepsLaw_51 ?_
      obtain ⟨q_6, h_q_6, h⟩ := am_bind h
      refine am_callV C0 (m_M_keeps (σ := σ_4) (Nat.le_refl _) t_5  h_q_6) mm_yX10_keeps ln_RX10_483 (As := fun b => [.int t_5]) (fun _ => rfl) (fun _ => rfl) (loM_7_0 kM0).1 (loM_7_0 kM0).2.1 rfl (Nat.le_trans (by decide) hd) rfl (Nat.le_of_ble_eq_true rfl) dX10_keepsLaw_52 ?_
      obtain ⟨σ_7, h_σ_7, h⟩ := am_bind h
      refine am_iast C0 (ltM (tgM_7_22 kM0)) (tgM_7_22 kM0) (lnM_7_22 kM0) h_σ_7 dX10_keepsLaw_55 ?_
      refine am_aload_n C0 dX10_keepsLaw_56 0 rfl ?_
      refine am_getR C0 (j := 14) ff_RX10_49 (loM_7_23 kM0).1 (loM_7_23 kM0).2.1 (loM_7_23 kM0).2.2.1 (loM_7_23 kM0).2.2.2 dX10_keepsLaw_57 ?_
      refine am_iload_n C0 dX10_keepsLaw_60 1 rfl ?_
      refine am_aload_n C0 dX10_keepsLaw_61 0 rfl ?_
      refine am_aload_n C0 dX10_keepsLaw_62 0 rfl ?_
      refine am_getR C0 (j := 14) ff_RX10_49 (loM_7_23 kM0).1 (loM_7_23 kM0).2.1 (loM_7_23 kM0).2.2.1 (loM_7_23 kM0).2.2.2 dX10_keepsLaw_63 ?_
      refine am_iload_n C0 dX10_keepsLaw_66 1 rfl ?_
      obtain ⟨t_8, h_t_8, h⟩ := am_bind h
      refine am_iald C0 (ltM (tgM_7_23 kM0)) (tgM_7_23 kM0) (lnM_7_23 kM0) h_t_8 dX10_keepsLaw_67 ?_
      obtain ⟨q_9, h_q_9, h⟩ := am_bind h
      refine am_callV C0 (m_M_keeps (σ := σ_7) (Nat.le_refl _) t_8  h_q_9) mm_yX10_keeps ln_RX10_483 (As := fun b => [.int t_8]) (fun _ => rfl) (fun _ => rfl) (loM_7_0 kM0).1 (loM_7_0 kM0).2.1 rfl (Nat.le_trans (by decide) hd) rfl (Nat.le_of_ble_eq_true rfl) dX10_keepsLaw_68 ?_
      obtain ⟨σ_10, h_σ_10, h⟩ := am_bind h
      refine am_iast C0 (ltM (tgM_7_23 kM0)) (tgM_7_23 kM0) (lnM_7_23 kM0) h_σ_10 dX10_keepsLaw_71 ?_
      refine am_aload_n C0 dX10_keepsLaw_72 0 rfl ?_
      refine am_getR C0 (j := 15) ff_RX10_52 (loM_7_24 kM0).1 (loM_7_24 kM0).2.1 (loM_7_24 kM0).2.2.1 (loM_7_24 kM0).2.2.2 dX10_keepsLaw_73 ?_
      refine am_iload_n C0 dX10_keepsLaw_76 1 rfl ?_
      refine am_aload_n C0 dX10_keepsLaw_77 0 rfl ?_
      refine am_aload_n C0 dX10_keepsLaw_78 0 rfl ?_
      refine am_getR C0 (j := 15) ff_RX10_52 (loM_7_24 kM0).1 (loM_7_24 kM0).2.1 (loM_7_24 kM0).2.2.1 (loM_7_24 kM0).2.2.2 dX10_keepsLaw_79 ?_
      refine am_iload_n C0 dX10_keepsLaw_82 1 rfl ?_
      obtain ⟨t_11, h_t_11, h⟩ := am_bind h
      refine am_iald C0 (ltM (tgM_7_24 kM0)) (tgM_7_24 kM0) (lnM_7_24 kM0) h_t_11 dX10_keepsLaw_83 ?_
      obtain ⟨q_12, h_q_12, h⟩ := am_bind h
      refine am_callV C0 (m_M_keeps (σ := σ_10) (Nat.le_refl _) t_11  h_q_12) mm_yX10_keeps ln_RX10_483 (As := fun b => [.int t_11]) (fun _ => rfl) (fun _ => rfl) (loM_7_0 kM0).1 (loM_7_0 kM0).2.1 rfl (Nat.le_trans (by decide) hd) rfl (Nat.le_of_ble_eq_true rfl) dX10_keepsLaw_84 ?_
      obtain ⟨σ_13, h_σ_13, h⟩ := am_bind h
      refine am_iast C0 (ltM (tgM_7_24 kM0)) (tgM_7_24 kM0) (lnM_7_24 kM0) h_σ_13 dX10_keepsLaw_87 ?_
      obtain ⟨x1_14, e_x1_14, h⟩ := am_lt h
      refine am_iinc C0 dX10_keepsLaw_88 1 rfl (by rw [ci_1]; exact e_x1_14) (by decide) rfl (lv' := [(0, .ref (am_b G 0)), (1, .int x1_14)]) rfl ?_
      refine am_goto C0 dX10_keepsLaw_91 (tgt := 18) (by decide) ?_
      exact am_sub [0, 1] rfl (ih x1_14 σ_13  h)
set_option maxRecDepth 100000 in
set_option maxHeartbeats 4000000 in
theorem k_M_keepsLaw {G : am_T} {d0 : Nat} (C0 : am_C G cX10_keepsLaw 2 RX10 LM d0) (hd : 2 ≤ d0) (F : Nat) {q : am_SS} (hret : am_retV G cX10_keepsLaw 2 q) (σ : am_SS) (h : M_keepsLaw F  σ = some q) : am_K G 2 0 [(0, .ref (am_b G 0))] [] σ := by
  unfold M_keepsLaw at h
  refine am_aload_n C0 dX10_keepsLaw_0 0 rfl ?_
  refine am_getR C0 (j := 11) ff_RX10_40 (loM_7_20 kM0).1 (loM_7_20 kM0).2.1 (loM_7_20 kM0).2.2.1 (loM_7_20 kM0).2.2.2 dX10_keepsLaw_1 ?_
  refine am_iconst C0 dX10_keepsLaw_4 ci_0 ?_
  refine am_aload_n C0 dX10_keepsLaw_5 0 rfl ?_
  refine am_aload_n C0 dX10_keepsLaw_6 0 rfl ?_
  refine am_getR C0 (j := 11) ff_RX10_40 (loM_7_20 kM0).1 (loM_7_20 kM0).2.1 (loM_7_20 kM0).2.2.1 (loM_7_20 kM0).2.2.2 dX10_keepsLaw_7 ?_
  refine am_iconst C0 dX10_keepsLaw_10 ci_0 ?_
  obtain ⟨t_1, h_t_1, h⟩ := am_bind h
  refine am_iald C0 (ltM (tgM_7_20 kM0)) (tgM_7_20 kM0) (lnM_7_20 kM0) h_t_1 dX10_keepsLaw_11 ?_
  obtain ⟨q_2, h_q_2, h⟩ := am_bind h
  refine am_callV C0 (m_M_keeps (σ := σ) (Nat.le_refl _) t_1  h_q_2) mm_yX10_keeps ln_RX10_483 (As := fun b => [.int t_1]) (fun _ => rfl) (fun _ => rfl) (loM_7_0 kM0).1 (loM_7_0 kM0).2.1 rfl (Nat.le_trans (by decide) hd) rfl (Nat.le_of_ble_eq_true rfl) dX10_keepsLaw_12 ?_
  obtain ⟨σ_3, h_σ_3, h⟩ := am_bind h
  refine am_iast C0 (ltM (tgM_7_20 kM0)) (tgM_7_20 kM0) (lnM_7_20 kM0) h_σ_3 dX10_keepsLaw_15 ?_
  refine am_iconst C0 dX10_keepsLaw_16 ci_0 ?_
  refine am_istore_n C0 dX10_keepsLaw_17 rfl (by decide) rfl (lv' := [(0, .ref (am_b G 0)), (1, .int 0)]) rfl ?_
  exact am_sub [0, 1] rfl (k_M_keepsLaw_l18 C0 hd F hret F 0 σ_3  h)
set_option maxRecDepth 100000 in
set_option maxHeartbeats 4000000 in
theorem m_M_keepsLaw {l : Launch} {d : Nat} {σ : am_SS} {q : am_SS} (hd : 2 ≤ d) (F : Nat) (h : M_keepsLaw F  σ = some q) : am_Met l yX10_keepsLaw cX10_keepsLaw 2 none d 0 0 LM (fun b => [.ref (b 0)]) σ none q :=
  am_metV (plainFor_of_name (by decide)) (lv := fun b => [(0, .ref (b 0))]) (fun _ => rfl) (fun _ => Nat.le_of_ble_eq_true rfl) (fun G C0 _ hret => k_M_keepsLaw C0 hd F hret  σ  h)
set_option maxRecDepth 100000 in
set_option maxHeartbeats 4000000 in
theorem k_M_keepsTold_l436 {G : am_T} {d0 : Nat} (C0 : am_C G cX10_keepsTold 2 RX10 LM d0) (hd : 2 ≤ d0) (F : Nat) {q : am_SS} (hret : am_retV G cX10_keepsTold 2 q) : ∀ (n : Nat) (x1 : Int32) (σ : am_SS) (h : M_keepsTold_l436 F n x1 σ = some q), am_K G 2 436 [(0, .ref (am_b G 0)), (1, .int x1)] [] σ := by
  intro n
  induction n with
  | zero =>
    intro x1 σ h
    rw [M_keepsTold_l436] at h
    cases h
  | succ n ih =>
    intro x1 σ h
    rw [M_keepsTold_l436] at h
    refine am_iload_n C0 dX10_keepsTold_436 1 rfl ?_
    refine am_bipush C0 dX10_keepsTold_437 kb_7 ?_
    refine am_icmp_ge C0 dX10_keepsTold_439 (tgt := 464) (by decide) (fun c_1 => ?_) (fun c_1 => ?_)
    · replace h := am_in h c_1
      have e := Option.some.inj h
      subst e
      exact hret _ _ dX10_keepsTold_464
    · replace h := am_ip h c_1
      refine am_aload_n C0 dX10_keepsTold_442 0 rfl ?_
      refine am_getR C0 (j := 34) ff_RX10_113 (loM_7_57 kM0).1 (loM_7_57 kM0).2.1 (loM_7_57 kM0).2.2.1 (loM_7_57 kM0).2.2.2 dX10_keepsTold_443 ?_
      refine am_iload_n C0 dX10_keepsTold_446 1 rfl ?_
      refine am_aload_n C0 dX10_keepsTold_447 0 rfl ?_
      refine am_aload_n C0 dX10_keepsTold_448 0 rfl ?_
      refine am_getR C0 (j := 34) ff_RX10_113 (loM_7_57 kM0).1 (loM_7_57 kM0).2.1 (loM_7_57 kM0).2.2.1 (loM_7_57 kM0).2.2.2 dX10_keepsTold_449 ?_
      refine am_iload_n C0 dX10_keepsTold_452 1 rfl ?_
      obtain ⟨t_2, h_t_2, h⟩ := am_bind h
      refine am_iald C0 (ltM (tgM_7_57 kM0)) (tgM_7_57 kM0) (lnM_7_57 kM0) h_t_2 dX10_keepsTold_453 ?_
      obtain ⟨q_3, h_q_3, h⟩ := am_bind h
      refine am_callV C0 (m_M_keeps (σ := σ) (Nat.le_refl _) t_2  h_q_3) mm_yX10_keeps ln_RX10_483 (As := fun b => [.int t_2]) (fun _ => rfl) (fun _ => rfl) (loM_7_0 kM0).1 (loM_7_0 kM0).2.1 rfl (Nat.le_trans (by decide) hd) rfl (Nat.le_of_ble_eq_true rfl) dX10_keepsTold_454 ?_
      obtain ⟨σ_4, h_σ_4, h⟩ := am_bind h
      refine am_iast C0 (ltM (tgM_7_57 kM0)) (tgM_7_57 kM0) (lnM_7_57 kM0) h_σ_4 dX10_keepsTold_457 ?_
      obtain ⟨x1_5, e_x1_5, h⟩ := am_lt h
      refine am_iinc C0 dX10_keepsTold_458 1 rfl (by rw [ci_1]; exact e_x1_5) (by decide) rfl (lv' := [(0, .ref (am_b G 0)), (1, .int x1_5)]) rfl ?_
      refine am_goto C0 dX10_keepsTold_461 (tgt := 436) (by decide) ?_
      exact am_sub [0, 1] rfl (ih x1_5 σ_4  h)
set_option maxRecDepth 100000 in
set_option maxHeartbeats 4000000 in
theorem k_M_keepsTold_l406 {G : am_T} {d0 : Nat} (C0 : am_C G cX10_keepsTold 2 RX10 LM d0) (hd : 2 ≤ d0) (F : Nat) {q : am_SS} (hret : am_retV G cX10_keepsTold 2 q) : ∀ (n : Nat) (x1 : Int32) (σ : am_SS) (h : M_keepsTold_l406 F n x1 σ = some q), am_K G 2 406 [(0, .ref (am_b G 0)), (1, .int x1)] [] σ := by
  intro n
  induction n with
  | zero =>
    intro x1 σ h
    rw [M_keepsTold_l406] at h
    cases h
  | succ n ih =>
    intro x1 σ h
    rw [M_keepsTold_l406] at h
    refine am_iload_n C0 dX10_keepsTold_406 1 rfl ?_
    refine am_bipush C0 dX10_keepsTold_407 kb_16 ?_
    refine am_icmp_ge C0 dX10_keepsTold_409 (tgt := 434) (by decide) (fun c_1 => ?_) (fun c_1 => ?_)
    · replace h := am_in h c_1
      refine am_iconst C0 dX10_keepsTold_434 ci_0 ?_
      refine am_istore_n C0 dX10_keepsTold_435 rfl (by decide) rfl (lv' := [(0, .ref (am_b G 0)), (1, .int 0)]) rfl ?_
      exact am_sub [0, 1] rfl (k_M_keepsTold_l436 C0 hd F hret F 0 σ  h)
    · replace h := am_ip h c_1
      refine am_aload_n C0 dX10_keepsTold_412 0 rfl ?_
      refine am_getR C0 (j := 32) ff_RX10_107 (loM_7_54 kM0).1 (loM_7_54 kM0).2.1 (loM_7_54 kM0).2.2.1 (loM_7_54 kM0).2.2.2 dX10_keepsTold_413 ?_
      refine am_iload_n C0 dX10_keepsTold_416 1 rfl ?_
      refine am_aload_n C0 dX10_keepsTold_417 0 rfl ?_
      refine am_aload_n C0 dX10_keepsTold_418 0 rfl ?_
      refine am_getR C0 (j := 32) ff_RX10_107 (loM_7_54 kM0).1 (loM_7_54 kM0).2.1 (loM_7_54 kM0).2.2.1 (loM_7_54 kM0).2.2.2 dX10_keepsTold_419 ?_
      refine am_iload_n C0 dX10_keepsTold_422 1 rfl ?_
      obtain ⟨t_2, h_t_2, h⟩ := am_bind h
      refine am_iald C0 (ltM (tgM_7_54 kM0)) (tgM_7_54 kM0) (lnM_7_54 kM0) h_t_2 dX10_keepsTold_423 ?_
      obtain ⟨q_3, h_q_3, h⟩ := am_bind h
      refine am_callV C0 (m_M_keeps (σ := σ) (Nat.le_refl _) t_2  h_q_3) mm_yX10_keeps ln_RX10_483 (As := fun b => [.int t_2]) (fun _ => rfl) (fun _ => rfl) (loM_7_0 kM0).1 (loM_7_0 kM0).2.1 rfl (Nat.le_trans (by decide) hd) rfl (Nat.le_of_ble_eq_true rfl) dX10_keepsTold_424 ?_
      obtain ⟨σ_4, h_σ_4, h⟩ := am_bind h
      refine am_iast C0 (ltM (tgM_7_54 kM0)) (tgM_7_54 kM0) (lnM_7_54 kM0) h_σ_4 dX10_keepsTold_427 ?_
      obtain ⟨x1_5, e_x1_5, h⟩ := am_lt h
      refine am_iinc C0 dX10_keepsTold_428 1 rfl (by rw [ci_1]; exact e_x1_5) (by decide) rfl (lv' := [(0, .ref (am_b G 0)), (1, .int x1_5)]) rfl ?_
      refine am_goto C0 dX10_keepsTold_431 (tgt := 406) (by decide) ?_
      exact am_sub [0, 1] rfl (ih x1_5 σ_4  h)
set_option maxRecDepth 100000 in
set_option maxHeartbeats 4000000 in
theorem k_M_keepsTold_l376 {G : am_T} {d0 : Nat} (C0 : am_C G cX10_keepsTold 2 RX10 LM d0) (hd : 2 ≤ d0) (F : Nat) {q : am_SS} (hret : am_retV G cX10_keepsTold 2 q) : ∀ (n : Nat) (x1 : Int32) (σ : am_SS) (h : M_keepsTold_l376 F n x1 σ = some q), am_K G 2 376 [(0, .ref (am_b G 0)), (1, .int x1)] [] σ := by
  intro n
  induction n with
  | zero =>
    intro x1 σ h
    rw [M_keepsTold_l376] at h
    cases h
  | succ n ih =>
    intro x1 σ h
    rw [M_keepsTold_l376] at h
    refine am_iload_n C0 dX10_keepsTold_376 1 rfl ?_
    refine am_bipush C0 dX10_keepsTold_377 kb_24 ?_
    refine am_icmp_ge C0 dX10_keepsTold_379 (tgt := 404) (by decide) (fun c_1 => ?_) (fun c_1 => ?_)
    · replace h := am_in h c_1
      refine am_iconst C0 dX10_keepsTold_404 ci_0 ?_
      refine am_istore_n C0 dX10_keepsTold_405 rfl (by decide) rfl (lv' := [(0, .ref (am_b G 0)), (1, .int 0)]) rfl ?_
      exact am_sub [0, 1] rfl (k_M_keepsTold_l406 C0 hd F hret F 0 σ  h)
    · replace h := am_ip h c_1
      refine am_aload_n C0 dX10_keepsTold_382 0 rfl ?_
      refine am_getR C0 (j := 31) ff_RX10_104 (loM_7_52 kM0).1 (loM_7_52 kM0).2.1 (loM_7_52 kM0).2.2.1 (loM_7_52 kM0).2.2.2 dX10_keepsTold_383 ?_
      refine am_iload_n C0 dX10_keepsTold_386 1 rfl ?_
      refine am_aload_n C0 dX10_keepsTold_387 0 rfl ?_
      refine am_aload_n C0 dX10_keepsTold_388 0 rfl ?_
      refine am_getR C0 (j := 31) ff_RX10_104 (loM_7_52 kM0).1 (loM_7_52 kM0).2.1 (loM_7_52 kM0).2.2.1 (loM_7_52 kM0).2.2.2 dX10_keepsTold_389 ?_
      refine am_iload_n C0 dX10_keepsTold_392 1 rfl ?_
      obtain ⟨t_2, h_t_2, h⟩ := am_bind h
      refine am_iald C0 (ltM (tgM_7_52 kM0)) (tgM_7_52 kM0) (lnM_7_52 kM0) h_t_2 dX10_keepsTold_393 ?_
      obtain ⟨q_3, h_q_3, h⟩ := am_bind h
      refine am_callV C0 (m_M_keeps (σ := σ) (Nat.le_refl _) t_2  h_q_3) mm_yX10_keeps ln_RX10_483 (As := fun b => [.int t_2]) (fun _ => rfl) (fun _ => rfl) (loM_7_0 kM0).1 (loM_7_0 kM0).2.1 rfl (Nat.le_trans (by decide) hd) rfl (Nat.le_of_ble_eq_true rfl) dX10_keepsTold_394 ?_
      obtain ⟨σ_4, h_σ_4, h⟩ := am_bind h
      refine am_iast C0 (ltM (tgM_7_52 kM0)) (tgM_7_52 kM0) (lnM_7_52 kM0) h_σ_4 dX10_keepsTold_397 ?_
      obtain ⟨x1_5, e_x1_5, h⟩ := am_lt h
      refine am_iinc C0 dX10_keepsTold_398 1 rfl (by rw [ci_1]; exact e_x1_5) (by decide) rfl (lv' := [(0, .ref (am_b G 0)), (1, .int x1_5)]) rfl ?_
      refine am_goto C0 dX10_keepsTold_401 (tgt := 376) (by decide) ?_
      exact am_sub [0, 1] rfl (ih x1_5 σ_4  h)
set_option maxRecDepth 100000 in
set_option maxHeartbeats 4000000 in
theorem k_M_keepsTold_l282 {G : am_T} {d0 : Nat} (C0 : am_C G cX10_keepsTold 2 RX10 LM d0) (hd : 2 ≤ d0) (F : Nat) {q : am_SS} (hret : am_retV G cX10_keepsTold 2 q) : ∀ (n : Nat) (x1 : Int32) (σ : am_SS) (h : M_keepsTold_l282 F n x1 σ = some q), am_K G 2 282 [(0, .ref (am_b G 0)), (1, .int x1)] [] σ := by
  intro n
  induction n with
  | zero =>
    intro x1 σ h
    rw [M_keepsTold_l282] at h
    cases h
  | succ n ih =>
    intro x1 σ h
    rw [M_keepsTold_l282] at h
    refine am_iload_n C0 dX10_keepsTold_282 1 rfl ?_
    refine am_bipush C0 dX10_keepsTold_283 kb_8 ?_
    refine am_icmp_ge C0 dX10_keepsTold_285 (tgt := 374) (by decide) (fun c_1 => ?_) (fun c_1 => ?_)
    · replace h := am_in h c_1
      refine am_iconst C0 dX10_keepsTold_374 ci_0 ?_
      refine am_istore_n C0 dX10_keepsTold_375 rfl (by decide) rfl (lv' := [(0, .ref (am_b G 0)), (1, .int 0)]) rfl ?_
      exact am_sub [0, 1] rfl (k_M_keepsTold_l376 C0 hd F hret F 0 σ  h)
    · replace h := am_ip h c_1
      refine am_aload_n C0 dX10_keepsTold_288 0 rfl ?_
      refine am_getR C0 (j := 24) ff_RX10_83 (loM_7_45 kM0).1 (loM_7_45 kM0).2.1 (loM_7_45 kM0).2.2.1 (loM_7_45 kM0).2.2.2 dX10_keepsTold_289 ?_
      refine am_iload_n C0 dX10_keepsTold_292 1 rfl ?_
      refine am_aload_n C0 dX10_keepsTold_293 0 rfl ?_
      refine am_aload_n C0 dX10_keepsTold_294 0 rfl ?_
      refine am_getR C0 (j := 24) ff_RX10_83 (loM_7_45 kM0).1 (loM_7_45 kM0).2.1 (loM_7_45 kM0).2.2.1 (loM_7_45 kM0).2.2.2 dX10_keepsTold_295 ?_
      refine am_iload_n C0 dX10_keepsTold_298 1 rfl ?_
      obtain ⟨t_2, h_t_2, h⟩ := am_bind h
      refine am_iald C0 (ltM (tgM_7_45 kM0)) (tgM_7_45 kM0) (lnM_7_45 kM0) h_t_2 dX10_keepsTold_299 ?_
      obtain ⟨q_3, h_q_3, h⟩ := am_bind h
      refine am_callV C0 (m_M_keeps (σ := σ) (Nat.le_refl _) t_2  h_q_3) mm_yX10_keeps ln_RX10_483 (As := fun b => [.int t_2]) (fun _ => rfl) (fun _ => rfl) (loM_7_0 kM0).1 (loM_7_0 kM0).2.1 rfl (Nat.le_trans (by decide) hd) rfl (Nat.le_of_ble_eq_true rfl) dX10_keepsTold_300 ?_
      obtain ⟨σ_4, h_σ_4, h⟩ := am_bind h
      refine am_iast C0 (ltM (tgM_7_45 kM0)) (tgM_7_45 kM0) (lnM_7_45 kM0) h_σ_4 dX10_keepsTold_303 ?_
      refine am_aload_n C0 dX10_keepsTold_304 0 rfl ?_
      refine am_getR C0 (j := 25) ff_RX10_86 (loM_7_46 kM0).1 (loM_7_46 kM0).2.1 (loM_7_46 kM0).2.2.1 (loM_7_46 kM0).2.2.2 dX10_keepsTold_305 ?_
      refine am_iload_n C0 dX10_keepsTold_308 1 rfl ?_
      refine am_aload_n C0 dX10_keepsTold_309 0 rfl ?_
      refine am_aload_n C0 dX10_keepsTold_310 0 rfl ?_
      refine am_getR C0 (j := 25) ff_RX10_86 (loM_7_46 kM0).1 (loM_7_46 kM0).2.1 (loM_7_46 kM0).2.2.1 (loM_7_46 kM0).2.2.2 dX10_keepsTold_311 ?_
      refine am_iload_n C0 dX10_keepsTold_314 1 rfl ?_
      obtain ⟨t_5, h_t_5, h⟩ := am_bind h
      refine am_iald C0 (ltM (tgM_7_46 kM0)) (tgM_7_46 kM0) (lnM_7_46 kM0) h_t_5 dX10_keepsTold_315 ?_
      obtain ⟨q_6, h_q_6, h⟩ := am_bind h
      refine am_callV C0 (m_M_keeps (σ := σ_4) (Nat.le_refl _) t_5  h_q_6) mm_yX10_keeps ln_RX10_483 (As := fun b => [.int t_5]) (fun _ => rfl) (fun _ => rfl) (loM_7_0 kM0).1 (loM_7_0 kM0).2.1 rfl (Nat.le_trans (by decide) hd) rfl (Nat.le_of_ble_eq_true rfl) dX10_keepsTold_316 ?_
      obtain ⟨σ_7, h_σ_7, h⟩ := am_bind h
      refine am_iast C0 (ltM (tgM_7_46 kM0)) (tgM_7_46 kM0) (lnM_7_46 kM0) h_σ_7 dX10_keepsTold_319 ?_
      refine am_aload_n C0 dX10_keepsTold_320 0 rfl ?_
      refine am_getR C0 (j := 26) ff_RX10_89 (loM_7_47 kM0).1 (loM_7_47 kM0).2.1 (loM_7_47 kM0).2.2.1 (loM_7_47 kM0).2.2.2 dX10_keepsTold_321 ?_
      refine am_iload_n C0 dX10_keepsTold_324 1 rfl ?_
      refine am_aload_n C0 dX10_keepsTold_325 0 rfl ?_
      refine am_aload_n C0 dX10_keepsTold_326 0 rfl ?_
      refine am_getR C0 (j := 26) ff_RX10_89 (loM_7_47 kM0).1 (loM_7_47 kM0).2.1 (loM_7_47 kM0).2.2.1 (loM_7_47 kM0).2.2.2 dX10_keepsTold_327 ?_
      refine am_iload_n C0 dX10_keepsTold_330 1 rfl ?_
      obtain ⟨t_8, h_t_8, h⟩ := am_bind h
      refine am_iald C0 (ltM (tgM_7_47 kM0)) (tgM_7_47 kM0) (lnM_7_47 kM0) h_t_8 dX10_keepsTold_331 ?_
      obtain ⟨q_9, h_q_9, h⟩ := am_bind h
      refine am_callV C0 (m_M_keeps (σ := σ_7) (Nat.le_refl _) t_8  h_q_9) mm_yX10_keeps ln_RX10_483 (As := fun b => [.int t_8]) (fun _ => rfl) (fun _ => rfl) (loM_7_0 kM0).1 (loM_7_0 kM0).2.1 rfl (Nat.le_trans (by decide) hd) rfl (Nat.le_of_ble_eq_true rfl) dX10_keepsTold_332 ?_
      obtain ⟨σ_10, h_σ_10, h⟩ := am_bind h
      refine am_iast C0 (ltM (tgM_7_47 kM0)) (tgM_7_47 kM0) (lnM_7_47 kM0) h_σ_10 dX10_keepsTold_335 ?_
      refine am_aload_n C0 dX10_keepsTold_336 0 rfl ?_
      refine am_getR C0 (j := 36) ff_RX10_119 (loM_7_60 kM0).1 (loM_7_60 kM0).2.1 (loM_7_60 kM0).2.2.1 (loM_7_60 kM0).2.2.2 dX10_keepsTold_337 ?_
      refine am_iload_n C0 dX10_keepsTold_340 1 rfl ?_
      refine am_aload_n C0 dX10_keepsTold_341 0 rfl ?_
      refine am_aload_n C0 dX10_keepsTold_342 0 rfl ?_
      refine am_getR C0 (j := 36) ff_RX10_119 (loM_7_60 kM0).1 (loM_7_60 kM0).2.1 (loM_7_60 kM0).2.2.1 (loM_7_60 kM0).2.2.2 dX10_keepsTold_343 ?_
      refine am_iload_n C0 dX10_keepsTold_346 1 rfl ?_
      obtain ⟨t_11, h_t_11, h⟩ := am_bind h
      refine am_iald C0 (ltM (tgM_7_60 kM0)) (tgM_7_60 kM0) (lnM_7_60 kM0) h_t_11 dX10_keepsTold_347 ?_
      obtain ⟨q_12, h_q_12, h⟩ := am_bind h
      refine am_callV C0 (m_M_keeps (σ := σ_10) (Nat.le_refl _) t_11  h_q_12) mm_yX10_keeps ln_RX10_483 (As := fun b => [.int t_11]) (fun _ => rfl) (fun _ => rfl) (loM_7_0 kM0).1 (loM_7_0 kM0).2.1 rfl (Nat.le_trans (by decide) hd) rfl (Nat.le_of_ble_eq_true rfl) dX10_keepsTold_348 ?_
      obtain ⟨σ_13, h_σ_13, h⟩ := am_bind h
      refine am_iast C0 (ltM (tgM_7_60 kM0)) (tgM_7_60 kM0) (lnM_7_60 kM0) h_σ_13 dX10_keepsTold_351 ?_
      refine am_aload_n C0 dX10_keepsTold_352 0 rfl ?_
      refine am_getR C0 (j := 37) ff_RX10_122 (loM_7_61 kM0).1 (loM_7_61 kM0).2.1 (loM_7_61 kM0).2.2.1 (loM_7_61 kM0).2.2.2 dX10_keepsTold_353 ?_
      refine am_iload_n C0 dX10_keepsTold_356 1 rfl ?_
      refine am_aload_n C0 dX10_keepsTold_357 0 rfl ?_
      refine am_aload_n C0 dX10_keepsTold_358 0 rfl ?_
      refine am_getR C0 (j := 37) ff_RX10_122 (loM_7_61 kM0).1 (loM_7_61 kM0).2.1 (loM_7_61 kM0).2.2.1 (loM_7_61 kM0).2.2.2 dX10_keepsTold_359 ?_
      refine am_iload_n C0 dX10_keepsTold_362 1 rfl ?_
      obtain ⟨t_14, h_t_14, h⟩ := am_bind h
      refine am_iald C0 (ltM (tgM_7_61 kM0)) (tgM_7_61 kM0) (lnM_7_61 kM0) h_t_14 dX10_keepsTold_363 ?_
      obtain ⟨q_15, h_q_15, h⟩ := am_bind h
      refine am_callV C0 (m_M_keeps (σ := σ_13) (Nat.le_refl _) t_14  h_q_15) mm_yX10_keeps ln_RX10_483 (As := fun b => [.int t_14]) (fun _ => rfl) (fun _ => rfl) (loM_7_0 kM0).1 (loM_7_0 kM0).2.1 rfl (Nat.le_trans (by decide) hd) rfl (Nat.le_of_ble_eq_true rfl) dX10_keepsTold_364 ?_
      obtain ⟨σ_16, h_σ_16, h⟩ := am_bind h
      refine am_iast C0 (ltM (tgM_7_61 kM0)) (tgM_7_61 kM0) (lnM_7_61 kM0) h_σ_16 dX10_keepsTold_367 ?_
      obtain ⟨x1_17, e_x1_17, h⟩ := am_lt h
      refine am_iinc C0 dX10_keepsTold_368 1 rfl (by rw [ci_1]; exact e_x1_17) (by decide) rfl (lv' := [(0, .ref (am_b G 0)), (1, .int x1_17)]) rfl ?_
      refine am_goto C0 dX10_keepsTold_371 (tgt := 282) (by decide) ?_
      exact am_sub [0, 1] rfl (ih x1_17 σ_16  h)
set_option maxRecDepth 100000 in
set_option maxHeartbeats 4000000 in
theorem k_M_keepsTold_l252 {G : am_T} {d0 : Nat} (C0 : am_C G cX10_keepsTold 2 RX10 LM d0) (hd : 2 ≤ d0) (F : Nat) {q : am_SS} (hret : am_retV G cX10_keepsTold 2 q) : ∀ (n : Nat) (x1 : Int32) (σ : am_SS) (h : M_keepsTold_l252 F n x1 σ = some q), am_K G 2 252 [(0, .ref (am_b G 0)), (1, .int x1)] [] σ := by
  intro n
  induction n with
  | zero =>
    intro x1 σ h
    rw [M_keepsTold_l252] at h
    cases h
  | succ n ih =>
    intro x1 σ h
    rw [M_keepsTold_l252] at h
    refine am_iload_n C0 dX10_keepsTold_252 1 rfl ?_
    refine am_bipush C0 dX10_keepsTold_253 kb_64 ?_
    refine am_icmp_ge C0 dX10_keepsTold_255 (tgt := 280) (by decide) (fun c_1 => ?_) (fun c_1 => ?_)
    · replace h := am_in h c_1
      refine am_iconst C0 dX10_keepsTold_280 ci_0 ?_
      refine am_istore_n C0 dX10_keepsTold_281 rfl (by decide) rfl (lv' := [(0, .ref (am_b G 0)), (1, .int 0)]) rfl ?_
      exact am_sub [0, 1] rfl (k_M_keepsTold_l282 C0 hd F hret F 0 σ  h)
    · replace h := am_ip h c_1
      refine am_aload_n C0 dX10_keepsTold_258 0 rfl ?_
      refine am_getR C0 (j := 19) ff_RX10_68 (loM_7_37 kM0).1 (loM_7_37 kM0).2.1 (loM_7_37 kM0).2.2.1 (loM_7_37 kM0).2.2.2 dX10_keepsTold_259 ?_
      refine am_iload_n C0 dX10_keepsTold_262 1 rfl ?_
      refine am_aload_n C0 dX10_keepsTold_263 0 rfl ?_
      refine am_aload_n C0 dX10_keepsTold_264 0 rfl ?_
      refine am_getR C0 (j := 19) ff_RX10_68 (loM_7_37 kM0).1 (loM_7_37 kM0).2.1 (loM_7_37 kM0).2.2.1 (loM_7_37 kM0).2.2.2 dX10_keepsTold_265 ?_
      refine am_iload_n C0 dX10_keepsTold_268 1 rfl ?_
      obtain ⟨t_2, h_t_2, h⟩ := am_bind h
      refine am_iald C0 (ltM (tgM_7_37 kM0)) (tgM_7_37 kM0) (lnM_7_37 kM0) h_t_2 dX10_keepsTold_269 ?_
      obtain ⟨q_3, h_q_3, h⟩ := am_bind h
      refine am_callV C0 (m_M_keeps (σ := σ) (Nat.le_refl _) t_2  h_q_3) mm_yX10_keeps ln_RX10_483 (As := fun b => [.int t_2]) (fun _ => rfl) (fun _ => rfl) (loM_7_0 kM0).1 (loM_7_0 kM0).2.1 rfl (Nat.le_trans (by decide) hd) rfl (Nat.le_of_ble_eq_true rfl) dX10_keepsTold_270 ?_
      obtain ⟨σ_4, h_σ_4, h⟩ := am_bind h
      refine am_iast C0 (ltM (tgM_7_37 kM0)) (tgM_7_37 kM0) (lnM_7_37 kM0) h_σ_4 dX10_keepsTold_273 ?_
      obtain ⟨x1_5, e_x1_5, h⟩ := am_lt h
      refine am_iinc C0 dX10_keepsTold_274 1 rfl (by rw [ci_1]; exact e_x1_5) (by decide) rfl (lv' := [(0, .ref (am_b G 0)), (1, .int x1_5)]) rfl ?_
      refine am_goto C0 dX10_keepsTold_277 (tgt := 252) (by decide) ?_
      exact am_sub [0, 1] rfl (ih x1_5 σ_4  h)
set_option maxRecDepth 100000 in
set_option maxHeartbeats 4000000 in
theorem k_M_keepsTold_l142 {G : am_T} {d0 : Nat} (C0 : am_C G cX10_keepsTold 2 RX10 LM d0) (hd : 2 ≤ d0) (F : Nat) {q : am_SS} (hret : am_retV G cX10_keepsTold 2 q) : ∀ (n : Nat) (x1 : Int32) (σ : am_SS) (h : M_keepsTold_l142 F n x1 σ = some q), am_K G 2 142 [(0, .ref (am_b G 0)), (1, .int x1)] [] σ := by
  intro n
  induction n with
  | zero =>
    intro x1 σ h
    rw [M_keepsTold_l142] at h
    cases h
  | succ n ih =>
    intro x1 σ h
    rw [M_keepsTold_l142] at h
    refine am_iload_n C0 dX10_keepsTold_142 1 rfl ?_
    refine am_bipush C0 dX10_keepsTold_143 kb_12 ?_
    refine am_icmp_ge C0 dX10_keepsTold_145 (tgt := 250) (by decide) (fun c_1 => ?_) (fun c_1 => ?_)
    · replace h := am_in h c_1
      refine am_iconst C0 dX10_keepsTold_250 ci_0 ?_
      refine am_istore_n C0 dX10_keepsTold_251 rfl (by decide) rfl (lv' := [(0, .ref (am_b G 0)), (1, .int 0)]) rfl ?_
      exact am_sub [0, 1] rfl (k_M_keepsTold_l252 C0 hd F hret F 0 σ  h)
    · replace h := am_ip h c_1
      refine am_aload_n C0 dX10_keepsTold_148 0 rfl ?_
      refine am_getR C0 (j := 4) ff_RX10_19 (loM_7_8 kM0).1 (loM_7_8 kM0).2.1 (loM_7_8 kM0).2.2.1 (loM_7_8 kM0).2.2.2 dX10_keepsTold_149 ?_
      refine am_iload_n C0 dX10_keepsTold_152 1 rfl ?_
      refine am_aload_n C0 dX10_keepsTold_153 0 rfl ?_
      refine am_aload_n C0 dX10_keepsTold_154 0 rfl ?_
      refine am_getR C0 (j := 4) ff_RX10_19 (loM_7_8 kM0).1 (loM_7_8 kM0).2.1 (loM_7_8 kM0).2.2.1 (loM_7_8 kM0).2.2.2 dX10_keepsTold_155 ?_
      refine am_iload_n C0 dX10_keepsTold_158 1 rfl ?_
      obtain ⟨t_2, h_t_2, h⟩ := am_bind h
      refine am_iald C0 (ltM (tgM_7_8 kM0)) (tgM_7_8 kM0) (lnM_7_8 kM0) h_t_2 dX10_keepsTold_159 ?_
      obtain ⟨q_3, h_q_3, h⟩ := am_bind h
      refine am_callV C0 (m_M_keeps (σ := σ) (Nat.le_refl _) t_2  h_q_3) mm_yX10_keeps ln_RX10_483 (As := fun b => [.int t_2]) (fun _ => rfl) (fun _ => rfl) (loM_7_0 kM0).1 (loM_7_0 kM0).2.1 rfl (Nat.le_trans (by decide) hd) rfl (Nat.le_of_ble_eq_true rfl) dX10_keepsTold_160 ?_
      obtain ⟨σ_4, h_σ_4, h⟩ := am_bind h
      refine am_iast C0 (ltM (tgM_7_8 kM0)) (tgM_7_8 kM0) (lnM_7_8 kM0) h_σ_4 dX10_keepsTold_163 ?_
      refine am_aload_n C0 dX10_keepsTold_164 0 rfl ?_
      refine am_getR C0 (j := 5) ff_RX10_22 (loM_7_9 kM0).1 (loM_7_9 kM0).2.1 (loM_7_9 kM0).2.2.1 (loM_7_9 kM0).2.2.2 dX10_keepsTold_165 ?_
      refine am_iload_n C0 dX10_keepsTold_168 1 rfl ?_
      refine am_aload_n C0 dX10_keepsTold_169 0 rfl ?_
      refine am_aload_n C0 dX10_keepsTold_170 0 rfl ?_
      refine am_getR C0 (j := 5) ff_RX10_22 (loM_7_9 kM0).1 (loM_7_9 kM0).2.1 (loM_7_9 kM0).2.2.1 (loM_7_9 kM0).2.2.2 dX10_keepsTold_171 ?_
      refine am_iload_n C0 dX10_keepsTold_174 1 rfl ?_
      obtain ⟨t_5, h_t_5, h⟩ := am_bind h
      refine am_iald C0 (ltM (tgM_7_9 kM0)) (tgM_7_9 kM0) (lnM_7_9 kM0) h_t_5 dX10_keepsTold_175 ?_
      obtain ⟨q_6, h_q_6, h⟩ := am_bind h
      refine am_callV C0 (m_M_keeps (σ := σ_4) (Nat.le_refl _) t_5  h_q_6) mm_yX10_keeps ln_RX10_483 (As := fun b => [.int t_5]) (fun _ => rfl) (fun _ => rfl) (loM_7_0 kM0).1 (loM_7_0 kM0).2.1 rfl (Nat.le_trans (by decide) hd) rfl (Nat.le_of_ble_eq_true rfl) dX10_keepsTold_176 ?_
      obtain ⟨σ_7, h_σ_7, h⟩ := am_bind h
      refine am_iast C0 (ltM (tgM_7_9 kM0)) (tgM_7_9 kM0) (lnM_7_9 kM0) h_σ_7 dX10_keepsTold_179 ?_
      refine am_aload_n C0 dX10_keepsTold_180 0 rfl ?_
      refine am_getR C0 (j := 6) ff_RX10_25 (loM_7_10 kM0).1 (loM_7_10 kM0).2.1 (loM_7_10 kM0).2.2.1 (loM_7_10 kM0).2.2.2 dX10_keepsTold_181 ?_
      refine am_iload_n C0 dX10_keepsTold_184 1 rfl ?_
      refine am_aload_n C0 dX10_keepsTold_185 0 rfl ?_
      refine am_aload_n C0 dX10_keepsTold_186 0 rfl ?_
      refine am_getR C0 (j := 6) ff_RX10_25 (loM_7_10 kM0).1 (loM_7_10 kM0).2.1 (loM_7_10 kM0).2.2.1 (loM_7_10 kM0).2.2.2 dX10_keepsTold_187 ?_
      refine am_iload_n C0 dX10_keepsTold_190 1 rfl ?_
      obtain ⟨t_8, h_t_8, h⟩ := am_bind h
      refine am_iald C0 (ltM (tgM_7_10 kM0)) (tgM_7_10 kM0) (lnM_7_10 kM0) h_t_8 dX10_keepsTold_191 ?_
      obtain ⟨q_9, h_q_9, h⟩ := am_bind h
      refine am_callV C0 (m_M_keeps (σ := σ_7) (Nat.le_refl _) t_8  h_q_9) mm_yX10_keeps ln_RX10_483 (As := fun b => [.int t_8]) (fun _ => rfl) (fun _ => rfl) (loM_7_0 kM0).1 (loM_7_0 kM0).2.1 rfl (Nat.le_trans (by decide) hd) rfl (Nat.le_of_ble_eq_true rfl) dX10_keepsTold_192 ?_
      obtain ⟨σ_10, h_σ_10, h⟩ := am_bind h
      refine am_iast C0 (ltM (tgM_7_10 kM0)) (tgM_7_10 kM0) (lnM_7_10 kM0) h_σ_10 dX10_keepsTold_195 ?_
      refine am_aload_n C0 dX10_keepsTold_196 0 rfl ?_
      refine am_getR C0 (j := 7) ff_RX10_28 (loM_7_11 kM0).1 (loM_7_11 kM0).2.1 (loM_7_11 kM0).2.2.1 (loM_7_11 kM0).2.2.2 dX10_keepsTold_197 ?_
      refine am_iload_n C0 dX10_keepsTold_200 1 rfl ?_
      refine am_aload_n C0 dX10_keepsTold_201 0 rfl ?_
      refine am_aload_n C0 dX10_keepsTold_202 0 rfl ?_
      refine am_getR C0 (j := 7) ff_RX10_28 (loM_7_11 kM0).1 (loM_7_11 kM0).2.1 (loM_7_11 kM0).2.2.1 (loM_7_11 kM0).2.2.2 dX10_keepsTold_203 ?_
      refine am_iload_n C0 dX10_keepsTold_206 1 rfl ?_
      obtain ⟨t_11, h_t_11, h⟩ := am_bind h
      refine am_iald C0 (ltM (tgM_7_11 kM0)) (tgM_7_11 kM0) (lnM_7_11 kM0) h_t_11 dX10_keepsTold_207 ?_
      obtain ⟨q_12, h_q_12, h⟩ := am_bind h
      refine am_callV C0 (m_M_keeps (σ := σ_10) (Nat.le_refl _) t_11  h_q_12) mm_yX10_keeps ln_RX10_483 (As := fun b => [.int t_11]) (fun _ => rfl) (fun _ => rfl) (loM_7_0 kM0).1 (loM_7_0 kM0).2.1 rfl (Nat.le_trans (by decide) hd) rfl (Nat.le_of_ble_eq_true rfl) dX10_keepsTold_208 ?_
      obtain ⟨σ_13, h_σ_13, h⟩ := am_bind h
      refine am_iast C0 (ltM (tgM_7_11 kM0)) (tgM_7_11 kM0) (lnM_7_11 kM0) h_σ_13 dX10_keepsTold_211 ?_
      refine am_aload_n C0 dX10_keepsTold_212 0 rfl ?_
      refine am_getR C0 (j := 20) ff_RX10_71 (loM_7_39 kM0).1 (loM_7_39 kM0).2.1 (loM_7_39 kM0).2.2.1 (loM_7_39 kM0).2.2.2 dX10_keepsTold_213 ?_
      refine am_iload_n C0 dX10_keepsTold_216 1 rfl ?_
      refine am_aload_n C0 dX10_keepsTold_217 0 rfl ?_
      refine am_aload_n C0 dX10_keepsTold_218 0 rfl ?_
      refine am_getR C0 (j := 20) ff_RX10_71 (loM_7_39 kM0).1 (loM_7_39 kM0).2.1 (loM_7_39 kM0).2.2.1 (loM_7_39 kM0).2.2.2 dX10_keepsTold_219 ?_
      refine am_iload_n C0 dX10_keepsTold_222 1 rfl ?_
      obtain ⟨t_14, h_t_14, h⟩ := am_bind h
      refine am_iald C0 (ltM (tgM_7_39 kM0)) (tgM_7_39 kM0) (lnM_7_39 kM0) h_t_14 dX10_keepsTold_223 ?_
      obtain ⟨q_15, h_q_15, h⟩ := am_bind h
      refine am_callV C0 (m_M_keeps (σ := σ_13) (Nat.le_refl _) t_14  h_q_15) mm_yX10_keeps ln_RX10_483 (As := fun b => [.int t_14]) (fun _ => rfl) (fun _ => rfl) (loM_7_0 kM0).1 (loM_7_0 kM0).2.1 rfl (Nat.le_trans (by decide) hd) rfl (Nat.le_of_ble_eq_true rfl) dX10_keepsTold_224 ?_
      obtain ⟨σ_16, h_σ_16, h⟩ := am_bind h
      refine am_iast C0 (ltM (tgM_7_39 kM0)) (tgM_7_39 kM0) (lnM_7_39 kM0) h_σ_16 dX10_keepsTold_227 ?_
      refine am_aload_n C0 dX10_keepsTold_228 0 rfl ?_
      refine am_getR C0 (j := 21) ff_RX10_74 (loM_7_41 kM0).1 (loM_7_41 kM0).2.1 (loM_7_41 kM0).2.2.1 (loM_7_41 kM0).2.2.2 dX10_keepsTold_229 ?_
      refine am_iload_n C0 dX10_keepsTold_232 1 rfl ?_
      refine am_aload_n C0 dX10_keepsTold_233 0 rfl ?_
      refine am_aload_n C0 dX10_keepsTold_234 0 rfl ?_
      refine am_getR C0 (j := 21) ff_RX10_74 (loM_7_41 kM0).1 (loM_7_41 kM0).2.1 (loM_7_41 kM0).2.2.1 (loM_7_41 kM0).2.2.2 dX10_keepsTold_235 ?_
      refine am_iload_n C0 dX10_keepsTold_238 1 rfl ?_
      obtain ⟨t_17, h_t_17, h⟩ := am_bind h
      refine am_iald C0 (ltM (tgM_7_41 kM0)) (tgM_7_41 kM0) (lnM_7_41 kM0) h_t_17 dX10_keepsTold_239 ?_
      obtain ⟨q_18, h_q_18, h⟩ := am_bind h
      refine am_callV C0 (m_M_keeps (σ := σ_16) (Nat.le_refl _) t_17  h_q_18) mm_yX10_keeps ln_RX10_483 (As := fun b => [.int t_17]) (fun _ => rfl) (fun _ => rfl) (loM_7_0 kM0).1 (loM_7_0 kM0).2.1 rfl (Nat.le_trans (by decide) hd) rfl (Nat.le_of_ble_eq_true rfl) dX10_keepsTold_240 ?_
      obtain ⟨σ_19, h_σ_19, h⟩ := am_bind h
      refine am_iast C0 (ltM (tgM_7_41 kM0)) (tgM_7_41 kM0) (lnM_7_41 kM0) h_σ_19 dX10_keepsTold_243 ?_
      obtain ⟨x1_20, e_x1_20, h⟩ := am_lt h
      refine am_iinc C0 dX10_keepsTold_244 1 rfl (by rw [ci_1]; exact e_x1_20) (by decide) rfl (lv' := [(0, .ref (am_b G 0)), (1, .int x1_20)]) rfl ?_
      refine am_goto C0 dX10_keepsTold_247 (tgt := 142) (by decide) ?_
      exact am_sub [0, 1] rfl (ih x1_20 σ_19  h)
set_option maxRecDepth 100000 in
set_option maxHeartbeats 4000000 in
theorem k_M_keepsTold {G : am_T} {d0 : Nat} (C0 : am_C G cX10_keepsTold 2 RX10 LM d0) (hd : 2 ≤ d0) (F : Nat) {q : am_SS} (hret : am_retV G cX10_keepsTold 2 q) (σ : am_SS) (h : M_keepsTold F  σ = some q) : am_K G 2 0 [(0, .ref (am_b G 0))] [] σ := by
  unfold M_keepsTold at h
  refine am_aload_n C0 dX10_keepsTold_0 0 rfl ?_
  refine am_aload_n C0 dX10_keepsTold_1 0 rfl ?_
  refine am_aload_n C0 dX10_keepsTold_2 0 rfl ?_
  refine am_getI C0 ff_RX10_143 (loM_7_6 kM0).1 (loM_7_6 kM0).2.1 (loM_7_6 kM0).2.2.1 (loM_7_6 kM0).2.2.2 dX10_keepsTold_3 ?_
  obtain ⟨q_1, h_q_1, h⟩ := am_bind h
  refine am_callV C0 (m_M_keeps (σ := σ) (Nat.le_refl _) (σ 0 6)  h_q_1) mm_yX10_keeps ln_RX10_483 (As := fun b => [.int (σ 0 6)]) (fun _ => rfl) (fun _ => rfl) (loM_7_0 kM0).1 (loM_7_0 kM0).2.1 rfl (Nat.le_trans (by decide) hd) rfl (Nat.le_of_ble_eq_true rfl) dX10_keepsTold_6 ?_
  obtain ⟨σ_2, e_σ_2, h⟩ := am_lt h
  refine am_putI C0 e_σ_2 fp_RX10_143 (loM_7_6 kM0).1 (loM_7_6 kM0).2.1 (loM_7_6 kM0).2.2.1 (loM_7_6 kM0).2.2.2 rfl rfl dX10_keepsTold_9 ?_
  refine am_aload_n C0 dX10_keepsTold_12 0 rfl ?_
  refine am_aload_n C0 dX10_keepsTold_13 0 rfl ?_
  refine am_aload_n C0 dX10_keepsTold_14 0 rfl ?_
  refine am_getI C0 ff_RX10_146 (loM_7_7 kM0).1 (loM_7_7 kM0).2.1 (loM_7_7 kM0).2.2.1 (loM_7_7 kM0).2.2.2 dX10_keepsTold_15 ?_
  obtain ⟨q_3, h_q_3, h⟩ := am_bind h
  refine am_callV C0 (m_M_keeps (σ := σ_2) (Nat.le_refl _) (σ_2 0 7)  h_q_3) mm_yX10_keeps ln_RX10_483 (As := fun b => [.int (σ_2 0 7)]) (fun _ => rfl) (fun _ => rfl) (loM_7_0 kM0).1 (loM_7_0 kM0).2.1 rfl (Nat.le_trans (by decide) hd) rfl (Nat.le_of_ble_eq_true rfl) dX10_keepsTold_18 ?_
  obtain ⟨σ_4, e_σ_4, h⟩ := am_lt h
  refine am_putI C0 e_σ_4 fp_RX10_146 (loM_7_7 kM0).1 (loM_7_7 kM0).2.1 (loM_7_7 kM0).2.2.1 (loM_7_7 kM0).2.2.2 rfl rfl dX10_keepsTold_21 ?_
  refine am_aload_n C0 dX10_keepsTold_24 0 rfl ?_
  refine am_aload_n C0 dX10_keepsTold_25 0 rfl ?_
  refine am_aload_n C0 dX10_keepsTold_26 0 rfl ?_
  refine am_getI C0 ff_RX10_297 (loM_7_36 kM0).1 (loM_7_36 kM0).2.1 (loM_7_36 kM0).2.2.1 (loM_7_36 kM0).2.2.2 dX10_keepsTold_27 ?_
  obtain ⟨q_5, h_q_5, h⟩ := am_bind h
  refine am_callV C0 (m_M_keeps (σ := σ_4) (Nat.le_refl _) (σ_4 0 36)  h_q_5) mm_yX10_keeps ln_RX10_483 (As := fun b => [.int (σ_4 0 36)]) (fun _ => rfl) (fun _ => rfl) (loM_7_0 kM0).1 (loM_7_0 kM0).2.1 rfl (Nat.le_trans (by decide) hd) rfl (Nat.le_of_ble_eq_true rfl) dX10_keepsTold_30 ?_
  obtain ⟨σ_6, e_σ_6, h⟩ := am_lt h
  refine am_putI C0 e_σ_6 fp_RX10_297 (loM_7_36 kM0).1 (loM_7_36 kM0).2.1 (loM_7_36 kM0).2.2.1 (loM_7_36 kM0).2.2.2 rfl rfl dX10_keepsTold_33 ?_
  refine am_aload_n C0 dX10_keepsTold_36 0 rfl ?_
  refine am_aload_n C0 dX10_keepsTold_37 0 rfl ?_
  refine am_aload_n C0 dX10_keepsTold_38 0 rfl ?_
  refine am_getI C0 ff_RX10_300 (loM_7_38 kM0).1 (loM_7_38 kM0).2.1 (loM_7_38 kM0).2.2.1 (loM_7_38 kM0).2.2.2 dX10_keepsTold_39 ?_
  obtain ⟨q_7, h_q_7, h⟩ := am_bind h
  refine am_callV C0 (m_M_keeps (σ := σ_6) (Nat.le_refl _) (σ_6 0 38)  h_q_7) mm_yX10_keeps ln_RX10_483 (As := fun b => [.int (σ_6 0 38)]) (fun _ => rfl) (fun _ => rfl) (loM_7_0 kM0).1 (loM_7_0 kM0).2.1 rfl (Nat.le_trans (by decide) hd) rfl (Nat.le_of_ble_eq_true rfl) dX10_keepsTold_42 ?_
  obtain ⟨σ_8, e_σ_8, h⟩ := am_lt h
  refine am_putI C0 e_σ_8 fp_RX10_300 (loM_7_38 kM0).1 (loM_7_38 kM0).2.1 (loM_7_38 kM0).2.2.1 (loM_7_38 kM0).2.2.2 rfl rfl dX10_keepsTold_45 ?_
  refine am_aload_n C0 dX10_keepsTold_48 0 rfl ?_
  refine am_aload_n C0 dX10_keepsTold_49 0 rfl ?_
  refine am_aload_n C0 dX10_keepsTold_50 0 rfl ?_
  refine am_getI C0 ff_RX10_303 (loM_7_40 kM0).1 (loM_7_40 kM0).2.1 (loM_7_40 kM0).2.2.1 (loM_7_40 kM0).2.2.2 dX10_keepsTold_51 ?_
  obtain ⟨q_9, h_q_9, h⟩ := am_bind h
  refine am_callV C0 (m_M_keeps (σ := σ_8) (Nat.le_refl _) (σ_8 0 40)  h_q_9) mm_yX10_keeps ln_RX10_483 (As := fun b => [.int (σ_8 0 40)]) (fun _ => rfl) (fun _ => rfl) (loM_7_0 kM0).1 (loM_7_0 kM0).2.1 rfl (Nat.le_trans (by decide) hd) rfl (Nat.le_of_ble_eq_true rfl) dX10_keepsTold_54 ?_
  obtain ⟨σ_10, e_σ_10, h⟩ := am_lt h
  refine am_putI C0 e_σ_10 fp_RX10_303 (loM_7_40 kM0).1 (loM_7_40 kM0).2.1 (loM_7_40 kM0).2.2.1 (loM_7_40 kM0).2.2.2 rfl rfl dX10_keepsTold_57 ?_
  refine am_aload_n C0 dX10_keepsTold_60 0 rfl ?_
  refine am_aload_n C0 dX10_keepsTold_61 0 rfl ?_
  refine am_aload_n C0 dX10_keepsTold_62 0 rfl ?_
  refine am_getI C0 ff_RX10_407 (loM_7_44 kM0).1 (loM_7_44 kM0).2.1 (loM_7_44 kM0).2.2.1 (loM_7_44 kM0).2.2.2 dX10_keepsTold_63 ?_
  obtain ⟨q_11, h_q_11, h⟩ := am_bind h
  refine am_callV C0 (m_M_keeps (σ := σ_10) (Nat.le_refl _) (σ_10 0 44)  h_q_11) mm_yX10_keeps ln_RX10_483 (As := fun b => [.int (σ_10 0 44)]) (fun _ => rfl) (fun _ => rfl) (loM_7_0 kM0).1 (loM_7_0 kM0).2.1 rfl (Nat.le_trans (by decide) hd) rfl (Nat.le_of_ble_eq_true rfl) dX10_keepsTold_66 ?_
  obtain ⟨σ_12, e_σ_12, h⟩ := am_lt h
  refine am_putI C0 e_σ_12 fp_RX10_407 (loM_7_44 kM0).1 (loM_7_44 kM0).2.1 (loM_7_44 kM0).2.2.1 (loM_7_44 kM0).2.2.2 rfl rfl dX10_keepsTold_69 ?_
  refine am_aload_n C0 dX10_keepsTold_72 0 rfl ?_
  refine am_getR C0 (j := 30) ff_RX10_101 (loM_7_51 kM0).1 (loM_7_51 kM0).2.1 (loM_7_51 kM0).2.2.1 (loM_7_51 kM0).2.2.2 dX10_keepsTold_73 ?_
  refine am_iconst C0 dX10_keepsTold_76 ci_0 ?_
  refine am_aload_n C0 dX10_keepsTold_77 0 rfl ?_
  refine am_aload_n C0 dX10_keepsTold_78 0 rfl ?_
  refine am_getR C0 (j := 30) ff_RX10_101 (loM_7_51 kM0).1 (loM_7_51 kM0).2.1 (loM_7_51 kM0).2.2.1 (loM_7_51 kM0).2.2.2 dX10_keepsTold_79 ?_
  refine am_iconst C0 dX10_keepsTold_82 ci_0 ?_
  obtain ⟨t_13, h_t_13, h⟩ := am_bind h
  refine am_iald C0 (ltM (tgM_7_51 kM0)) (tgM_7_51 kM0) (lnM_7_51 kM0) h_t_13 dX10_keepsTold_83 ?_
  obtain ⟨q_14, h_q_14, h⟩ := am_bind h
  refine am_callV C0 (m_M_keeps (σ := σ_12) (Nat.le_refl _) t_13  h_q_14) mm_yX10_keeps ln_RX10_483 (As := fun b => [.int t_13]) (fun _ => rfl) (fun _ => rfl) (loM_7_0 kM0).1 (loM_7_0 kM0).2.1 rfl (Nat.le_trans (by decide) hd) rfl (Nat.le_of_ble_eq_true rfl) dX10_keepsTold_84 ?_
  obtain ⟨σ_15, h_σ_15, h⟩ := am_bind h
  refine am_iast C0 (ltM (tgM_7_51 kM0)) (tgM_7_51 kM0) (lnM_7_51 kM0) h_σ_15 dX10_keepsTold_87 ?_
  refine am_aload_n C0 dX10_keepsTold_88 0 rfl ?_
  refine am_getR C0 (j := 30) ff_RX10_101 (loM_7_51 kM0).1 (loM_7_51 kM0).2.1 (loM_7_51 kM0).2.2.1 (loM_7_51 kM0).2.2.2 dX10_keepsTold_89 ?_
  refine am_iconst C0 dX10_keepsTold_92 ci_1 ?_
  refine am_aload_n C0 dX10_keepsTold_93 0 rfl ?_
  refine am_aload_n C0 dX10_keepsTold_94 0 rfl ?_
  refine am_getR C0 (j := 30) ff_RX10_101 (loM_7_51 kM0).1 (loM_7_51 kM0).2.1 (loM_7_51 kM0).2.2.1 (loM_7_51 kM0).2.2.2 dX10_keepsTold_95 ?_
  refine am_iconst C0 dX10_keepsTold_98 ci_1 ?_
  obtain ⟨t_16, h_t_16, h⟩ := am_bind h
  refine am_iald C0 (ltM (tgM_7_51 kM0)) (tgM_7_51 kM0) (lnM_7_51 kM0) h_t_16 dX10_keepsTold_99 ?_
  obtain ⟨q_17, h_q_17, h⟩ := am_bind h
  refine am_callV C0 (m_M_keeps (σ := σ_15) (Nat.le_refl _) t_16  h_q_17) mm_yX10_keeps ln_RX10_483 (As := fun b => [.int t_16]) (fun _ => rfl) (fun _ => rfl) (loM_7_0 kM0).1 (loM_7_0 kM0).2.1 rfl (Nat.le_trans (by decide) hd) rfl (Nat.le_of_ble_eq_true rfl) dX10_keepsTold_100 ?_
  obtain ⟨σ_18, h_σ_18, h⟩ := am_bind h
  refine am_iast C0 (ltM (tgM_7_51 kM0)) (tgM_7_51 kM0) (lnM_7_51 kM0) h_σ_18 dX10_keepsTold_103 ?_
  refine am_aload_n C0 dX10_keepsTold_104 0 rfl ?_
  refine am_aload_n C0 dX10_keepsTold_105 0 rfl ?_
  refine am_aload_n C0 dX10_keepsTold_106 0 rfl ?_
  refine am_getI C0 ff_RX10_444 (loM_7_53 kM0).1 (loM_7_53 kM0).2.1 (loM_7_53 kM0).2.2.1 (loM_7_53 kM0).2.2.2 dX10_keepsTold_107 ?_
  obtain ⟨q_19, h_q_19, h⟩ := am_bind h
  refine am_callV C0 (m_M_keeps (σ := σ_18) (Nat.le_refl _) (σ_18 0 53)  h_q_19) mm_yX10_keeps ln_RX10_483 (As := fun b => [.int (σ_18 0 53)]) (fun _ => rfl) (fun _ => rfl) (loM_7_0 kM0).1 (loM_7_0 kM0).2.1 rfl (Nat.le_trans (by decide) hd) rfl (Nat.le_of_ble_eq_true rfl) dX10_keepsTold_110 ?_
  obtain ⟨σ_20, e_σ_20, h⟩ := am_lt h
  refine am_putI C0 e_σ_20 fp_RX10_444 (loM_7_53 kM0).1 (loM_7_53 kM0).2.1 (loM_7_53 kM0).2.2.1 (loM_7_53 kM0).2.2.2 rfl rfl dX10_keepsTold_113 ?_
  refine am_aload_n C0 dX10_keepsTold_116 0 rfl ?_
  refine am_aload_n C0 dX10_keepsTold_117 0 rfl ?_
  refine am_aload_n C0 dX10_keepsTold_118 0 rfl ?_
  refine am_getI C0 ff_RX10_453 (loM_7_56 kM0).1 (loM_7_56 kM0).2.1 (loM_7_56 kM0).2.2.1 (loM_7_56 kM0).2.2.2 dX10_keepsTold_119 ?_
  obtain ⟨q_21, h_q_21, h⟩ := am_bind h
  refine am_callV C0 (m_M_keeps (σ := σ_20) (Nat.le_refl _) (σ_20 0 56)  h_q_21) mm_yX10_keeps ln_RX10_483 (As := fun b => [.int (σ_20 0 56)]) (fun _ => rfl) (fun _ => rfl) (loM_7_0 kM0).1 (loM_7_0 kM0).2.1 rfl (Nat.le_trans (by decide) hd) rfl (Nat.le_of_ble_eq_true rfl) dX10_keepsTold_122 ?_
  obtain ⟨σ_22, e_σ_22, h⟩ := am_lt h
  refine am_putI C0 e_σ_22 fp_RX10_453 (loM_7_56 kM0).1 (loM_7_56 kM0).2.1 (loM_7_56 kM0).2.2.1 (loM_7_56 kM0).2.2.2 rfl rfl dX10_keepsTold_125 ?_
  refine am_aload_n C0 dX10_keepsTold_128 0 rfl ?_
  refine am_aload_n C0 dX10_keepsTold_129 0 rfl ?_
  refine am_aload_n C0 dX10_keepsTold_130 0 rfl ?_
  refine am_getI C0 ff_RX10_459 (loM_7_59 kM0).1 (loM_7_59 kM0).2.1 (loM_7_59 kM0).2.2.1 (loM_7_59 kM0).2.2.2 dX10_keepsTold_131 ?_
  obtain ⟨q_23, h_q_23, h⟩ := am_bind h
  refine am_callV C0 (m_M_keeps (σ := σ_22) (Nat.le_refl _) (σ_22 0 59)  h_q_23) mm_yX10_keeps ln_RX10_483 (As := fun b => [.int (σ_22 0 59)]) (fun _ => rfl) (fun _ => rfl) (loM_7_0 kM0).1 (loM_7_0 kM0).2.1 rfl (Nat.le_trans (by decide) hd) rfl (Nat.le_of_ble_eq_true rfl) dX10_keepsTold_134 ?_
  obtain ⟨σ_24, e_σ_24, h⟩ := am_lt h
  refine am_putI C0 e_σ_24 fp_RX10_459 (loM_7_59 kM0).1 (loM_7_59 kM0).2.1 (loM_7_59 kM0).2.2.1 (loM_7_59 kM0).2.2.2 rfl rfl dX10_keepsTold_137 ?_
  refine am_iconst C0 dX10_keepsTold_140 ci_0 ?_
  refine am_istore_n C0 dX10_keepsTold_141 rfl (by decide) rfl (lv' := [(0, .ref (am_b G 0)), (1, .int 0)]) rfl ?_
  exact am_sub [0, 1] rfl (k_M_keepsTold_l142 C0 hd F hret F 0 σ_24  h)
set_option maxRecDepth 100000 in
set_option maxHeartbeats 4000000 in
theorem m_M_keepsTold {l : Launch} {d : Nat} {σ : am_SS} {q : am_SS} (hd : 2 ≤ d) (F : Nat) (h : M_keepsTold F  σ = some q) : am_Met l yX10_keepsTold cX10_keepsTold 2 none d 0 0 LM (fun b => [.ref (b 0)]) σ none q :=
  am_metV (plainFor_of_name (by decide)) (lv := fun b => [(0, .ref (b 0))]) (fun _ => rfl) (fun _ => Nat.le_of_ble_eq_true rfl) (fun G C0 _ hret => k_M_keepsTold C0 hd F hret  σ  h)
set_option maxRecDepth 100000 in
set_option maxHeartbeats 4000000 in
theorem k_M_image_l69 {G : am_T} {d0 : Nat} (C0 : am_C G cX10_image 3 RX10 LM d0) (hd : 3 ≤ d0) (F : Nat) {q : Bool × am_SS} (hret : am_retI G cX10_image 3 (am_bI q.1) q.2) : ∀ (n : Nat) (x1 : Bool) (x2 : Int32) (σ : am_SS) (h : M_image_l69 F n x1 x2 σ = some q), am_K G 3 69 [(0, .ref (am_b G 0)), (1, .int (am_bI x1)), (2, .int x2)] [] σ := by
  intro n
  induction n with
  | zero =>
    intro x1 x2 σ h
    rw [M_image_l69] at h
    cases h
  | succ n ih =>
    intro x1 x2 σ h
    rw [M_image_l69] at h
    refine am_iload_n C0 dX10_image_69 2 rfl ?_
    refine am_sipush C0 dX10_image_70 cs_600 ?_
    refine am_icmp_ge C0 dX10_image_73 (tgt := 98) (by decide) (fun c_1 => ?_) (fun c_1 => ?_)
    · replace h := am_in h c_1
      refine am_aload_n C0 dX10_image_98 0 rfl ?_
      obtain ⟨q_2, h_q_2, h⟩ := am_bind h
      refine am_callV C0 (m_M_keepsLaw (σ := σ) (Nat.le_refl _) F   h_q_2) mm_yX10_keepsLaw ln_RX10_492 (As := fun b => []) (fun _ => rfl) (fun _ => rfl) (loM_7_0 kM0).1 (loM_7_0 kM0).2.1 rfl (Nat.le_trans (by decide) hd) rfl (Nat.le_of_ble_eq_true rfl) dX10_image_99 ?_
      refine am_iload_n C0 dX10_image_102 1 rfl ?_
      refine am_ifB_ne C0 dX10_image_103 (tgt := 111) (by decide) (fun c_3 => ?_) (fun c_3 => ?_)
      · replace h := am_ip h c_3
        refine am_iconst C0 dX10_image_111 ci_1 ?_
        have e := Option.some.inj h
        subst e
        exact hret _ _ dX10_image_112
      · replace h := am_in h c_3
        refine am_aload_n C0 dX10_image_106 0 rfl ?_
        refine am_iconst C0 dX10_image_107 ci_0 ?_
        obtain ⟨σ_4, e_σ_4, h⟩ := am_lt h
        refine am_putI C0 e_σ_4 fp_RX10_134 (loM_7_3 kM0).1 (loM_7_3 kM0).2.1 (loM_7_3 kM0).2.2.1 (loM_7_3 kM0).2.2.2 rfl rfl dX10_image_108 ?_
        refine am_iconst C0 dX10_image_111 ci_1 ?_
        have e := Option.some.inj h
        subst e
        exact hret _ _ dX10_image_112
    · replace h := am_ip h c_1
      refine am_aload_n C0 dX10_image_76 0 rfl ?_
      refine am_getR C0 (j := 8) ff_RX10_31 (loM_7_12 kM0).1 (loM_7_12 kM0).2.1 (loM_7_12 kM0).2.2.1 (loM_7_12 kM0).2.2.2 dX10_image_77 ?_
      refine am_iload_n C0 dX10_image_80 2 rfl ?_
      refine am_aload_n C0 dX10_image_81 0 rfl ?_
      refine am_aload_n C0 dX10_image_82 0 rfl ?_
      refine am_getR C0 (j := 8) ff_RX10_31 (loM_7_12 kM0).1 (loM_7_12 kM0).2.1 (loM_7_12 kM0).2.2.1 (loM_7_12 kM0).2.2.2 dX10_image_83 ?_
      refine am_iload_n C0 dX10_image_86 2 rfl ?_
      obtain ⟨t_5, h_t_5, h⟩ := am_bind h
      refine am_iald C0 (ltM (tgM_7_12 kM0)) (tgM_7_12 kM0) (lnM_7_12 kM0) h_t_5 dX10_image_87 ?_
      obtain ⟨q_6, h_q_6, h⟩ := am_bind h
      refine am_callV C0 (m_M_keeps (σ := σ) (Nat.le_refl _) t_5  h_q_6) mm_yX10_keeps ln_RX10_483 (As := fun b => [.int t_5]) (fun _ => rfl) (fun _ => rfl) (loM_7_0 kM0).1 (loM_7_0 kM0).2.1 rfl (Nat.le_trans (by decide) hd) rfl (Nat.le_of_ble_eq_true rfl) dX10_image_88 ?_
      obtain ⟨σ_7, h_σ_7, h⟩ := am_bind h
      refine am_iast C0 (ltM (tgM_7_12 kM0)) (tgM_7_12 kM0) (lnM_7_12 kM0) h_σ_7 dX10_image_91 ?_
      obtain ⟨x2_8, e_x2_8, h⟩ := am_lt h
      refine am_iinc C0 dX10_image_92 2 rfl (by rw [ci_1]; exact e_x2_8) (by decide) rfl (lv' := [(0, .ref (am_b G 0)), (1, .int (am_bI x1)), (2, .int x2_8)]) rfl ?_
      refine am_goto C0 dX10_image_95 (tgt := 69) (by decide) ?_
      exact am_sub [0, 1, 2] rfl (ih x1 x2_8 σ_7  h)
set_option maxRecDepth 100000 in
set_option maxHeartbeats 4000000 in
theorem k_M_image_l35 {G : am_T} {d0 : Nat} (C0 : am_C G cX10_image 3 RX10 LM d0) (hd : 3 ≤ d0) (F : Nat) {q : Bool × am_SS} (hret : am_retI G cX10_image 3 (am_bI q.1) q.2) : ∀ (n : Nat) (x1 : Bool) (x2 : Int32) (σ : am_SS) (h : M_image_l35 F n x1 x2 σ = some q), am_K G 3 35 [(0, .ref (am_b G 0)), (1, .int (am_bI x1)), (2, .int x2)] [] σ := by
  intro n
  induction n with
  | zero =>
    intro x1 x2 σ h
    rw [M_image_l35] at h
    cases h
  | succ n ih =>
    intro x1 x2 σ h
    rw [M_image_l35] at h
    refine am_iload_n C0 dX10_image_35 2 rfl ?_
    refine am_bipush C0 dX10_image_36 kb_77 ?_
    refine am_icmp_ge C0 dX10_image_38 (tgt := 63) (by decide) (fun c_1 => ?_) (fun c_1 => ?_)
    · replace h := am_in h c_1
      refine am_aload_n C0 dX10_image_63 0 rfl ?_
      obtain ⟨q_2, h_q_2, h⟩ := am_bind h
      refine am_callV C0 (m_M_keepsTold (σ := σ) (Nat.le_refl _) F   h_q_2) mm_yX10_keepsTold ln_RX10_489 (As := fun b => []) (fun _ => rfl) (fun _ => rfl) (loM_7_0 kM0).1 (loM_7_0 kM0).2.1 rfl (Nat.le_trans (by decide) hd) rfl (Nat.le_of_ble_eq_true rfl) dX10_image_64 ?_
      refine am_iconst C0 dX10_image_67 ci_0 ?_
      refine am_istore_n C0 dX10_image_68 rfl (by decide) rfl (lv' := [(0, .ref (am_b G 0)), (1, .int (am_bI x1)), (2, .int 0)]) rfl ?_
      exact am_sub [0, 1, 2] rfl (k_M_image_l69 C0 hd F hret F x1 0 q_2  h)
    · replace h := am_ip h c_1
      refine am_aload_n C0 dX10_image_41 0 rfl ?_
      refine am_getR C0 (j := 1) ff_RX10_7 (loM_7_1 kM0).1 (loM_7_1 kM0).2.1 (loM_7_1 kM0).2.2.1 (loM_7_1 kM0).2.2.2 dX10_image_42 ?_
      refine am_iload_n C0 dX10_image_45 2 rfl ?_
      refine am_aload_n C0 dX10_image_46 0 rfl ?_
      refine am_aload_n C0 dX10_image_47 0 rfl ?_
      refine am_getR C0 (j := 1) ff_RX10_7 (loM_7_1 kM0).1 (loM_7_1 kM0).2.1 (loM_7_1 kM0).2.2.1 (loM_7_1 kM0).2.2.2 dX10_image_48 ?_
      refine am_iload_n C0 dX10_image_51 2 rfl ?_
      obtain ⟨t_3, h_t_3, h⟩ := am_bind h
      refine am_iald C0 (ltM (tgM_7_1 kM0)) (tgM_7_1 kM0) (lnM_7_1 kM0) h_t_3 dX10_image_52 ?_
      obtain ⟨q_4, h_q_4, h⟩ := am_bind h
      refine am_callV C0 (m_M_keeps (σ := σ) (Nat.le_refl _) t_3  h_q_4) mm_yX10_keeps ln_RX10_483 (As := fun b => [.int t_3]) (fun _ => rfl) (fun _ => rfl) (loM_7_0 kM0).1 (loM_7_0 kM0).2.1 rfl (Nat.le_trans (by decide) hd) rfl (Nat.le_of_ble_eq_true rfl) dX10_image_53 ?_
      obtain ⟨σ_5, h_σ_5, h⟩ := am_bind h
      refine am_iast C0 (ltM (tgM_7_1 kM0)) (tgM_7_1 kM0) (lnM_7_1 kM0) h_σ_5 dX10_image_56 ?_
      obtain ⟨x2_6, e_x2_6, h⟩ := am_lt h
      refine am_iinc C0 dX10_image_57 2 rfl (by rw [ci_1]; exact e_x2_6) (by decide) rfl (lv' := [(0, .ref (am_b G 0)), (1, .int (am_bI x1)), (2, .int x2_6)]) rfl ?_
      refine am_goto C0 dX10_image_60 (tgt := 35) (by decide) ?_
      exact am_sub [0, 1, 2] rfl (ih x1 x2_6 σ_5  h)
set_option maxRecDepth 100000 in
set_option maxHeartbeats 4000000 in
theorem k_M_image_p18 {G : am_T} {d0 : Nat} (C0 : am_C G cX10_image 3 RX10 LM d0) (hd : 3 ≤ d0) (F : Nat) {q : Bool × am_SS} (hret : am_retI G cX10_image 3 (am_bI q.1) q.2) (x1 : Bool) (σ : am_SS) (h : M_image_p18 F x1 σ = some q) : am_K G 3 18 [(0, .ref (am_b G 0)), (1, .int (am_bI x1))] [] σ := by
  unfold M_image_p18 at h
  refine am_aload_n C0 dX10_image_18 0 rfl ?_
  refine am_iload_n C0 dX10_image_19 1 rfl ?_
  obtain ⟨σ_1, e_σ_1, h⟩ := am_lt h
  refine am_putI C0 e_σ_1 fp_RX10_480 (loM_7_63 kM0).1 (loM_7_63 kM0).2.1 (loM_7_63 kM0).2.2.1 (loM_7_63 kM0).2.2.2 (am_bI_nr _) (am_bI_ft _) dX10_image_20 ?_
  refine am_aload_n C0 dX10_image_23 0 rfl ?_
  refine am_iconst C0 dX10_image_24 ci_1 ?_
  obtain ⟨σ_2, e_σ_2, h⟩ := am_lt h
  refine am_putI C0 e_σ_2 fp_RX10_486 (loM_7_64 kM0).1 (loM_7_64 kM0).2.1 (loM_7_64 kM0).2.2.1 (loM_7_64 kM0).2.2.2 rfl rfl dX10_image_25 ?_
  refine am_aload_n C0 dX10_image_28 0 rfl ?_
  refine am_iconst C0 dX10_image_29 ci_0 ?_
  obtain ⟨σ_3, e_σ_3, h⟩ := am_lt h
  refine am_putI C0 e_σ_3 fp_RX10_477 (loM_7_65 kM0).1 (loM_7_65 kM0).2.1 (loM_7_65 kM0).2.2.1 (loM_7_65 kM0).2.2.2 rfl rfl dX10_image_30 ?_
  refine am_iconst C0 dX10_image_33 ci_0 ?_
  refine am_istore_n C0 dX10_image_34 rfl (by decide) rfl (lv' := [(0, .ref (am_b G 0)), (1, .int (am_bI x1)), (2, .int 0)]) rfl ?_
  exact am_sub [0, 1, 2] rfl (k_M_image_l35 C0 hd F hret F x1 0 σ_3  h)
set_option maxRecDepth 100000 in
set_option maxHeartbeats 4000000 in
theorem k_M_image {G : am_T} {d0 : Nat} (C0 : am_C G cX10_image 3 RX10 LM d0) (hd : 3 ≤ d0) (F : Nat) {q : Bool × am_SS} (hret : am_retI G cX10_image 3 (am_bI q.1) q.2) (x1 : Bool) (σ : am_SS) (h : M_image F x1 σ = some q) : am_K G 3 0 [(0, .ref (am_b G 0)), (1, .int (am_bI x1))] [] σ := by
  unfold M_image at h
  refine am_aload_n C0 dX10_image_0 0 rfl ?_
  refine am_iconst C0 dX10_image_1 ci_0 ?_
  obtain ⟨σ_1, e_σ_1, h⟩ := am_lt h
  refine am_putI C0 e_σ_1 fp_RX10_131 (loM_7_0 kM0).1 (loM_7_0 kM0).2.1 (loM_7_0 kM0).2.2.1 (loM_7_0 kM0).2.2.2 rfl rfl dX10_image_2 ?_
  refine am_iload_n C0 dX10_image_5 1 rfl ?_
  refine am_ifB_ne C0 dX10_image_6 (tgt := 18) (by decide) (fun c_2 => ?_) (fun c_2 => ?_)
  · replace h := am_ip h c_2
    exact am_sub [0, 1] rfl (k_M_image_p18 C0 hd F hret x1 σ_1  h)
  · replace h := am_in h c_2
    refine am_aload_n C0 dX10_image_9 0 rfl ?_
    refine am_getI C0 ff_RX10_486 (loM_7_64 kM0).1 (loM_7_64 kM0).2.1 (loM_7_64 kM0).2.2.1 (loM_7_64 kM0).2.2.2 dX10_image_10 ?_
    refine am_if_ne C0 dX10_image_13 (tgt := 18) (by decide) (fun c_3 => ?_) (fun c_3 => ?_)
    · replace h := am_in h c_3
      exact am_sub [0, 1] rfl (k_M_image_p18 C0 hd F hret x1 σ_1  h)
    · replace h := am_ip h c_3
      refine am_iconst C0 dX10_image_16 ci_0 ?_
      have e := Option.some.inj h
      subst e
      exact hret _ _ dX10_image_17
set_option maxRecDepth 100000 in
set_option maxHeartbeats 4000000 in
theorem m_M_image {l : Launch} {d : Nat} {σ : am_SS} {q : Bool × am_SS} (hd : 3 ≤ d) (F : Nat) (x1 : Bool) (h : M_image F x1 σ = some q) : am_Met l yX10_image cX10_image 3 (some .boolean) d 0 0 LM (fun b => [.ref (b 0), .int (am_bI x1)]) σ (some (.int (am_bI q.1))) q.2 :=
  am_metI (plainFor_of_name (by decide)) (am_bI_nr _) (lv := fun b => [(0, .ref (b 0)), (1, .int (am_bI x1))]) (fun _ => rfl) (fun _ => Nat.le_of_ble_eq_true rfl) (fun G C0 _ hret => k_M_image C0 hd F hret x1 σ  h)
set_option maxRecDepth 100000 in
set_option maxHeartbeats 4000000 in
theorem k_M_readSet_p31 {G : am_T} {d0 : Nat} (C0 : am_C G cX10_readSet 3 RX10 LM d0) (hd : 1 ≤ d0) (rec4 : Int32 → Int32 → am_SS → Option Int32) (F : Nat) {σ : am_SS} {q : Int32} (hret : am_retI G cX10_readSet 3 q σ) (hrec4 : ∀ (x1 : Int32) (x2 : Int32), rec4 x1 x2 σ = some q → am_K G 3 4 [(0, .ref (am_b G 0)), (1, .int x1), (2, .int x2)] [] σ) (x1 : Int32) (x2 : Int32) (h : M_readSet_p31 rec4 F x1 x2 σ = some q) : am_K G 3 31 [(0, .ref (am_b G 0)), (1, .int x1), (2, .int x2)] [] σ := by
  unfold M_readSet_p31 at h
  obtain ⟨x2_1, e_x2_1, h⟩ := am_lt h
  refine am_iinc C0 dX10_readSet_31 2 rfl (by rw [ci_1]; exact e_x2_1) (by decide) rfl (lv' := [(0, .ref (am_b G 0)), (1, .int x1), (2, .int x2_1)]) rfl ?_
  refine am_goto C0 dX10_readSet_34 (tgt := 4) (by decide) ?_
  exact am_sub [0, 1, 2] rfl (hrec4 x1 x2_1  h)
set_option maxRecDepth 100000 in
set_option maxHeartbeats 4000000 in
theorem k_M_readSet_l4 {G : am_T} {d0 : Nat} (C0 : am_C G cX10_readSet 3 RX10 LM d0) (hd : 1 ≤ d0) (F : Nat) {σ : am_SS} {q : Int32} (hret : am_retI G cX10_readSet 3 q σ) : ∀ (n : Nat) (x1 : Int32) (x2 : Int32) (h : M_readSet_l4 F n x1 x2 σ = some q), am_K G 3 4 [(0, .ref (am_b G 0)), (1, .int x1), (2, .int x2)] [] σ := by
  intro n
  induction n with
  | zero =>
    intro x1 x2 h
    rw [M_readSet_l4] at h
    cases h
  | succ n ih =>
    intro x1 x2 h
    rw [M_readSet_l4] at h
    refine am_iload_n C0 dX10_readSet_4 2 rfl ?_
    refine am_aload_n C0 dX10_readSet_5 0 rfl ?_
    refine am_getI C0 ff_RX10_143 (loM_7_6 kM0).1 (loM_7_6 kM0).2.1 (loM_7_6 kM0).2.2.1 (loM_7_6 kM0).2.2.2 dX10_readSet_6 ?_
    refine am_icmp_ge C0 dX10_readSet_9 (tgt := 37) (by decide) (fun c_1 => ?_) (fun c_1 => ?_)
    · replace h := am_in h c_1
      refine am_iload_n C0 dX10_readSet_37 1 rfl ?_
      have e := Option.some.inj h
      subst e
      exact hret _ _ dX10_readSet_38
    · replace h := am_ip h c_1
      refine am_aload_n C0 dX10_readSet_12 0 rfl ?_
      refine am_getR C0 (j := 1) ff_RX10_7 (loM_7_1 kM0).1 (loM_7_1 kM0).2.1 (loM_7_1 kM0).2.2.1 (loM_7_1 kM0).2.2.2 dX10_readSet_13 ?_
      refine am_bipush C0 dX10_readSet_16 kb_29 ?_
      refine am_iload_n C0 dX10_readSet_18 2 rfl ?_
      refine am_iadd C0 dX10_readSet_19 ?_
      obtain ⟨t_2, h_t_2, h⟩ := am_bind h
      refine am_iald C0 (ltM (tgM_7_1 kM0)) (tgM_7_1 kM0) (lnM_7_1 kM0) h_t_2 dX10_readSet_20 ?_
      refine am_iconst C0 dX10_readSet_21 ci_1 ?_
      refine am_icmp_ne C0 dX10_readSet_22 (tgt := 31) (by decide) (fun c_3 => ?_) (fun c_3 => ?_)
      · replace h := am_in h c_3
        exact am_sub [0, 1, 2] rfl (k_M_readSet_p31 C0 hd _ F hret (fun z1 z2 z => ih z1 z2 z) x1 x2  h)
      · replace h := am_ip h c_3
        refine am_iload_n C0 dX10_readSet_25 1 rfl ?_
        refine am_iconst C0 dX10_readSet_26 ci_1 ?_
        refine am_iload_n C0 dX10_readSet_27 2 rfl ?_
        refine am_ishl C0 dX10_readSet_28 ?_
        refine am_ior C0 dX10_readSet_29 ?_
        obtain ⟨x1_4, e_x1_4, h⟩ := am_lt h
        refine am_top e_x1_4 ?_
        refine am_istore_n C0 dX10_readSet_30 rfl (by decide) rfl (lv' := [(0, .ref (am_b G 0)), (1, .int x1_4), (2, .int x2)]) rfl ?_
        exact am_sub [0, 1, 2] rfl (k_M_readSet_p31 C0 hd _ F hret (fun z1 z2 z => ih z1 z2 z) x1_4 x2  h)
set_option maxRecDepth 100000 in
set_option maxHeartbeats 4000000 in
theorem k_M_readSet {G : am_T} {d0 : Nat} (C0 : am_C G cX10_readSet 3 RX10 LM d0) (hd : 1 ≤ d0) (F : Nat) {σ : am_SS} {q : Int32} (hret : am_retI G cX10_readSet 3 q σ) (h : M_readSet F  σ = some q) : am_K G 3 0 [(0, .ref (am_b G 0))] [] σ := by
  unfold M_readSet at h
  refine am_iconst C0 dX10_readSet_0 ci_0 ?_
  refine am_istore_n C0 dX10_readSet_1 rfl (by decide) rfl (lv' := [(0, .ref (am_b G 0)), (1, .int 0)]) rfl ?_
  refine am_iconst C0 dX10_readSet_2 ci_0 ?_
  refine am_istore_n C0 dX10_readSet_3 rfl (by decide) rfl (lv' := [(0, .ref (am_b G 0)), (1, .int 0), (2, .int 0)]) rfl ?_
  exact am_sub [0, 1, 2] rfl (k_M_readSet_l4 C0 hd F hret F 0 0  h)
set_option maxRecDepth 100000 in
set_option maxHeartbeats 4000000 in
theorem m_M_readSet {l : Launch} {d : Nat} {σ : am_SS} {q : Int32} (hd : 1 ≤ d) (F : Nat) (h : M_readSet F  σ = some q) : am_Met l yX10_readSet cX10_readSet 3 (some .int) d 0 0 LM (fun b => [.ref (b 0)]) σ (some (.int q)) σ :=
  am_metI (plainFor_of_name (by decide)) rfl (lv := fun b => [(0, .ref (b 0))]) (fun _ => rfl) (fun _ => Nat.le_of_ble_eq_true rfl) (fun G C0 _ hret => k_M_readSet C0 hd F hret   h)
