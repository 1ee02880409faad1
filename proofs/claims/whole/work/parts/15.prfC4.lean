set_option maxRecDepth 100000 in
set_option maxHeartbeats 4000000 in
theorem k_C_Ways_twiceArea_p29 {G : am_T} {d0 : Nat} (C0 : am_C G cX8_twiceArea 4 RX8 LC d0) (hd : 2 ≤ d0) (rec4 : Nat → Int32 → Int32 → am_SS → Option Int32) (F : Nat) {σ : am_SS} {q : Int32} (hret : am_retI G cX8_twiceArea 4 q σ) (hrec4 : ∀ (a0 : Nat) (x1 : Int32) (x2 : Int32), LC.1 a0 = 6 → rec4 a0 x1 x2 σ = some q → am_K G 4 4 [(0, .ref (am_b G a0)), (1, .int x1), (2, .int x2)] [] σ) (a0 : Nat) (x1 : Int32) (x2 : Int32) (s0 : Int32) (ha0 : LC.1 a0 = 6) (h : C_Ways_twiceArea_p29 rec4 F a0 x1 x2 s0 σ = some q) : am_K G 4 29 [(0, .ref (am_b G a0)), (1, .int x1), (2, .int x2)] [.int s0] σ := by
  unfold C_Ways_twiceArea_p29 at h
  refine am_istore_n C0 dX8_twiceArea_29 rfl (by decide) rfl (lv' := [(0, .ref (am_b G a0)), (1, .int x1), (2, .int x2), (3, .int s0)]) rfl ?_
  refine am_iload_n C0 dX8_twiceArea_30 1 rfl ?_
  refine am_aload_n C0 dX8_twiceArea_31 0 rfl ?_
  refine am_iload_n C0 dX8_twiceArea_32 2 rfl ?_
  refine am_iconst C0 dX8_twiceArea_33 ci_0 ?_
  obtain ⟨q_1, h_q_1, h⟩ := am_bind h
  refine am_callV C0 (m_C_Table_at (σ := σ) (Nat.le_refl _) a0 x2 0 ha0 h_q_1) mm_yX6_at ln_RX8_13 (As := fun b => [.int x2, .int 0]) (fun _ => rfl) (fun _ => rfl) (loC_4_0 ha0).1 (loC_4_0 ha0).2.1 rfl (Nat.le_trans (by decide) hd) rfl (Nat.le_of_ble_eq_true rfl) dX8_twiceArea_34 ?_
  refine am_aload_n C0 dX8_twiceArea_37 0 rfl ?_
  refine am_iload_n C0 dX8_twiceArea_38 3 rfl ?_
  refine am_iconst C0 dX8_twiceArea_39 ci_1 ?_
  obtain ⟨q_2, h_q_2, h⟩ := am_bind h
  refine am_callV C0 (m_C_Table_at (σ := σ) (Nat.le_refl _) a0 s0 1 ha0 h_q_2) mm_yX6_at ln_RX8_13 (As := fun b => [.int s0, .int 1]) (fun _ => rfl) (fun _ => rfl) (loC_4_0 ha0).1 (loC_4_0 ha0).2.1 rfl (Nat.le_trans (by decide) hd) rfl (Nat.le_of_ble_eq_true rfl) dX8_twiceArea_40 ?_
  refine am_imul C0 dX8_twiceArea_43 ?_
  refine am_aload_n C0 dX8_twiceArea_44 0 rfl ?_
  refine am_iload_n C0 dX8_twiceArea_45 3 rfl ?_
  refine am_iconst C0 dX8_twiceArea_46 ci_0 ?_
  obtain ⟨q_3, h_q_3, h⟩ := am_bind h
  refine am_callV C0 (m_C_Table_at (σ := σ) (Nat.le_refl _) a0 s0 0 ha0 h_q_3) mm_yX6_at ln_RX8_13 (As := fun b => [.int s0, .int 0]) (fun _ => rfl) (fun _ => rfl) (loC_4_0 ha0).1 (loC_4_0 ha0).2.1 rfl (Nat.le_trans (by decide) hd) rfl (Nat.le_of_ble_eq_true rfl) dX8_twiceArea_47 ?_
  refine am_aload_n C0 dX8_twiceArea_50 0 rfl ?_
  refine am_iload_n C0 dX8_twiceArea_51 2 rfl ?_
  refine am_iconst C0 dX8_twiceArea_52 ci_1 ?_
  obtain ⟨q_4, h_q_4, h⟩ := am_bind h
  refine am_callV C0 (m_C_Table_at (σ := σ) (Nat.le_refl _) a0 x2 1 ha0 h_q_4) mm_yX6_at ln_RX8_13 (As := fun b => [.int x2, .int 1]) (fun _ => rfl) (fun _ => rfl) (loC_4_0 ha0).1 (loC_4_0 ha0).2.1 rfl (Nat.le_trans (by decide) hd) rfl (Nat.le_of_ble_eq_true rfl) dX8_twiceArea_53 ?_
  refine am_imul C0 dX8_twiceArea_56 ?_
  refine am_isub C0 dX8_twiceArea_57 ?_
  refine am_iadd C0 dX8_twiceArea_58 ?_
  obtain ⟨x1_5, e_x1_5, h⟩ := am_lt h
  refine am_top e_x1_5 ?_
  refine am_istore_n C0 dX8_twiceArea_59 rfl (by decide) rfl (lv' := [(0, .ref (am_b G a0)), (1, .int x1_5), (2, .int x2), (3, .int s0)]) rfl ?_
  obtain ⟨x2_6, e_x2_6, h⟩ := am_lt h
  refine am_iinc C0 dX8_twiceArea_60 2 rfl (by rw [ci_1]; exact e_x2_6) (by decide) rfl (lv' := [(0, .ref (am_b G a0)), (1, .int x1_5), (2, .int x2_6), (3, .int s0)]) rfl ?_
  refine am_goto C0 dX8_twiceArea_63 (tgt := 4) (by decide) ?_
  exact am_sub [0, 1, 2] rfl (hrec4 a0 x1_5 x2_6 ha0 h)
set_option maxRecDepth 100000 in
set_option maxHeartbeats 4000000 in
theorem k_C_Ways_twiceArea_l4 {G : am_T} {d0 : Nat} (C0 : am_C G cX8_twiceArea 4 RX8 LC d0) (hd : 2 ≤ d0) (F : Nat) {σ : am_SS} {q : Int32} (hret : am_retI G cX8_twiceArea 4 q σ) : ∀ (n : Nat) (a0 : Nat) (x1 : Int32) (x2 : Int32) (ha0 : LC.1 a0 = 6) (h : C_Ways_twiceArea_l4 F n a0 x1 x2 σ = some q), am_K G 4 4 [(0, .ref (am_b G a0)), (1, .int x1), (2, .int x2)] [] σ := by
  intro n
  induction n with
  | zero =>
    intro a0 x1 x2 ha0 h
    rw [C_Ways_twiceArea_l4] at h
    cases h
  | succ n ih =>
    intro a0 x1 x2 ha0 h
    rw [C_Ways_twiceArea_l4] at h
    refine am_iload_n C0 dX8_twiceArea_4 2 rfl ?_
    refine am_aload_n C0 dX8_twiceArea_5 0 rfl ?_
    refine am_getI C0 ff_RX8_7 (loC_4_2 ha0).1 (loC_4_2 ha0).2.1 (loC_4_2 ha0).2.2.1 (loC_4_2 ha0).2.2.2 dX8_twiceArea_6 ?_
    refine am_icmp_ge C0 dX8_twiceArea_9 (tgt := 66) (by decide) (fun c_1 => ?_) (fun c_1 => ?_)
    · replace h := am_in h c_1
      refine am_iload_n C0 dX8_twiceArea_66 1 rfl ?_
      have e := Option.some.inj h
      subst e
      exact hret _ _ dX8_twiceArea_67
    · replace h := am_ip h c_1
      refine am_iload_n C0 dX8_twiceArea_12 2 rfl ?_
      refine am_iconst C0 dX8_twiceArea_13 ci_1 ?_
      refine am_iadd C0 dX8_twiceArea_14 ?_
      refine am_aload_n C0 dX8_twiceArea_15 0 rfl ?_
      refine am_getI C0 ff_RX8_7 (loC_4_2 ha0).1 (loC_4_2 ha0).2.1 (loC_4_2 ha0).2.2.1 (loC_4_2 ha0).2.2.2 dX8_twiceArea_16 ?_
      refine am_icmp_ge C0 dX8_twiceArea_19 (tgt := 28) (by decide) (fun c_2 => ?_) (fun c_2 => ?_)
      · replace h := am_in h c_2
        refine am_iconst C0 dX8_twiceArea_28 ci_0 ?_
        exact am_sub [0, 1, 2] rfl (k_C_Ways_twiceArea_p29 C0 hd _ F hret (fun z0 z1 z2 zh0 z => ih z0 z1 z2 zh0 z) a0 x1 x2 0 ha0 h)
      · replace h := am_ip h c_2
        refine am_iload_n C0 dX8_twiceArea_22 2 rfl ?_
        refine am_iconst C0 dX8_twiceArea_23 ci_1 ?_
        refine am_iadd C0 dX8_twiceArea_24 ?_
        refine am_goto C0 dX8_twiceArea_25 (tgt := 29) (by decide) ?_
        exact am_sub [0, 1, 2] rfl (k_C_Ways_twiceArea_p29 C0 hd _ F hret (fun z0 z1 z2 zh0 z => ih z0 z1 z2 zh0 z) a0 x1 x2 (x2 + 1) ha0 h)
set_option maxRecDepth 100000 in
set_option maxHeartbeats 4000000 in
theorem k_C_Ways_twiceArea {G : am_T} {d0 : Nat} (C0 : am_C G cX8_twiceArea 4 RX8 LC d0) (hd : 2 ≤ d0) (F : Nat) {σ : am_SS} {q : Int32} (hret : am_retI G cX8_twiceArea 4 q σ) (a0 : Nat) (ha0 : LC.1 a0 = 6) (h : C_Ways_twiceArea F a0 σ = some q) : am_K G 4 0 [(0, .ref (am_b G a0))] [] σ := by
  unfold C_Ways_twiceArea at h
  refine am_iconst C0 dX8_twiceArea_0 ci_0 ?_
  refine am_istore_n C0 dX8_twiceArea_1 rfl (by decide) rfl (lv' := [(0, .ref (am_b G a0)), (1, .int 0)]) rfl ?_
  refine am_iconst C0 dX8_twiceArea_2 ci_0 ?_
  refine am_istore_n C0 dX8_twiceArea_3 rfl (by decide) rfl (lv' := [(0, .ref (am_b G a0)), (1, .int 0), (2, .int 0)]) rfl ?_
  exact am_sub [0, 1, 2] rfl (k_C_Ways_twiceArea_l4 C0 hd F hret F a0 0 0 ha0 h)
set_option maxRecDepth 100000 in
set_option maxHeartbeats 4000000 in
theorem m_C_Ways_twiceArea {l : Launch} {d : Nat} {σ : am_SS} {q : Int32} (hd : 2 ≤ d) (F : Nat) (a0 : Nat) (ha0 : LC.1 a0 = 6) (h : C_Ways_twiceArea F a0 σ = some q) : am_Met l yX8_twiceArea cX8_twiceArea 4 (some .int) d 0 0 LC (fun b => [.ref (b a0)]) σ (some (.int q)) σ :=
  am_metI (plainFor_of_name (by decide)) rfl (lv := fun b => [(0, .ref (b a0))]) (fun _ => rfl) (fun _ => Nat.le_of_ble_eq_true rfl) (fun G C0 _ hret => k_C_Ways_twiceArea C0 hd F hret a0 ha0 h)
set_option maxRecDepth 100000 in
set_option maxHeartbeats 4000000 in
theorem k_C_state {G : am_T} {d0 : Nat} (C0 : am_C G cX9_state 3 RX9 LC d0) (hd : 2 ≤ d0) {q : Int32 × am_SS} (hret : am_retI G cX9_state 3 q.1 q.2) (x1 : Int32) (σ : am_SS) (h : C_state x1 σ = q) : am_K G 3 0 [(0, .ref (am_b G 0)), (1, .int x1)] [] σ := by
  unfold C_state at h
  refine am_aload_n C0 dX9_state_0 0 rfl ?_
  refine am_getR C0 (j := 1) ff_RX9_10 (loC_6_0 kC0).1 (loC_6_0 kC0).2.1 (loC_6_0 kC0).2.2.1 (loC_6_0 kC0).2.2.2 dX9_state_1 ?_
  refine am_getR C0 (j := 2) ff_RX9_44 (loC_5_0 (tgC_6_0 kC0)).1 (loC_5_0 (tgC_6_0 kC0)).2.1 (loC_5_0 (tgC_6_0 kC0)).2.2.1 (loC_5_0 (tgC_6_0 kC0)).2.2.2 dX9_state_4 ?_
  refine am_getI C0 ff_RX9_47 (loC_0_15 (tgC_5_0 (tgC_6_0 kC0))).1 (loC_0_15 (tgC_5_0 (tgC_6_0 kC0))).2.1 (loC_0_15 (tgC_5_0 (tgC_6_0 kC0))).2.2.1 (loC_0_15 (tgC_5_0 (tgC_6_0 kC0))).2.2.2 dX9_state_7 ?_
  obtain ⟨x2_1, e_x2_1, h⟩ := am_lt h
  refine am_top e_x2_1 ?_
  refine am_istore_n C0 dX9_state_10 rfl (by decide) rfl (lv' := [(0, .ref (am_b G 0)), (1, .int x1), (2, .int x2_1)]) rfl ?_
  refine am_aload_n C0 dX9_state_11 0 rfl ?_
  refine am_getR C0 (j := 1) ff_RX9_10 (loC_6_0 kC0).1 (loC_6_0 kC0).2.1 (loC_6_0 kC0).2.2.1 (loC_6_0 kC0).2.2.2 dX9_state_12 ?_
  refine am_getR C0 (j := 2) ff_RX9_44 (loC_5_0 (tgC_6_0 kC0)).1 (loC_5_0 (tgC_6_0 kC0)).2.1 (loC_5_0 (tgC_6_0 kC0)).2.2.1 (loC_5_0 (tgC_6_0 kC0)).2.2.2 dX9_state_15 ?_
  refine am_iload_n C0 dX9_state_18 1 rfl ?_
  obtain ⟨σ_2, e_σ_2, h⟩ := am_lt h
  refine am_putI C0 e_σ_2 fp_RX9_47 (loC_0_15 (tgC_5_0 (tgC_6_0 kC0))).1 (loC_0_15 (tgC_5_0 (tgC_6_0 kC0))).2.1 (loC_0_15 (tgC_5_0 (tgC_6_0 kC0))).2.2.1 (loC_0_15 (tgC_5_0 (tgC_6_0 kC0))).2.2.2 rfl rfl dX9_state_19 ?_
  refine am_aload_n C0 dX9_state_22 0 rfl ?_
  refine am_getR C0 (j := 88) ff_RX9_33 (loC_6_4 kC0).1 (loC_6_4 kC0).2.1 (loC_6_4 kC0).2.2.1 (loC_6_4 kC0).2.2.2 dX9_state_23 ?_
  obtain ⟨q_3, h_q_3, h⟩ := am_lt h
  refine am_callV C0 (m_C_Past_forget (σ := σ_2) (Nat.le_refl _) 88 (tgC_6_4 kC0) h_q_3) mm_yX3_forget ln_RX9_51 (As := fun b => []) (fun _ => rfl) (fun _ => rfl) (loC_2_0 (tgC_6_4 kC0)).1 (loC_2_0 (tgC_6_4 kC0)).2.1 rfl (Nat.le_trans (by decide) hd) rfl (Nat.le_of_ble_eq_true rfl) dX9_state_26 ?_
  refine am_iload_n C0 dX9_state_29 2 rfl ?_
  have e := h
  subst e
  exact hret _ _ dX9_state_30
set_option maxRecDepth 100000 in
set_option maxHeartbeats 4000000 in
theorem m_C_state {l : Launch} {d : Nat} {σ : am_SS} {q : Int32 × am_SS} (hd : 2 ≤ d) (x1 : Int32) (h : C_state x1 σ = q) : am_Met l yX9_state cX9_state 3 (some .int) d 0 0 LC (fun b => [.ref (b 0), .int x1]) σ (some (.int q.1)) q.2 :=
  am_metI (plainFor_of_name (by decide)) rfl (lv := fun b => [(0, .ref (b 0)), (1, .int x1)]) (fun _ => rfl) (fun _ => Nat.le_of_ble_eq_true rfl) (fun G C0 _ hret => k_C_state C0 hd hret x1 σ  h)
set_option maxRecDepth 100000 in
set_option maxHeartbeats 4000000 in
theorem k_C_officer {G : am_T} {d0 : Nat} (C0 : am_C G cX9_officer 4 RX9 LC d0) (hd : 2 ≤ d0) {q : Int32 × am_SS} (hret : am_retI G cX9_officer 4 q.1 q.2) (x1 : Int32) (x2 : Int32) (σ : am_SS) (h : C_officer x1 x2 σ = some q) : am_K G 4 0 [(0, .ref (am_b G 0)), (1, .int x1), (2, .int x2)] [] σ := by
  unfold C_officer at h
  refine am_iload_n C0 dX9_officer_0 1 rfl ?_
  refine am_if_lt C0 dX9_officer_1 (tgt := 19) (by decide) (fun c_1 => ?_) (fun c_1 => ?_)
  · replace h := am_ip h c_1
    refine am_iconst C0 dX9_officer_19 ci_m1 ?_
    have e := Option.some.inj h
    subst e
    exact hret _ _ dX9_officer_20
  · replace h := am_in h c_1
    refine am_iload_n C0 dX9_officer_4 1 rfl ?_
    refine am_iconst C0 dX9_officer_5 ci_1 ?_
    refine am_icmp_gt C0 dX9_officer_6 (tgt := 19) (by decide) (fun c_2 => ?_) (fun c_2 => ?_)
    · replace h := am_ip h c_2
      refine am_iconst C0 dX9_officer_19 ci_m1 ?_
      have e := Option.some.inj h
      subst e
      exact hret _ _ dX9_officer_20
    · replace h := am_in h c_2
      refine am_iload_n C0 dX9_officer_9 2 rfl ?_
      refine am_if_lt C0 dX9_officer_10 (tgt := 19) (by decide) (fun c_3 => ?_) (fun c_3 => ?_)
      · replace h := am_ip h c_3
        refine am_iconst C0 dX9_officer_19 ci_m1 ?_
        have e := Option.some.inj h
        subst e
        exact hret _ _ dX9_officer_20
      · replace h := am_in h c_3
        refine am_iload_n C0 dX9_officer_13 2 rfl ?_
        refine am_bipush C0 dX9_officer_14 kb_9 ?_
        refine am_icmp_le C0 dX9_officer_16 (tgt := 21) (by decide) (fun c_4 => ?_) (fun c_4 => ?_)
        · replace h := am_in h c_4
          refine am_aload_n C0 dX9_officer_21 0 rfl ?_
          refine am_getR C0 (j := 1) ff_RX9_10 (loC_6_0 kC0).1 (loC_6_0 kC0).2.1 (loC_6_0 kC0).2.2.1 (loC_6_0 kC0).2.2.2 dX9_officer_22 ?_
          refine am_getR C0 (j := 2) ff_RX9_44 (loC_5_0 (tgC_6_0 kC0)).1 (loC_5_0 (tgC_6_0 kC0)).2.1 (loC_5_0 (tgC_6_0 kC0)).2.2.1 (loC_5_0 (tgC_6_0 kC0)).2.2.2 dX9_officer_25 ?_
          refine am_iload_n C0 dX9_officer_28 1 rfl ?_
          refine am_iload_n C0 dX9_officer_29 2 rfl ?_
          obtain ⟨q_5, h_q_5, h⟩ := am_bind h
          refine am_callV C0 (m_C_Front_addOfficer (σ := σ) (Nat.le_refl _) 2 x1 x2 (tgC_5_0 (tgC_6_0 kC0)) h_q_5) mm_yX0_addOfficer ln_RX9_54 (As := fun b => [.int x1, .int x2]) (fun _ => rfl) (fun _ => rfl) (loC_0_0 (tgC_5_0 (tgC_6_0 kC0))).1 (loC_0_0 (tgC_5_0 (tgC_6_0 kC0))).2.1 rfl (Nat.le_trans (by decide) hd) rfl (Nat.le_of_ble_eq_true rfl) dX9_officer_30 ?_
          refine am_istore_n C0 dX9_officer_33 rfl (by decide) rfl (lv' := [(0, .ref (am_b G 0)), (1, .int x1), (2, .int x2), (3, .int q_5.1)]) rfl ?_
          refine am_iload_n C0 dX9_officer_34 3 rfl ?_
          refine am_iconst C0 dX9_officer_35 ci_m1 ?_
          refine am_icmp_eq C0 dX9_officer_36 (tgt := 46) (by decide) (fun c_6 => ?_) (fun c_6 => ?_)
          · replace h := am_ip h c_6
            refine am_iload_n C0 dX9_officer_46 3 rfl ?_
            have e := Option.some.inj h
            subst e
            exact hret _ _ dX9_officer_47
          · replace h := am_in h c_6
            refine am_aload_n C0 dX9_officer_39 0 rfl ?_
            refine am_getR C0 (j := 88) ff_RX9_33 (loC_6_4 kC0).1 (loC_6_4 kC0).2.1 (loC_6_4 kC0).2.2.1 (loC_6_4 kC0).2.2.2 dX9_officer_40 ?_
            obtain ⟨q_7, h_q_7, h⟩ := am_lt h
            refine am_callV C0 (m_C_Past_forget (σ := q_5.2) (Nat.le_refl _) 88 (tgC_6_4 kC0) h_q_7) mm_yX3_forget ln_RX9_51 (As := fun b => []) (fun _ => rfl) (fun _ => rfl) (loC_2_0 (tgC_6_4 kC0)).1 (loC_2_0 (tgC_6_4 kC0)).2.1 rfl (Nat.le_trans (by decide) hd) rfl (Nat.le_of_ble_eq_true rfl) dX9_officer_43 ?_
            refine am_iload_n C0 dX9_officer_46 3 rfl ?_
            have e := Option.some.inj h
            subst e
            exact hret _ _ dX9_officer_47
        · replace h := am_ip h c_4
          refine am_iconst C0 dX9_officer_19 ci_m1 ?_
          have e := Option.some.inj h
          subst e
          exact hret _ _ dX9_officer_20
set_option maxRecDepth 100000 in
set_option maxHeartbeats 4000000 in
theorem m_C_officer {l : Launch} {d : Nat} {σ : am_SS} {q : Int32 × am_SS} (hd : 2 ≤ d) (x1 : Int32) (x2 : Int32) (h : C_officer x1 x2 σ = some q) : am_Met l yX9_officer cX9_officer 4 (some .int) d 0 0 LC (fun b => [.ref (b 0), .int x1, .int x2]) σ (some (.int q.1)) q.2 :=
  am_metI (plainFor_of_name (by decide)) rfl (lv := fun b => [(0, .ref (b 0)), (1, .int x1), (2, .int x2)]) (fun _ => rfl) (fun _ => Nat.le_of_ble_eq_true rfl) (fun G C0 _ hret => k_C_officer C0 hd hret x1 x2 σ  h)
set_option maxRecDepth 100000 in
set_option maxHeartbeats 4000000 in
theorem k_C_batman {G : am_T} {d0 : Nat} (C0 : am_C G cX9_batman 4 RX9 LC d0) (hd : 2 ≤ d0) {q : Int32 × am_SS} (hret : am_retI G cX9_batman 4 q.1 q.2) (x1 : Int32) (x2 : Int32) (σ : am_SS) (h : C_batman x1 x2 σ = some q) : am_K G 4 0 [(0, .ref (am_b G 0)), (1, .int x1), (2, .int x2)] [] σ := by
  unfold C_batman at h
  refine am_iload_n C0 dX9_batman_0 1 rfl ?_
  refine am_if_lt C0 dX9_batman_1 (tgt := 19) (by decide) (fun c_1 => ?_) (fun c_1 => ?_)
  · replace h := am_ip h c_1
    refine am_iconst C0 dX9_batman_19 ci_m1 ?_
    have e := Option.some.inj h
    subst e
    exact hret _ _ dX9_batman_20
  · replace h := am_in h c_1
    refine am_iload_n C0 dX9_batman_4 1 rfl ?_
    refine am_iconst C0 dX9_batman_5 ci_1 ?_
    refine am_icmp_gt C0 dX9_batman_6 (tgt := 19) (by decide) (fun c_2 => ?_) (fun c_2 => ?_)
    · replace h := am_ip h c_2
      refine am_iconst C0 dX9_batman_19 ci_m1 ?_
      have e := Option.some.inj h
      subst e
      exact hret _ _ dX9_batman_20
    · replace h := am_in h c_2
      refine am_iload_n C0 dX9_batman_9 2 rfl ?_
      refine am_if_lt C0 dX9_batman_10 (tgt := 19) (by decide) (fun c_3 => ?_) (fun c_3 => ?_)
      · replace h := am_ip h c_3
        refine am_iconst C0 dX9_batman_19 ci_m1 ?_
        have e := Option.some.inj h
        subst e
        exact hret _ _ dX9_batman_20
      · replace h := am_in h c_3
        refine am_iload_n C0 dX9_batman_13 2 rfl ?_
        refine am_bipush C0 dX9_batman_14 kb_9 ?_
        refine am_icmp_le C0 dX9_batman_16 (tgt := 21) (by decide) (fun c_4 => ?_) (fun c_4 => ?_)
        · replace h := am_in h c_4
          refine am_aload_n C0 dX9_batman_21 0 rfl ?_
          refine am_getR C0 (j := 1) ff_RX9_10 (loC_6_0 kC0).1 (loC_6_0 kC0).2.1 (loC_6_0 kC0).2.2.1 (loC_6_0 kC0).2.2.2 dX9_batman_22 ?_
          refine am_getR C0 (j := 2) ff_RX9_44 (loC_5_0 (tgC_6_0 kC0)).1 (loC_5_0 (tgC_6_0 kC0)).2.1 (loC_5_0 (tgC_6_0 kC0)).2.2.1 (loC_5_0 (tgC_6_0 kC0)).2.2.2 dX9_batman_25 ?_
          refine am_iload_n C0 dX9_batman_28 1 rfl ?_
          refine am_iload_n C0 dX9_batman_29 2 rfl ?_
          obtain ⟨q_5, h_q_5, h⟩ := am_bind h
          refine am_callV C0 (m_C_Front_addBatman (σ := σ) (Nat.le_refl _) 2 x1 x2 (tgC_5_0 (tgC_6_0 kC0)) h_q_5) mm_yX0_addBatman ln_RX9_58 (As := fun b => [.int x1, .int x2]) (fun _ => rfl) (fun _ => rfl) (loC_0_0 (tgC_5_0 (tgC_6_0 kC0))).1 (loC_0_0 (tgC_5_0 (tgC_6_0 kC0))).2.1 rfl (Nat.le_trans (by decide) hd) rfl (Nat.le_of_ble_eq_true rfl) dX9_batman_30 ?_
          refine am_istore_n C0 dX9_batman_33 rfl (by decide) rfl (lv' := [(0, .ref (am_b G 0)), (1, .int x1), (2, .int x2), (3, .int q_5.1)]) rfl ?_
          refine am_iload_n C0 dX9_batman_34 3 rfl ?_
          refine am_iconst C0 dX9_batman_35 ci_m1 ?_
          refine am_icmp_eq C0 dX9_batman_36 (tgt := 46) (by decide) (fun c_6 => ?_) (fun c_6 => ?_)
          · replace h := am_ip h c_6
            refine am_iload_n C0 dX9_batman_46 3 rfl ?_
            have e := Option.some.inj h
            subst e
            exact hret _ _ dX9_batman_47
          · replace h := am_in h c_6
            refine am_aload_n C0 dX9_batman_39 0 rfl ?_
            refine am_getR C0 (j := 88) ff_RX9_33 (loC_6_4 kC0).1 (loC_6_4 kC0).2.1 (loC_6_4 kC0).2.2.1 (loC_6_4 kC0).2.2.2 dX9_batman_40 ?_
            obtain ⟨q_7, h_q_7, h⟩ := am_lt h
            refine am_callV C0 (m_C_Past_forget (σ := q_5.2) (Nat.le_refl _) 88 (tgC_6_4 kC0) h_q_7) mm_yX3_forget ln_RX9_51 (As := fun b => []) (fun _ => rfl) (fun _ => rfl) (loC_2_0 (tgC_6_4 kC0)).1 (loC_2_0 (tgC_6_4 kC0)).2.1 rfl (Nat.le_trans (by decide) hd) rfl (Nat.le_of_ble_eq_true rfl) dX9_batman_43 ?_
            refine am_iload_n C0 dX9_batman_46 3 rfl ?_
            have e := Option.some.inj h
            subst e
            exact hret _ _ dX9_batman_47
        · replace h := am_ip h c_4
          refine am_iconst C0 dX9_batman_19 ci_m1 ?_
          have e := Option.some.inj h
          subst e
          exact hret _ _ dX9_batman_20
set_option maxRecDepth 100000 in
set_option maxHeartbeats 4000000 in
theorem m_C_batman {l : Launch} {d : Nat} {σ : am_SS} {q : Int32 × am_SS} (hd : 2 ≤ d) (x1 : Int32) (x2 : Int32) (h : C_batman x1 x2 σ = some q) : am_Met l yX9_batman cX9_batman 4 (some .int) d 0 0 LC (fun b => [.ref (b 0), .int x1, .int x2]) σ (some (.int q.1)) q.2 :=
  am_metI (plainFor_of_name (by decide)) rfl (lv := fun b => [(0, .ref (b 0)), (1, .int x1), (2, .int x2)]) (fun _ => rfl) (fun _ => Nat.le_of_ble_eq_true rfl) (fun G C0 _ hret => k_C_batman C0 hd hret x1 x2 σ  h)
set_option maxRecDepth 100000 in
set_option maxHeartbeats 4000000 in
theorem k_C_set_p81 {G : am_T} {d0 : Nat} (C0 : am_C G cX9_set 5 RX9 LC d0) (hd : 3 ≤ d0) {q : Bool × am_SS} (hret : am_retI G cX9_set 5 (am_bI q.1) q.2) (x4 : Bool) (σ : am_SS) (h : C_set_p81 x4 σ = some q) : am_K G 5 81 [(0, .ref (am_b G 0)), (4, .int (am_bI x4))] [] σ := by
  unfold C_set_p81 at h
  refine am_iload C0 dX9_set_81 1 rfl ?_
  refine am_ifB_eq C0 dX9_set_83 (tgt := 93) (by decide) (fun c_1 => ?_) (fun c_1 => ?_)
  · replace h := am_in h c_1
    refine am_iload C0 dX9_set_93 1 rfl ?_
    have e := Option.some.inj h
    subst e
    exact hret _ _ dX9_set_95
  · replace h := am_ip h c_1
    refine am_aload_n C0 dX9_set_86 0 rfl ?_
    refine am_getR C0 (j := 88) ff_RX9_33 (loC_6_4 kC0).1 (loC_6_4 kC0).2.1 (loC_6_4 kC0).2.2.1 (loC_6_4 kC0).2.2.2 dX9_set_87 ?_
    obtain ⟨q_2, h_q_2, h⟩ := am_lt h
    refine am_callV C0 (m_C_Past_forget (σ := σ) (Nat.le_refl _) 88 (tgC_6_4 kC0) h_q_2) mm_yX3_forget ln_RX9_51 (As := fun b => []) (fun _ => rfl) (fun _ => rfl) (loC_2_0 (tgC_6_4 kC0)).1 (loC_2_0 (tgC_6_4 kC0)).2.1 rfl (Nat.le_trans (by decide) hd) rfl (Nat.le_of_ble_eq_true rfl) dX9_set_90 ?_
    refine am_iload C0 dX9_set_93 1 rfl ?_
    have e := Option.some.inj h
    subst e
    exact hret _ _ dX9_set_95
set_option maxRecDepth 100000 in
set_option maxHeartbeats 4000000 in
theorem k_C_set_p37 {G : am_T} {d0 : Nat} (C0 : am_C G cX9_set 5 RX9 LC d0) (hd : 3 ≤ d0) {q : Bool × am_SS} (hret : am_retI G cX9_set 5 (am_bI q.1) q.2) (x1 : Int32) (x2 : Int32) (x3 : Int32) (σ : am_SS) (h : C_set_p37 x1 x2 x3 σ = some q) : am_K G 5 37 [(0, .ref (am_b G 0)), (1, .int x1), (2, .int x2), (3, .int x3)] [] σ := by
  unfold C_set_p37 at h
  refine am_aload_n C0 dX9_set_37 0 rfl ?_
  refine am_getR C0 (j := 1) ff_RX9_10 (loC_6_0 kC0).1 (loC_6_0 kC0).2.1 (loC_6_0 kC0).2.2.1 (loC_6_0 kC0).2.2.2 dX9_set_38 ?_
  refine am_getR C0 (j := 2) ff_RX9_44 (loC_5_0 (tgC_6_0 kC0)).1 (loC_5_0 (tgC_6_0 kC0)).2.1 (loC_5_0 (tgC_6_0 kC0)).2.2.1 (loC_5_0 (tgC_6_0 kC0)).2.2.2 dX9_set_41 ?_
  refine am_iload_n C0 dX9_set_44 1 rfl ?_
  refine am_iload_n C0 dX9_set_45 2 rfl ?_
  refine am_iload_n C0 dX9_set_46 3 rfl ?_
  obtain ⟨q_1, h_q_1, h⟩ := am_bind h
  refine am_callV C0 (m_C_Front_putBatman (σ := σ) (Nat.le_refl _) 2 x1 x2 x3 (tgC_5_0 (tgC_6_0 kC0)) h_q_1) mm_yX0_putBatman ln_RX9_65 (As := fun b => [.int x1, .int x2, .int x3]) (fun _ => rfl) (fun _ => rfl) (loC_0_0 (tgC_5_0 (tgC_6_0 kC0))).1 (loC_0_0 (tgC_5_0 (tgC_6_0 kC0))).2.1 rfl (Nat.le_trans (by decide) hd) rfl (Nat.le_of_ble_eq_true rfl) dX9_set_47 ?_
  refine am_istore C0 dX9_set_50 (by decide) rfl (lv' := [(0, .ref (am_b G 0)), (1, .int x1), (2, .int x2), (3, .int x3), (4, .int (am_bI q_1.1))]) rfl ?_
  refine am_goto C0 dX9_set_52 (tgt := 81) (by decide) ?_
  exact am_sub [0, 4] rfl (k_C_set_p81 C0 hd hret q_1.1 q_1.2  h)
set_option maxRecDepth 100000 in
set_option maxHeartbeats 4000000 in
theorem k_C_set_p79 {G : am_T} {d0 : Nat} (C0 : am_C G cX9_set 5 RX9 LC d0) (hd : 3 ≤ d0) {q : Bool × am_SS} (hret : am_retI G cX9_set 5 (am_bI q.1) q.2) (s0 : Bool) (σ : am_SS) (h : C_set_p79 s0 σ = some q) : am_K G 5 79 [(0, .ref (am_b G 0))] [.int (am_bI s0)] σ := by
  unfold C_set_p79 at h
  refine am_istore C0 dX9_set_79 (by decide) rfl (lv' := [(0, .ref (am_b G 0)), (4, .int (am_bI s0))]) rfl ?_
  exact am_sub [0, 1] rfl (k_C_set_p81 C0 hd hret s0 σ  h)
set_option maxRecDepth 100000 in
set_option maxHeartbeats 4000000 in
theorem k_C_set_p78 {G : am_T} {d0 : Nat} (C0 : am_C G cX9_set 5 RX9 LC d0) (hd : 3 ≤ d0) {q : Bool × am_SS} (hret : am_retI G cX9_set 5 (am_bI q.1) q.2) (σ : am_SS) (h : C_set_p78  σ = some q) : am_K G 5 78 [(0, .ref (am_b G 0))] [] σ := by
  unfold C_set_p78 at h
  refine am_iconst C0 dX9_set_78 ci_0 ?_
  exact am_sub [0] rfl (k_C_set_p79 C0 hd hret false σ  h)
set_option maxRecDepth 100000 in
set_option maxHeartbeats 4000000 in
theorem k_C_set_p27 {G : am_T} {d0 : Nat} (C0 : am_C G cX9_set 5 RX9 LC d0) (hd : 3 ≤ d0) {q : Bool × am_SS} (hret : am_retI G cX9_set 5 (am_bI q.1) q.2) (x1 : Int32) (x2 : Int32) (x3 : Int32) (σ : am_SS) (h : C_set_p27 x1 x2 x3 σ = some q) : am_K G 5 27 [(0, .ref (am_b G 0)), (1, .int x1), (2, .int x2), (3, .int x3)] [] σ := by
  unfold C_set_p27 at h
  refine am_iload_n C0 dX9_set_27 1 rfl ?_
  refine am_iconst C0 dX9_set_28 ci_3 ?_
  refine am_icmp_eq C0 dX9_set_29 (tgt := 37) (by decide) (fun c_1 => ?_) (fun c_1 => ?_)
  · replace h := am_ip h c_1
    exact am_sub [0, 1, 2, 3] rfl (k_C_set_p37 C0 hd hret x1 x2 x3 σ  h)
  · replace h := am_in h c_1
    refine am_iload_n C0 dX9_set_32 1 rfl ?_
    refine am_iconst C0 dX9_set_33 ci_4 ?_
    refine am_icmp_ne C0 dX9_set_34 (tgt := 55) (by decide) (fun c_2 => ?_) (fun c_2 => ?_)
    · replace h := am_in h c_2
      refine am_iload_n C0 dX9_set_55 1 rfl ?_
      refine am_iconst C0 dX9_set_56 ci_5 ?_
      refine am_icmp_ne C0 dX9_set_57 (tgt := 78) (by decide) (fun c_3 => ?_) (fun c_3 => ?_)
      · replace h := am_in h c_3
        exact am_sub [0] rfl (k_C_set_p78 C0 hd hret  σ  h)
      · replace h := am_ip h c_3
        refine am_aload_n C0 dX9_set_60 0 rfl ?_
        refine am_getR C0 (j := 1) ff_RX9_10 (loC_6_0 kC0).1 (loC_6_0 kC0).2.1 (loC_6_0 kC0).2.2.1 (loC_6_0 kC0).2.2.2 dX9_set_61 ?_
        refine am_getR C0 (j := 2) ff_RX9_44 (loC_5_0 (tgC_6_0 kC0)).1 (loC_5_0 (tgC_6_0 kC0)).2.1 (loC_5_0 (tgC_6_0 kC0)).2.2.1 (loC_5_0 (tgC_6_0 kC0)).2.2.2 dX9_set_64 ?_
        refine am_iload_n C0 dX9_set_67 3 rfl ?_
        obtain ⟨q_4, h_q_4, h⟩ := am_lt h
        refine am_callV C0 (m_C_Front_putLine (σ := σ) (Nat.le_refl _) 2 x3 (tgC_5_0 (tgC_6_0 kC0)) h_q_4) mm_yX0_putLine ln_RX9_68 (As := fun b => [.int x3]) (fun _ => rfl) (fun _ => rfl) (loC_0_0 (tgC_5_0 (tgC_6_0 kC0))).1 (loC_0_0 (tgC_5_0 (tgC_6_0 kC0))).2.1 rfl (Nat.le_trans (by decide) hd) rfl (Nat.le_of_ble_eq_true rfl) dX9_set_68 ?_
        refine am_ifB_eq C0 dX9_set_71 (tgt := 78) (by decide) (fun c_5 => ?_) (fun c_5 => ?_)
        · replace h := am_in h c_5
          exact am_sub [0] rfl (k_C_set_p78 C0 hd hret  q_4.2  h)
        · replace h := am_ip h c_5
          refine am_iconst C0 dX9_set_74 ci_1 ?_
          refine am_goto C0 dX9_set_75 (tgt := 79) (by decide) ?_
          exact am_sub [0] rfl (k_C_set_p79 C0 hd hret true q_4.2  h)
    · replace h := am_ip h c_2
      exact am_sub [0, 1, 2, 3] rfl (k_C_set_p37 C0 hd hret x1 x2 x3 σ  h)
set_option maxRecDepth 100000 in
set_option maxHeartbeats 4000000 in
theorem k_C_set {G : am_T} {d0 : Nat} (C0 : am_C G cX9_set 5 RX9 LC d0) (hd : 3 ≤ d0) {q : Bool × am_SS} (hret : am_retI G cX9_set 5 (am_bI q.1) q.2) (x1 : Int32) (x2 : Int32) (x3 : Int32) (σ : am_SS) (h : C_set x1 x2 x3 σ = some q) : am_K G 5 0 [(0, .ref (am_b G 0)), (1, .int x1), (2, .int x2), (3, .int x3)] [] σ := by
  unfold C_set at h
  refine am_iload_n C0 dX9_set_0 1 rfl ?_
  refine am_if_lt C0 dX9_set_1 (tgt := 27) (by decide) (fun c_1 => ?_) (fun c_1 => ?_)
  · replace h := am_ip h c_1
    exact am_sub [0, 1, 2, 3] rfl (k_C_set_p27 C0 hd hret x1 x2 x3 σ  h)
  · replace h := am_in h c_1
    refine am_iload_n C0 dX9_set_4 1 rfl ?_
    refine am_iconst C0 dX9_set_5 ci_2 ?_
    refine am_icmp_gt C0 dX9_set_6 (tgt := 27) (by decide) (fun c_2 => ?_) (fun c_2 => ?_)
    · replace h := am_ip h c_2
      exact am_sub [0, 1, 2, 3] rfl (k_C_set_p27 C0 hd hret x1 x2 x3 σ  h)
    · replace h := am_in h c_2
      refine am_aload_n C0 dX9_set_9 0 rfl ?_
      refine am_getR C0 (j := 1) ff_RX9_10 (loC_6_0 kC0).1 (loC_6_0 kC0).2.1 (loC_6_0 kC0).2.2.1 (loC_6_0 kC0).2.2.2 dX9_set_10 ?_
      refine am_getR C0 (j := 2) ff_RX9_44 (loC_5_0 (tgC_6_0 kC0)).1 (loC_5_0 (tgC_6_0 kC0)).2.1 (loC_5_0 (tgC_6_0 kC0)).2.2.1 (loC_5_0 (tgC_6_0 kC0)).2.2.2 dX9_set_13 ?_
      refine am_iload_n C0 dX9_set_16 1 rfl ?_
      refine am_iload_n C0 dX9_set_17 2 rfl ?_
      refine am_iload_n C0 dX9_set_18 3 rfl ?_
      obtain ⟨q_3, h_q_3, h⟩ := am_bind h
      refine am_callV C0 (m_C_Front_putOfficer (σ := σ) (Nat.le_refl _) 2 x1 x2 x3 (tgC_5_0 (tgC_6_0 kC0)) h_q_3) mm_yX0_putOfficer ln_RX9_61 (As := fun b => [.int x1, .int x2, .int x3]) (fun _ => rfl) (fun _ => rfl) (loC_0_0 (tgC_5_0 (tgC_6_0 kC0))).1 (loC_0_0 (tgC_5_0 (tgC_6_0 kC0))).2.1 rfl (Nat.le_trans (by decide) hd) rfl (Nat.le_of_ble_eq_true rfl) dX9_set_19 ?_
      refine am_istore C0 dX9_set_22 (by decide) rfl (lv' := [(0, .ref (am_b G 0)), (1, .int x1), (2, .int x2), (3, .int x3), (4, .int (am_bI q_3.1))]) rfl ?_
      refine am_goto C0 dX9_set_24 (tgt := 81) (by decide) ?_
      exact am_sub [0, 4] rfl (k_C_set_p81 C0 hd hret q_3.1 q_3.2  h)
set_option maxRecDepth 100000 in
set_option maxHeartbeats 4000000 in
theorem m_C_set {l : Launch} {d : Nat} {σ : am_SS} {q : Bool × am_SS} (hd : 3 ≤ d) (x1 : Int32) (x2 : Int32) (x3 : Int32) (h : C_set x1 x2 x3 σ = some q) : am_Met l yX9_set cX9_set 5 (some .boolean) d 0 0 LC (fun b => [.ref (b 0), .int x1, .int x2, .int x3]) σ (some (.int (am_bI q.1))) q.2 :=
  am_metI (plainFor_of_name (by decide)) (am_bI_nr _) (lv := fun b => [(0, .ref (b 0)), (1, .int x1), (2, .int x2), (3, .int x3)]) (fun _ => rfl) (fun _ => Nat.le_of_ble_eq_true rfl) (fun G C0 _ hret => k_C_set C0 hd hret x1 x2 x3 σ  h)
set_option maxRecDepth 100000 in
set_option maxHeartbeats 4000000 in
theorem k_C_act {G : am_T} {d0 : Nat} (C0 : am_C G cX9_act 4 RX9 LC d0) (hd : 7 ≤ d0) (F : Nat) {q : Bool × am_SS} (hret : am_retI G cX9_act 4 (am_bI q.1) q.2) (x1 : Int32) (x2 : Int32) (x3 : Int32) (σ : am_SS) (h : C_act F x1 x2 x3 σ = some q) : am_K G 4 0 [(0, .ref (am_b G 0)), (1, .int x1), (2, .int x2), (3, .int x3)] [] σ := by
  unfold C_act at h
  refine am_aload_n C0 dX9_act_0 0 rfl ?_
  refine am_getR C0 (j := 1) ff_RX9_10 (loC_6_0 kC0).1 (loC_6_0 kC0).2.1 (loC_6_0 kC0).2.2.1 (loC_6_0 kC0).2.2.2 dX9_act_1 ?_
  refine am_iload_n C0 dX9_act_4 1 rfl ?_
  refine am_iload_n C0 dX9_act_5 2 rfl ?_
  refine am_iload_n C0 dX9_act_6 3 rfl ?_
  obtain ⟨q_1, h_q_1, h⟩ := am_bind h
  refine am_callV C0 (m_C_War_canAct (σ := σ) (Nat.le_refl _) 1 x1 x2 x3 (tgC_6_0 kC0) h_q_1) mm_yX7_canAct ln_RX9_72 (As := fun b => [.int x1, .int x2, .int x3]) (fun _ => rfl) (fun _ => rfl) (loC_5_0 (tgC_6_0 kC0)).1 (loC_5_0 (tgC_6_0 kC0)).2.1 rfl (Nat.le_trans (by decide) hd) rfl (Nat.le_of_ble_eq_true rfl) dX9_act_7 ?_
  refine am_ifB_ne C0 dX9_act_10 (tgt := 15) (by decide) (fun c_2 => ?_) (fun c_2 => ?_)
  · replace h := am_ip h c_2
    refine am_aload_n C0 dX9_act_15 0 rfl ?_
    refine am_getR C0 (j := 88) ff_RX9_33 (loC_6_4 kC0).1 (loC_6_4 kC0).2.1 (loC_6_4 kC0).2.2.1 (loC_6_4 kC0).2.2.2 dX9_act_16 ?_
    refine am_aload_n C0 dX9_act_19 0 rfl ?_
    refine am_getR C0 (j := 1) ff_RX9_10 (loC_6_0 kC0).1 (loC_6_0 kC0).2.1 (loC_6_0 kC0).2.2.1 (loC_6_0 kC0).2.2.2 dX9_act_20 ?_
    refine am_getR C0 (j := 2) ff_RX9_44 (loC_5_0 (tgC_6_0 kC0)).1 (loC_5_0 (tgC_6_0 kC0)).2.1 (loC_5_0 (tgC_6_0 kC0)).2.2.1 (loC_5_0 (tgC_6_0 kC0)).2.2.2 dX9_act_23 ?_
    refine am_aload_n C0 dX9_act_26 0 rfl ?_
    refine am_getR C0 (j := 1) ff_RX9_10 (loC_6_0 kC0).1 (loC_6_0 kC0).2.1 (loC_6_0 kC0).2.2.1 (loC_6_0 kC0).2.2.2 dX9_act_27 ?_
    refine am_getR C0 (j := 13) ff_RX9_75 (loC_5_1 (tgC_6_0 kC0)).1 (loC_5_1 (tgC_6_0 kC0)).2.1 (loC_5_1 (tgC_6_0 kC0)).2.2.1 (loC_5_1 (tgC_6_0 kC0)).2.2.2 dX9_act_30 ?_
    refine am_getI C0 ff_RX9_79 (loC_4_2 (tgC_5_1 (tgC_6_0 kC0))).1 (loC_4_2 (tgC_5_1 (tgC_6_0 kC0))).2.1 (loC_4_2 (tgC_5_1 (tgC_6_0 kC0))).2.2.1 (loC_4_2 (tgC_5_1 (tgC_6_0 kC0))).2.2.2 dX9_act_33 ?_
    obtain ⟨q_3, h_q_3, h⟩ := am_bind h
    refine am_callV C0 (m_C_Past_keep (σ := σ) (Nat.le_refl _) F 88 2 (σ 13 2) (tgC_6_4 kC0) (tgC_5_0 (tgC_6_0 kC0)) h_q_3) mm_yX3_keep ln_RX9_84 (As := fun b => [.ref (b 2), .int (σ 13 2)]) (fun _ => rfl) (fun _ => rfl) (loC_2_0 (tgC_6_4 kC0)).1 (loC_2_0 (tgC_6_4 kC0)).2.1 rfl (Nat.le_trans (by decide) hd) rfl (Nat.le_of_ble_eq_true rfl) dX9_act_36 ?_
    refine am_aload_n C0 dX9_act_39 0 rfl ?_
    refine am_getR C0 (j := 1) ff_RX9_10 (loC_6_0 kC0).1 (loC_6_0 kC0).2.1 (loC_6_0 kC0).2.2.1 (loC_6_0 kC0).2.2.2 dX9_act_40 ?_
    refine am_iload_n C0 dX9_act_43 1 rfl ?_
    refine am_iload_n C0 dX9_act_44 2 rfl ?_
    refine am_iload_n C0 dX9_act_45 3 rfl ?_
    obtain ⟨q_4, h_q_4, h⟩ := am_bind h
    refine am_callV C0 (m_C_War_perform (σ := q_3) (Nat.le_refl _) F 1 x1 x2 x3 (tgC_6_0 kC0) h_q_4) mm_yX7_perform ln_RX9_88 (As := fun b => [.int x1, .int x2, .int x3]) (fun _ => rfl) (fun _ => rfl) (loC_5_0 (tgC_6_0 kC0)).1 (loC_5_0 (tgC_6_0 kC0)).2.1 rfl (Nat.le_trans (by decide) hd) rfl (Nat.le_of_ble_eq_true rfl) dX9_act_46 ?_
    refine am_iconst C0 dX9_act_49 ci_1 ?_
    have e := Option.some.inj h
    subst e
    exact hret _ _ dX9_act_50
  · replace h := am_in h c_2
    refine am_iconst C0 dX9_act_13 ci_0 ?_
    have e := Option.some.inj h
    subst e
    exact hret _ _ dX9_act_14
set_option maxRecDepth 100000 in
set_option maxHeartbeats 4000000 in
theorem m_C_act {l : Launch} {d : Nat} {σ : am_SS} {q : Bool × am_SS} (hd : 7 ≤ d) (F : Nat) (x1 : Int32) (x2 : Int32) (x3 : Int32) (h : C_act F x1 x2 x3 σ = some q) : am_Met l yX9_act cX9_act 4 (some .boolean) d 0 0 LC (fun b => [.ref (b 0), .int x1, .int x2, .int x3]) σ (some (.int (am_bI q.1))) q.2 :=
  am_metI (plainFor_of_name (by decide)) (am_bI_nr _) (lv := fun b => [(0, .ref (b 0)), (1, .int x1), (2, .int x2), (3, .int x3)]) (fun _ => rfl) (fun _ => Nat.le_of_ble_eq_true rfl) (fun G C0 _ hret => k_C_act C0 hd F hret x1 x2 x3 σ  h)
set_option maxRecDepth 100000 in
set_option maxHeartbeats 4000000 in
theorem k_C_days_l35 {G : am_T} {d0 : Nat} (C0 : am_C G cX9_days 4 RX9 LC d0) (hd : 8 ≤ d0) (F : Nat) {q : Int32 × am_SS} (hret : am_retI G cX9_days 4 q.1 q.2) : ∀ (n : Nat) (x1 : Int32) (x2 : Int32) (x3 : Int32) (σ : am_SS) (h : C_days_l35 F n x1 x2 x3 σ = some q), am_K G 4 35 [(0, .ref (am_b G 0)), (1, .int x1), (2, .int x2), (3, .int x3)] [] σ := by
  intro n
  induction n with
  | zero =>
    intro x1 x2 x3 σ h
    rw [C_days_l35] at h
    cases h
  | succ n ih =>
    intro x1 x2 x3 σ h
    rw [C_days_l35] at h
    refine am_iload_n C0 dX9_days_35 3 rfl ?_
    refine am_iload_n C0 dX9_days_36 1 rfl ?_
    refine am_icmp_ge C0 dX9_days_37 (tgt := 88) (by decide) (fun c_1 => ?_) (fun c_1 => ?_)
    · replace h := am_in h c_1
      refine am_iload_n C0 dX9_days_88 2 rfl ?_
      have e := Option.some.inj h
      subst e
      exact hret _ _ dX9_days_89
    · replace h := am_ip h c_1
      refine am_aload_n C0 dX9_days_40 0 rfl ?_
      refine am_getR C0 (j := 88) ff_RX9_33 (loC_6_4 kC0).1 (loC_6_4 kC0).2.1 (loC_6_4 kC0).2.2.1 (loC_6_4 kC0).2.2.2 dX9_days_41 ?_
      refine am_aload_n C0 dX9_days_44 0 rfl ?_
      refine am_getR C0 (j := 1) ff_RX9_10 (loC_6_0 kC0).1 (loC_6_0 kC0).2.1 (loC_6_0 kC0).2.2.1 (loC_6_0 kC0).2.2.2 dX9_days_45 ?_
      refine am_getR C0 (j := 2) ff_RX9_44 (loC_5_0 (tgC_6_0 kC0)).1 (loC_5_0 (tgC_6_0 kC0)).2.1 (loC_5_0 (tgC_6_0 kC0)).2.2.1 (loC_5_0 (tgC_6_0 kC0)).2.2.2 dX9_days_48 ?_
      refine am_aload_n C0 dX9_days_51 0 rfl ?_
      refine am_getR C0 (j := 1) ff_RX9_10 (loC_6_0 kC0).1 (loC_6_0 kC0).2.1 (loC_6_0 kC0).2.2.1 (loC_6_0 kC0).2.2.2 dX9_days_52 ?_
      refine am_getR C0 (j := 13) ff_RX9_75 (loC_5_1 (tgC_6_0 kC0)).1 (loC_5_1 (tgC_6_0 kC0)).2.1 (loC_5_1 (tgC_6_0 kC0)).2.2.1 (loC_5_1 (tgC_6_0 kC0)).2.2.2 dX9_days_55 ?_
      refine am_getI C0 ff_RX9_79 (loC_4_2 (tgC_5_1 (tgC_6_0 kC0))).1 (loC_4_2 (tgC_5_1 (tgC_6_0 kC0))).2.1 (loC_4_2 (tgC_5_1 (tgC_6_0 kC0))).2.2.1 (loC_4_2 (tgC_5_1 (tgC_6_0 kC0))).2.2.2 dX9_days_58 ?_
      obtain ⟨q_2, h_q_2, h⟩ := am_bind h
      refine am_callV C0 (m_C_Past_keep (σ := σ) (Nat.le_refl _) F 88 2 (σ 13 2) (tgC_6_4 kC0) (tgC_5_0 (tgC_6_0 kC0)) h_q_2) mm_yX3_keep ln_RX9_84 (As := fun b => [.ref (b 2), .int (σ 13 2)]) (fun _ => rfl) (fun _ => rfl) (loC_2_0 (tgC_6_4 kC0)).1 (loC_2_0 (tgC_6_4 kC0)).2.1 rfl (Nat.le_trans (by decide) hd) rfl (Nat.le_of_ble_eq_true rfl) dX9_days_61 ?_
      refine am_iload_n C0 dX9_days_64 2 rfl ?_
      refine am_aload_n C0 dX9_days_65 0 rfl ?_
      refine am_getR C0 (j := 1) ff_RX9_10 (loC_6_0 kC0).1 (loC_6_0 kC0).2.1 (loC_6_0 kC0).2.2.1 (loC_6_0 kC0).2.2.2 dX9_days_66 ?_
      refine am_aload_n C0 dX9_days_69 0 rfl ?_
      refine am_getR C0 (j := 1) ff_RX9_10 (loC_6_0 kC0).1 (loC_6_0 kC0).2.1 (loC_6_0 kC0).2.2.1 (loC_6_0 kC0).2.2.2 dX9_days_70 ?_
      refine am_getR C0 (j := 2) ff_RX9_44 (loC_5_0 (tgC_6_0 kC0)).1 (loC_5_0 (tgC_6_0 kC0)).2.1 (loC_5_0 (tgC_6_0 kC0)).2.2.1 (loC_5_0 (tgC_6_0 kC0)).2.2.2 dX9_days_73 ?_
      refine am_iconst C0 dX9_days_76 ci_0 ?_
      obtain ⟨q_3, h_q_3, h⟩ := am_bind h
      refine am_callV C0 (m_C_War_passDay (σ := q_2) (Nat.le_refl _) F 1 2 false (tgC_6_0 kC0) (tgC_5_0 (tgC_6_0 kC0)) h_q_3) mm_yX7_passDay ln_RX9_95 (As := fun b => [.ref (b 2), .int (am_bI false)]) (fun _ => rfl) (fun _ => rfl) (loC_5_0 (tgC_6_0 kC0)).1 (loC_5_0 (tgC_6_0 kC0)).2.1 rfl (Nat.le_trans (by decide) hd) rfl (Nat.le_of_ble_eq_true rfl) dX9_days_77 ?_
      refine am_iadd C0 dX9_days_80 ?_
      obtain ⟨x2_4, e_x2_4, h⟩ := am_lt h
      refine am_top e_x2_4 ?_
      refine am_istore_n C0 dX9_days_81 rfl (by decide) rfl (lv' := [(0, .ref (am_b G 0)), (1, .int x1), (2, .int x2_4), (3, .int x3)]) rfl ?_
      obtain ⟨x3_5, e_x3_5, h⟩ := am_lt h
      refine am_iinc C0 dX9_days_82 3 rfl (by rw [ci_1]; exact e_x3_5) (by decide) rfl (lv' := [(0, .ref (am_b G 0)), (1, .int x1), (2, .int x2_4), (3, .int x3_5)]) rfl ?_
      refine am_goto C0 dX9_days_85 (tgt := 35) (by decide) ?_
      exact am_sub [0, 1, 2, 3] rfl (ih x1 x2_4 x3_5 q_3.2  h)
set_option maxRecDepth 100000 in
set_option maxHeartbeats 4000000 in
theorem k_C_days {G : am_T} {d0 : Nat} (C0 : am_C G cX9_days 4 RX9 LC d0) (hd : 8 ≤ d0) (F : Nat) {q : Int32 × am_SS} (hret : am_retI G cX9_days 4 q.1 q.2) (x1 : Int32) (σ : am_SS) (h : C_days F x1 σ = some q) : am_K G 4 0 [(0, .ref (am_b G 0)), (1, .int x1)] [] σ := by
  unfold C_days at h
  refine am_iload_n C0 dX9_days_0 1 rfl ?_
  refine am_iconst C0 dX9_days_1 ci_1 ?_
  refine am_icmp_lt C0 dX9_days_2 (tgt := 29) (by decide) (fun c_1 => ?_) (fun c_1 => ?_)
  · replace h := am_ip h c_1
    refine am_iconst C0 dX9_days_29 ci_m1 ?_
    have e := Option.some.inj h
    subst e
    exact hret _ _ dX9_days_30
  · replace h := am_in h c_1
    refine am_iload_n C0 dX9_days_5 1 rfl ?_
    refine am_bipush C0 dX9_days_6 kb_60 ?_
    refine am_icmp_gt C0 dX9_days_8 (tgt := 29) (by decide) (fun c_2 => ?_) (fun c_2 => ?_)
    · replace h := am_ip h c_2
      refine am_iconst C0 dX9_days_29 ci_m1 ?_
      have e := Option.some.inj h
      subst e
      exact hret _ _ dX9_days_30
    · replace h := am_in h c_2
      refine am_aload_n C0 dX9_days_11 0 rfl ?_
      refine am_getR C0 (j := 1) ff_RX9_10 (loC_6_0 kC0).1 (loC_6_0 kC0).2.1 (loC_6_0 kC0).2.2.1 (loC_6_0 kC0).2.2.2 dX9_days_12 ?_
      refine am_getR C0 (j := 2) ff_RX9_44 (loC_5_0 (tgC_6_0 kC0)).1 (loC_5_0 (tgC_6_0 kC0)).2.1 (loC_5_0 (tgC_6_0 kC0)).2.2.1 (loC_5_0 (tgC_6_0 kC0)).2.2.2 dX9_days_15 ?_
      refine am_getI C0 ff_RX9_92 (loC_0_14 (tgC_5_0 (tgC_6_0 kC0))).1 (loC_0_14 (tgC_5_0 (tgC_6_0 kC0))).2.1 (loC_0_14 (tgC_5_0 (tgC_6_0 kC0))).2.2.1 (loC_0_14 (tgC_5_0 (tgC_6_0 kC0))).2.2.2 dX9_days_18 ?_
      refine am_iload_n C0 dX9_days_21 1 rfl ?_
      refine am_iadd C0 dX9_days_22 ?_
      refine am_sipush C0 dX9_days_23 cs_9999 ?_
      refine am_icmp_le C0 dX9_days_26 (tgt := 31) (by decide) (fun c_3 => ?_) (fun c_3 => ?_)
      · replace h := am_in h c_3
        refine am_iconst C0 dX9_days_31 ci_0 ?_
        refine am_istore_n C0 dX9_days_32 rfl (by decide) rfl (lv' := [(0, .ref (am_b G 0)), (1, .int x1), (2, .int 0)]) rfl ?_
        refine am_iconst C0 dX9_days_33 ci_0 ?_
        refine am_istore_n C0 dX9_days_34 rfl (by decide) rfl (lv' := [(0, .ref (am_b G 0)), (1, .int x1), (2, .int 0), (3, .int 0)]) rfl ?_
        exact am_sub [0, 1, 2, 3] rfl (k_C_days_l35 C0 hd F hret F x1 0 0 σ  h)
      · replace h := am_ip h c_3
        refine am_iconst C0 dX9_days_29 ci_m1 ?_
        have e := Option.some.inj h
        subst e
        exact hret _ _ dX9_days_30
set_option maxRecDepth 100000 in
set_option maxHeartbeats 4000000 in
theorem m_C_days {l : Launch} {d : Nat} {σ : am_SS} {q : Int32 × am_SS} (hd : 8 ≤ d) (F : Nat) (x1 : Int32) (h : C_days F x1 σ = some q) : am_Met l yX9_days cX9_days 4 (some .int) d 0 0 LC (fun b => [.ref (b 0), .int x1]) σ (some (.int q.1)) q.2 :=
  am_metI (plainFor_of_name (by decide)) rfl (lv := fun b => [(0, .ref (b 0)), (1, .int x1)]) (fun _ => rfl) (fun _ => Nat.le_of_ble_eq_true rfl) (fun G C0 _ hret => k_C_days C0 hd F hret x1 σ  h)
set_option maxRecDepth 100000 in
set_option maxHeartbeats 4000000 in
theorem k_C_feed {G : am_T} {d0 : Nat} (C0 : am_C G cX9_feed 6 RX9 LC d0) (hd : 2 ≤ d0) (F : Nat) {q : Int32 × am_SS} (hret : am_retI G cX9_feed 6 q.1 q.2) (x1 : Int32) (x2 : Int32) (x3 : Int32) (x4 : Int32) (x5 : Int32) (σ : am_SS) (h : C_feed F x1 x2 x3 x4 x5 σ = some q) : am_K G 6 0 [(0, .ref (am_b G 0)), (1, .int x1), (2, .int x2), (3, .int x3), (4, .int x4), (5, .int x5)] [] σ := by
  unfold C_feed at h
  refine am_aload_n C0 dX9_feed_0 0 rfl ?_
  refine am_getR C0 (j := 157) ff_RX9_40 (loC_6_5 kC0).1 (loC_6_5 kC0).2.1 (loC_6_5 kC0).2.2.1 (loC_6_5 kC0).2.2.2 dX9_feed_1 ?_
  refine am_getI C0 ff_RX9_99 (loC_3_1 (tgC_6_5 kC0)).1 (loC_3_1 (tgC_6_5 kC0)).2.1 (loC_3_1 (tgC_6_5 kC0)).2.2.1 (loC_3_1 (tgC_6_5 kC0)).2.2.2 dX9_feed_4 ?_
  refine am_bipush C0 dX9_feed_7 kb_20 ?_
  refine am_iadd C0 dX9_feed_9 ?_
  refine am_sipush C0 dX9_feed_10 cs_400 ?_
  refine am_icmp_le C0 dX9_feed_13 (tgt := 18) (by decide) (fun c_1 => ?_) (fun c_1 => ?_)
  · replace h := am_in h c_1
    refine am_aload_n C0 dX9_feed_18 0 rfl ?_
    refine am_getR C0 (j := 157) ff_RX9_40 (loC_6_5 kC0).1 (loC_6_5 kC0).2.1 (loC_6_5 kC0).2.2.1 (loC_6_5 kC0).2.2.2 dX9_feed_19 ?_
    refine am_iload_n C0 dX9_feed_22 1 rfl ?_
    obtain ⟨q_2, h_q_2, h⟩ := am_bind h
    refine am_callV C0 (m_C_Reader_put (σ := σ) (Nat.le_refl _) F 157 x1 (tgC_6_5 kC0) h_q_2) mm_yX4_put ln_RX9_102 (As := fun b => [.int x1]) (fun _ => rfl) (fun _ => rfl) (loC_3_0 (tgC_6_5 kC0)).1 (loC_3_0 (tgC_6_5 kC0)).2.1 rfl (Nat.le_trans (by decide) hd) rfl (Nat.le_of_ble_eq_true rfl) dX9_feed_23 ?_
    refine am_aload_n C0 dX9_feed_26 0 rfl ?_
    refine am_getR C0 (j := 157) ff_RX9_40 (loC_6_5 kC0).1 (loC_6_5 kC0).2.1 (loC_6_5 kC0).2.2.1 (loC_6_5 kC0).2.2.2 dX9_feed_27 ?_
    refine am_iload_n C0 dX9_feed_30 2 rfl ?_
    obtain ⟨q_3, h_q_3, h⟩ := am_bind h
    refine am_callV C0 (m_C_Reader_put (σ := q_2) (Nat.le_refl _) F 157 x2 (tgC_6_5 kC0) h_q_3) mm_yX4_put ln_RX9_102 (As := fun b => [.int x2]) (fun _ => rfl) (fun _ => rfl) (loC_3_0 (tgC_6_5 kC0)).1 (loC_3_0 (tgC_6_5 kC0)).2.1 rfl (Nat.le_trans (by decide) hd) rfl (Nat.le_of_ble_eq_true rfl) dX9_feed_31 ?_
    refine am_aload_n C0 dX9_feed_34 0 rfl ?_
    refine am_getR C0 (j := 157) ff_RX9_40 (loC_6_5 kC0).1 (loC_6_5 kC0).2.1 (loC_6_5 kC0).2.2.1 (loC_6_5 kC0).2.2.2 dX9_feed_35 ?_
    refine am_iload_n C0 dX9_feed_38 3 rfl ?_
    obtain ⟨q_4, h_q_4, h⟩ := am_bind h
    refine am_callV C0 (m_C_Reader_put (σ := q_3) (Nat.le_refl _) F 157 x3 (tgC_6_5 kC0) h_q_4) mm_yX4_put ln_RX9_102 (As := fun b => [.int x3]) (fun _ => rfl) (fun _ => rfl) (loC_3_0 (tgC_6_5 kC0)).1 (loC_3_0 (tgC_6_5 kC0)).2.1 rfl (Nat.le_trans (by decide) hd) rfl (Nat.le_of_ble_eq_true rfl) dX9_feed_39 ?_
    refine am_aload_n C0 dX9_feed_42 0 rfl ?_
    refine am_getR C0 (j := 157) ff_RX9_40 (loC_6_5 kC0).1 (loC_6_5 kC0).2.1 (loC_6_5 kC0).2.2.1 (loC_6_5 kC0).2.2.2 dX9_feed_43 ?_
    refine am_iload C0 dX9_feed_46 4 rfl ?_
    obtain ⟨q_5, h_q_5, h⟩ := am_bind h
    refine am_callV C0 (m_C_Reader_put (σ := q_4) (Nat.le_refl _) F 157 x4 (tgC_6_5 kC0) h_q_5) mm_yX4_put ln_RX9_102 (As := fun b => [.int x4]) (fun _ => rfl) (fun _ => rfl) (loC_3_0 (tgC_6_5 kC0)).1 (loC_3_0 (tgC_6_5 kC0)).2.1 rfl (Nat.le_trans (by decide) hd) rfl (Nat.le_of_ble_eq_true rfl) dX9_feed_48 ?_
    refine am_aload_n C0 dX9_feed_51 0 rfl ?_
    refine am_getR C0 (j := 157) ff_RX9_40 (loC_6_5 kC0).1 (loC_6_5 kC0).2.1 (loC_6_5 kC0).2.2.1 (loC_6_5 kC0).2.2.2 dX9_feed_52 ?_
    refine am_iload C0 dX9_feed_55 5 rfl ?_
    obtain ⟨q_6, h_q_6, h⟩ := am_bind h
    refine am_callV C0 (m_C_Reader_put (σ := q_5) (Nat.le_refl _) F 157 x5 (tgC_6_5 kC0) h_q_6) mm_yX4_put ln_RX9_102 (As := fun b => [.int x5]) (fun _ => rfl) (fun _ => rfl) (loC_3_0 (tgC_6_5 kC0)).1 (loC_3_0 (tgC_6_5 kC0)).2.1 rfl (Nat.le_trans (by decide) hd) rfl (Nat.le_of_ble_eq_true rfl) dX9_feed_57 ?_
    refine am_aload_n C0 dX9_feed_60 0 rfl ?_
    refine am_getR C0 (j := 157) ff_RX9_40 (loC_6_5 kC0).1 (loC_6_5 kC0).2.1 (loC_6_5 kC0).2.2.1 (loC_6_5 kC0).2.2.2 dX9_feed_61 ?_
    refine am_getI C0 ff_RX9_99 (loC_3_1 (tgC_6_5 kC0)).1 (loC_3_1 (tgC_6_5 kC0)).2.1 (loC_3_1 (tgC_6_5 kC0)).2.2.1 (loC_3_1 (tgC_6_5 kC0)).2.2.2 dX9_feed_64 ?_
    have e := Option.some.inj h
    subst e
    exact hret _ _ dX9_feed_67
  · replace h := am_ip h c_1
    refine am_iconst C0 dX9_feed_16 ci_m1 ?_
    have e := Option.some.inj h
    subst e
    exact hret _ _ dX9_feed_17
set_option maxRecDepth 100000 in
set_option maxHeartbeats 4000000 in
theorem m_C_feed {l : Launch} {d : Nat} {σ : am_SS} {q : Int32 × am_SS} (hd : 2 ≤ d) (F : Nat) (x1 : Int32) (x2 : Int32) (x3 : Int32) (x4 : Int32) (x5 : Int32) (h : C_feed F x1 x2 x3 x4 x5 σ = some q) : am_Met l yX9_feed cX9_feed 6 (some .int) d 0 0 LC (fun b => [.ref (b 0), .int x1, .int x2, .int x3, .int x4, .int x5]) σ (some (.int q.1)) q.2 :=
  am_metI (plainFor_of_name (by decide)) rfl (lv := fun b => [(0, .ref (b 0)), (1, .int x1), (2, .int x2), (3, .int x3), (4, .int x4), (5, .int x5)]) (fun _ => rfl) (fun _ => Nat.le_of_ble_eq_true rfl) (fun G C0 _ hret => k_C_feed C0 hd F hret x1 x2 x3 x4 x5 σ  h)
set_option maxRecDepth 100000 in
set_option maxHeartbeats 4000000 in
theorem k_C_end {G : am_T} {d0 : Nat} (C0 : am_C G cX9_end 2 RX9 LC d0) (hd : 1 ≤ d0) {q : Bool × am_SS} (hret : am_retI G cX9_end 2 (am_bI q.1) q.2) (x1 : Int32) (σ : am_SS) (h : C_end x1 σ = q) : am_K G 2 0 [(0, .ref (am_b G 0)), (1, .int x1)] [] σ := by
  unfold C_end at h
  refine am_iload_n C0 dX9_end_0 1 rfl ?_
  refine am_if_lt C0 dX9_end_1 (tgt := 15) (by decide) (fun c_1 => ?_) (fun c_1 => ?_)
  · replace h := am_ip h c_1
    refine am_iconst C0 dX9_end_15 ci_0 ?_
    have e := h
    subst e
    exact hret _ _ dX9_end_16
  · replace h := am_in h c_1
    refine am_iload_n C0 dX9_end_4 1 rfl ?_
    refine am_aload_n C0 dX9_end_5 0 rfl ?_
    refine am_getR C0 (j := 157) ff_RX9_40 (loC_6_5 kC0).1 (loC_6_5 kC0).2.1 (loC_6_5 kC0).2.2.1 (loC_6_5 kC0).2.2.2 dX9_end_6 ?_
    refine am_getI C0 ff_RX9_99 (loC_3_1 (tgC_6_5 kC0)).1 (loC_3_1 (tgC_6_5 kC0)).2.1 (loC_3_1 (tgC_6_5 kC0)).2.2.1 (loC_3_1 (tgC_6_5 kC0)).2.2.2 dX9_end_9 ?_
    refine am_icmp_le C0 dX9_end_12 (tgt := 17) (by decide) (fun c_2 => ?_) (fun c_2 => ?_)
    · replace h := am_in h c_2
      refine am_aload_n C0 dX9_end_17 0 rfl ?_
      refine am_getR C0 (j := 157) ff_RX9_40 (loC_6_5 kC0).1 (loC_6_5 kC0).2.1 (loC_6_5 kC0).2.2.1 (loC_6_5 kC0).2.2.2 dX9_end_18 ?_
      refine am_iload_n C0 dX9_end_21 1 rfl ?_
      obtain ⟨σ_3, e_σ_3, h⟩ := am_lt h
      refine am_putI C0 e_σ_3 fp_RX9_99 (loC_3_1 (tgC_6_5 kC0)).1 (loC_3_1 (tgC_6_5 kC0)).2.1 (loC_3_1 (tgC_6_5 kC0)).2.2.1 (loC_3_1 (tgC_6_5 kC0)).2.2.2 rfl rfl dX9_end_22 ?_
      refine am_iconst C0 dX9_end_25 ci_1 ?_
      have e := h
      subst e
      exact hret _ _ dX9_end_26
    · replace h := am_ip h c_2
      refine am_iconst C0 dX9_end_15 ci_0 ?_
      have e := h
      subst e
      exact hret _ _ dX9_end_16
set_option maxRecDepth 100000 in
set_option maxHeartbeats 4000000 in
theorem m_C_end {l : Launch} {d : Nat} {σ : am_SS} {q : Bool × am_SS} (hd : 1 ≤ d) (x1 : Int32) (h : C_end x1 σ = q) : am_Met l yX9_end cX9_end 2 (some .boolean) d 0 0 LC (fun b => [.ref (b 0), .int x1]) σ (some (.int (am_bI q.1))) q.2 :=
  am_metI (plainFor_of_name (by decide)) (am_bI_nr _) (lv := fun b => [(0, .ref (b 0)), (1, .int x1)]) (fun _ => rfl) (fun _ => Nat.le_of_ble_eq_true rfl) (fun G C0 _ hret => k_C_end C0 hd hret x1 σ  h)
set_option maxRecDepth 100000 in
set_option maxHeartbeats 4000000 in
theorem k_C_tellRows {G : am_T} {d0 : Nat} (C0 : am_C G cX9_tellRows 2 RX9 LC d0) (hd : 3 ≤ d0) (F : Nat) {q : Int32 × am_SS} (hret : am_retI G cX9_tellRows 2 q.1 q.2) (a1 : Nat) (σ : am_SS) (ha1 : LC.1 a1 = 6) (h : C_tellRows F a1 σ = some q) : am_K G 2 0 [(0, .ref (am_b G 0)), (1, .ref (am_b G a1))] [] σ := by
  unfold C_tellRows at h
  refine am_aload_n C0 dX9_tellRows_0 1 rfl ?_
  refine am_aload_n C0 dX9_tellRows_1 0 rfl ?_
  refine am_getR C0 (j := 157) ff_RX9_40 (loC_6_5 kC0).1 (loC_6_5 kC0).2.1 (loC_6_5 kC0).2.2.1 (loC_6_5 kC0).2.2.2 dX9_tellRows_2 ?_
  refine am_getR C0 (j := 168) ff_RX9_148 (loC_3_10 (tgC_6_5 kC0)).1 (loC_3_10 (tgC_6_5 kC0)).2.1 (loC_3_10 (tgC_6_5 kC0)).2.2.1 (loC_3_10 (tgC_6_5 kC0)).2.2.2 dX9_tellRows_5 ?_
  obtain ⟨q_1, h_q_1, h⟩ := am_bind h
  refine am_callV C0 (m_C_Table_copyFrom (σ := σ) (Nat.le_refl _) F a1 168 ha1 (tgC_3_10 (tgC_6_5 kC0)) h_q_1) mm_yX6_copyFrom ln_RX9_150 (As := fun b => [.ref (b 168)]) (fun _ => rfl) (fun _ => rfl) (loC_4_0 ha1).1 (loC_4_0 ha1).2.1 rfl (Nat.le_trans (by decide) hd) rfl (Nat.le_of_ble_eq_true rfl) dX9_tellRows_8 ?_
  refine am_aload_n C0 dX9_tellRows_11 1 rfl ?_
  refine am_getI C0 ff_RX9_79 (loC_4_2 ha1).1 (loC_4_2 ha1).2.1 (loC_4_2 ha1).2.2.1 (loC_4_2 ha1).2.2.2 dX9_tellRows_12 ?_
  have e := Option.some.inj h
  subst e
  exact hret _ _ dX9_tellRows_15
set_option maxRecDepth 100000 in
set_option maxHeartbeats 4000000 in
theorem m_C_tellRows {l : Launch} {d : Nat} {σ : am_SS} {q : Int32 × am_SS} (hd : 3 ≤ d) (F : Nat) (a1 : Nat) (ha1 : LC.1 a1 = 6) (h : C_tellRows F a1 σ = some q) : am_Met l yX9_tellRows cX9_tellRows 2 (some .int) d 0 0 LC (fun b => [.ref (b 0), .ref (b a1)]) σ (some (.int q.1)) q.2 :=
  am_metI (plainFor_of_name (by decide)) rfl (lv := fun b => [(0, .ref (b 0)), (1, .ref (b a1))]) (fun _ => rfl) (fun _ => Nat.le_of_ble_eq_true rfl) (fun G C0 _ hret => k_C_tellRows C0 hd F hret a1 σ ha1 h)
set_option maxRecDepth 100000 in
set_option maxHeartbeats 4000000 in
theorem k_C_text_p196 {G : am_T} {d0 : Nat} (C0 : am_C G cX9_text 3 RX9 LC d0) (hd : 27 ≤ d0) (F : Nat) {q : Int32 × am_SS} (hret : am_retI G cX9_text 3 q.1 q.2) (x2 : Int32) (σ : am_SS) (h : C_text_p196 F x2 σ = some q) : am_K G 3 196 [(0, .ref (am_b G 0)), (2, .int x2)] [] σ := by
  unfold C_text_p196 at h
  refine am_aload_n C0 dX9_text_196 0 rfl ?_
  refine am_getR C0 (j := 157) ff_RX9_40 (loC_6_5 kC0).1 (loC_6_5 kC0).2.1 (loC_6_5 kC0).2.2.1 (loC_6_5 kC0).2.2.2 dX9_text_197 ?_
  refine am_iconst C0 dX9_text_200 ci_0 ?_
  obtain ⟨σ_1, e_σ_1, h⟩ := am_lt h
  refine am_putI C0 e_σ_1 fp_RX9_99 (loC_3_1 (tgC_6_5 kC0)).1 (loC_3_1 (tgC_6_5 kC0)).2.1 (loC_3_1 (tgC_6_5 kC0)).2.2.1 (loC_3_1 (tgC_6_5 kC0)).2.2.2 rfl rfl dX9_text_201 ?_
  refine am_iload_n C0 dX9_text_204 1 rfl ?_
  have e := Option.some.inj h
  subst e
  exact hret _ _ dX9_text_205
set_option maxRecDepth 100000 in
set_option maxHeartbeats 4000000 in
theorem k_C_text {G : am_T} {d0 : Nat} (C0 : am_C G cX9_text 3 RX9 LC d0) (hd : 27 ≤ d0) (F : Nat) {q : Int32 × am_SS} (hret : am_retI G cX9_text 3 q.1 q.2) (x1 : Int32) (σ : am_SS) (h : C_text F x1 σ = some q) : am_K G 3 0 [(0, .ref (am_b G 0)), (1, .int x1)] [] σ := by
  unfold C_text at h
  refine am_aload_n C0 dX9_text_0 0 rfl ?_
  refine am_getR C0 (j := 157) ff_RX9_40 (loC_6_5 kC0).1 (loC_6_5 kC0).2.1 (loC_6_5 kC0).2.2.1 (loC_6_5 kC0).2.2.2 dX9_text_1 ?_
  obtain ⟨q_1, h_q_1, h⟩ := am_bind h
  refine am_callV C0 (m_C_Reader_cut (σ := σ) (Nat.le_refl _) F 157 (tgC_6_5 kC0) h_q_1) mm_yX4_cut ln_RX9_106 (As := fun b => []) (fun _ => rfl) (fun _ => rfl) (loC_3_0 (tgC_6_5 kC0)).1 (loC_3_0 (tgC_6_5 kC0)).2.1 rfl (Nat.le_trans (by decide) hd) rfl (Nat.le_of_ble_eq_true rfl) dX9_text_4 ?_
  refine am_iconst C0 dX9_text_7 ci_m1 ?_
  refine am_istore_n C0 dX9_text_8 rfl (by decide) rfl (lv' := [(0, .ref (am_b G 0)), (1, .int x1), (2, .int (-1))]) rfl ?_
  refine am_iload_n C0 dX9_text_9 1 rfl ?_
  by_cases c_2 : x1 = 0
  · replace h := am_ip h c_2
    refine am_tabIn C0 dX9_text_10 (tgt := 40) (off := 30) (by rw [c_2]; decide) (by rw [c_2]; decide) (by rw [c_2]; first | done | rfl | decide) (by decide) ?_
    refine am_aload_n C0 dX9_text_40 0 rfl ?_
    refine am_getR C0 (j := 157) ff_RX9_40 (loC_6_5 kC0).1 (loC_6_5 kC0).2.1 (loC_6_5 kC0).2.2.1 (loC_6_5 kC0).2.2.2 dX9_text_41 ?_
    obtain ⟨q_3, h_q_3, h⟩ := am_bind h
    refine am_callV C0 (m_C_Reader_readLaw (σ := q_1) (Nat.le_refl _) F 157 (tgC_6_5 kC0) h_q_3) mm_yX4_readLaw ln_RX9_109 (As := fun b => []) (fun _ => rfl) (fun _ => rfl) (loC_3_0 (tgC_6_5 kC0)).1 (loC_3_0 (tgC_6_5 kC0)).2.1 rfl (Nat.le_trans (by decide) hd) rfl (Nat.le_of_ble_eq_true rfl) dX9_text_44 ?_
    refine am_ifB_eq C0 dX9_text_47 (tgt := 196) (by decide) (fun c_4 => ?_) (fun c_4 => ?_)
    · replace h := am_in h c_4
      exact am_sub [0, 2] rfl (k_C_text_p196 C0 hd F hret (-1) q_3.2  h)
    · replace h := am_ip h c_4
      refine am_aload_n C0 dX9_text_50 0 rfl ?_
      refine am_getR C0 (j := 1) ff_RX9_10 (loC_6_0 kC0).1 (loC_6_0 kC0).2.1 (loC_6_0 kC0).2.2.1 (loC_6_0 kC0).2.2.2 dX9_text_51 ?_
      refine am_getR C0 (j := 15) ff_RX9_113 (loC_5_2 (tgC_6_0 kC0)).1 (loC_5_2 (tgC_6_0 kC0)).2.1 (loC_5_2 (tgC_6_0 kC0)).2.2.1 (loC_5_2 (tgC_6_0 kC0)).2.2.2 dX9_text_54 ?_
      refine am_aload_n C0 dX9_text_57 0 rfl ?_
      refine am_getR C0 (j := 157) ff_RX9_40 (loC_6_5 kC0).1 (loC_6_5 kC0).2.1 (loC_6_5 kC0).2.2.1 (loC_6_5 kC0).2.2.2 dX9_text_58 ?_
      refine am_getR C0 (j := 162) ff_RX9_117 (loC_3_9 (tgC_6_5 kC0)).1 (loC_3_9 (tgC_6_5 kC0)).2.1 (loC_3_9 (tgC_6_5 kC0)).2.2.1 (loC_3_9 (tgC_6_5 kC0)).2.2.2 dX9_text_61 ?_
      obtain ⟨q_5, h_q_5, h⟩ := am_bind h
      refine am_callV C0 (m_C_Law_copyFrom (σ := q_3.2) (Nat.le_refl _) F 15 162 (tgC_5_2 (tgC_6_0 kC0)) (tgC_3_9 (tgC_6_5 kC0)) h_q_5) mm_yX1_copyFrom ln_RX9_118 (As := fun b => [.ref (b 162)]) (fun _ => rfl) (fun _ => rfl) (loC_1_0 (tgC_5_2 (tgC_6_0 kC0))).1 (loC_1_0 (tgC_5_2 (tgC_6_0 kC0))).2.1 rfl (Nat.le_trans (by decide) hd) rfl (Nat.le_of_ble_eq_true rfl) dX9_text_64 ?_
      refine am_aload_n C0 dX9_text_67 0 rfl ?_
      refine am_getR C0 (j := 1) ff_RX9_10 (loC_6_0 kC0).1 (loC_6_0 kC0).2.1 (loC_6_0 kC0).2.2.1 (loC_6_0 kC0).2.2.2 dX9_text_68 ?_
      refine am_getR C0 (j := 15) ff_RX9_113 (loC_5_2 (tgC_6_0 kC0)).1 (loC_5_2 (tgC_6_0 kC0)).2.1 (loC_5_2 (tgC_6_0 kC0)).2.2.1 (loC_5_2 (tgC_6_0 kC0)).2.2.2 dX9_text_71 ?_
      refine am_getR C0 (j := 16) ff_RX9_124 (loC_1_0 (tgC_5_2 (tgC_6_0 kC0))).1 (loC_1_0 (tgC_5_2 (tgC_6_0 kC0))).2.1 (loC_1_0 (tgC_5_2 (tgC_6_0 kC0))).2.2.1 (loC_1_0 (tgC_5_2 (tgC_6_0 kC0))).2.2.2 dX9_text_74 ?_
      refine am_getI C0 ff_RX9_79 (loC_4_2 (tgC_1_0 (tgC_5_2 (tgC_6_0 kC0)))).1 (loC_4_2 (tgC_1_0 (tgC_5_2 (tgC_6_0 kC0)))).2.1 (loC_4_2 (tgC_1_0 (tgC_5_2 (tgC_6_0 kC0)))).2.2.1 (loC_4_2 (tgC_1_0 (tgC_5_2 (tgC_6_0 kC0)))).2.2.2 dX9_text_77 ?_
      obtain ⟨x2_6, e_x2_6, h⟩ := am_lt h
      refine am_top e_x2_6 ?_
      refine am_istore_n C0 dX9_text_80 rfl (by decide) rfl (lv' := [(0, .ref (am_b G 0)), (1, .int x1), (2, .int x2_6)]) rfl ?_
      refine am_goto C0 dX9_text_81 (tgt := 196) (by decide) ?_
      exact am_sub [0, 2] rfl (k_C_text_p196 C0 hd F hret x2_6 q_5  h)
  replace h := am_in h c_2
  by_cases c_7 : x1 = 1
  · replace h := am_ip h c_7
    refine am_tabIn C0 dX9_text_10 (tgt := 84) (off := 74) (by rw [c_7]; decide) (by rw [c_7]; decide) (by rw [c_7]; first | done | rfl | decide) (by decide) ?_
    refine am_aload_n C0 dX9_text_84 0 rfl ?_
    refine am_getR C0 (j := 157) ff_RX9_40 (loC_6_5 kC0).1 (loC_6_5 kC0).2.1 (loC_6_5 kC0).2.2.1 (loC_6_5 kC0).2.2.2 dX9_text_85 ?_
    refine am_aload_n C0 dX9_text_88 0 rfl ?_
    refine am_getR C0 (j := 1) ff_RX9_10 (loC_6_0 kC0).1 (loC_6_0 kC0).2.1 (loC_6_0 kC0).2.2.1 (loC_6_0 kC0).2.2.2 dX9_text_89 ?_
    refine am_getR C0 (j := 2) ff_RX9_44 (loC_5_0 (tgC_6_0 kC0)).1 (loC_5_0 (tgC_6_0 kC0)).2.1 (loC_5_0 (tgC_6_0 kC0)).2.2.1 (loC_5_0 (tgC_6_0 kC0)).2.2.2 dX9_text_92 ?_
    obtain ⟨q_8, h_q_8, h⟩ := am_bind h
    refine am_callV C0 (m_C_Reader_readOrders (σ := q_1) (Nat.le_refl _) F 157 2 (tgC_6_5 kC0) (tgC_5_0 (tgC_6_0 kC0)) h_q_8) mm_yX4_readOrders ln_RX9_127 (As := fun b => [.ref (b 2)]) (fun _ => rfl) (fun _ => rfl) (loC_3_0 (tgC_6_5 kC0)).1 (loC_3_0 (tgC_6_5 kC0)).2.1 rfl (Nat.le_trans (by decide) hd) rfl (Nat.le_of_ble_eq_true rfl) dX9_text_95 ?_
    refine am_ifB_eq C0 dX9_text_98 (tgt := 196) (by decide) (fun c_9 => ?_) (fun c_9 => ?_)
    · replace h := am_in h c_9
      exact am_sub [0, 2] rfl (k_C_text_p196 C0 hd F hret (-1) q_8.2  h)
    · replace h := am_ip h c_9
      refine am_aload_n C0 dX9_text_101 0 rfl ?_
      refine am_aload_n C0 dX9_text_102 0 rfl ?_
      refine am_getR C0 (j := 1) ff_RX9_10 (loC_6_0 kC0).1 (loC_6_0 kC0).2.1 (loC_6_0 kC0).2.2.1 (loC_6_0 kC0).2.2.2 dX9_text_103 ?_
      refine am_getR C0 (j := 21) ff_RX9_131 (loC_5_3 (tgC_6_0 kC0)).1 (loC_5_3 (tgC_6_0 kC0)).2.1 (loC_5_3 (tgC_6_0 kC0)).2.2.1 (loC_5_3 (tgC_6_0 kC0)).2.2.2 dX9_text_106 ?_
      obtain ⟨q_10, h_q_10, h⟩ := am_bind h
      refine am_callV C0 (m_C_tellRows (σ := q_8.2) (Nat.le_refl _) F 21 (tgC_5_3 (tgC_6_0 kC0)) h_q_10) mm_yX9_tellRows ln_RX9_134 (As := fun b => [.ref (b 21)]) (fun _ => rfl) (fun _ => rfl) (loC_6_0 kC0).1 (loC_6_0 kC0).2.1 rfl (Nat.le_trans (by decide) hd) rfl (Nat.le_of_ble_eq_true rfl) dX9_text_109 ?_
      refine am_istore_n C0 dX9_text_112 rfl (by decide) rfl (lv' := [(0, .ref (am_b G 0)), (1, .int x1), (2, .int q_10.1)]) rfl ?_
      refine am_aload_n C0 dX9_text_113 0 rfl ?_
      refine am_getR C0 (j := 88) ff_RX9_33 (loC_6_4 kC0).1 (loC_6_4 kC0).2.1 (loC_6_4 kC0).2.2.1 (loC_6_4 kC0).2.2.2 dX9_text_114 ?_
      obtain ⟨q_11, h_q_11, h⟩ := am_lt h
      refine am_callV C0 (m_C_Past_forget (σ := q_10.2) (Nat.le_refl _) 88 (tgC_6_4 kC0) h_q_11) mm_yX3_forget ln_RX9_51 (As := fun b => []) (fun _ => rfl) (fun _ => rfl) (loC_2_0 (tgC_6_4 kC0)).1 (loC_2_0 (tgC_6_4 kC0)).2.1 rfl (Nat.le_trans (by decide) hd) rfl (Nat.le_of_ble_eq_true rfl) dX9_text_117 ?_
      refine am_goto C0 dX9_text_120 (tgt := 196) (by decide) ?_
      exact am_sub [0, 2] rfl (k_C_text_p196 C0 hd F hret q_10.1 q_11  h)
  replace h := am_in h c_7
  by_cases c_12 : x1 = 2
  · replace h := am_ip h c_12
    refine am_tabIn C0 dX9_text_10 (tgt := 123) (off := 113) (by rw [c_12]; decide) (by rw [c_12]; decide) (by rw [c_12]; first | done | rfl | decide) (by decide) ?_
    refine am_aload_n C0 dX9_text_123 0 rfl ?_
    refine am_getR C0 (j := 157) ff_RX9_40 (loC_6_5 kC0).1 (loC_6_5 kC0).2.1 (loC_6_5 kC0).2.2.1 (loC_6_5 kC0).2.2.2 dX9_text_124 ?_
    refine am_aload_n C0 dX9_text_127 0 rfl ?_
    refine am_getR C0 (j := 1) ff_RX9_10 (loC_6_0 kC0).1 (loC_6_0 kC0).2.1 (loC_6_0 kC0).2.2.1 (loC_6_0 kC0).2.2.2 dX9_text_128 ?_
    refine am_getR C0 (j := 2) ff_RX9_44 (loC_5_0 (tgC_6_0 kC0)).1 (loC_5_0 (tgC_6_0 kC0)).2.1 (loC_5_0 (tgC_6_0 kC0)).2.2.1 (loC_5_0 (tgC_6_0 kC0)).2.2.2 dX9_text_131 ?_
    refine am_iconst C0 dX9_text_134 ci_1 ?_
    obtain ⟨q_13, h_q_13, h⟩ := am_bind h
    refine am_callV C0 (m_C_Reader_readCouples (σ := q_1) (Nat.le_refl _) F 157 2 true (tgC_6_5 kC0) (tgC_5_0 (tgC_6_0 kC0)) h_q_13) mm_yX4_readCouples ln_RX9_138 (As := fun b => [.ref (b 2), .int (am_bI true)]) (fun _ => rfl) (fun _ => rfl) (loC_3_0 (tgC_6_5 kC0)).1 (loC_3_0 (tgC_6_5 kC0)).2.1 rfl (Nat.le_trans (by decide) hd) rfl (Nat.le_of_ble_eq_true rfl) dX9_text_135 ?_
    refine am_ifB_eq C0 dX9_text_138 (tgt := 196) (by decide) (fun c_14 => ?_) (fun c_14 => ?_)
    · replace h := am_in h c_14
      exact am_sub [0, 2] rfl (k_C_text_p196 C0 hd F hret (-1) q_13.2  h)
    · replace h := am_ip h c_14
      refine am_aload_n C0 dX9_text_141 0 rfl ?_
      refine am_aload_n C0 dX9_text_142 0 rfl ?_
      refine am_getR C0 (j := 1) ff_RX9_10 (loC_6_0 kC0).1 (loC_6_0 kC0).2.1 (loC_6_0 kC0).2.2.1 (loC_6_0 kC0).2.2.2 dX9_text_143 ?_
      refine am_getR C0 (j := 23) ff_RX9_142 (loC_5_4 (tgC_6_0 kC0)).1 (loC_5_4 (tgC_6_0 kC0)).2.1 (loC_5_4 (tgC_6_0 kC0)).2.2.1 (loC_5_4 (tgC_6_0 kC0)).2.2.2 dX9_text_146 ?_
      obtain ⟨q_15, h_q_15, h⟩ := am_bind h
      refine am_callV C0 (m_C_tellRows (σ := q_13.2) (Nat.le_refl _) F 23 (tgC_5_4 (tgC_6_0 kC0)) h_q_15) mm_yX9_tellRows ln_RX9_134 (As := fun b => [.ref (b 23)]) (fun _ => rfl) (fun _ => rfl) (loC_6_0 kC0).1 (loC_6_0 kC0).2.1 rfl (Nat.le_trans (by decide) hd) rfl (Nat.le_of_ble_eq_true rfl) dX9_text_149 ?_
      refine am_istore_n C0 dX9_text_152 rfl (by decide) rfl (lv' := [(0, .ref (am_b G 0)), (1, .int x1), (2, .int q_15.1)]) rfl ?_
      refine am_aload_n C0 dX9_text_153 0 rfl ?_
      refine am_getR C0 (j := 88) ff_RX9_33 (loC_6_4 kC0).1 (loC_6_4 kC0).2.1 (loC_6_4 kC0).2.2.1 (loC_6_4 kC0).2.2.2 dX9_text_154 ?_
      obtain ⟨q_16, h_q_16, h⟩ := am_lt h
      refine am_callV C0 (m_C_Past_forget (σ := q_15.2) (Nat.le_refl _) 88 (tgC_6_4 kC0) h_q_16) mm_yX3_forget ln_RX9_51 (As := fun b => []) (fun _ => rfl) (fun _ => rfl) (loC_2_0 (tgC_6_4 kC0)).1 (loC_2_0 (tgC_6_4 kC0)).2.1 rfl (Nat.le_trans (by decide) hd) rfl (Nat.le_of_ble_eq_true rfl) dX9_text_157 ?_
      refine am_goto C0 dX9_text_160 (tgt := 196) (by decide) ?_
      exact am_sub [0, 2] rfl (k_C_text_p196 C0 hd F hret q_15.1 q_16  h)
  replace h := am_in h c_12
  by_cases c_17 : x1 = 3
  · replace h := am_ip h c_17
    refine am_tabIn C0 dX9_text_10 (tgt := 163) (off := 153) (by rw [c_17]; decide) (by rw [c_17]; decide) (by rw [c_17]; first | done | rfl | decide) (by decide) ?_
    refine am_aload_n C0 dX9_text_163 0 rfl ?_
    refine am_getR C0 (j := 157) ff_RX9_40 (loC_6_5 kC0).1 (loC_6_5 kC0).2.1 (loC_6_5 kC0).2.2.1 (loC_6_5 kC0).2.2.2 dX9_text_164 ?_
    refine am_aload_n C0 dX9_text_167 0 rfl ?_
    refine am_getR C0 (j := 1) ff_RX9_10 (loC_6_0 kC0).1 (loC_6_0 kC0).2.1 (loC_6_0 kC0).2.2.1 (loC_6_0 kC0).2.2.2 dX9_text_168 ?_
    refine am_getR C0 (j := 2) ff_RX9_44 (loC_5_0 (tgC_6_0 kC0)).1 (loC_5_0 (tgC_6_0 kC0)).2.1 (loC_5_0 (tgC_6_0 kC0)).2.2.1 (loC_5_0 (tgC_6_0 kC0)).2.2.2 dX9_text_171 ?_
    refine am_iconst C0 dX9_text_174 ci_0 ?_
    obtain ⟨q_18, h_q_18, h⟩ := am_bind h
    refine am_callV C0 (m_C_Reader_readCouples (σ := q_1) (Nat.le_refl _) F 157 2 false (tgC_6_5 kC0) (tgC_5_0 (tgC_6_0 kC0)) h_q_18) mm_yX4_readCouples ln_RX9_138 (As := fun b => [.ref (b 2), .int (am_bI false)]) (fun _ => rfl) (fun _ => rfl) (loC_3_0 (tgC_6_5 kC0)).1 (loC_3_0 (tgC_6_5 kC0)).2.1 rfl (Nat.le_trans (by decide) hd) rfl (Nat.le_of_ble_eq_true rfl) dX9_text_175 ?_
    refine am_ifB_eq C0 dX9_text_178 (tgt := 196) (by decide) (fun c_19 => ?_) (fun c_19 => ?_)
    · replace h := am_in h c_19
      exact am_sub [0, 2] rfl (k_C_text_p196 C0 hd F hret (-1) q_18.2  h)
    · replace h := am_ip h c_19
      refine am_aload_n C0 dX9_text_181 0 rfl ?_
      refine am_aload_n C0 dX9_text_182 0 rfl ?_
      refine am_getR C0 (j := 1) ff_RX9_10 (loC_6_0 kC0).1 (loC_6_0 kC0).2.1 (loC_6_0 kC0).2.2.1 (loC_6_0 kC0).2.2.2 dX9_text_183 ?_
      refine am_getR C0 (j := 25) ff_RX9_145 (loC_5_5 (tgC_6_0 kC0)).1 (loC_5_5 (tgC_6_0 kC0)).2.1 (loC_5_5 (tgC_6_0 kC0)).2.2.1 (loC_5_5 (tgC_6_0 kC0)).2.2.2 dX9_text_186 ?_
      obtain ⟨q_20, h_q_20, h⟩ := am_bind h
      refine am_callV C0 (m_C_tellRows (σ := q_18.2) (Nat.le_refl _) F 25 (tgC_5_5 (tgC_6_0 kC0)) h_q_20) mm_yX9_tellRows ln_RX9_134 (As := fun b => [.ref (b 25)]) (fun _ => rfl) (fun _ => rfl) (loC_6_0 kC0).1 (loC_6_0 kC0).2.1 rfl (Nat.le_trans (by decide) hd) rfl (Nat.le_of_ble_eq_true rfl) dX9_text_189 ?_
      refine am_istore_n C0 dX9_text_192 rfl (by decide) rfl (lv' := [(0, .ref (am_b G 0)), (1, .int x1), (2, .int q_20.1)]) rfl ?_
      refine am_goto C0 dX9_text_193 (tgt := 196) (by decide) ?_
      exact am_sub [0, 2] rfl (k_C_text_p196 C0 hd F hret q_20.1 q_20.2  h)
  replace h := am_in h c_17
  refine am_tabOut C0 dX9_text_10 (tgt := 196) (am_sw_0_3 c_2 c_7 c_12 c_17) (by decide) ?_
  exact am_sub [0, 2] rfl (k_C_text_p196 C0 hd F hret (-1) q_1  h)
set_option maxRecDepth 100000 in
set_option maxHeartbeats 4000000 in
theorem m_C_text {l : Launch} {d : Nat} {σ : am_SS} {q : Int32 × am_SS} (hd : 27 ≤ d) (F : Nat) (x1 : Int32) (h : C_text F x1 σ = some q) : am_Met l yX9_text cX9_text 3 (some .int) d 0 0 LC (fun b => [.ref (b 0), .int x1]) σ (some (.int q.1)) q.2 :=
  am_metI (plainFor_of_name (by decide)) rfl (lv := fun b => [(0, .ref (b 0)), (1, .int x1)]) (fun _ => rfl) (fun _ => Nat.le_of_ble_eq_true rfl) (fun G C0 _ hret => k_C_text C0 hd F hret x1 σ  h)
set_option maxRecDepth 100000 in
set_option maxHeartbeats 4000000 in
theorem k_C_fault {G : am_T} {d0 : Nat} (C0 : am_C G cX9_fault 2 RX9 LC d0) (hd : 1 ≤ d0) {σ : am_SS} {q : Int32} (hret : am_retI G cX9_fault 2 q σ) (x1 : Int32) (h : C_fault x1 σ = q) : am_K G 2 0 [(0, .ref (am_b G 0)), (1, .int x1)] [] σ := by
  unfold C_fault at h
  refine am_iload_n C0 dX9_fault_0 1 rfl ?_
  refine am_if_ne C0 dX9_fault_1 (tgt := 12) (by decide) (fun c_1 => ?_) (fun c_1 => ?_)
  · replace h := am_in h c_1
    refine am_iload_n C0 dX9_fault_12 1 rfl ?_
    refine am_iconst C0 dX9_fault_13 ci_1 ?_
    refine am_icmp_ne C0 dX9_fault_14 (tgt := 27) (by decide) (fun c_2 => ?_) (fun c_2 => ?_)
    · replace h := am_in h c_2
      refine am_iconst C0 dX9_fault_27 ci_m1 ?_
      have e := h
      subst e
      exact hret _ _ dX9_fault_28
    · replace h := am_ip h c_2
      refine am_aload_n C0 dX9_fault_17 0 rfl ?_
      refine am_getR C0 (j := 157) ff_RX9_40 (loC_6_5 kC0).1 (loC_6_5 kC0).2.1 (loC_6_5 kC0).2.2.1 (loC_6_5 kC0).2.2.2 dX9_fault_18 ?_
      refine am_getI C0 ff_RX9_156 (loC_3_8 (tgC_6_5 kC0)).1 (loC_3_8 (tgC_6_5 kC0)).2.1 (loC_3_8 (tgC_6_5 kC0)).2.2.1 (loC_3_8 (tgC_6_5 kC0)).2.2.2 dX9_fault_21 ?_
      refine am_goto C0 dX9_fault_24 (tgt := 28) (by decide) ?_
      have e := h
      subst e
      exact hret _ _ dX9_fault_28
  · replace h := am_ip h c_1
    refine am_aload_n C0 dX9_fault_4 0 rfl ?_
    refine am_getR C0 (j := 157) ff_RX9_40 (loC_6_5 kC0).1 (loC_6_5 kC0).2.1 (loC_6_5 kC0).2.2.1 (loC_6_5 kC0).2.2.2 dX9_fault_5 ?_
    refine am_getI C0 ff_RX9_153 (loC_3_7 (tgC_6_5 kC0)).1 (loC_3_7 (tgC_6_5 kC0)).2.1 (loC_3_7 (tgC_6_5 kC0)).2.2.1 (loC_3_7 (tgC_6_5 kC0)).2.2.2 dX9_fault_8 ?_
    have e := h
    subst e
    exact hret _ _ dX9_fault_11
set_option maxRecDepth 100000 in
set_option maxHeartbeats 4000000 in
theorem m_C_fault {l : Launch} {d : Nat} {σ : am_SS} {q : Int32} (hd : 1 ≤ d) (x1 : Int32) (h : C_fault x1 σ = q) : am_Met l yX9_fault cX9_fault 2 (some .int) d 0 0 LC (fun b => [.ref (b 0), .int x1]) σ (some (.int q)) σ :=
  am_metI (plainFor_of_name (by decide)) rfl (lv := fun b => [(0, .ref (b 0)), (1, .int x1)]) (fun _ => rfl) (fun _ => Nat.le_of_ble_eq_true rfl) (fun G C0 _ hret => k_C_fault C0 hd hret x1  h)
set_option maxRecDepth 100000 in
set_option maxHeartbeats 4000000 in
theorem k_C_of {G : am_T} {d0 : Nat} (C0 : am_C G cX9_of 4 RX9 LC d0) (hd : 6 ≤ d0) (F : Nat) {q : Int32 × am_SS} (hret : am_retI G cX9_of 4 q.1 q.2) (x1 : Int32) (x2 : Int32) (σ : am_SS) (h : C_of F x1 x2 σ = some q) : am_K G 4 0 [(0, .ref (am_b G 0)), (1, .int x1), (2, .int x2)] [] σ := by
  unfold C_of at h
  refine am_aload_n C0 dX9_of_0 0 rfl ?_
  refine am_getR C0 (j := 1) ff_RX9_10 (loC_6_0 kC0).1 (loC_6_0 kC0).2.1 (loC_6_0 kC0).2.2.1 (loC_6_0 kC0).2.2.2 dX9_of_1 ?_
  refine am_getR C0 (j := 2) ff_RX9_44 (loC_5_0 (tgC_6_0 kC0)).1 (loC_5_0 (tgC_6_0 kC0)).2.1 (loC_5_0 (tgC_6_0 kC0)).2.2.1 (loC_5_0 (tgC_6_0 kC0)).2.2.2 dX9_of_4 ?_
  refine am_astore_n C0 dX9_of_7 rfl (by decide) rfl (lv' := [(0, .ref (am_b G 0)), (1, .int x1), (2, .int x2), (3, .ref (am_b G 2))]) rfl ?_
  refine am_aload_n C0 dX9_of_8 3 rfl ?_
  refine am_iload_n C0 dX9_of_9 1 rfl ?_
  refine am_callV C0 (m_C_Front_hasOfficer (σ := σ) (Nat.le_refl _) 2 x1 (tgC_5_0 (tgC_6_0 kC0)) rfl) mm_yX0_hasOfficer ln_RX9_159 (As := fun b => [.int x1]) (fun _ => rfl) (fun _ => rfl) (loC_0_0 (tgC_5_0 (tgC_6_0 kC0))).1 (loC_0_0 (tgC_5_0 (tgC_6_0 kC0))).2.1 rfl (Nat.le_trans (by decide) hd) rfl (Nat.le_of_ble_eq_true rfl) dX9_of_10 ?_
  refine am_ifB_ne C0 dX9_of_13 (tgt := 19) (by decide) (fun c_2 => ?_) (fun c_2 => ?_)
  · replace h := am_ip h c_2
    refine am_iload_n C0 dX9_of_19 2 rfl ?_
    by_cases c_3 : x2 = 0
    · replace h := am_ip h c_3
      refine am_tabIn C0 dX9_of_20 (tgt := 88) (off := 68) (by rw [c_3]; decide) (by rw [c_3]; decide) (by rw [c_3]; first | done | rfl | decide) (by decide) ?_
      refine am_aload_n C0 dX9_of_88 3 rfl ?_
      refine am_getR C0 (j := 3) ff_RX9_162 (loC_0_1 (tgC_5_0 (tgC_6_0 kC0))).1 (loC_0_1 (tgC_5_0 (tgC_6_0 kC0))).2.1 (loC_0_1 (tgC_5_0 (tgC_6_0 kC0))).2.2.1 (loC_0_1 (tgC_5_0 (tgC_6_0 kC0))).2.2.2 dX9_of_89 ?_
      refine am_iload_n C0 dX9_of_92 1 rfl ?_
      obtain ⟨t_4, h_t_4, h⟩ := am_bind h
      refine am_iald C0 (ltC (tgC_0_1 (tgC_5_0 (tgC_6_0 kC0)))) (tgC_0_1 (tgC_5_0 (tgC_6_0 kC0))) (lnC_0_1 (tgC_5_0 (tgC_6_0 kC0))) h_t_4 dX9_of_93 ?_
      have e := Option.some.inj h
      subst e
      exact hret _ _ dX9_of_94
    replace h := am_in h c_3
    by_cases c_5 : x2 = 1
    · replace h := am_ip h c_5
      refine am_tabIn C0 dX9_of_20 (tgt := 95) (off := 75) (by rw [c_5]; decide) (by rw [c_5]; decide) (by rw [c_5]; first | done | rfl | decide) (by decide) ?_
      refine am_aload_n C0 dX9_of_95 3 rfl ?_
      refine am_getR C0 (j := 4) ff_RX9_166 (loC_0_2 (tgC_5_0 (tgC_6_0 kC0))).1 (loC_0_2 (tgC_5_0 (tgC_6_0 kC0))).2.1 (loC_0_2 (tgC_5_0 (tgC_6_0 kC0))).2.2.1 (loC_0_2 (tgC_5_0 (tgC_6_0 kC0))).2.2.2 dX9_of_96 ?_
      refine am_iload_n C0 dX9_of_99 1 rfl ?_
      obtain ⟨t_6, h_t_6, h⟩ := am_bind h
      refine am_iald C0 (ltC (tgC_0_2 (tgC_5_0 (tgC_6_0 kC0)))) (tgC_0_2 (tgC_5_0 (tgC_6_0 kC0))) (lnC_0_2 (tgC_5_0 (tgC_6_0 kC0))) h_t_6 dX9_of_100 ?_
      have e := Option.some.inj h
      subst e
      exact hret _ _ dX9_of_101
    replace h := am_in h c_5
    by_cases c_7 : x2 = 2
    · replace h := am_ip h c_7
      refine am_tabIn C0 dX9_of_20 (tgt := 102) (off := 82) (by rw [c_7]; decide) (by rw [c_7]; decide) (by rw [c_7]; first | done | rfl | decide) (by decide) ?_
      refine am_aload_n C0 dX9_of_102 3 rfl ?_
      refine am_getR C0 (j := 5) ff_RX9_169 (loC_0_3 (tgC_5_0 (tgC_6_0 kC0))).1 (loC_0_3 (tgC_5_0 (tgC_6_0 kC0))).2.1 (loC_0_3 (tgC_5_0 (tgC_6_0 kC0))).2.2.1 (loC_0_3 (tgC_5_0 (tgC_6_0 kC0))).2.2.2 dX9_of_103 ?_
      refine am_iload_n C0 dX9_of_106 1 rfl ?_
      obtain ⟨t_8, h_t_8, h⟩ := am_bind h
      refine am_iald C0 (ltC (tgC_0_3 (tgC_5_0 (tgC_6_0 kC0)))) (tgC_0_3 (tgC_5_0 (tgC_6_0 kC0))) (lnC_0_3 (tgC_5_0 (tgC_6_0 kC0))) h_t_8 dX9_of_107 ?_
      have e := Option.some.inj h
      subst e
      exact hret _ _ dX9_of_108
    replace h := am_in h c_7
    by_cases c_9 : x2 = 3
    · replace h := am_ip h c_9
      refine am_tabIn C0 dX9_of_20 (tgt := 109) (off := 89) (by rw [c_9]; decide) (by rw [c_9]; decide) (by rw [c_9]; first | done | rfl | decide) (by decide) ?_
      refine am_aload_n C0 dX9_of_109 3 rfl ?_
      refine am_getR C0 (j := 6) ff_RX9_172 (loC_0_4 (tgC_5_0 (tgC_6_0 kC0))).1 (loC_0_4 (tgC_5_0 (tgC_6_0 kC0))).2.1 (loC_0_4 (tgC_5_0 (tgC_6_0 kC0))).2.2.1 (loC_0_4 (tgC_5_0 (tgC_6_0 kC0))).2.2.2 dX9_of_110 ?_
      refine am_iload_n C0 dX9_of_113 1 rfl ?_
      obtain ⟨t_10, h_t_10, h⟩ := am_bind h
      refine am_iald C0 (ltC (tgC_0_4 (tgC_5_0 (tgC_6_0 kC0)))) (tgC_0_4 (tgC_5_0 (tgC_6_0 kC0))) (lnC_0_4 (tgC_5_0 (tgC_6_0 kC0))) h_t_10 dX9_of_114 ?_
      have e := Option.some.inj h
      subst e
      exact hret _ _ dX9_of_115
    replace h := am_in h c_9
    by_cases c_11 : x2 = 4
    · replace h := am_ip h c_11
      refine am_tabIn C0 dX9_of_20 (tgt := 116) (off := 96) (by rw [c_11]; decide) (by rw [c_11]; decide) (by rw [c_11]; first | done | rfl | decide) (by decide) ?_
      refine am_aload_n C0 dX9_of_116 3 rfl ?_
      refine am_getR C0 (j := 7) ff_RX9_175 (loC_0_5 (tgC_5_0 (tgC_6_0 kC0))).1 (loC_0_5 (tgC_5_0 (tgC_6_0 kC0))).2.1 (loC_0_5 (tgC_5_0 (tgC_6_0 kC0))).2.2.1 (loC_0_5 (tgC_5_0 (tgC_6_0 kC0))).2.2.2 dX9_of_117 ?_
      refine am_iload_n C0 dX9_of_120 1 rfl ?_
      obtain ⟨t_12, h_t_12, h⟩ := am_bind h
      refine am_iald C0 (ltC (tgC_0_5 (tgC_5_0 (tgC_6_0 kC0)))) (tgC_0_5 (tgC_5_0 (tgC_6_0 kC0))) (lnC_0_5 (tgC_5_0 (tgC_6_0 kC0))) h_t_12 dX9_of_121 ?_
      have e := Option.some.inj h
      subst e
      exact hret _ _ dX9_of_122
    replace h := am_in h c_11
    by_cases c_13 : x2 = 5
    · replace h := am_ip h c_13
      refine am_tabIn C0 dX9_of_20 (tgt := 123) (off := 103) (by rw [c_13]; decide) (by rw [c_13]; decide) (by rw [c_13]; first | done | rfl | decide) (by decide) ?_
      refine am_aload_n C0 dX9_of_123 3 rfl ?_
      refine am_getR C0 (j := 8) ff_RX9_178 (loC_0_6 (tgC_5_0 (tgC_6_0 kC0))).1 (loC_0_6 (tgC_5_0 (tgC_6_0 kC0))).2.1 (loC_0_6 (tgC_5_0 (tgC_6_0 kC0))).2.2.1 (loC_0_6 (tgC_5_0 (tgC_6_0 kC0))).2.2.2 dX9_of_124 ?_
      refine am_iload_n C0 dX9_of_127 1 rfl ?_
      obtain ⟨t_14, h_t_14, h⟩ := am_bind h
      refine am_iald C0 (ltC (tgC_0_6 (tgC_5_0 (tgC_6_0 kC0)))) (tgC_0_6 (tgC_5_0 (tgC_6_0 kC0))) (lnC_0_6 (tgC_5_0 (tgC_6_0 kC0))) h_t_14 dX9_of_128 ?_
      have e := Option.some.inj h
      subst e
      exact hret _ _ dX9_of_129
    replace h := am_in h c_13
    by_cases c_15 : x2 = 6
    · replace h := am_ip h c_15
      refine am_tabIn C0 dX9_of_20 (tgt := 130) (off := 110) (by rw [c_15]; decide) (by rw [c_15]; decide) (by rw [c_15]; first | done | rfl | decide) (by decide) ?_
      refine am_aload_n C0 dX9_of_130 3 rfl ?_
      refine am_getR C0 (j := 9) ff_RX9_181 (loC_0_7 (tgC_5_0 (tgC_6_0 kC0))).1 (loC_0_7 (tgC_5_0 (tgC_6_0 kC0))).2.1 (loC_0_7 (tgC_5_0 (tgC_6_0 kC0))).2.2.1 (loC_0_7 (tgC_5_0 (tgC_6_0 kC0))).2.2.2 dX9_of_131 ?_
      refine am_iload_n C0 dX9_of_134 1 rfl ?_
      obtain ⟨t_16, h_t_16, h⟩ := am_bind h
      refine am_iald C0 (ltC (tgC_0_7 (tgC_5_0 (tgC_6_0 kC0)))) (tgC_0_7 (tgC_5_0 (tgC_6_0 kC0))) (lnC_0_7 (tgC_5_0 (tgC_6_0 kC0))) h_t_16 dX9_of_135 ?_
      have e := Option.some.inj h
      subst e
      exact hret _ _ dX9_of_136
    replace h := am_in h c_15
    by_cases c_17 : x2 = 7
    · replace h := am_ip h c_17
      refine am_tabIn C0 dX9_of_20 (tgt := 137) (off := 117) (by rw [c_17]; decide) (by rw [c_17]; decide) (by rw [c_17]; first | done | rfl | decide) (by decide) ?_
      refine am_aload_n C0 dX9_of_137 0 rfl ?_
      refine am_getR C0 (j := 1) ff_RX9_10 (loC_6_0 kC0).1 (loC_6_0 kC0).2.1 (loC_6_0 kC0).2.2.1 (loC_6_0 kC0).2.2.2 dX9_of_138 ?_
      refine am_iload_n C0 dX9_of_141 1 rfl ?_
      obtain ⟨q_18, h_q_18, h⟩ := am_bind h
      refine am_callV C0 (m_C_War_batmanOf (σ := σ) (Nat.le_refl _) F 1 x1 (tgC_6_0 kC0) h_q_18) mm_yX7_batmanOf ln_RX9_184 (As := fun b => [.int x1]) (fun _ => rfl) (fun _ => rfl) (loC_5_0 (tgC_6_0 kC0)).1 (loC_5_0 (tgC_6_0 kC0)).2.1 rfl (Nat.le_trans (by decide) hd) rfl (Nat.le_of_ble_eq_true rfl) dX9_of_142 ?_
      have e := Option.some.inj h
      subst e
      exact hret _ _ dX9_of_145
    replace h := am_in h c_17
    by_cases c_19 : x2 = 8
    · replace h := am_ip h c_19
      refine am_tabIn C0 dX9_of_20 (tgt := 146) (off := 126) (by rw [c_19]; decide) (by rw [c_19]; decide) (by rw [c_19]; first | done | rfl | decide) (by decide) ?_
      refine am_aload_n C0 dX9_of_146 0 rfl ?_
      refine am_getR C0 (j := 1) ff_RX9_10 (loC_6_0 kC0).1 (loC_6_0 kC0).2.1 (loC_6_0 kC0).2.2.1 (loC_6_0 kC0).2.2.2 dX9_of_147 ?_
      refine am_iload_n C0 dX9_of_150 1 rfl ?_
      obtain ⟨q_20, h_q_20, h⟩ := am_bind h
      refine am_callV C0 (m_C_War_needed (σ := σ) (Nat.le_refl _) F 1 x1 (tgC_6_0 kC0) h_q_20) mm_yX7_needed ln_RX9_188 (As := fun b => [.int x1]) (fun _ => rfl) (fun _ => rfl) (loC_5_0 (tgC_6_0 kC0)).1 (loC_5_0 (tgC_6_0 kC0)).2.1 rfl (Nat.le_trans (by decide) hd) rfl (Nat.le_of_ble_eq_true rfl) dX9_of_151 ?_
      have e := Option.some.inj h
      subst e
      exact hret _ _ dX9_of_154
    replace h := am_in h c_19
    by_cases c_21 : x2 = 9
    · replace h := am_ip h c_21
      refine am_tabIn C0 dX9_of_20 (tgt := 155) (off := 135) (by rw [c_21]; decide) (by rw [c_21]; decide) (by rw [c_21]; first | done | rfl | decide) (by decide) ?_
      refine am_aload_n C0 dX9_of_155 0 rfl ?_
      refine am_getR C0 (j := 1) ff_RX9_10 (loC_6_0 kC0).1 (loC_6_0 kC0).2.1 (loC_6_0 kC0).2.2.1 (loC_6_0 kC0).2.2.2 dX9_of_156 ?_
      refine am_aload_n C0 dX9_of_159 3 rfl ?_
      refine am_iload_n C0 dX9_of_160 1 rfl ?_
      refine am_iconst C0 dX9_of_161 ci_0 ?_
      obtain ⟨q_22, h_q_22, h⟩ := am_bind h
      refine am_callV C0 (m_C_War_asks (σ := σ) (Nat.le_refl _) F 1 2 x1 0 (tgC_6_0 kC0) (tgC_5_0 (tgC_6_0 kC0)) h_q_22) mm_yX7_asks ln_RX9_191 (As := fun b => [.ref (b 2), .int x1, .int 0]) (fun _ => rfl) (fun _ => rfl) (loC_5_0 (tgC_6_0 kC0)).1 (loC_5_0 (tgC_6_0 kC0)).2.1 rfl (Nat.le_trans (by decide) hd) rfl (Nat.le_of_ble_eq_true rfl) dX9_of_162 ?_
      have e := Option.some.inj h
      subst e
      exact hret _ _ dX9_of_165
    replace h := am_in h c_21
    by_cases c_23 : x2 = 10
    · replace h := am_ip h c_23
      refine am_tabIn C0 dX9_of_20 (tgt := 166) (off := 146) (by rw [c_23]; decide) (by rw [c_23]; decide) (by rw [c_23]; first | done | rfl | decide) (by decide) ?_
      refine am_aload_n C0 dX9_of_166 0 rfl ?_
      refine am_getR C0 (j := 1) ff_RX9_10 (loC_6_0 kC0).1 (loC_6_0 kC0).2.1 (loC_6_0 kC0).2.2.1 (loC_6_0 kC0).2.2.2 dX9_of_167 ?_
      refine am_aload_n C0 dX9_of_170 3 rfl ?_
      refine am_iload_n C0 dX9_of_171 1 rfl ?_
      refine am_iconst C0 dX9_of_172 ci_1 ?_
      obtain ⟨q_24, h_q_24, h⟩ := am_bind h
      refine am_callV C0 (m_C_War_asks (σ := σ) (Nat.le_refl _) F 1 2 x1 1 (tgC_6_0 kC0) (tgC_5_0 (tgC_6_0 kC0)) h_q_24) mm_yX7_asks ln_RX9_191 (As := fun b => [.ref (b 2), .int x1, .int 1]) (fun _ => rfl) (fun _ => rfl) (loC_5_0 (tgC_6_0 kC0)).1 (loC_5_0 (tgC_6_0 kC0)).2.1 rfl (Nat.le_trans (by decide) hd) rfl (Nat.le_of_ble_eq_true rfl) dX9_of_173 ?_
      have e := Option.some.inj h
      subst e
      exact hret _ _ dX9_of_176
    replace h := am_in h c_23
    by_cases c_25 : x2 = 11
    · replace h := am_ip h c_25
      refine am_tabIn C0 dX9_of_20 (tgt := 177) (off := 157) (by rw [c_25]; decide) (by rw [c_25]; decide) (by rw [c_25]; first | done | rfl | decide) (by decide) ?_
      refine am_aload_n C0 dX9_of_177 0 rfl ?_
      refine am_getR C0 (j := 1) ff_RX9_10 (loC_6_0 kC0).1 (loC_6_0 kC0).2.1 (loC_6_0 kC0).2.2.1 (loC_6_0 kC0).2.2.2 dX9_of_178 ?_
      refine am_aload_n C0 dX9_of_181 3 rfl ?_
      refine am_iload_n C0 dX9_of_182 1 rfl ?_
      refine am_iconst C0 dX9_of_183 ci_2 ?_
      obtain ⟨q_26, h_q_26, h⟩ := am_bind h
      refine am_callV C0 (m_C_War_asks (σ := σ) (Nat.le_refl _) F 1 2 x1 2 (tgC_6_0 kC0) (tgC_5_0 (tgC_6_0 kC0)) h_q_26) mm_yX7_asks ln_RX9_191 (As := fun b => [.ref (b 2), .int x1, .int 2]) (fun _ => rfl) (fun _ => rfl) (loC_5_0 (tgC_6_0 kC0)).1 (loC_5_0 (tgC_6_0 kC0)).2.1 rfl (Nat.le_trans (by decide) hd) rfl (Nat.le_of_ble_eq_true rfl) dX9_of_184 ?_
      have e := Option.some.inj h
      subst e
      exact hret _ _ dX9_of_187
    replace h := am_in h c_25
    by_cases c_27 : x2 = 12
    · replace h := am_ip h c_27
      refine am_tabIn C0 dX9_of_20 (tgt := 188) (off := 168) (by rw [c_27]; decide) (by rw [c_27]; decide) (by rw [c_27]; first | done | rfl | decide) (by decide) ?_
      refine am_aload_n C0 dX9_of_188 3 rfl ?_
      refine am_iload_n C0 dX9_of_189 1 rfl ?_
      obtain ⟨q_28, h_q_28, h⟩ := am_bind h
      refine am_callV C0 (m_C_Front_mustGiveUp (σ := σ) (Nat.le_refl _) 2 x1 (tgC_5_0 (tgC_6_0 kC0)) h_q_28) mm_yX0_mustGiveUp ln_RX9_195 (As := fun b => [.int x1]) (fun _ => rfl) (fun _ => rfl) (loC_0_0 (tgC_5_0 (tgC_6_0 kC0))).1 (loC_0_0 (tgC_5_0 (tgC_6_0 kC0))).2.1 rfl (Nat.le_trans (by decide) hd) rfl (Nat.le_of_ble_eq_true rfl) dX9_of_190 ?_
      refine am_ifB_ne C0 dX9_of_193 (tgt := 212) (by decide) (fun c_29 => ?_) (fun c_29 => ?_)
      · replace h := am_ip h c_29
        refine am_iconst C0 dX9_of_212 ci_0 ?_
        have e := Option.some.inj h
        subst e
        exact hret _ _ dX9_of_213
      · replace h := am_in h c_29
        refine am_aload_n C0 dX9_of_196 0 rfl ?_
        refine am_getR C0 (j := 1) ff_RX9_10 (loC_6_0 kC0).1 (loC_6_0 kC0).2.1 (loC_6_0 kC0).2.2.1 (loC_6_0 kC0).2.2.2 dX9_of_197 ?_
        refine am_aload_n C0 dX9_of_200 3 rfl ?_
        refine am_iload_n C0 dX9_of_201 1 rfl ?_
        obtain ⟨q_30, h_q_30, h⟩ := am_bind h
        refine am_callV C0 (m_C_War_hasHisNeeds (σ := σ) (Nat.le_refl _) F 1 2 x1 (tgC_6_0 kC0) (tgC_5_0 (tgC_6_0 kC0)) h_q_30) mm_yX7_hasHisNeeds ln_RX9_198 (As := fun b => [.ref (b 2), .int x1]) (fun _ => rfl) (fun _ => rfl) (loC_5_0 (tgC_6_0 kC0)).1 (loC_5_0 (tgC_6_0 kC0)).2.1 rfl (Nat.le_trans (by decide) hd) rfl (Nat.le_of_ble_eq_true rfl) dX9_of_202 ?_
        refine am_ifB_eq C0 dX9_of_205 (tgt := 212) (by decide) (fun c_31 => ?_) (fun c_31 => ?_)
        · replace h := am_in h c_31
          refine am_iconst C0 dX9_of_212 ci_0 ?_
          have e := Option.some.inj h
          subst e
          exact hret _ _ dX9_of_213
        · replace h := am_ip h c_31
          refine am_iconst C0 dX9_of_208 ci_1 ?_
          refine am_goto C0 dX9_of_209 (tgt := 213) (by decide) ?_
          have e := Option.some.inj h
          subst e
          exact hret _ _ dX9_of_213
    replace h := am_in h c_27
    refine am_tabOut C0 dX9_of_20 (tgt := 214) (am_sw_0_12 c_3 c_5 c_7 c_9 c_11 c_13 c_15 c_17 c_19 c_21 c_23 c_25 c_27) (by decide) ?_
    refine am_bipush C0 dX9_of_214 kb_m2 ?_
    have e := Option.some.inj h
    subst e
    exact hret _ _ dX9_of_216
  · replace h := am_in h c_2
    refine am_bipush C0 dX9_of_16 kb_m2 ?_
    have e := Option.some.inj h
    subst e
    exact hret _ _ dX9_of_18
set_option maxRecDepth 100000 in
set_option maxHeartbeats 4000000 in
theorem m_C_of {l : Launch} {d : Nat} {σ : am_SS} {q : Int32 × am_SS} (hd : 6 ≤ d) (F : Nat) (x1 : Int32) (x2 : Int32) (h : C_of F x1 x2 σ = some q) : am_Met l yX9_of cX9_of 4 (some .int) d 0 0 LC (fun b => [.ref (b 0), .int x1, .int x2]) σ (some (.int q.1)) q.2 :=
  am_metI (plainFor_of_name (by decide)) rfl (lv := fun b => [(0, .ref (b 0)), (1, .int x1), (2, .int x2)]) (fun _ => rfl) (fun _ => Nat.le_of_ble_eq_true rfl) (fun G C0 _ hret => k_C_of C0 hd F hret x1 x2 σ  h)
set_option maxRecDepth 100000 in
set_option maxHeartbeats 4000000 in
theorem k_C_who {G : am_T} {d0 : Nat} (C0 : am_C G cX9_who 3 RX9 LC d0) (hd : 4 ≤ d0) (F : Nat) {σ : am_SS} {q : Int32} (hret : am_retI G cX9_who 3 q σ) (x1 : Int32) (x2 : Int32) (h : C_who F x1 x2 σ = some q) : am_K G 3 0 [(0, .ref (am_b G 0)), (1, .int x1), (2, .int x2)] [] σ := by
  unfold C_who at h
  refine am_aload_n C0 dX9_who_0 0 rfl ?_
  refine am_getR C0 (j := 1) ff_RX9_10 (loC_6_0 kC0).1 (loC_6_0 kC0).2.1 (loC_6_0 kC0).2.2.1 (loC_6_0 kC0).2.2.2 dX9_who_1 ?_
  refine am_getR C0 (j := 2) ff_RX9_44 (loC_5_0 (tgC_6_0 kC0)).1 (loC_5_0 (tgC_6_0 kC0)).2.1 (loC_5_0 (tgC_6_0 kC0)).2.2.1 (loC_5_0 (tgC_6_0 kC0)).2.2.2 dX9_who_4 ?_
  refine am_iload_n C0 dX9_who_7 1 rfl ?_
  refine am_callV C0 (m_C_Front_hasBatman (σ := σ) (Nat.le_refl _) 2 x1 (tgC_5_0 (tgC_6_0 kC0)) rfl) mm_yX0_hasBatman ln_RX9_202 (As := fun b => [.int x1]) (fun _ => rfl) (fun _ => rfl) (loC_0_0 (tgC_5_0 (tgC_6_0 kC0))).1 (loC_0_0 (tgC_5_0 (tgC_6_0 kC0))).2.1 rfl (Nat.le_trans (by decide) hd) rfl (Nat.le_of_ble_eq_true rfl) dX9_who_8 ?_
  refine am_ifB_ne C0 dX9_who_11 (tgt := 16) (by decide) (fun c_2 => ?_) (fun c_2 => ?_)
  · replace h := am_ip h c_2
    refine am_iload_n C0 dX9_who_16 2 rfl ?_
    by_cases c_3 : x2 = 0
    · replace h := am_ip h c_3
      refine am_tabIn C0 dX9_who_17 (tgt := 48) (off := 31) (by rw [c_3]; decide) (by rw [c_3]; decide) (by rw [c_3]; first | done | rfl | decide) (by decide) ?_
      refine am_aload_n C0 dX9_who_48 0 rfl ?_
      refine am_getR C0 (j := 1) ff_RX9_10 (loC_6_0 kC0).1 (loC_6_0 kC0).2.1 (loC_6_0 kC0).2.2.1 (loC_6_0 kC0).2.2.2 dX9_who_49 ?_
      refine am_getR C0 (j := 2) ff_RX9_44 (loC_5_0 (tgC_6_0 kC0)).1 (loC_5_0 (tgC_6_0 kC0)).2.1 (loC_5_0 (tgC_6_0 kC0)).2.2.1 (loC_5_0 (tgC_6_0 kC0)).2.2.2 dX9_who_52 ?_
      refine am_getR C0 (j := 10) ff_RX9_205 (loC_0_9 (tgC_5_0 (tgC_6_0 kC0))).1 (loC_0_9 (tgC_5_0 (tgC_6_0 kC0))).2.1 (loC_0_9 (tgC_5_0 (tgC_6_0 kC0))).2.2.1 (loC_0_9 (tgC_5_0 (tgC_6_0 kC0))).2.2.2 dX9_who_55 ?_
      refine am_iload_n C0 dX9_who_58 1 rfl ?_
      obtain ⟨t_4, h_t_4, h⟩ := am_bind h
      refine am_iald C0 (ltC (tgC_0_9 (tgC_5_0 (tgC_6_0 kC0)))) (tgC_0_9 (tgC_5_0 (tgC_6_0 kC0))) (lnC_0_9 (tgC_5_0 (tgC_6_0 kC0))) h_t_4 dX9_who_59 ?_
      have e := Option.some.inj h
      subst e
      exact hret _ _ dX9_who_60
    replace h := am_in h c_3
    by_cases c_5 : x2 = 1
    · replace h := am_ip h c_5
      refine am_tabIn C0 dX9_who_17 (tgt := 61) (off := 44) (by rw [c_5]; decide) (by rw [c_5]; decide) (by rw [c_5]; first | done | rfl | decide) (by decide) ?_
      refine am_aload_n C0 dX9_who_61 0 rfl ?_
      refine am_getR C0 (j := 1) ff_RX9_10 (loC_6_0 kC0).1 (loC_6_0 kC0).2.1 (loC_6_0 kC0).2.2.1 (loC_6_0 kC0).2.2.2 dX9_who_62 ?_
      refine am_getR C0 (j := 2) ff_RX9_44 (loC_5_0 (tgC_6_0 kC0)).1 (loC_5_0 (tgC_6_0 kC0)).2.1 (loC_5_0 (tgC_6_0 kC0)).2.2.1 (loC_5_0 (tgC_6_0 kC0)).2.2.2 dX9_who_65 ?_
      refine am_getR C0 (j := 11) ff_RX9_208 (loC_0_10 (tgC_5_0 (tgC_6_0 kC0))).1 (loC_0_10 (tgC_5_0 (tgC_6_0 kC0))).2.1 (loC_0_10 (tgC_5_0 (tgC_6_0 kC0))).2.2.1 (loC_0_10 (tgC_5_0 (tgC_6_0 kC0))).2.2.2 dX9_who_68 ?_
      refine am_iload_n C0 dX9_who_71 1 rfl ?_
      obtain ⟨t_6, h_t_6, h⟩ := am_bind h
      refine am_iald C0 (ltC (tgC_0_10 (tgC_5_0 (tgC_6_0 kC0)))) (tgC_0_10 (tgC_5_0 (tgC_6_0 kC0))) (lnC_0_10 (tgC_5_0 (tgC_6_0 kC0))) h_t_6 dX9_who_72 ?_
      have e := Option.some.inj h
      subst e
      exact hret _ _ dX9_who_73
    replace h := am_in h c_5
    by_cases c_7 : x2 = 2
    · replace h := am_ip h c_7
      refine am_tabIn C0 dX9_who_17 (tgt := 74) (off := 57) (by rw [c_7]; decide) (by rw [c_7]; decide) (by rw [c_7]; first | done | rfl | decide) (by decide) ?_
      refine am_aload_n C0 dX9_who_74 0 rfl ?_
      refine am_getR C0 (j := 1) ff_RX9_10 (loC_6_0 kC0).1 (loC_6_0 kC0).2.1 (loC_6_0 kC0).2.2.1 (loC_6_0 kC0).2.2.2 dX9_who_75 ?_
      refine am_getR C0 (j := 2) ff_RX9_44 (loC_5_0 (tgC_6_0 kC0)).1 (loC_5_0 (tgC_6_0 kC0)).2.1 (loC_5_0 (tgC_6_0 kC0)).2.2.1 (loC_5_0 (tgC_6_0 kC0)).2.2.2 dX9_who_78 ?_
      refine am_getR C0 (j := 12) ff_RX9_211 (loC_0_11 (tgC_5_0 (tgC_6_0 kC0))).1 (loC_0_11 (tgC_5_0 (tgC_6_0 kC0))).2.1 (loC_0_11 (tgC_5_0 (tgC_6_0 kC0))).2.2.1 (loC_0_11 (tgC_5_0 (tgC_6_0 kC0))).2.2.2 dX9_who_81 ?_
      refine am_iload_n C0 dX9_who_84 1 rfl ?_
      obtain ⟨t_8, h_t_8, h⟩ := am_bind h
      refine am_iald C0 (ltC (tgC_0_11 (tgC_5_0 (tgC_6_0 kC0)))) (tgC_0_11 (tgC_5_0 (tgC_6_0 kC0))) (lnC_0_11 (tgC_5_0 (tgC_6_0 kC0))) h_t_8 dX9_who_85 ?_
      have e := Option.some.inj h
      subst e
      exact hret _ _ dX9_who_86
    replace h := am_in h c_7
    by_cases c_9 : x2 = 3
    · replace h := am_ip h c_9
      refine am_tabIn C0 dX9_who_17 (tgt := 87) (off := 70) (by rw [c_9]; decide) (by rw [c_9]; decide) (by rw [c_9]; first | done | rfl | decide) (by decide) ?_
      refine am_aload_n C0 dX9_who_87 0 rfl ?_
      refine am_getR C0 (j := 1) ff_RX9_10 (loC_6_0 kC0).1 (loC_6_0 kC0).2.1 (loC_6_0 kC0).2.2.1 (loC_6_0 kC0).2.2.2 dX9_who_88 ?_
      refine am_iload_n C0 dX9_who_91 1 rfl ?_
      obtain ⟨q_10, h_q_10, h⟩ := am_bind h
      refine am_callV C0 (m_C_War_servedBy (σ := σ) (Nat.le_refl _) F 1 x1 (tgC_6_0 kC0) h_q_10) mm_yX7_servedBy ln_RX9_214 (As := fun b => [.int x1]) (fun _ => rfl) (fun _ => rfl) (loC_5_0 (tgC_6_0 kC0)).1 (loC_5_0 (tgC_6_0 kC0)).2.1 rfl (Nat.le_trans (by decide) hd) rfl (Nat.le_of_ble_eq_true rfl) dX9_who_92 ?_
      have e := Option.some.inj h
      subst e
      exact hret _ _ dX9_who_95
    replace h := am_in h c_9
    refine am_tabOut C0 dX9_who_17 (tgt := 96) (am_sw_0_3 c_3 c_5 c_7 c_9) (by decide) ?_
    refine am_iconst C0 dX9_who_96 ci_m1 ?_
    have e := Option.some.inj h
    subst e
    exact hret _ _ dX9_who_97
  · replace h := am_in h c_2
    refine am_iconst C0 dX9_who_14 ci_m1 ?_
    have e := Option.some.inj h
    subst e
    exact hret _ _ dX9_who_15
set_option maxRecDepth 100000 in
set_option maxHeartbeats 4000000 in
theorem m_C_who {l : Launch} {d : Nat} {σ : am_SS} {q : Int32} (hd : 4 ≤ d) (F : Nat) (x1 : Int32) (x2 : Int32) (h : C_who F x1 x2 σ = some q) : am_Met l yX9_who cX9_who 3 (some .int) d 0 0 LC (fun b => [.ref (b 0), .int x1, .int x2]) σ (some (.int q)) σ :=
  am_metI (plainFor_of_name (by decide)) rfl (lv := fun b => [(0, .ref (b 0)), (1, .int x1), (2, .int x2)]) (fun _ => rfl) (fun _ => Nat.le_of_ble_eq_true rfl) (fun G C0 _ hret => k_C_who C0 hd F hret x1 x2  h)
set_option maxRecDepth 100000 in
set_option maxHeartbeats 4000000 in
theorem k_C_book {G : am_T} {d0 : Nat} (C0 : am_C G cX9_book 3 RX9 LC d0) (hd : 2 ≤ d0) {σ : am_SS} {q : Int32} (hret : am_retI G cX9_book 3 q σ) (x1 : Int32) (x2 : Int32) (h : C_book x1 x2 σ = some q) : am_K G 3 0 [(0, .ref (am_b G 0)), (1, .int x1), (2, .int x2)] [] σ := by
  unfold C_book at h
  refine am_aload_n C0 dX9_book_0 0 rfl ?_
  refine am_getR C0 (j := 1) ff_RX9_10 (loC_6_0 kC0).1 (loC_6_0 kC0).2.1 (loC_6_0 kC0).2.2.1 (loC_6_0 kC0).2.2.2 dX9_book_1 ?_
  refine am_getR C0 (j := 13) ff_RX9_75 (loC_5_1 (tgC_6_0 kC0)).1 (loC_5_1 (tgC_6_0 kC0)).2.1 (loC_5_1 (tgC_6_0 kC0)).2.2.1 (loC_5_1 (tgC_6_0 kC0)).2.2.2 dX9_book_4 ?_
  refine am_iload_n C0 dX9_book_7 1 rfl ?_
  refine am_iload_n C0 dX9_book_8 2 rfl ?_
  obtain ⟨q_1, h_q_1, h⟩ := am_bind h
  refine am_callV C0 (m_C_Table_at (σ := σ) (Nat.le_refl _) 13 x1 x2 (tgC_5_1 (tgC_6_0 kC0)) h_q_1) mm_yX6_at ln_RX9_217 (As := fun b => [.int x1, .int x2]) (fun _ => rfl) (fun _ => rfl) (loC_4_0 (tgC_5_1 (tgC_6_0 kC0))).1 (loC_4_0 (tgC_5_1 (tgC_6_0 kC0))).2.1 rfl (Nat.le_trans (by decide) hd) rfl (Nat.le_of_ble_eq_true rfl) dX9_book_9 ?_
  have e := Option.some.inj h
  subst e
  exact hret _ _ dX9_book_12
set_option maxRecDepth 100000 in
set_option maxHeartbeats 4000000 in
theorem m_C_book {l : Launch} {d : Nat} {σ : am_SS} {q : Int32} (hd : 2 ≤ d) (x1 : Int32) (x2 : Int32) (h : C_book x1 x2 σ = some q) : am_Met l yX9_book cX9_book 3 (some .int) d 0 0 LC (fun b => [.ref (b 0), .int x1, .int x2]) σ (some (.int q)) σ :=
  am_metI (plainFor_of_name (by decide)) rfl (lv := fun b => [(0, .ref (b 0)), (1, .int x1), (2, .int x2)]) (fun _ => rfl) (fun _ => Nat.le_of_ble_eq_true rfl) (fun G C0 _ hret => k_C_book C0 hd hret x1 x2  h)
set_option maxRecDepth 100000 in
set_option maxHeartbeats 4000000 in
theorem k_C_look {G : am_T} {d0 : Nat} (C0 : am_C G cX9_look 2 RX9 LC d0) (hd : 2 ≤ d0) (F : Nat) {σ : am_SS} {q : Int32} (hret : am_retI G cX9_look 2 q σ) (x1 : Int32) (h : C_look F x1 σ = some q) : am_K G 2 0 [(0, .ref (am_b G 0)), (1, .int x1)] [] σ := by
  unfold C_look at h
  refine am_iload_n C0 dX9_look_0 1 rfl ?_
  by_cases c_1 : x1 = 0
  · replace h := am_ip h c_1
    refine am_tabIn C0 dX9_look_1 (tgt := 68) (off := 67) (by rw [c_1]; decide) (by rw [c_1]; decide) (by rw [c_1]; first | done | rfl | decide) (by decide) ?_
    refine am_aload_n C0 dX9_look_68 0 rfl ?_
    refine am_getR C0 (j := 1) ff_RX9_10 (loC_6_0 kC0).1 (loC_6_0 kC0).2.1 (loC_6_0 kC0).2.2.1 (loC_6_0 kC0).2.2.2 dX9_look_69 ?_
    refine am_getR C0 (j := 2) ff_RX9_44 (loC_5_0 (tgC_6_0 kC0)).1 (loC_5_0 (tgC_6_0 kC0)).2.1 (loC_5_0 (tgC_6_0 kC0)).2.2.1 (loC_5_0 (tgC_6_0 kC0)).2.2.2 dX9_look_72 ?_
    refine am_getI C0 ff_RX9_220 (loC_0_0 (tgC_5_0 (tgC_6_0 kC0))).1 (loC_0_0 (tgC_5_0 (tgC_6_0 kC0))).2.1 (loC_0_0 (tgC_5_0 (tgC_6_0 kC0))).2.2.1 (loC_0_0 (tgC_5_0 (tgC_6_0 kC0))).2.2.2 dX9_look_75 ?_
    have e := Option.some.inj h
    subst e
    exact hret _ _ dX9_look_78
  replace h := am_in h c_1
  by_cases c_2 : x1 = 1
  · replace h := am_ip h c_2
    refine am_tabIn C0 dX9_look_1 (tgt := 79) (off := 78) (by rw [c_2]; decide) (by rw [c_2]; decide) (by rw [c_2]; first | done | rfl | decide) (by decide) ?_
    refine am_aload_n C0 dX9_look_79 0 rfl ?_
    refine am_getR C0 (j := 1) ff_RX9_10 (loC_6_0 kC0).1 (loC_6_0 kC0).2.1 (loC_6_0 kC0).2.2.1 (loC_6_0 kC0).2.2.2 dX9_look_80 ?_
    refine am_getR C0 (j := 2) ff_RX9_44 (loC_5_0 (tgC_6_0 kC0)).1 (loC_5_0 (tgC_6_0 kC0)).2.1 (loC_5_0 (tgC_6_0 kC0)).2.2.1 (loC_5_0 (tgC_6_0 kC0)).2.2.2 dX9_look_83 ?_
    refine am_getI C0 ff_RX9_223 (loC_0_8 (tgC_5_0 (tgC_6_0 kC0))).1 (loC_0_8 (tgC_5_0 (tgC_6_0 kC0))).2.1 (loC_0_8 (tgC_5_0 (tgC_6_0 kC0))).2.2.1 (loC_0_8 (tgC_5_0 (tgC_6_0 kC0))).2.2.2 dX9_look_86 ?_
    have e := Option.some.inj h
    subst e
    exact hret _ _ dX9_look_89
  replace h := am_in h c_2
  by_cases c_3 : x1 = 2
  · replace h := am_ip h c_3
    refine am_tabIn C0 dX9_look_1 (tgt := 90) (off := 89) (by rw [c_3]; decide) (by rw [c_3]; decide) (by rw [c_3]; first | done | rfl | decide) (by decide) ?_
    refine am_aload_n C0 dX9_look_90 0 rfl ?_
    refine am_getR C0 (j := 1) ff_RX9_10 (loC_6_0 kC0).1 (loC_6_0 kC0).2.1 (loC_6_0 kC0).2.2.1 (loC_6_0 kC0).2.2.2 dX9_look_91 ?_
    refine am_getR C0 (j := 2) ff_RX9_44 (loC_5_0 (tgC_6_0 kC0)).1 (loC_5_0 (tgC_6_0 kC0)).2.1 (loC_5_0 (tgC_6_0 kC0)).2.2.1 (loC_5_0 (tgC_6_0 kC0)).2.2.2 dX9_look_94 ?_
    refine am_getI C0 ff_RX9_226 (loC_0_12 (tgC_5_0 (tgC_6_0 kC0))).1 (loC_0_12 (tgC_5_0 (tgC_6_0 kC0))).2.1 (loC_0_12 (tgC_5_0 (tgC_6_0 kC0))).2.2.1 (loC_0_12 (tgC_5_0 (tgC_6_0 kC0))).2.2.2 dX9_look_97 ?_
    have e := Option.some.inj h
    subst e
    exact hret _ _ dX9_look_100
  replace h := am_in h c_3
  by_cases c_4 : x1 = 3
  · replace h := am_ip h c_4
    refine am_tabIn C0 dX9_look_1 (tgt := 101) (off := 100) (by rw [c_4]; decide) (by rw [c_4]; decide) (by rw [c_4]; first | done | rfl | decide) (by decide) ?_
    refine am_aload_n C0 dX9_look_101 0 rfl ?_
    refine am_getR C0 (j := 1) ff_RX9_10 (loC_6_0 kC0).1 (loC_6_0 kC0).2.1 (loC_6_0 kC0).2.2.1 (loC_6_0 kC0).2.2.2 dX9_look_102 ?_
    refine am_getR C0 (j := 2) ff_RX9_44 (loC_5_0 (tgC_6_0 kC0)).1 (loC_5_0 (tgC_6_0 kC0)).2.1 (loC_5_0 (tgC_6_0 kC0)).2.2.1 (loC_5_0 (tgC_6_0 kC0)).2.2.2 dX9_look_105 ?_
    refine am_getI C0 ff_RX9_229 (loC_0_13 (tgC_5_0 (tgC_6_0 kC0))).1 (loC_0_13 (tgC_5_0 (tgC_6_0 kC0))).2.1 (loC_0_13 (tgC_5_0 (tgC_6_0 kC0))).2.2.1 (loC_0_13 (tgC_5_0 (tgC_6_0 kC0))).2.2.2 dX9_look_108 ?_
    have e := Option.some.inj h
    subst e
    exact hret _ _ dX9_look_111
  replace h := am_in h c_4
  by_cases c_5 : x1 = 4
  · replace h := am_ip h c_5
    refine am_tabIn C0 dX9_look_1 (tgt := 112) (off := 111) (by rw [c_5]; decide) (by rw [c_5]; decide) (by rw [c_5]; first | done | rfl | decide) (by decide) ?_
    refine am_aload_n C0 dX9_look_112 0 rfl ?_
    refine am_getR C0 (j := 1) ff_RX9_10 (loC_6_0 kC0).1 (loC_6_0 kC0).2.1 (loC_6_0 kC0).2.2.1 (loC_6_0 kC0).2.2.2 dX9_look_113 ?_
    refine am_getR C0 (j := 2) ff_RX9_44 (loC_5_0 (tgC_6_0 kC0)).1 (loC_5_0 (tgC_6_0 kC0)).2.1 (loC_5_0 (tgC_6_0 kC0)).2.2.1 (loC_5_0 (tgC_6_0 kC0)).2.2.2 dX9_look_116 ?_
    obtain ⟨q_6, h_q_6, h⟩ := am_bind h
    refine am_callV C0 (m_C_Front_whoIsRead (σ := σ) (Nat.le_refl _) F 2 (tgC_5_0 (tgC_6_0 kC0)) h_q_6) mm_yX0_whoIsRead ln_RX9_232 (As := fun b => []) (fun _ => rfl) (fun _ => rfl) (loC_0_0 (tgC_5_0 (tgC_6_0 kC0))).1 (loC_0_0 (tgC_5_0 (tgC_6_0 kC0))).2.1 rfl (Nat.le_trans (by decide) hd) rfl (Nat.le_of_ble_eq_true rfl) dX9_look_119 ?_
    have e := Option.some.inj h
    subst e
    exact hret _ _ dX9_look_122
  replace h := am_in h c_5
  by_cases c_7 : x1 = 5
  · replace h := am_ip h c_7
    refine am_tabIn C0 dX9_look_1 (tgt := 123) (off := 122) (by rw [c_7]; decide) (by rw [c_7]; decide) (by rw [c_7]; first | done | rfl | decide) (by decide) ?_
    refine am_aload_n C0 dX9_look_123 0 rfl ?_
    refine am_getR C0 (j := 1) ff_RX9_10 (loC_6_0 kC0).1 (loC_6_0 kC0).2.1 (loC_6_0 kC0).2.2.1 (loC_6_0 kC0).2.2.2 dX9_look_124 ?_
    refine am_getR C0 (j := 2) ff_RX9_44 (loC_5_0 (tgC_6_0 kC0)).1 (loC_5_0 (tgC_6_0 kC0)).2.1 (loC_5_0 (tgC_6_0 kC0)).2.2.1 (loC_5_0 (tgC_6_0 kC0)).2.2.2 dX9_look_127 ?_
    refine am_getI C0 ff_RX9_92 (loC_0_14 (tgC_5_0 (tgC_6_0 kC0))).1 (loC_0_14 (tgC_5_0 (tgC_6_0 kC0))).2.1 (loC_0_14 (tgC_5_0 (tgC_6_0 kC0))).2.2.1 (loC_0_14 (tgC_5_0 (tgC_6_0 kC0))).2.2.2 dX9_look_130 ?_
    have e := Option.some.inj h
    subst e
    exact hret _ _ dX9_look_133
  replace h := am_in h c_7
  by_cases c_8 : x1 = 6
  · replace h := am_ip h c_8
    refine am_tabIn C0 dX9_look_1 (tgt := 134) (off := 133) (by rw [c_8]; decide) (by rw [c_8]; decide) (by rw [c_8]; first | done | rfl | decide) (by decide) ?_
    refine am_aload_n C0 dX9_look_134 0 rfl ?_
    refine am_getR C0 (j := 1) ff_RX9_10 (loC_6_0 kC0).1 (loC_6_0 kC0).2.1 (loC_6_0 kC0).2.2.1 (loC_6_0 kC0).2.2.2 dX9_look_135 ?_
    refine am_getR C0 (j := 13) ff_RX9_75 (loC_5_1 (tgC_6_0 kC0)).1 (loC_5_1 (tgC_6_0 kC0)).2.1 (loC_5_1 (tgC_6_0 kC0)).2.2.1 (loC_5_1 (tgC_6_0 kC0)).2.2.2 dX9_look_138 ?_
    refine am_getI C0 ff_RX9_79 (loC_4_2 (tgC_5_1 (tgC_6_0 kC0))).1 (loC_4_2 (tgC_5_1 (tgC_6_0 kC0))).2.1 (loC_4_2 (tgC_5_1 (tgC_6_0 kC0))).2.2.1 (loC_4_2 (tgC_5_1 (tgC_6_0 kC0))).2.2.2 dX9_look_141 ?_
    have e := Option.some.inj h
    subst e
    exact hret _ _ dX9_look_144
  replace h := am_in h c_8
  by_cases c_9 : x1 = 7
  · replace h := am_ip h c_9
    refine am_tabIn C0 dX9_look_1 (tgt := 145) (off := 144) (by rw [c_9]; decide) (by rw [c_9]; decide) (by rw [c_9]; first | done | rfl | decide) (by decide) ?_
    refine am_aload_n C0 dX9_look_145 0 rfl ?_
    refine am_getR C0 (j := 1) ff_RX9_10 (loC_6_0 kC0).1 (loC_6_0 kC0).2.1 (loC_6_0 kC0).2.2.1 (loC_6_0 kC0).2.2.2 dX9_look_146 ?_
    refine am_getR C0 (j := 2) ff_RX9_44 (loC_5_0 (tgC_6_0 kC0)).1 (loC_5_0 (tgC_6_0 kC0)).2.1 (loC_5_0 (tgC_6_0 kC0)).2.2.1 (loC_5_0 (tgC_6_0 kC0)).2.2.2 dX9_look_149 ?_
    refine am_getI C0 ff_RX9_47 (loC_0_15 (tgC_5_0 (tgC_6_0 kC0))).1 (loC_0_15 (tgC_5_0 (tgC_6_0 kC0))).2.1 (loC_0_15 (tgC_5_0 (tgC_6_0 kC0))).2.2.1 (loC_0_15 (tgC_5_0 (tgC_6_0 kC0))).2.2.2 dX9_look_152 ?_
    have e := Option.some.inj h
    subst e
    exact hret _ _ dX9_look_155
  replace h := am_in h c_9
  by_cases c_10 : x1 = 8
  · replace h := am_ip h c_10
    refine am_tabIn C0 dX9_look_1 (tgt := 156) (off := 155) (by rw [c_10]; decide) (by rw [c_10]; decide) (by rw [c_10]; first | done | rfl | decide) (by decide) ?_
    refine am_aload_n C0 dX9_look_156 0 rfl ?_
    refine am_getR C0 (j := 1) ff_RX9_10 (loC_6_0 kC0).1 (loC_6_0 kC0).2.1 (loC_6_0 kC0).2.2.1 (loC_6_0 kC0).2.2.2 dX9_look_157 ?_
    refine am_getR C0 (j := 15) ff_RX9_113 (loC_5_2 (tgC_6_0 kC0)).1 (loC_5_2 (tgC_6_0 kC0)).2.1 (loC_5_2 (tgC_6_0 kC0)).2.2.1 (loC_5_2 (tgC_6_0 kC0)).2.2.2 dX9_look_160 ?_
    refine am_getR C0 (j := 16) ff_RX9_124 (loC_1_0 (tgC_5_2 (tgC_6_0 kC0))).1 (loC_1_0 (tgC_5_2 (tgC_6_0 kC0))).2.1 (loC_1_0 (tgC_5_2 (tgC_6_0 kC0))).2.2.1 (loC_1_0 (tgC_5_2 (tgC_6_0 kC0))).2.2.2 dX9_look_163 ?_
    refine am_getI C0 ff_RX9_79 (loC_4_2 (tgC_1_0 (tgC_5_2 (tgC_6_0 kC0)))).1 (loC_4_2 (tgC_1_0 (tgC_5_2 (tgC_6_0 kC0)))).2.1 (loC_4_2 (tgC_1_0 (tgC_5_2 (tgC_6_0 kC0)))).2.2.1 (loC_4_2 (tgC_1_0 (tgC_5_2 (tgC_6_0 kC0)))).2.2.2 dX9_look_166 ?_
    have e := Option.some.inj h
    subst e
    exact hret _ _ dX9_look_169
  replace h := am_in h c_10
  by_cases c_11 : x1 = 9
  · replace h := am_ip h c_11
    refine am_tabIn C0 dX9_look_1 (tgt := 170) (off := 169) (by rw [c_11]; decide) (by rw [c_11]; decide) (by rw [c_11]; first | done | rfl | decide) (by decide) ?_
    refine am_aload_n C0 dX9_look_170 0 rfl ?_
    refine am_getR C0 (j := 1) ff_RX9_10 (loC_6_0 kC0).1 (loC_6_0 kC0).2.1 (loC_6_0 kC0).2.2.1 (loC_6_0 kC0).2.2.2 dX9_look_171 ?_
    refine am_getR C0 (j := 21) ff_RX9_131 (loC_5_3 (tgC_6_0 kC0)).1 (loC_5_3 (tgC_6_0 kC0)).2.1 (loC_5_3 (tgC_6_0 kC0)).2.2.1 (loC_5_3 (tgC_6_0 kC0)).2.2.2 dX9_look_174 ?_
    refine am_getI C0 ff_RX9_79 (loC_4_2 (tgC_5_3 (tgC_6_0 kC0))).1 (loC_4_2 (tgC_5_3 (tgC_6_0 kC0))).2.1 (loC_4_2 (tgC_5_3 (tgC_6_0 kC0))).2.2.1 (loC_4_2 (tgC_5_3 (tgC_6_0 kC0))).2.2.2 dX9_look_177 ?_
    have e := Option.some.inj h
    subst e
    exact hret _ _ dX9_look_180
  replace h := am_in h c_11
  by_cases c_12 : x1 = 10
  · replace h := am_ip h c_12
    refine am_tabIn C0 dX9_look_1 (tgt := 181) (off := 180) (by rw [c_12]; decide) (by rw [c_12]; decide) (by rw [c_12]; first | done | rfl | decide) (by decide) ?_
    refine am_aload_n C0 dX9_look_181 0 rfl ?_
    refine am_getR C0 (j := 1) ff_RX9_10 (loC_6_0 kC0).1 (loC_6_0 kC0).2.1 (loC_6_0 kC0).2.2.1 (loC_6_0 kC0).2.2.2 dX9_look_182 ?_
    refine am_getR C0 (j := 23) ff_RX9_142 (loC_5_4 (tgC_6_0 kC0)).1 (loC_5_4 (tgC_6_0 kC0)).2.1 (loC_5_4 (tgC_6_0 kC0)).2.2.1 (loC_5_4 (tgC_6_0 kC0)).2.2.2 dX9_look_185 ?_
    refine am_getI C0 ff_RX9_79 (loC_4_2 (tgC_5_4 (tgC_6_0 kC0))).1 (loC_4_2 (tgC_5_4 (tgC_6_0 kC0))).2.1 (loC_4_2 (tgC_5_4 (tgC_6_0 kC0))).2.2.1 (loC_4_2 (tgC_5_4 (tgC_6_0 kC0))).2.2.2 dX9_look_188 ?_
    have e := Option.some.inj h
    subst e
    exact hret _ _ dX9_look_191
  replace h := am_in h c_12
  by_cases c_13 : x1 = 11
  · replace h := am_ip h c_13
    refine am_tabIn C0 dX9_look_1 (tgt := 192) (off := 191) (by rw [c_13]; decide) (by rw [c_13]; decide) (by rw [c_13]; first | done | rfl | decide) (by decide) ?_
    refine am_aload_n C0 dX9_look_192 0 rfl ?_
    refine am_getR C0 (j := 1) ff_RX9_10 (loC_6_0 kC0).1 (loC_6_0 kC0).2.1 (loC_6_0 kC0).2.2.1 (loC_6_0 kC0).2.2.2 dX9_look_193 ?_
    refine am_getR C0 (j := 25) ff_RX9_145 (loC_5_5 (tgC_6_0 kC0)).1 (loC_5_5 (tgC_6_0 kC0)).2.1 (loC_5_5 (tgC_6_0 kC0)).2.2.1 (loC_5_5 (tgC_6_0 kC0)).2.2.2 dX9_look_196 ?_
    refine am_getI C0 ff_RX9_79 (loC_4_2 (tgC_5_5 (tgC_6_0 kC0))).1 (loC_4_2 (tgC_5_5 (tgC_6_0 kC0))).2.1 (loC_4_2 (tgC_5_5 (tgC_6_0 kC0))).2.2.1 (loC_4_2 (tgC_5_5 (tgC_6_0 kC0))).2.2.2 dX9_look_199 ?_
    have e := Option.some.inj h
    subst e
    exact hret _ _ dX9_look_202
  replace h := am_in h c_13
  by_cases c_14 : x1 = 12
  · replace h := am_ip h c_14
    refine am_tabIn C0 dX9_look_1 (tgt := 203) (off := 202) (by rw [c_14]; decide) (by rw [c_14]; decide) (by rw [c_14]; first | done | rfl | decide) (by decide) ?_
    refine am_aload_n C0 dX9_look_203 0 rfl ?_
    refine am_getR C0 (j := 88) ff_RX9_33 (loC_6_4 kC0).1 (loC_6_4 kC0).2.1 (loC_6_4 kC0).2.2.1 (loC_6_4 kC0).2.2.2 dX9_look_204 ?_
    refine am_getI C0 ff_RX9_236 (loC_2_3 (tgC_6_4 kC0)).1 (loC_2_3 (tgC_6_4 kC0)).2.1 (loC_2_3 (tgC_6_4 kC0)).2.2.1 (loC_2_3 (tgC_6_4 kC0)).2.2.2 dX9_look_207 ?_
    have e := Option.some.inj h
    subst e
    exact hret _ _ dX9_look_210
  replace h := am_in h c_14
  refine am_tabOut C0 dX9_look_1 (tgt := 211) (am_sw_0_12 c_1 c_2 c_3 c_4 c_5 c_7 c_8 c_9 c_10 c_11 c_12 c_13 c_14) (by decide) ?_
  refine am_ldc C0 kc_RX9_239 dX9_look_211 ?_
  have e := Option.some.inj h
  subst e
  exact hret _ _ dX9_look_213
set_option maxRecDepth 100000 in
set_option maxHeartbeats 4000000 in
theorem m_C_look {l : Launch} {d : Nat} {σ : am_SS} {q : Int32} (hd : 2 ≤ d) (F : Nat) (x1 : Int32) (h : C_look F x1 σ = some q) : am_Met l yX9_look cX9_look 2 (some .int) d 0 0 LC (fun b => [.ref (b 0), .int x1]) σ (some (.int q)) σ :=
  am_metI (plainFor_of_name (by decide)) rfl (lv := fun b => [(0, .ref (b 0)), (1, .int x1)]) (fun _ => rfl) (fun _ => Nat.le_of_ble_eq_true rfl) (fun G C0 _ hret => k_C_look C0 hd F hret x1  h)
set_option maxRecDepth 100000 in
set_option maxHeartbeats 4000000 in
theorem k_C_goes_l40 {G : am_T} {d0 : Nat} (C0 : am_C G cX9_goes 4 RX9 LC d0) (hd : 8 ≤ d0) (F : Nat) {q : Int32 × am_SS} (hret : am_retI G cX9_goes 4 q.1 q.2) : ∀ (n : Nat) (x1 : Int32) (x2 : Int32) (x3 : Int32) (σ : am_SS) (h : C_goes_l40 F n x1 x2 x3 σ = some q), am_K G 4 40 [(0, .ref (am_b G 0)), (1, .int x1), (2, .int x2), (3, .int x3)] [] σ := by
  intro n
  induction n with
  | zero =>
    intro x1 x2 x3 σ h
    rw [C_goes_l40] at h
    cases h
  | succ n ih =>
    intro x1 x2 x3 σ h
    rw [C_goes_l40] at h
    refine am_iload_n C0 dX9_goes_40 3 rfl ?_
    refine am_iload_n C0 dX9_goes_41 1 rfl ?_
    refine am_icmp_ge C0 dX9_goes_42 (tgt := 64) (by decide) (fun c_1 => ?_) (fun c_1 => ?_)
    · replace h := am_in h c_1
      refine am_iload_n C0 dX9_goes_64 2 rfl ?_
      by_cases c_2 : x2 = 0
      · replace h := am_ip h c_2
        refine am_tabIn C0 dX9_goes_65 (tgt := 92) (off := 27) (by rw [c_2]; decide) (by rw [c_2]; decide) (by rw [c_2]; first | done | rfl | decide) (by decide) ?_
        refine am_aload_n C0 dX9_goes_92 0 rfl ?_
        refine am_getR C0 (j := 77) ff_RX9_26 (loC_6_3 kC0).1 (loC_6_3 kC0).2.1 (loC_6_3 kC0).2.2.1 (loC_6_3 kC0).2.2.2 dX9_goes_93 ?_
        refine am_getI C0 ff_RX9_226 (loC_0_12 (tgC_6_3 kC0)).1 (loC_0_12 (tgC_6_3 kC0)).2.1 (loC_0_12 (tgC_6_3 kC0)).2.2.1 (loC_0_12 (tgC_6_3 kC0)).2.2.2 dX9_goes_96 ?_
        have e := Option.some.inj h
        subst e
        exact hret _ _ dX9_goes_99
      replace h := am_in h c_2
      by_cases c_3 : x2 = 1
      · replace h := am_ip h c_3
        refine am_tabIn C0 dX9_goes_65 (tgt := 100) (off := 35) (by rw [c_3]; decide) (by rw [c_3]; decide) (by rw [c_3]; first | done | rfl | decide) (by decide) ?_
        refine am_aload_n C0 dX9_goes_100 0 rfl ?_
        refine am_getR C0 (j := 77) ff_RX9_26 (loC_6_3 kC0).1 (loC_6_3 kC0).2.1 (loC_6_3 kC0).2.2.1 (loC_6_3 kC0).2.2.2 dX9_goes_101 ?_
        refine am_aload_n C0 dX9_goes_104 0 rfl ?_
        refine am_getR C0 (j := 77) ff_RX9_26 (loC_6_3 kC0).1 (loC_6_3 kC0).2.1 (loC_6_3 kC0).2.2.1 (loC_6_3 kC0).2.2.2 dX9_goes_105 ?_
        refine am_getR C0 (j := 84) ff_RX9_181 (loC_0_7 (tgC_6_3 kC0)).1 (loC_0_7 (tgC_6_3 kC0)).2.1 (loC_0_7 (tgC_6_3 kC0)).2.2.1 (loC_0_7 (tgC_6_3 kC0)).2.2.2 dX9_goes_108 ?_
        obtain ⟨q_4, h_q_4, h⟩ := am_bind h
        refine am_callV C0 (m_C_Front_total (σ := σ) (Nat.le_refl _) F 77 84 (tgC_6_3 kC0) (tgC_0_7 (tgC_6_3 kC0)) h_q_4) mm_yX0_total ln_RX9_243 (As := fun b => [.ref (b 84)]) (fun _ => rfl) (fun _ => rfl) (loC_0_0 (tgC_6_3 kC0)).1 (loC_0_0 (tgC_6_3 kC0)).2.1 rfl (Nat.le_trans (by decide) hd) rfl (Nat.le_of_ble_eq_true rfl) dX9_goes_111 ?_
        have e := Option.some.inj h
        subst e
        exact hret _ _ dX9_goes_114
      replace h := am_in h c_3
      by_cases c_5 : x2 = 2
      · replace h := am_ip h c_5
        refine am_tabIn C0 dX9_goes_65 (tgt := 115) (off := 50) (by rw [c_5]; decide) (by rw [c_5]; decide) (by rw [c_5]; first | done | rfl | decide) (by decide) ?_
        refine am_aload_n C0 dX9_goes_115 0 rfl ?_
        refine am_getR C0 (j := 77) ff_RX9_26 (loC_6_3 kC0).1 (loC_6_3 kC0).2.1 (loC_6_3 kC0).2.2.1 (loC_6_3 kC0).2.2.2 dX9_goes_116 ?_
        refine am_aload_n C0 dX9_goes_119 0 rfl ?_
        refine am_getR C0 (j := 77) ff_RX9_26 (loC_6_3 kC0).1 (loC_6_3 kC0).2.1 (loC_6_3 kC0).2.2.1 (loC_6_3 kC0).2.2.2 dX9_goes_120 ?_
        refine am_getR C0 (j := 82) ff_RX9_175 (loC_0_5 (tgC_6_3 kC0)).1 (loC_0_5 (tgC_6_3 kC0)).2.1 (loC_0_5 (tgC_6_3 kC0)).2.2.1 (loC_0_5 (tgC_6_3 kC0)).2.2.2 dX9_goes_123 ?_
        obtain ⟨q_6, h_q_6, h⟩ := am_bind h
        refine am_callV C0 (m_C_Front_total (σ := σ) (Nat.le_refl _) F 77 82 (tgC_6_3 kC0) (tgC_0_5 (tgC_6_3 kC0)) h_q_6) mm_yX0_total ln_RX9_243 (As := fun b => [.ref (b 82)]) (fun _ => rfl) (fun _ => rfl) (loC_0_0 (tgC_6_3 kC0)).1 (loC_0_0 (tgC_6_3 kC0)).2.1 rfl (Nat.le_trans (by decide) hd) rfl (Nat.le_of_ble_eq_true rfl) dX9_goes_126 ?_
        have e := Option.some.inj h
        subst e
        exact hret _ _ dX9_goes_129
      replace h := am_in h c_5
      refine am_tabOut C0 dX9_goes_65 (tgt := 130) (am_sw_0_2 c_2 c_3 c_5) (by decide) ?_
      refine am_aload_n C0 dX9_goes_130 0 rfl ?_
      refine am_getR C0 (j := 77) ff_RX9_26 (loC_6_3 kC0).1 (loC_6_3 kC0).2.1 (loC_6_3 kC0).2.2.1 (loC_6_3 kC0).2.2.2 dX9_goes_131 ?_
      refine am_aload_n C0 dX9_goes_134 0 rfl ?_
      refine am_getR C0 (j := 77) ff_RX9_26 (loC_6_3 kC0).1 (loC_6_3 kC0).2.1 (loC_6_3 kC0).2.2.1 (loC_6_3 kC0).2.2.2 dX9_goes_135 ?_
      refine am_getR C0 (j := 80) ff_RX9_169 (loC_0_3 (tgC_6_3 kC0)).1 (loC_0_3 (tgC_6_3 kC0)).2.1 (loC_0_3 (tgC_6_3 kC0)).2.2.1 (loC_0_3 (tgC_6_3 kC0)).2.2.2 dX9_goes_138 ?_
      obtain ⟨q_7, h_q_7, h⟩ := am_bind h
      refine am_callV C0 (m_C_Front_total (σ := σ) (Nat.le_refl _) F 77 80 (tgC_6_3 kC0) (tgC_0_3 (tgC_6_3 kC0)) h_q_7) mm_yX0_total ln_RX9_243 (As := fun b => [.ref (b 80)]) (fun _ => rfl) (fun _ => rfl) (loC_0_0 (tgC_6_3 kC0)).1 (loC_0_0 (tgC_6_3 kC0)).2.1 rfl (Nat.le_trans (by decide) hd) rfl (Nat.le_of_ble_eq_true rfl) dX9_goes_141 ?_
      have e := Option.some.inj h
      subst e
      exact hret _ _ dX9_goes_144
    · replace h := am_ip h c_1
      refine am_aload_n C0 dX9_goes_45 0 rfl ?_
      refine am_getR C0 (j := 1) ff_RX9_10 (loC_6_0 kC0).1 (loC_6_0 kC0).2.1 (loC_6_0 kC0).2.2.1 (loC_6_0 kC0).2.2.2 dX9_goes_46 ?_
      refine am_aload_n C0 dX9_goes_49 0 rfl ?_
      refine am_getR C0 (j := 77) ff_RX9_26 (loC_6_3 kC0).1 (loC_6_3 kC0).2.1 (loC_6_3 kC0).2.2.1 (loC_6_3 kC0).2.2.2 dX9_goes_50 ?_
      refine am_iconst C0 dX9_goes_53 ci_1 ?_
      obtain ⟨q_8, h_q_8, h⟩ := am_bind h
      refine am_callV C0 (m_C_War_passDay (σ := σ) (Nat.le_refl _) F 1 77 true (tgC_6_0 kC0) (tgC_6_3 kC0) h_q_8) mm_yX7_passDay ln_RX9_95 (As := fun b => [.ref (b 77), .int (am_bI true)]) (fun _ => rfl) (fun _ => rfl) (loC_5_0 (tgC_6_0 kC0)).1 (loC_5_0 (tgC_6_0 kC0)).2.1 rfl (Nat.le_trans (by decide) hd) rfl (Nat.le_of_ble_eq_true rfl) dX9_goes_54 ?_
      refine am_pop C0 dX9_goes_57 rfl ?_
      obtain ⟨x3_9, e_x3_9, h⟩ := am_lt h
      refine am_iinc C0 dX9_goes_58 3 rfl (by rw [ci_1]; exact e_x3_9) (by decide) rfl (lv' := [(0, .ref (am_b G 0)), (1, .int x1), (2, .int x2), (3, .int x3_9)]) rfl ?_
      refine am_goto C0 dX9_goes_61 (tgt := 40) (by decide) ?_
      exact am_sub [0, 1, 2, 3] rfl (ih x1 x2 x3_9 q_8.2  h)
set_option maxRecDepth 100000 in
set_option maxHeartbeats 4000000 in
theorem k_C_goes {G : am_T} {d0 : Nat} (C0 : am_C G cX9_goes 4 RX9 LC d0) (hd : 8 ≤ d0) (F : Nat) {q : Int32 × am_SS} (hret : am_retI G cX9_goes 4 q.1 q.2) (x1 : Int32) (x2 : Int32) (σ : am_SS) (h : C_goes F x1 x2 σ = some q) : am_K G 4 0 [(0, .ref (am_b G 0)), (1, .int x1), (2, .int x2)] [] σ := by
  unfold C_goes at h
  refine am_iload_n C0 dX9_goes_0 1 rfl ?_
  refine am_iconst C0 dX9_goes_1 ci_1 ?_
  refine am_icmp_lt C0 dX9_goes_2 (tgt := 20) (by decide) (fun c_1 => ?_) (fun c_1 => ?_)
  · replace h := am_ip h c_1
    refine am_sipush C0 dX9_goes_20 cs_m1000 ?_
    have e := Option.some.inj h
    subst e
    exact hret _ _ dX9_goes_23
  · replace h := am_in h c_1
    refine am_iload_n C0 dX9_goes_5 1 rfl ?_
    refine am_bipush C0 dX9_goes_6 kb_60 ?_
    refine am_icmp_gt C0 dX9_goes_8 (tgt := 20) (by decide) (fun c_2 => ?_) (fun c_2 => ?_)
    · replace h := am_ip h c_2
      refine am_sipush C0 dX9_goes_20 cs_m1000 ?_
      have e := Option.some.inj h
      subst e
      exact hret _ _ dX9_goes_23
    · replace h := am_in h c_2
      refine am_iload_n C0 dX9_goes_11 2 rfl ?_
      refine am_if_lt C0 dX9_goes_12 (tgt := 20) (by decide) (fun c_3 => ?_) (fun c_3 => ?_)
      · replace h := am_ip h c_3
        refine am_sipush C0 dX9_goes_20 cs_m1000 ?_
        have e := Option.some.inj h
        subst e
        exact hret _ _ dX9_goes_23
      · replace h := am_in h c_3
        refine am_iload_n C0 dX9_goes_15 2 rfl ?_
        refine am_iconst C0 dX9_goes_16 ci_3 ?_
        refine am_icmp_le C0 dX9_goes_17 (tgt := 24) (by decide) (fun c_4 => ?_) (fun c_4 => ?_)
        · replace h := am_in h c_4
          refine am_aload_n C0 dX9_goes_24 0 rfl ?_
          refine am_getR C0 (j := 77) ff_RX9_26 (loC_6_3 kC0).1 (loC_6_3 kC0).2.1 (loC_6_3 kC0).2.2.1 (loC_6_3 kC0).2.2.2 dX9_goes_25 ?_
          refine am_aload_n C0 dX9_goes_28 0 rfl ?_
          refine am_getR C0 (j := 1) ff_RX9_10 (loC_6_0 kC0).1 (loC_6_0 kC0).2.1 (loC_6_0 kC0).2.2.1 (loC_6_0 kC0).2.2.2 dX9_goes_29 ?_
          refine am_getR C0 (j := 2) ff_RX9_44 (loC_5_0 (tgC_6_0 kC0)).1 (loC_5_0 (tgC_6_0 kC0)).2.1 (loC_5_0 (tgC_6_0 kC0)).2.2.1 (loC_5_0 (tgC_6_0 kC0)).2.2.2 dX9_goes_32 ?_
          obtain ⟨q_5, h_q_5, h⟩ := am_bind h
          refine am_callV C0 (m_C_Front_copyFrom (σ := σ) (Nat.le_refl _) F 77 2 (tgC_6_3 kC0) (tgC_5_0 (tgC_6_0 kC0)) h_q_5) mm_yX0_copyFrom ln_RX9_240 (As := fun b => [.ref (b 2)]) (fun _ => rfl) (fun _ => rfl) (loC_0_0 (tgC_6_3 kC0)).1 (loC_0_0 (tgC_6_3 kC0)).2.1 rfl (Nat.le_trans (by decide) hd) rfl (Nat.le_of_ble_eq_true rfl) dX9_goes_35 ?_
          refine am_iconst C0 dX9_goes_38 ci_0 ?_
          refine am_istore_n C0 dX9_goes_39 rfl (by decide) rfl (lv' := [(0, .ref (am_b G 0)), (1, .int x1), (2, .int x2), (3, .int 0)]) rfl ?_
          exact am_sub [0, 1, 2, 3] rfl (k_C_goes_l40 C0 hd F hret F x1 x2 0 q_5  h)
        · replace h := am_ip h c_4
          refine am_sipush C0 dX9_goes_20 cs_m1000 ?_
          have e := Option.some.inj h
          subst e
          exact hret _ _ dX9_goes_23
set_option maxRecDepth 100000 in
set_option maxHeartbeats 4000000 in
theorem m_C_goes {l : Launch} {d : Nat} {σ : am_SS} {q : Int32 × am_SS} (hd : 8 ≤ d) (F : Nat) (x1 : Int32) (x2 : Int32) (h : C_goes F x1 x2 σ = some q) : am_Met l yX9_goes cX9_goes 4 (some .int) d 0 0 LC (fun b => [.ref (b 0), .int x1, .int x2]) σ (some (.int q.1)) q.2 :=
  am_metI (plainFor_of_name (by decide)) rfl (lv := fun b => [(0, .ref (b 0)), (1, .int x1), (2, .int x2)]) (fun _ => rfl) (fun _ => Nat.le_of_ble_eq_true rfl) (fun G C0 _ hret => k_C_goes C0 hd F hret x1 x2 σ  h)
set_option maxRecDepth 100000 in
set_option maxHeartbeats 4000000 in
theorem k_C_peace_l16 {G : am_T} {d0 : Nat} (C0 : am_C G cX9_peace 2 RX9 LC d0) (hd : 8 ≤ d0) (F : Nat) {q : Int32 × am_SS} (hret : am_retI G cX9_peace 2 q.1 q.2) : ∀ (n : Nat) (x1 : Int32) (σ : am_SS) (h : C_peace_l16 F n x1 σ = some q), am_K G 2 16 [(0, .ref (am_b G 0)), (1, .int x1)] [] σ := by
  intro n
  induction n with
  | zero =>
    intro x1 σ h
    rw [C_peace_l16] at h
    cases h
  | succ n ih =>
    intro x1 σ h
    rw [C_peace_l16] at h
    refine am_iload_n C0 dX9_peace_16 1 rfl ?_
    refine am_bipush C0 dX9_peace_17 kb_60 ?_
    refine am_icmp_ge C0 dX9_peace_19 (tgt := 54) (by decide) (fun c_1 => ?_) (fun c_1 => ?_)
    · replace h := am_in h c_1
      refine am_aload_n C0 dX9_peace_54 0 rfl ?_
      refine am_getR C0 (j := 77) ff_RX9_26 (loC_6_3 kC0).1 (loC_6_3 kC0).2.1 (loC_6_3 kC0).2.2.1 (loC_6_3 kC0).2.2.2 dX9_peace_55 ?_
      refine am_getI C0 ff_RX9_229 (loC_0_13 (tgC_6_3 kC0)).1 (loC_0_13 (tgC_6_3 kC0)).2.1 (loC_0_13 (tgC_6_3 kC0)).2.2.1 (loC_0_13 (tgC_6_3 kC0)).2.2.2 dX9_peace_58 ?_
      refine am_iconst C0 dX9_peace_61 ci_m1 ?_
      refine am_icmp_eq C0 dX9_peace_62 (tgt := 70) (by decide) (fun c_2 => ?_) (fun c_2 => ?_)
      · replace h := am_ip h c_2
        refine am_iconst C0 dX9_peace_70 ci_m1 ?_
        have e := Option.some.inj h
        subst e
        exact hret _ _ dX9_peace_71
      · replace h := am_in h c_2
        refine am_bipush C0 dX9_peace_65 kb_60 ?_
        refine am_goto C0 dX9_peace_67 (tgt := 71) (by decide) ?_
        have e := Option.some.inj h
        subst e
        exact hret _ _ dX9_peace_71
    · replace h := am_ip h c_1
      refine am_aload_n C0 dX9_peace_22 0 rfl ?_
      refine am_getR C0 (j := 77) ff_RX9_26 (loC_6_3 kC0).1 (loC_6_3 kC0).2.1 (loC_6_3 kC0).2.2.1 (loC_6_3 kC0).2.2.2 dX9_peace_23 ?_
      refine am_getI C0 ff_RX9_229 (loC_0_13 (tgC_6_3 kC0)).1 (loC_0_13 (tgC_6_3 kC0)).2.1 (loC_0_13 (tgC_6_3 kC0)).2.2.1 (loC_0_13 (tgC_6_3 kC0)).2.2.2 dX9_peace_26 ?_
      refine am_iconst C0 dX9_peace_29 ci_m1 ?_
      refine am_icmp_eq C0 dX9_peace_30 (tgt := 35) (by decide) (fun c_3 => ?_) (fun c_3 => ?_)
      · replace h := am_ip h c_3
        refine am_aload_n C0 dX9_peace_35 0 rfl ?_
        refine am_getR C0 (j := 1) ff_RX9_10 (loC_6_0 kC0).1 (loC_6_0 kC0).2.1 (loC_6_0 kC0).2.2.1 (loC_6_0 kC0).2.2.2 dX9_peace_36 ?_
        refine am_aload_n C0 dX9_peace_39 0 rfl ?_
        refine am_getR C0 (j := 77) ff_RX9_26 (loC_6_3 kC0).1 (loC_6_3 kC0).2.1 (loC_6_3 kC0).2.2.1 (loC_6_3 kC0).2.2.2 dX9_peace_40 ?_
        refine am_iconst C0 dX9_peace_43 ci_1 ?_
        obtain ⟨q_4, h_q_4, h⟩ := am_bind h
        refine am_callV C0 (m_C_War_passDay (σ := σ) (Nat.le_refl _) F 1 77 true (tgC_6_0 kC0) (tgC_6_3 kC0) h_q_4) mm_yX7_passDay ln_RX9_95 (As := fun b => [.ref (b 77), .int (am_bI true)]) (fun _ => rfl) (fun _ => rfl) (loC_5_0 (tgC_6_0 kC0)).1 (loC_5_0 (tgC_6_0 kC0)).2.1 rfl (Nat.le_trans (by decide) hd) rfl (Nat.le_of_ble_eq_true rfl) dX9_peace_44 ?_
        refine am_pop C0 dX9_peace_47 rfl ?_
        obtain ⟨x1_5, e_x1_5, h⟩ := am_lt h
        refine am_iinc C0 dX9_peace_48 1 rfl (by rw [ci_1]; exact e_x1_5) (by decide) rfl (lv' := [(0, .ref (am_b G 0)), (1, .int x1_5)]) rfl ?_
        refine am_goto C0 dX9_peace_51 (tgt := 16) (by decide) ?_
        exact am_sub [0, 1] rfl (ih x1_5 q_4.2  h)
      · replace h := am_in h c_3
        refine am_iload_n C0 dX9_peace_33 1 rfl ?_
        have e := Option.some.inj h
        subst e
        exact hret _ _ dX9_peace_34
set_option maxRecDepth 100000 in
set_option maxHeartbeats 4000000 in
theorem k_C_peace {G : am_T} {d0 : Nat} (C0 : am_C G cX9_peace 2 RX9 LC d0) (hd : 8 ≤ d0) (F : Nat) {q : Int32 × am_SS} (hret : am_retI G cX9_peace 2 q.1 q.2) (σ : am_SS) (h : C_peace F  σ = some q) : am_K G 2 0 [(0, .ref (am_b G 0))] [] σ := by
  unfold C_peace at h
  refine am_aload_n C0 dX9_peace_0 0 rfl ?_
  refine am_getR C0 (j := 77) ff_RX9_26 (loC_6_3 kC0).1 (loC_6_3 kC0).2.1 (loC_6_3 kC0).2.2.1 (loC_6_3 kC0).2.2.2 dX9_peace_1 ?_
  refine am_aload_n C0 dX9_peace_4 0 rfl ?_
  refine am_getR C0 (j := 1) ff_RX9_10 (loC_6_0 kC0).1 (loC_6_0 kC0).2.1 (loC_6_0 kC0).2.2.1 (loC_6_0 kC0).2.2.2 dX9_peace_5 ?_
  refine am_getR C0 (j := 2) ff_RX9_44 (loC_5_0 (tgC_6_0 kC0)).1 (loC_5_0 (tgC_6_0 kC0)).2.1 (loC_5_0 (tgC_6_0 kC0)).2.2.1 (loC_5_0 (tgC_6_0 kC0)).2.2.2 dX9_peace_8 ?_
  obtain ⟨q_1, h_q_1, h⟩ := am_bind h
  refine am_callV C0 (m_C_Front_copyFrom (σ := σ) (Nat.le_refl _) F 77 2 (tgC_6_3 kC0) (tgC_5_0 (tgC_6_0 kC0)) h_q_1) mm_yX0_copyFrom ln_RX9_240 (As := fun b => [.ref (b 2)]) (fun _ => rfl) (fun _ => rfl) (loC_0_0 (tgC_6_3 kC0)).1 (loC_0_0 (tgC_6_3 kC0)).2.1 rfl (Nat.le_trans (by decide) hd) rfl (Nat.le_of_ble_eq_true rfl) dX9_peace_11 ?_
  refine am_iconst C0 dX9_peace_14 ci_0 ?_
  refine am_istore_n C0 dX9_peace_15 rfl (by decide) rfl (lv' := [(0, .ref (am_b G 0)), (1, .int 0)]) rfl ?_
  exact am_sub [0, 1] rfl (k_C_peace_l16 C0 hd F hret F 0 q_1  h)
set_option maxRecDepth 100000 in
set_option maxHeartbeats 4000000 in
theorem m_C_peace {l : Launch} {d : Nat} {σ : am_SS} {q : Int32 × am_SS} (hd : 8 ≤ d) (F : Nat) (h : C_peace F  σ = some q) : am_Met l yX9_peace cX9_peace 2 (some .int) d 0 0 LC (fun b => [.ref (b 0)]) σ (some (.int q.1)) q.2 :=
  am_metI (plainFor_of_name (by decide)) rfl (lv := fun b => [(0, .ref (b 0))]) (fun _ => rfl) (fun _ => Nat.le_of_ble_eq_true rfl) (fun G C0 _ hret => k_C_peace C0 hd F hret  σ  h)
set_option maxRecDepth 100000 in
set_option maxHeartbeats 4000000 in
theorem k_C_guess_p41 {G : am_T} {d0 : Nat} (C0 : am_C G cX9_guess 5 RX9 LC d0) (hd : 2 ≤ d0) (F : Nat) {q : Int32 × am_SS} (hret : am_retI G cX9_guess 5 q.1 q.2) (x1 : Int32) (x2 : Int32) (x3 : Int32) (s0 : Bool) (σ : am_SS) (h : C_guess_p41 F x1 x2 x3 s0 σ = some q) : am_K G 5 41 [(0, .ref (am_b G 0)), (1, .int x1), (2, .int x2), (3, .int x3)] [.int (am_bI s0)] σ := by
  unfold C_guess_p41 at h
  refine am_istore C0 dX9_guess_41 (by decide) rfl (lv' := [(0, .ref (am_b G 0)), (1, .int x1), (2, .int x2), (3, .int x3), (4, .int (am_bI s0))]) rfl ?_
  refine am_iload C0 dX9_guess_43 4 rfl ?_
  refine am_ifB_eq C0 dX9_guess_45 (tgt := 55) (by decide) (fun c_1 => ?_) (fun c_1 => ?_)
  · replace h := am_in h c_1
    refine am_iconst C0 dX9_guess_55 ci_m1 ?_
    have e := Option.some.inj h
    subst e
    exact hret _ _ dX9_guess_56
  · replace h := am_ip h c_1
    refine am_iload_n C0 dX9_guess_48 1 rfl ?_
    refine am_callS C0 (m_C_Nights_isWord (σ := σ) (Nat.le_refl _) x1  rfl) mm_yX2_isWord ln_RX9_253 (fun _ => rfl) (Nat.le_trans (by decide) hd) rfl (Nat.le_of_ble_eq_true rfl) dX9_guess_49 ?_
    refine am_ifB_ne C0 dX9_guess_52 (tgt := 57) (by decide) (fun c_3 => ?_) (fun c_3 => ?_)
    · replace h := am_ip h c_3
      refine am_aload_n C0 dX9_guess_57 0 rfl ?_
      refine am_getR C0 (j := 1) ff_RX9_10 (loC_6_0 kC0).1 (loC_6_0 kC0).2.1 (loC_6_0 kC0).2.2.1 (loC_6_0 kC0).2.2.2 dX9_guess_58 ?_
      refine am_getR C0 (j := 27) ff_RX9_247 (loC_5_6 (tgC_6_0 kC0)).1 (loC_5_6 (tgC_6_0 kC0)).2.1 (loC_5_6 (tgC_6_0 kC0)).2.2.1 (loC_5_6 (tgC_6_0 kC0)).2.2.2 dX9_guess_61 ?_
      refine am_iload_n C0 dX9_guess_64 1 rfl ?_
      refine am_iload_n C0 dX9_guess_65 2 rfl ?_
      refine am_iload_n C0 dX9_guess_66 3 rfl ?_
      refine am_iconst C0 dX9_guess_67 ci_0 ?_
      obtain ⟨q_4, h_q_4, h⟩ := am_bind h
      refine am_callV C0 (m_C_Table_add (σ := σ) (Nat.le_refl _) F 27 x1 x2 x3 0 (tgC_5_6 (tgC_6_0 kC0)) h_q_4) mm_yX6_add ln_RX9_258 (As := fun b => [.int x1, .int x2, .int x3, .int 0]) (fun _ => rfl) (fun _ => rfl) (loC_4_0 (tgC_5_6 (tgC_6_0 kC0))).1 (loC_4_0 (tgC_5_6 (tgC_6_0 kC0))).2.1 rfl (Nat.le_trans (by decide) hd) rfl (Nat.le_of_ble_eq_true rfl) dX9_guess_68 ?_
      have e := Option.some.inj h
      subst e
      exact hret _ _ dX9_guess_71
    · replace h := am_in h c_3
      refine am_iconst C0 dX9_guess_55 ci_m1 ?_
      have e := Option.some.inj h
      subst e
      exact hret _ _ dX9_guess_56
set_option maxRecDepth 100000 in
set_option maxHeartbeats 4000000 in
theorem k_C_guess_p40 {G : am_T} {d0 : Nat} (C0 : am_C G cX9_guess 5 RX9 LC d0) (hd : 2 ≤ d0) (F : Nat) {q : Int32 × am_SS} (hret : am_retI G cX9_guess 5 q.1 q.2) (x1 : Int32) (x2 : Int32) (x3 : Int32) (σ : am_SS) (h : C_guess_p40 F x1 x2 x3 σ = some q) : am_K G 5 40 [(0, .ref (am_b G 0)), (1, .int x1), (2, .int x2), (3, .int x3)] [] σ := by
  unfold C_guess_p40 at h
  refine am_iconst C0 dX9_guess_40 ci_0 ?_
  exact am_sub [0, 1, 2, 3] rfl (k_C_guess_p41 C0 hd F hret x1 x2 x3 false σ  h)
set_option maxRecDepth 100000 in
set_option maxHeartbeats 4000000 in
theorem k_C_guess {G : am_T} {d0 : Nat} (C0 : am_C G cX9_guess 5 RX9 LC d0) (hd : 2 ≤ d0) (F : Nat) {q : Int32 × am_SS} (hret : am_retI G cX9_guess 5 q.1 q.2) (x1 : Int32) (x2 : Int32) (x3 : Int32) (σ : am_SS) (h : C_guess F x1 x2 x3 σ = some q) : am_K G 5 0 [(0, .ref (am_b G 0)), (1, .int x1), (2, .int x2), (3, .int x3)] [] σ := by
  unfold C_guess at h
  refine am_iload_n C0 dX9_guess_0 1 rfl ?_
  refine am_iconst C0 dX9_guess_1 ci_m1 ?_
  refine am_icmp_ne C0 dX9_guess_2 (tgt := 16) (by decide) (fun c_1 => ?_) (fun c_1 => ?_)
  · replace h := am_in h c_1
    refine am_iload_n C0 dX9_guess_16 2 rfl ?_
    refine am_if_lt C0 dX9_guess_17 (tgt := 40) (by decide) (fun c_2 => ?_) (fun c_2 => ?_)
    · replace h := am_ip h c_2
      exact am_sub [0, 1, 2, 3] rfl (k_C_guess_p40 C0 hd F hret x1 x2 x3 σ  h)
    · replace h := am_in h c_2
      refine am_iload_n C0 dX9_guess_20 2 rfl ?_
      refine am_iconst C0 dX9_guess_21 ci_4 ?_
      refine am_icmp_gt C0 dX9_guess_22 (tgt := 40) (by decide) (fun c_3 => ?_) (fun c_3 => ?_)
      · replace h := am_ip h c_3
        exact am_sub [0, 1, 2, 3] rfl (k_C_guess_p40 C0 hd F hret x1 x2 x3 σ  h)
      · replace h := am_in h c_3
        refine am_iload_n C0 dX9_guess_25 3 rfl ?_
        refine am_if_lt C0 dX9_guess_26 (tgt := 40) (by decide) (fun c_4 => ?_) (fun c_4 => ?_)
        · replace h := am_ip h c_4
          exact am_sub [0, 1, 2, 3] rfl (k_C_guess_p40 C0 hd F hret x1 x2 x3 σ  h)
        · replace h := am_in h c_4
          refine am_iload_n C0 dX9_guess_29 3 rfl ?_
          refine am_iconst C0 dX9_guess_30 ci_4 ?_
          refine am_iload_n C0 dX9_guess_31 2 rfl ?_
          refine am_isub C0 dX9_guess_32 ?_
          refine am_icmp_gt C0 dX9_guess_33 (tgt := 40) (by decide) (fun c_5 => ?_) (fun c_5 => ?_)
          · replace h := am_ip h c_5
            exact am_sub [0, 1, 2, 3] rfl (k_C_guess_p40 C0 hd F hret x1 x2 x3 σ  h)
          · replace h := am_in h c_5
            refine am_iconst C0 dX9_guess_36 ci_1 ?_
            refine am_goto C0 dX9_guess_37 (tgt := 41) (by decide) ?_
            exact am_sub [0, 1, 2, 3] rfl (k_C_guess_p41 C0 hd F hret x1 x2 x3 true σ  h)
  · replace h := am_ip h c_1
    refine am_aload_n C0 dX9_guess_5 0 rfl ?_
    refine am_getR C0 (j := 1) ff_RX9_10 (loC_6_0 kC0).1 (loC_6_0 kC0).2.1 (loC_6_0 kC0).2.2.1 (loC_6_0 kC0).2.2.2 dX9_guess_6 ?_
    refine am_getR C0 (j := 27) ff_RX9_247 (loC_5_6 (tgC_6_0 kC0)).1 (loC_5_6 (tgC_6_0 kC0)).2.1 (loC_5_6 (tgC_6_0 kC0)).2.2.1 (loC_5_6 (tgC_6_0 kC0)).2.2.2 dX9_guess_9 ?_
    obtain ⟨q_6, h_q_6, h⟩ := am_lt h
    refine am_callV C0 (m_C_Table_clear (σ := σ) (Nat.le_refl _) 27 (tgC_5_6 (tgC_6_0 kC0)) h_q_6) mm_yX6_clear ln_RX9_250 (As := fun b => []) (fun _ => rfl) (fun _ => rfl) (loC_4_0 (tgC_5_6 (tgC_6_0 kC0))).1 (loC_4_0 (tgC_5_6 (tgC_6_0 kC0))).2.1 rfl (Nat.le_trans (by decide) hd) rfl (Nat.le_of_ble_eq_true rfl) dX9_guess_12 ?_
    have e := Option.some.inj h
    subst e
    exact hret _ _ dX9_guess_15
set_option maxRecDepth 100000 in
set_option maxHeartbeats 4000000 in
theorem m_C_guess {l : Launch} {d : Nat} {σ : am_SS} {q : Int32 × am_SS} (hd : 2 ≤ d) (F : Nat) (x1 : Int32) (x2 : Int32) (x3 : Int32) (h : C_guess F x1 x2 x3 σ = some q) : am_Met l yX9_guess cX9_guess 5 (some .int) d 0 0 LC (fun b => [.ref (b 0), .int x1, .int x2, .int x3]) σ (some (.int q.1)) q.2 :=
  am_metI (plainFor_of_name (by decide)) rfl (lv := fun b => [(0, .ref (b 0)), (1, .int x1), (2, .int x2), (3, .int x3)]) (fun _ => rfl) (fun _ => Nat.le_of_ble_eq_true rfl) (fun G C0 _ hret => k_C_guess C0 hd F hret x1 x2 x3 σ  h)
set_option maxRecDepth 100000 in
set_option maxHeartbeats 4000000 in
theorem k_C_words_p62 {G : am_T} {d0 : Nat} (C0 : am_C G cX9_words 6 RX9 LC d0) (hd : 4 ≤ d0) (rec18 : Int32 → Int32 → Int32 → Int32 → am_SS → Option Int32) (F : Nat) {σ : am_SS} {q : Int32} (hret : am_retI G cX9_words 6 q σ) (hrec18 : ∀ (x1 : Int32) (x2 : Int32) (x3 : Int32) (x4 : Int32), rec18 x1 x2 x3 x4 σ = some q → am_K G 6 18 [(0, .ref (am_b G 0)), (1, .int x1), (2, .int x2), (3, .int x3), (4, .int x4)] [] σ) (x1 : Int32) (x2 : Int32) (x3 : Int32) (x4 : Int32) (h : C_words_p62 rec18 F x1 x2 x3 x4 σ = some q) : am_K G 6 62 [(0, .ref (am_b G 0)), (1, .int x1), (2, .int x2), (3, .int x3), (4, .int x4)] [] σ := by
  unfold C_words_p62 at h
  obtain ⟨x4_1, e_x4_1, h⟩ := am_lt h
  refine am_iinc C0 dX9_words_62 4 rfl (by rw [ci_1]; exact e_x4_1) (by decide) rfl (lv' := [(0, .ref (am_b G 0)), (1, .int x1), (2, .int x2), (3, .int x3), (4, .int x4_1)]) rfl ?_
  refine am_goto C0 dX9_words_65 (tgt := 18) (by decide) ?_
  exact am_sub [0, 1, 2, 3, 4] rfl (hrec18 x1 x2 x3 x4_1  h)
set_option maxRecDepth 100000 in
set_option maxHeartbeats 4000000 in
theorem k_C_words_p58 {G : am_T} {d0 : Nat} (C0 : am_C G cX9_words 6 RX9 LC d0) (hd : 4 ≤ d0) (rec18 : Int32 → Int32 → Int32 → Int32 → am_SS → Option Int32) (F : Nat) {σ : am_SS} {q : Int32} (hret : am_retI G cX9_words 6 q σ) (hrec18 : ∀ (x1 : Int32) (x2 : Int32) (x3 : Int32) (x4 : Int32), rec18 x1 x2 x3 x4 σ = some q → am_K G 6 18 [(0, .ref (am_b G 0)), (1, .int x1), (2, .int x2), (3, .int x3), (4, .int x4)] [] σ) (x1 : Int32) (x2 : Int32) (x4 : Int32) (s0 : Int32) (h : C_words_p58 rec18 F x1 x2 x4 s0 σ = some q) : am_K G 6 58 [(0, .ref (am_b G 0)), (1, .int x1), (2, .int x2), (4, .int x4)] [.int s0] σ := by
  unfold C_words_p58 at h
  refine am_istore_n C0 dX9_words_58 rfl (by decide) rfl (lv' := [(0, .ref (am_b G 0)), (1, .int x1), (2, .int x2), (4, .int x4), (3, .int s0)]) rfl ?_
  obtain ⟨x2_1, e_x2_1, h⟩ := am_lt h
  refine am_iinc C0 dX9_words_59 2 rfl (by rw [ci_1]; exact e_x2_1) (by decide) rfl (lv' := [(0, .ref (am_b G 0)), (1, .int x1), (2, .int x2_1), (4, .int x4), (3, .int s0)]) rfl ?_
  exact am_sub [0, 1, 2, 4, 3] rfl (k_C_words_p62 C0 hd rec18 F hret hrec18 x1 x2_1 s0 x4  h)
set_option maxRecDepth 100000 in
set_option maxHeartbeats 4000000 in
theorem k_C_words_l18 {G : am_T} {d0 : Nat} (C0 : am_C G cX9_words 6 RX9 LC d0) (hd : 4 ≤ d0) (F : Nat) {σ : am_SS} {q : Int32} (hret : am_retI G cX9_words 6 q σ) : ∀ (n : Nat) (x1 : Int32) (x2 : Int32) (x3 : Int32) (x4 : Int32) (h : C_words_l18 F n x1 x2 x3 x4 σ = some q), am_K G 6 18 [(0, .ref (am_b G 0)), (1, .int x1), (2, .int x2), (3, .int x3), (4, .int x4)] [] σ := by
  intro n
  induction n with
  | zero =>
    intro x1 x2 x3 x4 h
    rw [C_words_l18] at h
    cases h
  | succ n ih =>
    intro x1 x2 x3 x4 h
    rw [C_words_l18] at h
    refine am_iload C0 dX9_words_18 4 rfl ?_
    refine am_sipush C0 dX9_words_20 cs_1296 ?_
    refine am_icmp_ge C0 dX9_words_23 (tgt := 68) (by decide) (fun c_1 => ?_) (fun c_1 => ?_)
    · replace h := am_in h c_1
      refine am_iload_n C0 dX9_words_68 1 rfl ?_
      refine am_if_ne C0 dX9_words_69 (tgt := 76) (by decide) (fun c_2 => ?_) (fun c_2 => ?_)
      · replace h := am_in h c_2
        refine am_iload_n C0 dX9_words_76 3 rfl ?_
        have e := Option.some.inj h
        subst e
        exact hret _ _ dX9_words_77
      · replace h := am_ip h c_2
        refine am_iload_n C0 dX9_words_72 2 rfl ?_
        refine am_goto C0 dX9_words_73 (tgt := 77) (by decide) ?_
        have e := Option.some.inj h
        subst e
        exact hret _ _ dX9_words_77
    · replace h := am_ip h c_1
      refine am_iload C0 dX9_words_26 4 rfl ?_
      refine am_callS C0 (m_C_Nights_word (σ := σ) (Nat.le_refl _) x4  rfl) mm_yX2_word ln_RX9_262 (fun _ => rfl) (Nat.le_trans (by decide) hd) rfl (Nat.le_of_ble_eq_true rfl) dX9_words_28 ?_
      obtain ⟨x5_4, e_x5_4, h⟩ := am_lt h
      refine am_top e_x5_4 ?_
      refine am_istore C0 dX9_words_31 (by decide) rfl (lv' := [(0, .ref (am_b G 0)), (1, .int x1), (2, .int x2), (3, .int x3), (4, .int x4), (5, .int x5_4)]) rfl ?_
      refine am_aload_n C0 dX9_words_33 0 rfl ?_
      refine am_getR C0 (j := 1) ff_RX9_10 (loC_6_0 kC0).1 (loC_6_0 kC0).2.1 (loC_6_0 kC0).2.2.1 (loC_6_0 kC0).2.2.2 dX9_words_34 ?_
      refine am_getR C0 (j := 27) ff_RX9_247 (loC_5_6 (tgC_6_0 kC0)).1 (loC_5_6 (tgC_6_0 kC0)).2.1 (loC_5_6 (tgC_6_0 kC0)).2.2.1 (loC_5_6 (tgC_6_0 kC0)).2.2.2 dX9_words_37 ?_
      refine am_iload C0 dX9_words_40 5 rfl ?_
      obtain ⟨q_5, h_q_5, h⟩ := am_bind h
      refine am_callS C0 (m_C_Nights_fits (σ := σ) (Nat.le_refl _) F 27 x5_4 (tgC_5_6 (tgC_6_0 kC0)) h_q_5) mm_yX2_fits ln_RX9_265 (fun _ => rfl) (Nat.le_trans (by decide) hd) rfl (Nat.le_of_ble_eq_true rfl) dX9_words_42 ?_
      refine am_ifB_eq C0 dX9_words_45 (tgt := 62) (by decide) (fun c_6 => ?_) (fun c_6 => ?_)
      · replace h := am_in h c_6
        exact am_sub [0, 1, 2, 3, 4] rfl (k_C_words_p62 C0 hd _ F hret (fun z1 z2 z3 z4 z => ih z1 z2 z3 z4 z) x1 x2 x3 x4  h)
      · replace h := am_ip h c_6
        refine am_iload_n C0 dX9_words_48 2 rfl ?_
        refine am_if_ne C0 dX9_words_49 (tgt := 57) (by decide) (fun c_7 => ?_) (fun c_7 => ?_)
        · replace h := am_in h c_7
          refine am_iload_n C0 dX9_words_57 3 rfl ?_
          exact am_sub [0, 1, 2, 4] rfl (k_C_words_p58 C0 hd _ F hret (fun z1 z2 z3 z4 z => ih z1 z2 z3 z4 z) x1 x2 x4 x3  h)
        · replace h := am_ip h c_7
          refine am_iload C0 dX9_words_52 5 rfl ?_
          refine am_goto C0 dX9_words_54 (tgt := 58) (by decide) ?_
          exact am_sub [0, 1, 2, 4] rfl (k_C_words_p58 C0 hd _ F hret (fun z1 z2 z3 z4 z => ih z1 z2 z3 z4 z) x1 x2 x4 x5_4  h)
set_option maxRecDepth 100000 in
set_option maxHeartbeats 4000000 in
theorem k_C_words_p11 {G : am_T} {d0 : Nat} (C0 : am_C G cX9_words 6 RX9 LC d0) (hd : 4 ≤ d0) (F : Nat) {σ : am_SS} {q : Int32} (hret : am_retI G cX9_words 6 q σ) (x1 : Int32) (h : C_words_p11 F x1 σ = some q) : am_K G 6 11 [(0, .ref (am_b G 0)), (1, .int x1)] [] σ := by
  unfold C_words_p11 at h
  refine am_iconst C0 dX9_words_11 ci_0 ?_
  refine am_istore_n C0 dX9_words_12 rfl (by decide) rfl (lv' := [(0, .ref (am_b G 0)), (1, .int x1), (2, .int 0)]) rfl ?_
  refine am_iconst C0 dX9_words_13 ci_m1 ?_
  refine am_istore_n C0 dX9_words_14 rfl (by decide) rfl (lv' := [(0, .ref (am_b G 0)), (1, .int x1), (2, .int 0), (3, .int (-1))]) rfl ?_
  refine am_iconst C0 dX9_words_15 ci_0 ?_
  refine am_istore C0 dX9_words_16 (by decide) rfl (lv' := [(0, .ref (am_b G 0)), (1, .int x1), (2, .int 0), (3, .int (-1)), (4, .int 0)]) rfl ?_
  exact am_sub [0, 1, 2, 3, 4] rfl (k_C_words_l18 C0 hd F hret F x1 0 (-1) 0  h)
set_option maxRecDepth 100000 in
set_option maxHeartbeats 4000000 in
theorem k_C_words {G : am_T} {d0 : Nat} (C0 : am_C G cX9_words 6 RX9 LC d0) (hd : 4 ≤ d0) (F : Nat) {σ : am_SS} {q : Int32} (hret : am_retI G cX9_words 6 q σ) (x1 : Int32) (h : C_words F x1 σ = some q) : am_K G 6 0 [(0, .ref (am_b G 0)), (1, .int x1)] [] σ := by
  unfold C_words at h
  refine am_iload_n C0 dX9_words_0 1 rfl ?_
  refine am_if_eq C0 dX9_words_1 (tgt := 11) (by decide) (fun c_1 => ?_) (fun c_1 => ?_)
  · replace h := am_ip h c_1
    exact am_sub [0, 1] rfl (k_C_words_p11 C0 hd F hret x1  h)
  · replace h := am_in h c_1
    refine am_iload_n C0 dX9_words_4 1 rfl ?_
    refine am_iconst C0 dX9_words_5 ci_1 ?_
    refine am_icmp_eq C0 dX9_words_6 (tgt := 11) (by decide) (fun c_2 => ?_) (fun c_2 => ?_)
    · replace h := am_ip h c_2
      exact am_sub [0, 1] rfl (k_C_words_p11 C0 hd F hret x1  h)
    · replace h := am_in h c_2
      refine am_iconst C0 dX9_words_9 ci_m1 ?_
      have e := Option.some.inj h
      subst e
      exact hret _ _ dX9_words_10
set_option maxRecDepth 100000 in
set_option maxHeartbeats 4000000 in
theorem m_C_words {l : Launch} {d : Nat} {σ : am_SS} {q : Int32} (hd : 4 ≤ d) (F : Nat) (x1 : Int32) (h : C_words F x1 σ = some q) : am_Met l yX9_words cX9_words 6 (some .int) d 0 0 LC (fun b => [.ref (b 0), .int x1]) σ (some (.int q)) σ :=
  am_metI (plainFor_of_name (by decide)) rfl (lv := fun b => [(0, .ref (b 0)), (1, .int x1)]) (fun _ => rfl) (fun _ => Nat.le_of_ble_eq_true rfl) (fun G C0 _ hret => k_C_words C0 hd F hret x1  h)
set_option maxRecDepth 100000 in
set_option maxHeartbeats 4000000 in
theorem k_C_letter_p32 {G : am_T} {d0 : Nat} (C0 : am_C G cX9_letter 4 RX9 LC d0) (hd : 2 ≤ d0) (F : Nat) {q : Int32 × am_SS} (hret : am_retI G cX9_letter 4 q.1 q.2) (x2 : Int32) (t0 : Nat) (σ : am_SS) (ht0 : LC.1 t0 = 6) (h : C_letter_p32 F x2 t0 σ = some q) : am_K G 4 32 [(2, .int x2)] [.ref (am_b G t0)] σ := by
  unfold C_letter_p32 at h
  refine am_astore_n C0 dX9_letter_32 rfl (by decide) rfl (lv' := [(2, .int x2), (3, .ref (am_b G t0))]) rfl ?_
  refine am_iload_n C0 dX9_letter_33 0 rfl ?_
  refine am_iconst C0 dX9_letter_34 ci_m1 ?_
  refine am_icmp_ne C0 dX9_letter_35 (tgt := 43) (by decide) (fun c_1 => ?_) (fun c_1 => ?_)
  · replace h := am_in h c_1
    refine am_iload_n C0 dX9_letter_43 0 rfl ?_
    refine am_if_lt C0 dX9_letter_44 (tgt := 64) (by decide) (fun c_2 => ?_) (fun c_2 => ?_)
    · replace h := am_ip h c_2
      refine am_iconst C0 dX9_letter_64 ci_m1 ?_
      have e := Option.some.inj h
      subst e
      exact hret _ _ dX9_letter_65
    · replace h := am_in h c_2
      refine am_iload_n C0 dX9_letter_47 0 rfl ?_
      refine am_bipush C0 dX9_letter_48 kb_26 ?_
      refine am_icmp_ge C0 dX9_letter_50 (tgt := 64) (by decide) (fun c_3 => ?_) (fun c_3 => ?_)
      · replace h := am_in h c_3
        refine am_iconst C0 dX9_letter_64 ci_m1 ?_
        have e := Option.some.inj h
        subst e
        exact hret _ _ dX9_letter_65
      · replace h := am_ip h c_3
        refine am_aload_n C0 dX9_letter_53 1 rfl ?_
        refine am_iload_n C0 dX9_letter_54 0 rfl ?_
        refine am_iconst C0 dX9_letter_55 ci_0 ?_
        refine am_iconst C0 dX9_letter_56 ci_0 ?_
        refine am_iconst C0 dX9_letter_57 ci_0 ?_
        obtain ⟨q_4, h_q_4, h⟩ := am_bind h
        refine am_callV C0 (m_C_Table_add (σ := σ) (Nat.le_refl _) F t0 x2 0 0 0 ht0 h_q_4) mm_yX6_add ln_RX9_258 (As := fun b => [.int x2, .int 0, .int 0, .int 0]) (fun _ => rfl) (fun _ => rfl) (loC_4_0 ht0).1 (loC_4_0 ht0).2.1 rfl (Nat.le_trans (by decide) hd) rfl (Nat.le_of_ble_eq_true rfl) dX9_letter_58 ?_
        refine am_goto C0 dX9_letter_61 (tgt := 65) (by decide) ?_
        have e := Option.some.inj h
        subst e
        exact hret _ _ dX9_letter_65
  · replace h := am_ip h c_1
    refine am_aload_n C0 dX9_letter_38 1 rfl ?_
    obtain ⟨q_5, h_q_5, h⟩ := am_lt h
    refine am_callV C0 (m_C_Table_clear (σ := σ) (Nat.le_refl _) t0 ht0 h_q_5) mm_yX6_clear ln_RX9_250 (As := fun b => []) (fun _ => rfl) (fun _ => rfl) (loC_4_0 ht0).1 (loC_4_0 ht0).2.1 rfl (Nat.le_trans (by decide) hd) rfl (Nat.le_of_ble_eq_true rfl) dX9_letter_39 ?_
    have e := Option.some.inj h
    subst e
    exact hret _ _ dX9_letter_42
set_option maxRecDepth 100000 in
set_option maxHeartbeats 4000000 in
theorem k_C_letter_p11 {G : am_T} {d0 : Nat} (C0 : am_C G cX9_letter 4 RX9 LC d0) (hd : 2 ≤ d0) (F : Nat) {q : Int32 × am_SS} (hret : am_retI G cX9_letter 4 q.1 q.2) (x1 : Int32) (x2 : Int32) (σ : am_SS) (h : C_letter_p11 F x1 x2 σ = some q) : am_K G 4 11 [(0, .ref (am_b G 0)), (1, .int x1), (2, .int x2)] [] σ := by
  unfold C_letter_p11 at h
  refine am_iload_n C0 dX9_letter_11 1 rfl ?_
  refine am_if_ne C0 dX9_letter_12 (tgt := 25) (by decide) (fun c_1 => ?_) (fun c_1 => ?_)
  · replace h := am_in h c_1
    refine am_aload_n C0 dX9_letter_25 0 rfl ?_
    refine am_getR C0 (j := 1) ff_RX9_10 (loC_6_0 kC0).1 (loC_6_0 kC0).2.1 (loC_6_0 kC0).2.2.1 (loC_6_0 kC0).2.2.2 dX9_letter_26 ?_
    refine am_getR C0 (j := 31) ff_RX9_272 (loC_5_8 (tgC_6_0 kC0)).1 (loC_5_8 (tgC_6_0 kC0)).2.1 (loC_5_8 (tgC_6_0 kC0)).2.2.1 (loC_5_8 (tgC_6_0 kC0)).2.2.2 dX9_letter_29 ?_
    exact am_sub [2] rfl (k_C_letter_p32 C0 hd F hret x2 31 σ (tgC_5_8 (tgC_6_0 kC0)) h)
  · replace h := am_ip h c_1
    refine am_aload_n C0 dX9_letter_15 0 rfl ?_
    refine am_getR C0 (j := 1) ff_RX9_10 (loC_6_0 kC0).1 (loC_6_0 kC0).2.1 (loC_6_0 kC0).2.2.1 (loC_6_0 kC0).2.2.2 dX9_letter_16 ?_
    refine am_getR C0 (j := 29) ff_RX9_269 (loC_5_7 (tgC_6_0 kC0)).1 (loC_5_7 (tgC_6_0 kC0)).2.1 (loC_5_7 (tgC_6_0 kC0)).2.2.1 (loC_5_7 (tgC_6_0 kC0)).2.2.2 dX9_letter_19 ?_
    refine am_goto C0 dX9_letter_22 (tgt := 32) (by decide) ?_
    exact am_sub [2] rfl (k_C_letter_p32 C0 hd F hret x2 29 σ (tgC_5_7 (tgC_6_0 kC0)) h)
set_option maxRecDepth 100000 in
set_option maxHeartbeats 4000000 in
theorem k_C_letter {G : am_T} {d0 : Nat} (C0 : am_C G cX9_letter 4 RX9 LC d0) (hd : 2 ≤ d0) (F : Nat) {q : Int32 × am_SS} (hret : am_retI G cX9_letter 4 q.1 q.2) (x1 : Int32) (x2 : Int32) (σ : am_SS) (h : C_letter F x1 x2 σ = some q) : am_K G 4 0 [(0, .ref (am_b G 0)), (1, .int x1), (2, .int x2)] [] σ := by
  unfold C_letter at h
  refine am_iload_n C0 dX9_letter_0 1 rfl ?_
  refine am_if_eq C0 dX9_letter_1 (tgt := 11) (by decide) (fun c_1 => ?_) (fun c_1 => ?_)
  · replace h := am_ip h c_1
    exact am_sub [0, 1, 2] rfl (k_C_letter_p11 C0 hd F hret x1 x2 σ  h)
  · replace h := am_in h c_1
    refine am_iload_n C0 dX9_letter_4 1 rfl ?_
    refine am_iconst C0 dX9_letter_5 ci_1 ?_
    refine am_icmp_eq C0 dX9_letter_6 (tgt := 11) (by decide) (fun c_2 => ?_) (fun c_2 => ?_)
    · replace h := am_ip h c_2
      exact am_sub [0, 1, 2] rfl (k_C_letter_p11 C0 hd F hret x1 x2 σ  h)
    · replace h := am_in h c_2
      refine am_iconst C0 dX9_letter_9 ci_m1 ?_
      have e := Option.some.inj h
      subst e
      exact hret _ _ dX9_letter_10
set_option maxRecDepth 100000 in
set_option maxHeartbeats 4000000 in
theorem m_C_letter {l : Launch} {d : Nat} {σ : am_SS} {q : Int32 × am_SS} (hd : 2 ≤ d) (F : Nat) (x1 : Int32) (x2 : Int32) (h : C_letter F x1 x2 σ = some q) : am_Met l yX9_letter cX9_letter 4 (some .int) d 0 0 LC (fun b => [.ref (b 0), .int x1, .int x2]) σ (some (.int q.1)) q.2 :=
  am_metI (plainFor_of_name (by decide)) rfl (lv := fun b => [(0, .ref (b 0)), (1, .int x1), (2, .int x2)]) (fun _ => rfl) (fun _ => Nat.le_of_ble_eq_true rfl) (fun G C0 _ hret => k_C_letter C0 hd F hret x1 x2 σ  h)
set_option maxRecDepth 100000 in
set_option maxHeartbeats 4000000 in
theorem k_C_message_p154 {G : am_T} {d0 : Nat} (C0 : am_C G cX9_message 6 RX9 LC d0) (hd : 3 ≤ d0) (F : Nat) {σ : am_SS} {q : Int32} (hret : am_retI G cX9_message 6 q σ) (s0 : Int32) (h : C_message_p154 F s0 σ = some q) : am_K G 6 154 [] [.int s0] σ := by
  unfold C_message_p154 at h
  refine am_bipush C0 dX9_message_154 kb_26 ?_
  obtain ⟨q_1, h_q_1, h⟩ := am_bind h
  refine am_callS C0 (m_J_floorMod (σ := σ) (Nat.le_refl _) s0 26  h_q_1) mm_yJ9_floorMod_7cf53 ln_RX9_275 (fun _ => rfl) (Nat.le_trans (by decide) hd) rfl (Nat.le_of_ble_eq_true rfl) dX9_message_156 ?_
  have e := Option.some.inj h
  subst e
  exact hret _ _ dX9_message_159
set_option maxRecDepth 100000 in
set_option maxHeartbeats 4000000 in
theorem k_C_message_p121 {G : am_T} {d0 : Nat} (C0 : am_C G cX9_message 6 RX9 LC d0) (hd : 3 ≤ d0) (F : Nat) {σ : am_SS} {q : Int32} (hret : am_retI G cX9_message 6 q σ) (x1 : Int32) (x2 : Int32) (s0 : Int32) (h : C_message_p121 F x1 x2 s0 σ = some q) : am_K G 6 121 [(0, .ref (am_b G 0)), (1, .int x1), (2, .int x2)] [.int s0] σ := by
  unfold C_message_p121 at h
  refine am_istore C0 dX9_message_121 (by decide) rfl (lv' := [(0, .ref (am_b G 0)), (1, .int x1), (2, .int x2), (4, .int s0)]) rfl ?_
  refine am_aload_n C0 dX9_message_123 0 rfl ?_
  refine am_getR C0 (j := 1) ff_RX9_10 (loC_6_0 kC0).1 (loC_6_0 kC0).2.1 (loC_6_0 kC0).2.2.1 (loC_6_0 kC0).2.2.2 dX9_message_124 ?_
  refine am_getR C0 (j := 29) ff_RX9_269 (loC_5_7 (tgC_6_0 kC0)).1 (loC_5_7 (tgC_6_0 kC0)).2.1 (loC_5_7 (tgC_6_0 kC0)).2.2.1 (loC_5_7 (tgC_6_0 kC0)).2.2.2 dX9_message_127 ?_
  refine am_iload_n C0 dX9_message_130 2 rfl ?_
  refine am_iconst C0 dX9_message_131 ci_0 ?_
  obtain ⟨q_1, h_q_1, h⟩ := am_bind h
  refine am_callV C0 (m_C_Table_at (σ := σ) (Nat.le_refl _) 29 x2 0 (tgC_5_7 (tgC_6_0 kC0)) h_q_1) mm_yX6_at ln_RX9_217 (As := fun b => [.int x2, .int 0]) (fun _ => rfl) (fun _ => rfl) (loC_4_0 (tgC_5_7 (tgC_6_0 kC0))).1 (loC_4_0 (tgC_5_7 (tgC_6_0 kC0))).2.1 rfl (Nat.le_trans (by decide) hd) rfl (Nat.le_of_ble_eq_true rfl) dX9_message_132 ?_
  refine am_istore C0 dX9_message_135 (by decide) rfl (lv' := [(0, .ref (am_b G 0)), (1, .int x1), (2, .int x2), (4, .int s0), (5, .int q_1)]) rfl ?_
  refine am_iload_n C0 dX9_message_137 1 rfl ?_
  refine am_if_ne C0 dX9_message_138 (tgt := 149) (by decide) (fun c_2 => ?_) (fun c_2 => ?_)
  · replace h := am_in h c_2
    refine am_iload C0 dX9_message_149 4 rfl ?_
    refine am_iload C0 dX9_message_151 3 rfl ?_
    refine am_isub C0 dX9_message_153 ?_
    exact am_sub [] rfl (k_C_message_p154 C0 hd F hret (q_1 - s0)  h)
  · replace h := am_ip h c_2
    refine am_iload C0 dX9_message_141 4 rfl ?_
    refine am_iload C0 dX9_message_143 3 rfl ?_
    refine am_iadd C0 dX9_message_145 ?_
    refine am_goto C0 dX9_message_146 (tgt := 154) (by decide) ?_
    exact am_sub [] rfl (k_C_message_p154 C0 hd F hret (q_1 + s0)  h)
set_option maxRecDepth 100000 in
set_option maxHeartbeats 4000000 in
theorem k_C_message_p81 {G : am_T} {d0 : Nat} (C0 : am_C G cX9_message 6 RX9 LC d0) (hd : 3 ≤ d0) (F : Nat) {σ : am_SS} {q : Int32} (hret : am_retI G cX9_message 6 q σ) (x1 : Int32) (x2 : Int32) (h : C_message_p81 F x1 x2 σ = some q) : am_K G 6 81 [(0, .ref (am_b G 0)), (1, .int x1), (2, .int x2)] [] σ := by
  unfold C_message_p81 at h
  refine am_aload_n C0 dX9_message_81 0 rfl ?_
  refine am_getR C0 (j := 1) ff_RX9_10 (loC_6_0 kC0).1 (loC_6_0 kC0).2.1 (loC_6_0 kC0).2.2.1 (loC_6_0 kC0).2.2.2 dX9_message_82 ?_
  refine am_getR C0 (j := 31) ff_RX9_272 (loC_5_8 (tgC_6_0 kC0)).1 (loC_5_8 (tgC_6_0 kC0)).2.1 (loC_5_8 (tgC_6_0 kC0)).2.2.1 (loC_5_8 (tgC_6_0 kC0)).2.2.2 dX9_message_85 ?_
  refine am_getI C0 ff_RX9_79 (loC_4_2 (tgC_5_8 (tgC_6_0 kC0))).1 (loC_4_2 (tgC_5_8 (tgC_6_0 kC0))).2.1 (loC_4_2 (tgC_5_8 (tgC_6_0 kC0))).2.2.1 (loC_4_2 (tgC_5_8 (tgC_6_0 kC0))).2.2.2 dX9_message_88 ?_
  refine am_if_ne C0 dX9_message_91 (tgt := 98) (by decide) (fun c_1 => ?_) (fun c_1 => ?_)
  · replace h := am_in h c_1
    refine am_aload_n C0 dX9_message_98 0 rfl ?_
    refine am_getR C0 (j := 1) ff_RX9_10 (loC_6_0 kC0).1 (loC_6_0 kC0).2.1 (loC_6_0 kC0).2.2.1 (loC_6_0 kC0).2.2.2 dX9_message_99 ?_
    refine am_getR C0 (j := 31) ff_RX9_272 (loC_5_8 (tgC_6_0 kC0)).1 (loC_5_8 (tgC_6_0 kC0)).2.1 (loC_5_8 (tgC_6_0 kC0)).2.2.1 (loC_5_8 (tgC_6_0 kC0)).2.2.2 dX9_message_102 ?_
    refine am_iload_n C0 dX9_message_105 2 rfl ?_
    refine am_aload_n C0 dX9_message_106 0 rfl ?_
    refine am_getR C0 (j := 1) ff_RX9_10 (loC_6_0 kC0).1 (loC_6_0 kC0).2.1 (loC_6_0 kC0).2.2.1 (loC_6_0 kC0).2.2.2 dX9_message_107 ?_
    refine am_getR C0 (j := 31) ff_RX9_272 (loC_5_8 (tgC_6_0 kC0)).1 (loC_5_8 (tgC_6_0 kC0)).2.1 (loC_5_8 (tgC_6_0 kC0)).2.2.1 (loC_5_8 (tgC_6_0 kC0)).2.2.2 dX9_message_110 ?_
    refine am_getI C0 ff_RX9_79 (loC_4_2 (tgC_5_8 (tgC_6_0 kC0))).1 (loC_4_2 (tgC_5_8 (tgC_6_0 kC0))).2.1 (loC_4_2 (tgC_5_8 (tgC_6_0 kC0))).2.2.1 (loC_4_2 (tgC_5_8 (tgC_6_0 kC0))).2.2.2 dX9_message_113 ?_
    obtain ⟨hz_2, h⟩ := am_gd h
    refine am_irem C0 dX9_message_116 hz_2 ?_
    refine am_iconst C0 dX9_message_117 ci_0 ?_
    obtain ⟨q_3, h_q_3, h⟩ := am_bind h
    refine am_callV C0 (m_C_Table_at (σ := σ) (Nat.le_refl _) 31 (x2 % (σ 31 2)) 0 (tgC_5_8 (tgC_6_0 kC0)) h_q_3) mm_yX6_at ln_RX9_217 (As := fun b => [.int (x2 % (σ 31 2)), .int 0]) (fun _ => rfl) (fun _ => rfl) (loC_4_0 (tgC_5_8 (tgC_6_0 kC0))).1 (loC_4_0 (tgC_5_8 (tgC_6_0 kC0))).2.1 rfl (Nat.le_trans (by decide) hd) rfl (Nat.le_of_ble_eq_true rfl) dX9_message_118 ?_
    exact am_sub [0, 1, 2] rfl (k_C_message_p121 C0 hd F hret x1 x2 q_3  h)
  · replace h := am_ip h c_1
    refine am_iconst C0 dX9_message_94 ci_0 ?_
    refine am_goto C0 dX9_message_95 (tgt := 121) (by decide) ?_
    exact am_sub [0, 1, 2] rfl (k_C_message_p121 C0 hd F hret x1 x2 0  h)
set_option maxRecDepth 100000 in
set_option maxHeartbeats 4000000 in
theorem k_C_message {G : am_T} {d0 : Nat} (C0 : am_C G cX9_message 6 RX9 LC d0) (hd : 3 ≤ d0) (F : Nat) {σ : am_SS} {q : Int32} (hret : am_retI G cX9_message 6 q σ) (x1 : Int32) (x2 : Int32) (h : C_message F x1 x2 σ = some q) : am_K G 6 0 [(0, .ref (am_b G 0)), (1, .int x1), (2, .int x2)] [] σ := by
  unfold C_message at h
  refine am_aload_n C0 dX9_message_0 0 rfl ?_
  refine am_getR C0 (j := 1) ff_RX9_10 (loC_6_0 kC0).1 (loC_6_0 kC0).2.1 (loC_6_0 kC0).2.2.1 (loC_6_0 kC0).2.2.2 dX9_message_1 ?_
  refine am_getR C0 (j := 29) ff_RX9_269 (loC_5_7 (tgC_6_0 kC0)).1 (loC_5_7 (tgC_6_0 kC0)).2.1 (loC_5_7 (tgC_6_0 kC0)).2.2.1 (loC_5_7 (tgC_6_0 kC0)).2.2.2 dX9_message_4 ?_
  refine am_getI C0 ff_RX9_79 (loC_4_2 (tgC_5_7 (tgC_6_0 kC0))).1 (loC_4_2 (tgC_5_7 (tgC_6_0 kC0))).2.1 (loC_4_2 (tgC_5_7 (tgC_6_0 kC0))).2.2.1 (loC_4_2 (tgC_5_7 (tgC_6_0 kC0))).2.2.2 dX9_message_7 ?_
  obtain ⟨x3_1, e_x3_1, h⟩ := am_lt h
  refine am_top e_x3_1 ?_
  refine am_istore_n C0 dX9_message_10 rfl (by decide) rfl (lv' := [(0, .ref (am_b G 0)), (1, .int x1), (2, .int x2), (3, .int x3_1)]) rfl ?_
  refine am_iload_n C0 dX9_message_11 1 rfl ?_
  refine am_iconst C0 dX9_message_12 ci_2 ?_
  refine am_icmp_ne C0 dX9_message_13 (tgt := 61) (by decide) (fun c_2 => ?_) (fun c_2 => ?_)
  · replace h := am_in h c_2
    refine am_iload_n C0 dX9_message_61 2 rfl ?_
    refine am_if_lt C0 dX9_message_62 (tgt := 70) (by decide) (fun c_3 => ?_) (fun c_3 => ?_)
    · replace h := am_ip h c_3
      refine am_iconst C0 dX9_message_70 ci_m1 ?_
      have e := Option.some.inj h
      subst e
      exact hret _ _ dX9_message_71
    · replace h := am_in h c_3
      refine am_iload_n C0 dX9_message_65 2 rfl ?_
      refine am_iload_n C0 dX9_message_66 3 rfl ?_
      refine am_icmp_lt C0 dX9_message_67 (tgt := 72) (by decide) (fun c_4 => ?_) (fun c_4 => ?_)
      · replace h := am_ip h c_4
        refine am_iload_n C0 dX9_message_72 1 rfl ?_
        refine am_if_eq C0 dX9_message_73 (tgt := 81) (by decide) (fun c_5 => ?_) (fun c_5 => ?_)
        · replace h := am_ip h c_5
          exact am_sub [0, 1, 2] rfl (k_C_message_p81 C0 hd F hret x1 x2  h)
        · replace h := am_in h c_5
          refine am_iload_n C0 dX9_message_76 1 rfl ?_
          refine am_iconst C0 dX9_message_77 ci_1 ?_
          refine am_icmp_ne C0 dX9_message_78 (tgt := 160) (by decide) (fun c_6 => ?_) (fun c_6 => ?_)
          · replace h := am_in h c_6
            refine am_iload_n C0 dX9_message_160 1 rfl ?_
            refine am_bipush C0 dX9_message_161 kb_11 ?_
            refine am_icmp_lt C0 dX9_message_163 (tgt := 172) (by decide) (fun c_7 => ?_) (fun c_7 => ?_)
            · replace h := am_ip h c_7
              refine am_iconst C0 dX9_message_172 ci_m1 ?_
              have e := Option.some.inj h
              subst e
              exact hret _ _ dX9_message_173
            · replace h := am_in h c_7
              refine am_iload_n C0 dX9_message_166 1 rfl ?_
              refine am_bipush C0 dX9_message_167 kb_16 ?_
              refine am_icmp_le C0 dX9_message_169 (tgt := 174) (by decide) (fun c_8 => ?_) (fun c_8 => ?_)
              · replace h := am_in h c_8
                refine am_aload_n C0 dX9_message_174 0 rfl ?_
                refine am_getR C0 (j := 1) ff_RX9_10 (loC_6_0 kC0).1 (loC_6_0 kC0).2.1 (loC_6_0 kC0).2.2.1 (loC_6_0 kC0).2.2.2 dX9_message_175 ?_
                refine am_getR C0 (j := 29) ff_RX9_269 (loC_5_7 (tgC_6_0 kC0)).1 (loC_5_7 (tgC_6_0 kC0)).2.1 (loC_5_7 (tgC_6_0 kC0)).2.2.1 (loC_5_7 (tgC_6_0 kC0)).2.2.2 dX9_message_178 ?_
                refine am_iload_n C0 dX9_message_181 3 rfl ?_
                refine am_iload_n C0 dX9_message_182 1 rfl ?_
                refine am_bipush C0 dX9_message_183 kb_10 ?_
                refine am_isub C0 dX9_message_185 ?_
                refine am_iload_n C0 dX9_message_186 2 rfl ?_
                obtain ⟨q_9, h_q_9, h⟩ := am_bind h
                refine am_callS C0 (m_C_Nights_byRails (σ := σ) (Nat.le_refl _) F x3_1 (x1 - 10) x2  h_q_9) mm_yX2_byRails ln_RX9_280 (fun _ => rfl) (Nat.le_trans (by decide) hd) rfl (Nat.le_of_ble_eq_true rfl) dX9_message_187 ?_
                refine am_iconst C0 dX9_message_190 ci_0 ?_
                obtain ⟨q_10, h_q_10, h⟩ := am_bind h
                refine am_callV C0 (m_C_Table_at (σ := σ) (Nat.le_refl _) 29 q_9 0 (tgC_5_7 (tgC_6_0 kC0)) h_q_10) mm_yX6_at ln_RX9_217 (As := fun b => [.int q_9, .int 0]) (fun _ => rfl) (fun _ => rfl) (loC_4_0 (tgC_5_7 (tgC_6_0 kC0))).1 (loC_4_0 (tgC_5_7 (tgC_6_0 kC0))).2.1 rfl (Nat.le_trans (by decide) hd) rfl (Nat.le_of_ble_eq_true rfl) dX9_message_191 ?_
                have e := Option.some.inj h
                subst e
                exact hret _ _ dX9_message_194
              · replace h := am_ip h c_8
                refine am_iconst C0 dX9_message_172 ci_m1 ?_
                have e := Option.some.inj h
                subst e
                exact hret _ _ dX9_message_173
          · replace h := am_ip h c_6
            exact am_sub [0, 1, 2] rfl (k_C_message_p81 C0 hd F hret x1 x2  h)
      · replace h := am_in h c_4
        refine am_iconst C0 dX9_message_70 ci_m1 ?_
        have e := Option.some.inj h
        subst e
        exact hret _ _ dX9_message_71
  · replace h := am_ip h c_2
    refine am_aload_n C0 dX9_message_16 0 rfl ?_
    refine am_getR C0 (j := 1) ff_RX9_10 (loC_6_0 kC0).1 (loC_6_0 kC0).2.1 (loC_6_0 kC0).2.2.1 (loC_6_0 kC0).2.2.2 dX9_message_17 ?_
    refine am_getR C0 (j := 29) ff_RX9_269 (loC_5_7 (tgC_6_0 kC0)).1 (loC_5_7 (tgC_6_0 kC0)).2.1 (loC_5_7 (tgC_6_0 kC0)).2.2.1 (loC_5_7 (tgC_6_0 kC0)).2.2.2 dX9_message_20 ?_
    refine am_iload_n C0 dX9_message_23 3 rfl ?_
    refine am_iconst C0 dX9_message_24 ci_1 ?_
    refine am_isub C0 dX9_message_25 ?_
    refine am_iconst C0 dX9_message_26 ci_0 ?_
    obtain ⟨q_11, h_q_11, h⟩ := am_bind h
    refine am_callV C0 (m_C_Table_at (σ := σ) (Nat.le_refl _) 29 (x3_1 - 1) 0 (tgC_5_7 (tgC_6_0 kC0)) h_q_11) mm_yX6_at ln_RX9_217 (As := fun b => [.int (x3_1 - 1), .int 0]) (fun _ => rfl) (fun _ => rfl) (loC_4_0 (tgC_5_7 (tgC_6_0 kC0))).1 (loC_4_0 (tgC_5_7 (tgC_6_0 kC0))).2.1 rfl (Nat.le_trans (by decide) hd) rfl (Nat.le_of_ble_eq_true rfl) dX9_message_27 ?_
    refine am_aload_n C0 dX9_message_30 0 rfl ?_
    refine am_getR C0 (j := 1) ff_RX9_10 (loC_6_0 kC0).1 (loC_6_0 kC0).2.1 (loC_6_0 kC0).2.2.1 (loC_6_0 kC0).2.2.2 dX9_message_31 ?_
    refine am_getR C0 (j := 29) ff_RX9_269 (loC_5_7 (tgC_6_0 kC0)).1 (loC_5_7 (tgC_6_0 kC0)).2.1 (loC_5_7 (tgC_6_0 kC0)).2.2.1 (loC_5_7 (tgC_6_0 kC0)).2.2.2 dX9_message_34 ?_
    refine am_iconst C0 dX9_message_37 ci_0 ?_
    refine am_iconst C0 dX9_message_38 ci_0 ?_
    obtain ⟨q_12, h_q_12, h⟩ := am_bind h
    refine am_callV C0 (m_C_Table_at (σ := σ) (Nat.le_refl _) 29 0 0 (tgC_5_7 (tgC_6_0 kC0)) h_q_12) mm_yX6_at ln_RX9_217 (As := fun b => [.int 0, .int 0]) (fun _ => rfl) (fun _ => rfl) (loC_4_0 (tgC_5_7 (tgC_6_0 kC0))).1 (loC_4_0 (tgC_5_7 (tgC_6_0 kC0))).2.1 rfl (Nat.le_trans (by decide) hd) rfl (Nat.le_of_ble_eq_true rfl) dX9_message_39 ?_
    refine am_isub C0 dX9_message_42 ?_
    obtain ⟨x4_13, e_x4_13, h⟩ := am_lt h
    refine am_top e_x4_13 ?_
    refine am_istore C0 dX9_message_43 (by decide) rfl (lv' := [(0, .ref (am_b G 0)), (1, .int x1), (2, .int x2), (3, .int x3_1), (4, .int x4_13)]) rfl ?_
    refine am_iload_n C0 dX9_message_45 3 rfl ?_
    refine am_if_ne C0 dX9_message_46 (tgt := 53) (by decide) (fun c_14 => ?_) (fun c_14 => ?_)
    · replace h := am_in h c_14
      refine am_iload C0 dX9_message_53 4 rfl ?_
      refine am_bipush C0 dX9_message_55 kb_26 ?_
      obtain ⟨q_15, h_q_15, h⟩ := am_bind h
      refine am_callS C0 (m_J_floorMod (σ := σ) (Nat.le_refl _) x4_13 26  h_q_15) mm_yJ9_floorMod_7cf53 ln_RX9_275 (fun _ => rfl) (Nat.le_trans (by decide) hd) rfl (Nat.le_of_ble_eq_true rfl) dX9_message_57 ?_
      have e := Option.some.inj h
      subst e
      exact hret _ _ dX9_message_60
    · replace h := am_ip h c_14
      refine am_iconst C0 dX9_message_49 ci_m1 ?_
      refine am_goto C0 dX9_message_50 (tgt := 60) (by decide) ?_
      have e := Option.some.inj h
      subst e
      exact hret _ _ dX9_message_60
set_option maxRecDepth 100000 in
set_option maxHeartbeats 4000000 in
theorem m_C_message {l : Launch} {d : Nat} {σ : am_SS} {q : Int32} (hd : 3 ≤ d) (F : Nat) (x1 : Int32) (x2 : Int32) (h : C_message F x1 x2 σ = some q) : am_Met l yX9_message cX9_message 6 (some .int) d 0 0 LC (fun b => [.ref (b 0), .int x1, .int x2]) σ (some (.int q)) σ :=
  am_metI (plainFor_of_name (by decide)) rfl (lv := fun b => [(0, .ref (b 0)), (1, .int x1), (2, .int x2)]) (fun _ => rfl) (fun _ => Nat.le_of_ble_eq_true rfl) (fun G C0 _ hret => k_C_message C0 hd F hret x1 x2  h)
set_option maxRecDepth 100000 in
set_option maxHeartbeats 4000000 in
theorem k_C_bit_p25 {G : am_T} {d0 : Nat} (C0 : am_C G cX9_bit 2 RX9 LC d0) (hd : 2 ≤ d0) (F : Nat) {q : Int32 × am_SS} (hret : am_retI G cX9_bit 2 q.1 q.2) (x1 : Int32) (σ : am_SS) (h : C_bit_p25 F x1 σ = some q) : am_K G 2 25 [(0, .ref (am_b G 0)), (1, .int x1)] [] σ := by
  unfold C_bit_p25 at h
  refine am_aload_n C0 dX9_bit_25 0 rfl ?_
  refine am_getR C0 (j := 1) ff_RX9_10 (loC_6_0 kC0).1 (loC_6_0 kC0).2.1 (loC_6_0 kC0).2.2.1 (loC_6_0 kC0).2.2.2 dX9_bit_26 ?_
  refine am_getR C0 (j := 33) ff_RX9_284 (loC_5_9 (tgC_6_0 kC0)).1 (loC_5_9 (tgC_6_0 kC0)).2.1 (loC_5_9 (tgC_6_0 kC0)).2.2.1 (loC_5_9 (tgC_6_0 kC0)).2.2.2 dX9_bit_29 ?_
  refine am_iload_n C0 dX9_bit_32 1 rfl ?_
  refine am_iconst C0 dX9_bit_33 ci_0 ?_
  refine am_iconst C0 dX9_bit_34 ci_0 ?_
  refine am_iconst C0 dX9_bit_35 ci_0 ?_
  obtain ⟨q_1, h_q_1, h⟩ := am_bind h
  refine am_callV C0 (m_C_Table_add (σ := σ) (Nat.le_refl _) F 33 x1 0 0 0 (tgC_5_9 (tgC_6_0 kC0)) h_q_1) mm_yX6_add ln_RX9_258 (As := fun b => [.int x1, .int 0, .int 0, .int 0]) (fun _ => rfl) (fun _ => rfl) (loC_4_0 (tgC_5_9 (tgC_6_0 kC0))).1 (loC_4_0 (tgC_5_9 (tgC_6_0 kC0))).2.1 rfl (Nat.le_trans (by decide) hd) rfl (Nat.le_of_ble_eq_true rfl) dX9_bit_36 ?_
  refine am_goto C0 dX9_bit_39 (tgt := 43) (by decide) ?_
  have e := Option.some.inj h
  subst e
  exact hret _ _ dX9_bit_43
set_option maxRecDepth 100000 in
set_option maxHeartbeats 4000000 in
theorem k_C_bit {G : am_T} {d0 : Nat} (C0 : am_C G cX9_bit 2 RX9 LC d0) (hd : 2 ≤ d0) (F : Nat) {q : Int32 × am_SS} (hret : am_retI G cX9_bit 2 q.1 q.2) (x1 : Int32) (σ : am_SS) (h : C_bit F x1 σ = some q) : am_K G 2 0 [(0, .ref (am_b G 0)), (1, .int x1)] [] σ := by
  unfold C_bit at h
  refine am_iload_n C0 dX9_bit_0 1 rfl ?_
  refine am_iconst C0 dX9_bit_1 ci_m1 ?_
  refine am_icmp_ne C0 dX9_bit_2 (tgt := 16) (by decide) (fun c_1 => ?_) (fun c_1 => ?_)
  · replace h := am_in h c_1
    refine am_iload_n C0 dX9_bit_16 1 rfl ?_
    refine am_if_eq C0 dX9_bit_17 (tgt := 25) (by decide) (fun c_2 => ?_) (fun c_2 => ?_)
    · replace h := am_ip h c_2
      exact am_sub [0, 1] rfl (k_C_bit_p25 C0 hd F hret x1 σ  h)
    · replace h := am_in h c_2
      refine am_iload_n C0 dX9_bit_20 1 rfl ?_
      refine am_iconst C0 dX9_bit_21 ci_1 ?_
      refine am_icmp_ne C0 dX9_bit_22 (tgt := 42) (by decide) (fun c_3 => ?_) (fun c_3 => ?_)
      · replace h := am_in h c_3
        refine am_iconst C0 dX9_bit_42 ci_m1 ?_
        have e := Option.some.inj h
        subst e
        exact hret _ _ dX9_bit_43
      · replace h := am_ip h c_3
        exact am_sub [0, 1] rfl (k_C_bit_p25 C0 hd F hret x1 σ  h)
  · replace h := am_ip h c_1
    refine am_aload_n C0 dX9_bit_5 0 rfl ?_
    refine am_getR C0 (j := 1) ff_RX9_10 (loC_6_0 kC0).1 (loC_6_0 kC0).2.1 (loC_6_0 kC0).2.2.1 (loC_6_0 kC0).2.2.2 dX9_bit_6 ?_
    refine am_getR C0 (j := 33) ff_RX9_284 (loC_5_9 (tgC_6_0 kC0)).1 (loC_5_9 (tgC_6_0 kC0)).2.1 (loC_5_9 (tgC_6_0 kC0)).2.2.1 (loC_5_9 (tgC_6_0 kC0)).2.2.2 dX9_bit_9 ?_
    obtain ⟨q_4, h_q_4, h⟩ := am_lt h
    refine am_callV C0 (m_C_Table_clear (σ := σ) (Nat.le_refl _) 33 (tgC_5_9 (tgC_6_0 kC0)) h_q_4) mm_yX6_clear ln_RX9_250 (As := fun b => []) (fun _ => rfl) (fun _ => rfl) (loC_4_0 (tgC_5_9 (tgC_6_0 kC0))).1 (loC_4_0 (tgC_5_9 (tgC_6_0 kC0))).2.1 rfl (Nat.le_trans (by decide) hd) rfl (Nat.le_of_ble_eq_true rfl) dX9_bit_12 ?_
    have e := Option.some.inj h
    subst e
    exact hret _ _ dX9_bit_15
set_option maxRecDepth 100000 in
set_option maxHeartbeats 4000000 in
theorem m_C_bit {l : Launch} {d : Nat} {σ : am_SS} {q : Int32 × am_SS} (hd : 2 ≤ d) (F : Nat) (x1 : Int32) (h : C_bit F x1 σ = some q) : am_Met l yX9_bit cX9_bit 2 (some .int) d 0 0 LC (fun b => [.ref (b 0), .int x1]) σ (some (.int q.1)) q.2 :=
  am_metI (plainFor_of_name (by decide)) rfl (lv := fun b => [(0, .ref (b 0)), (1, .int x1)]) (fun _ => rfl) (fun _ => Nat.le_of_ble_eq_true rfl) (fun G C0 _ hret => k_C_bit C0 hd F hret x1 σ  h)
set_option maxRecDepth 100000 in
set_option maxHeartbeats 4000000 in
theorem k_C_queen_p41 {G : am_T} {d0 : Nat} (C0 : am_C G cX9_queen 4 RX9 LC d0) (hd : 3 ≤ d0) (F : Nat) {q : Int32 × am_SS} (hret : am_retI G cX9_queen 4 q.1 q.2) (x1 : Int32) (x2 : Int32) (s0 : Bool) (σ : am_SS) (h : C_queen_p41 F x1 x2 s0 σ = some q) : am_K G 4 41 [(0, .ref (am_b G 0)), (1, .int x1), (2, .int x2)] [.int (am_bI s0)] σ := by
  unfold C_queen_p41 at h
  refine am_istore_n C0 dX9_queen_41 rfl (by decide) rfl (lv' := [(0, .ref (am_b G 0)), (1, .int x1), (2, .int x2), (3, .int (am_bI s0))]) rfl ?_
  refine am_iload_n C0 dX9_queen_42 3 rfl ?_
  refine am_ifB_eq C0 dX9_queen_43 (tgt := 61) (by decide) (fun c_1 => ?_) (fun c_1 => ?_)
  · replace h := am_in h c_1
    refine am_iconst C0 dX9_queen_61 ci_m1 ?_
    have e := Option.some.inj h
    subst e
    exact hret _ _ dX9_queen_62
  · replace h := am_ip h c_1
    refine am_aload_n C0 dX9_queen_46 0 rfl ?_
    refine am_getR C0 (j := 1) ff_RX9_10 (loC_6_0 kC0).1 (loC_6_0 kC0).2.1 (loC_6_0 kC0).2.2.1 (loC_6_0 kC0).2.2.2 dX9_queen_47 ?_
    refine am_getR C0 (j := 35) ff_RX9_297 (loC_5_10 (tgC_6_0 kC0)).1 (loC_5_10 (tgC_6_0 kC0)).2.1 (loC_5_10 (tgC_6_0 kC0)).2.2.1 (loC_5_10 (tgC_6_0 kC0)).2.2.2 dX9_queen_50 ?_
    refine am_iload_n C0 dX9_queen_53 1 rfl ?_
    refine am_iload_n C0 dX9_queen_54 2 rfl ?_
    obtain ⟨q_2, h_q_2, h⟩ := am_bind h
    refine am_callV C0 (m_C_Table_has (σ := σ) (Nat.le_refl _) F 35 x1 x2 (tgC_5_10 (tgC_6_0 kC0)) h_q_2) mm_yX6_has ln_RX9_300 (As := fun b => [.int x1, .int x2]) (fun _ => rfl) (fun _ => rfl) (loC_4_0 (tgC_5_10 (tgC_6_0 kC0))).1 (loC_4_0 (tgC_5_10 (tgC_6_0 kC0))).2.1 rfl (Nat.le_trans (by decide) hd) rfl (Nat.le_of_ble_eq_true rfl) dX9_queen_55 ?_
    refine am_ifB_eq C0 dX9_queen_58 (tgt := 63) (by decide) (fun c_3 => ?_) (fun c_3 => ?_)
    · replace h := am_in h c_3
      refine am_aload_n C0 dX9_queen_63 0 rfl ?_
      refine am_getR C0 (j := 1) ff_RX9_10 (loC_6_0 kC0).1 (loC_6_0 kC0).2.1 (loC_6_0 kC0).2.2.1 (loC_6_0 kC0).2.2.2 dX9_queen_64 ?_
      refine am_getR C0 (j := 35) ff_RX9_297 (loC_5_10 (tgC_6_0 kC0)).1 (loC_5_10 (tgC_6_0 kC0)).2.1 (loC_5_10 (tgC_6_0 kC0)).2.2.1 (loC_5_10 (tgC_6_0 kC0)).2.2.2 dX9_queen_67 ?_
      refine am_iload_n C0 dX9_queen_70 1 rfl ?_
      refine am_iload_n C0 dX9_queen_71 2 rfl ?_
      refine am_iconst C0 dX9_queen_72 ci_0 ?_
      refine am_iconst C0 dX9_queen_73 ci_0 ?_
      obtain ⟨q_4, h_q_4, h⟩ := am_bind h
      refine am_callV C0 (m_C_Table_add (σ := σ) (Nat.le_refl _) F 35 x1 x2 0 0 (tgC_5_10 (tgC_6_0 kC0)) h_q_4) mm_yX6_add ln_RX9_258 (As := fun b => [.int x1, .int x2, .int 0, .int 0]) (fun _ => rfl) (fun _ => rfl) (loC_4_0 (tgC_5_10 (tgC_6_0 kC0))).1 (loC_4_0 (tgC_5_10 (tgC_6_0 kC0))).2.1 rfl (Nat.le_trans (by decide) hd) rfl (Nat.le_of_ble_eq_true rfl) dX9_queen_74 ?_
      have e := Option.some.inj h
      subst e
      exact hret _ _ dX9_queen_77
    · replace h := am_ip h c_3
      refine am_iconst C0 dX9_queen_61 ci_m1 ?_
      have e := Option.some.inj h
      subst e
      exact hret _ _ dX9_queen_62
set_option maxRecDepth 100000 in
set_option maxHeartbeats 4000000 in
theorem k_C_queen_p40 {G : am_T} {d0 : Nat} (C0 : am_C G cX9_queen 4 RX9 LC d0) (hd : 3 ≤ d0) (F : Nat) {q : Int32 × am_SS} (hret : am_retI G cX9_queen 4 q.1 q.2) (x1 : Int32) (x2 : Int32) (σ : am_SS) (h : C_queen_p40 F x1 x2 σ = some q) : am_K G 4 40 [(0, .ref (am_b G 0)), (1, .int x1), (2, .int x2)] [] σ := by
  unfold C_queen_p40 at h
  refine am_iconst C0 dX9_queen_40 ci_0 ?_
  exact am_sub [0, 1, 2] rfl (k_C_queen_p41 C0 hd F hret x1 x2 false σ  h)
set_option maxRecDepth 100000 in
set_option maxHeartbeats 4000000 in
theorem k_C_queen {G : am_T} {d0 : Nat} (C0 : am_C G cX9_queen 4 RX9 LC d0) (hd : 3 ≤ d0) (F : Nat) {q : Int32 × am_SS} (hret : am_retI G cX9_queen 4 q.1 q.2) (x1 : Int32) (x2 : Int32) (σ : am_SS) (h : C_queen F x1 x2 σ = some q) : am_K G 4 0 [(0, .ref (am_b G 0)), (1, .int x1), (2, .int x2)] [] σ := by
  unfold C_queen at h
  refine am_iload_n C0 dX9_queen_0 1 rfl ?_
  refine am_iconst C0 dX9_queen_1 ci_m1 ?_
  refine am_icmp_ne C0 dX9_queen_2 (tgt := 16) (by decide) (fun c_1 => ?_) (fun c_1 => ?_)
  · replace h := am_in h c_1
    refine am_iload_n C0 dX9_queen_16 1 rfl ?_
    refine am_if_lt C0 dX9_queen_17 (tgt := 40) (by decide) (fun c_2 => ?_) (fun c_2 => ?_)
    · replace h := am_ip h c_2
      exact am_sub [0, 1, 2] rfl (k_C_queen_p40 C0 hd F hret x1 x2 σ  h)
    · replace h := am_in h c_2
      refine am_iload_n C0 dX9_queen_20 1 rfl ?_
      refine am_bipush C0 dX9_queen_21 kb_7 ?_
      refine am_icmp_ge C0 dX9_queen_23 (tgt := 40) (by decide) (fun c_3 => ?_) (fun c_3 => ?_)
      · replace h := am_in h c_3
        exact am_sub [0, 1, 2] rfl (k_C_queen_p40 C0 hd F hret x1 x2 σ  h)
      · replace h := am_ip h c_3
        refine am_iload_n C0 dX9_queen_26 2 rfl ?_
        refine am_if_lt C0 dX9_queen_27 (tgt := 40) (by decide) (fun c_4 => ?_) (fun c_4 => ?_)
        · replace h := am_ip h c_4
          exact am_sub [0, 1, 2] rfl (k_C_queen_p40 C0 hd F hret x1 x2 σ  h)
        · replace h := am_in h c_4
          refine am_iload_n C0 dX9_queen_30 2 rfl ?_
          refine am_bipush C0 dX9_queen_31 kb_7 ?_
          refine am_icmp_ge C0 dX9_queen_33 (tgt := 40) (by decide) (fun c_5 => ?_) (fun c_5 => ?_)
          · replace h := am_in h c_5
            exact am_sub [0, 1, 2] rfl (k_C_queen_p40 C0 hd F hret x1 x2 σ  h)
          · replace h := am_ip h c_5
            refine am_iconst C0 dX9_queen_36 ci_1 ?_
            refine am_goto C0 dX9_queen_37 (tgt := 41) (by decide) ?_
            exact am_sub [0, 1, 2] rfl (k_C_queen_p41 C0 hd F hret x1 x2 true σ  h)
  · replace h := am_ip h c_1
    refine am_aload_n C0 dX9_queen_5 0 rfl ?_
    refine am_getR C0 (j := 1) ff_RX9_10 (loC_6_0 kC0).1 (loC_6_0 kC0).2.1 (loC_6_0 kC0).2.2.1 (loC_6_0 kC0).2.2.2 dX9_queen_6 ?_
    refine am_getR C0 (j := 35) ff_RX9_297 (loC_5_10 (tgC_6_0 kC0)).1 (loC_5_10 (tgC_6_0 kC0)).2.1 (loC_5_10 (tgC_6_0 kC0)).2.2.1 (loC_5_10 (tgC_6_0 kC0)).2.2.2 dX9_queen_9 ?_
    obtain ⟨q_6, h_q_6, h⟩ := am_lt h
    refine am_callV C0 (m_C_Table_clear (σ := σ) (Nat.le_refl _) 35 (tgC_5_10 (tgC_6_0 kC0)) h_q_6) mm_yX6_clear ln_RX9_250 (As := fun b => []) (fun _ => rfl) (fun _ => rfl) (loC_4_0 (tgC_5_10 (tgC_6_0 kC0))).1 (loC_4_0 (tgC_5_10 (tgC_6_0 kC0))).2.1 rfl (Nat.le_trans (by decide) hd) rfl (Nat.le_of_ble_eq_true rfl) dX9_queen_12 ?_
    have e := Option.some.inj h
    subst e
    exact hret _ _ dX9_queen_15
set_option maxRecDepth 100000 in
set_option maxHeartbeats 4000000 in
theorem m_C_queen {l : Launch} {d : Nat} {σ : am_SS} {q : Int32 × am_SS} (hd : 3 ≤ d) (F : Nat) (x1 : Int32) (x2 : Int32) (h : C_queen F x1 x2 σ = some q) : am_Met l yX9_queen cX9_queen 4 (some .int) d 0 0 LC (fun b => [.ref (b 0), .int x1, .int x2]) σ (some (.int q.1)) q.2 :=
  am_metI (plainFor_of_name (by decide)) rfl (lv := fun b => [(0, .ref (b 0)), (1, .int x1), (2, .int x2)]) (fun _ => rfl) (fun _ => Nat.le_of_ble_eq_true rfl) (fun G C0 _ hret => k_C_queen C0 hd F hret x1 x2 σ  h)
set_option maxRecDepth 100000 in
set_option maxHeartbeats 4000000 in
theorem k_C_queens {G : am_T} {d0 : Nat} (C0 : am_C G cX9_queens 2 RX9 LC d0) (hd : 15 ≤ d0) (F : Nat) {σ : am_SS} {q : Int32} (hret : am_retI G cX9_queens 2 q σ) (x1 : Int32) (h : C_queens F x1 σ = some q) : am_K G 2 0 [(0, .ref (am_b G 0)), (1, .int x1)] [] σ := by
  unfold C_queens at h
  refine am_iload_n C0 dX9_queens_0 1 rfl ?_
  refine am_iconst C0 dX9_queens_1 ci_1 ?_
  refine am_icmp_lt C0 dX9_queens_2 (tgt := 11) (by decide) (fun c_1 => ?_) (fun c_1 => ?_)
  · replace h := am_ip h c_1
    refine am_iconst C0 dX9_queens_11 ci_m1 ?_
    have e := Option.some.inj h
    subst e
    exact hret _ _ dX9_queens_12
  · replace h := am_in h c_1
    refine am_iload_n C0 dX9_queens_5 1 rfl ?_
    refine am_bipush C0 dX9_queens_6 kb_7 ?_
    refine am_icmp_le C0 dX9_queens_8 (tgt := 13) (by decide) (fun c_2 => ?_) (fun c_2 => ?_)
    · replace h := am_in h c_2
      refine am_aload_n C0 dX9_queens_13 0 rfl ?_
      refine am_getR C0 (j := 1) ff_RX9_10 (loC_6_0 kC0).1 (loC_6_0 kC0).2.1 (loC_6_0 kC0).2.2.1 (loC_6_0 kC0).2.2.2 dX9_queens_14 ?_
      refine am_getR C0 (j := 35) ff_RX9_297 (loC_5_10 (tgC_6_0 kC0)).1 (loC_5_10 (tgC_6_0 kC0)).2.1 (loC_5_10 (tgC_6_0 kC0)).2.2.1 (loC_5_10 (tgC_6_0 kC0)).2.2.2 dX9_queens_17 ?_
      refine am_iload_n C0 dX9_queens_20 1 rfl ?_
      refine am_iconst C0 dX9_queens_21 ci_0 ?_
      refine am_iconst C0 dX9_queens_22 ci_0 ?_
      refine am_iconst C0 dX9_queens_23 ci_0 ?_
      refine am_iconst C0 dX9_queens_24 ci_0 ?_
      obtain ⟨q_3, h_q_3, h⟩ := am_bind h
      refine am_callSN C0 (m_C_Nights_stand (σ := σ) (Nat.le_refl _) F 35 x1 0 0 0 0 (tgC_5_10 (tgC_6_0 kC0)) h_q_3) mm_yX2_stand nl_RX9_304 (fun _ => rfl) (Nat.le_trans (by decide) hd) rfl (Nat.le_of_ble_eq_true rfl) dX9_queens_25 ?_
      have e := Option.some.inj h
      subst e
      exact hret _ _ dX9_queens_28
    · replace h := am_ip h c_2
      refine am_iconst C0 dX9_queens_11 ci_m1 ?_
      have e := Option.some.inj h
      subst e
      exact hret _ _ dX9_queens_12
set_option maxRecDepth 100000 in
set_option maxHeartbeats 4000000 in
theorem m_C_queens {l : Launch} {d : Nat} {σ : am_SS} {q : Int32} (hd : 15 ≤ d) (F : Nat) (x1 : Int32) (h : C_queens F x1 σ = some q) : am_Met l yX9_queens cX9_queens 2 (some .int) d 0 0 LC (fun b => [.ref (b 0), .int x1]) σ (some (.int q)) σ :=
  am_metI (plainFor_of_name (by decide)) rfl (lv := fun b => [(0, .ref (b 0)), (1, .int x1)]) (fun _ => rfl) (fun _ => Nat.le_of_ble_eq_true rfl) (fun G C0 _ hret => k_C_queens C0 hd F hret x1  h)
set_option maxRecDepth 100000 in
set_option maxHeartbeats 4000000 in
theorem k_C_corner {G : am_T} {d0 : Nat} (C0 : am_C G cX9_corner 3 RX9 LC d0) (hd : 2 ≤ d0) (F : Nat) {q : Int32 × am_SS} (hret : am_retI G cX9_corner 3 q.1 q.2) (x1 : Int32) (x2 : Int32) (σ : am_SS) (h : C_corner F x1 x2 σ = some q) : am_K G 3 0 [(0, .ref (am_b G 0)), (1, .int x1), (2, .int x2)] [] σ := by
  unfold C_corner at h
  refine am_iload_n C0 dX9_corner_0 1 rfl ?_
  refine am_bipush C0 dX9_corner_1 kb_m100 ?_
  refine am_icmp_ne C0 dX9_corner_3 (tgt := 17) (by decide) (fun c_1 => ?_) (fun c_1 => ?_)
  · replace h := am_in h c_1
    refine am_iload_n C0 dX9_corner_17 1 rfl ?_
    refine am_iload_n C0 dX9_corner_18 2 rfl ?_
    refine am_callS C0 (m_C_Ways_isPoint (σ := σ) (Nat.le_refl _) x1 x2  rfl) mm_yX8_isPoint ln_RX9_311 (fun _ => rfl) (Nat.le_trans (by decide) hd) rfl (Nat.le_of_ble_eq_true rfl) dX9_corner_19 ?_
    refine am_ifB_eq C0 dX9_corner_22 (tgt := 42) (by decide) (fun c_3 => ?_) (fun c_3 => ?_)
    · replace h := am_in h c_3
      refine am_iconst C0 dX9_corner_42 ci_m1 ?_
      have e := Option.some.inj h
      subst e
      exact hret _ _ dX9_corner_43
    · replace h := am_ip h c_3
      refine am_aload_n C0 dX9_corner_25 0 rfl ?_
      refine am_getR C0 (j := 1) ff_RX9_10 (loC_6_0 kC0).1 (loC_6_0 kC0).2.1 (loC_6_0 kC0).2.2.1 (loC_6_0 kC0).2.2.2 dX9_corner_26 ?_
      refine am_getR C0 (j := 37) ff_RX9_308 (loC_5_11 (tgC_6_0 kC0)).1 (loC_5_11 (tgC_6_0 kC0)).2.1 (loC_5_11 (tgC_6_0 kC0)).2.2.1 (loC_5_11 (tgC_6_0 kC0)).2.2.2 dX9_corner_29 ?_
      refine am_iload_n C0 dX9_corner_32 1 rfl ?_
      refine am_iload_n C0 dX9_corner_33 2 rfl ?_
      refine am_iconst C0 dX9_corner_34 ci_0 ?_
      refine am_iconst C0 dX9_corner_35 ci_0 ?_
      obtain ⟨q_4, h_q_4, h⟩ := am_bind h
      refine am_callV C0 (m_C_Table_add (σ := σ) (Nat.le_refl _) F 37 x1 x2 0 0 (tgC_5_11 (tgC_6_0 kC0)) h_q_4) mm_yX6_add ln_RX9_258 (As := fun b => [.int x1, .int x2, .int 0, .int 0]) (fun _ => rfl) (fun _ => rfl) (loC_4_0 (tgC_5_11 (tgC_6_0 kC0))).1 (loC_4_0 (tgC_5_11 (tgC_6_0 kC0))).2.1 rfl (Nat.le_trans (by decide) hd) rfl (Nat.le_of_ble_eq_true rfl) dX9_corner_36 ?_
      refine am_goto C0 dX9_corner_39 (tgt := 43) (by decide) ?_
      have e := Option.some.inj h
      subst e
      exact hret _ _ dX9_corner_43
  · replace h := am_ip h c_1
    refine am_aload_n C0 dX9_corner_6 0 rfl ?_
    refine am_getR C0 (j := 1) ff_RX9_10 (loC_6_0 kC0).1 (loC_6_0 kC0).2.1 (loC_6_0 kC0).2.2.1 (loC_6_0 kC0).2.2.2 dX9_corner_7 ?_
    refine am_getR C0 (j := 37) ff_RX9_308 (loC_5_11 (tgC_6_0 kC0)).1 (loC_5_11 (tgC_6_0 kC0)).2.1 (loC_5_11 (tgC_6_0 kC0)).2.2.1 (loC_5_11 (tgC_6_0 kC0)).2.2.2 dX9_corner_10 ?_
    obtain ⟨q_5, h_q_5, h⟩ := am_lt h
    refine am_callV C0 (m_C_Table_clear (σ := σ) (Nat.le_refl _) 37 (tgC_5_11 (tgC_6_0 kC0)) h_q_5) mm_yX6_clear ln_RX9_250 (As := fun b => []) (fun _ => rfl) (fun _ => rfl) (loC_4_0 (tgC_5_11 (tgC_6_0 kC0))).1 (loC_4_0 (tgC_5_11 (tgC_6_0 kC0))).2.1 rfl (Nat.le_trans (by decide) hd) rfl (Nat.le_of_ble_eq_true rfl) dX9_corner_13 ?_
    have e := Option.some.inj h
    subst e
    exact hret _ _ dX9_corner_16
set_option maxRecDepth 100000 in
set_option maxHeartbeats 4000000 in
theorem m_C_corner {l : Launch} {d : Nat} {σ : am_SS} {q : Int32 × am_SS} (hd : 2 ≤ d) (F : Nat) (x1 : Int32) (x2 : Int32) (h : C_corner F x1 x2 σ = some q) : am_Met l yX9_corner cX9_corner 3 (some .int) d 0 0 LC (fun b => [.ref (b 0), .int x1, .int x2]) σ (some (.int q.1)) q.2 :=
  am_metI (plainFor_of_name (by decide)) rfl (lv := fun b => [(0, .ref (b 0)), (1, .int x1), (2, .int x2)]) (fun _ => rfl) (fun _ => Nat.le_of_ble_eq_true rfl) (fun G C0 _ hret => k_C_corner C0 hd F hret x1 x2 σ  h)
