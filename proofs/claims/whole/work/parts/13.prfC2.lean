set_option maxRecDepth 100000 in
set_option maxHeartbeats 4000000 in
theorem k_C_Reader_comparison_o_p20 {G : am_T} {d0 : Nat} (C0 : am_C G cX4_comparison 5 RX4 LC d0) (hd : 5 ≤ d0) {dR : Nat} (hdR : dR + 1 ≤ d0) (R_comparison : Nat → Int32 → am_SS → Option (Bool × am_SS)) (R_condition : Nat → Int32 → am_SS → Option (Bool × am_SS)) (hR_comparison : ∀ (a0 : Nat) (y1 : Int32) (σ : am_SS) (q : Bool × am_SS), LC.1 a0 = 5 → R_comparison a0 y1 σ = some q → am_Met (am_l G) yX4_comparison cX4_comparison 5 (some .boolean) dR 0 0 LC (fun b => [.ref (b a0), .int y1]) σ (some (.int (am_bI q.1))) q.2) (hR_condition : ∀ (a0 : Nat) (y1 : Int32) (σ : am_SS) (q : Bool × am_SS), LC.1 a0 = 5 → R_condition a0 y1 σ = some q → am_Met (am_l G) yX4_condition cX4_condition 5 (some .boolean) dR 0 0 LC (fun b => [.ref (b a0), .int y1]) σ (some (.int (am_bI q.1))) q.2) (F : Nat) {q : Bool × am_SS} (hret : am_retI G cX4_comparison 5 (am_bI q.1) q.2) (a0 : Nat) (x1 : Int32) (x2 : Bool) (σ : am_SS) (ha0 : LC.1 a0 = 5) (h : C_Reader_comparison_o_p20 R_comparison R_condition F a0 x1 x2 σ = some q) : am_K G 5 20 [(0, .ref (am_b G a0)), (1, .int x1), (2, .int (am_bI x2))] [] σ := by
  unfold C_Reader_comparison_o_p20 at h
  refine am_iload_n C0 dX4_comparison_20 1 rfl ?_
  refine am_bipush C0 dX4_comparison_21 kb_8 ?_
  refine am_icmp_lt C0 dX4_comparison_23 (tgt := 36) (by decide) (fun c_1 => ?_) (fun c_1 => ?_)
  · replace h := am_ip h c_1
    refine am_aload_n C0 dX4_comparison_36 0 rfl ?_
    refine am_dup C0 dX4_comparison_37 rfl ?_
    refine am_getI C0 ff_RX4_28 (loC_3_5 ha0).1 (loC_3_5 ha0).2.1 (loC_3_5 ha0).2.2.1 (loC_3_5 ha0).2.2.2 dX4_comparison_38 ?_
    refine am_iconst C0 dX4_comparison_41 ci_1 ?_
    refine am_iadd C0 dX4_comparison_42 ?_
    obtain ⟨σ_2, e_σ_2, h⟩ := am_lt h
    refine am_putI C0 e_σ_2 fp_RX4_28 (loC_3_5 ha0).1 (loC_3_5 ha0).2.1 (loC_3_5 ha0).2.2.1 (loC_3_5 ha0).2.2.2 rfl rfl dX4_comparison_43 ?_
    refine am_iload_n C0 dX4_comparison_46 2 rfl ?_
    refine am_ifB_ne C0 dX4_comparison_47 (tgt := 75) (by decide) (fun c_3 => ?_) (fun c_3 => ?_)
    · replace h := am_ip h c_3
      refine am_aload_n C0 dX4_comparison_75 0 rfl ?_
      refine am_iload_n C0 dX4_comparison_76 1 rfl ?_
      refine am_iconst C0 dX4_comparison_77 ci_1 ?_
      refine am_iadd C0 dX4_comparison_78 ?_
      obtain ⟨q_4, h_q_4, h⟩ := am_bind h
      refine am_callV C0 (hR_comparison a0 (x1 + 1) σ_2 _ ha0 h_q_4) mm_yX4_comparison ln_RX4_127 (As := fun b => [.int (x1 + 1)]) (fun _ => rfl) (fun _ => rfl) (loC_3_0 ha0).1 (loC_3_0 ha0).2.1 rfl hdR rfl (Nat.le_of_ble_eq_true rfl) dX4_comparison_79 ?_
      refine am_istore_n C0 dX4_comparison_82 rfl (by decide) rfl (lv' := [(0, .ref (am_b G a0)), (1, .int x1), (2, .int (am_bI x2)), (3, .int (am_bI q_4.1))]) rfl ?_
      refine am_aload_n C0 dX4_comparison_83 0 rfl ?_
      refine am_getR C0 (j := a0 + 5) ff_RX4_43 (loC_3_9 ha0).1 (loC_3_9 ha0).2.1 (loC_3_9 ha0).2.2.1 (loC_3_9 ha0).2.2.2 dX4_comparison_84 ?_
      refine am_getR C0 (j := a0 + 5 + 3) ff_RX4_105 (loC_1_1 (tgC_3_9 ha0)).1 (loC_1_1 (tgC_3_9 ha0)).2.1 (loC_1_1 (tgC_3_9 ha0)).2.2.1 (loC_1_1 (tgC_3_9 ha0)).2.2.2 dX4_comparison_87 ?_
      refine am_bipush C0 dX4_comparison_90 kb_6 ?_
      refine am_iconst C0 dX4_comparison_92 ci_0 ?_
      refine am_iconst C0 dX4_comparison_93 ci_0 ?_
      refine am_iconst C0 dX4_comparison_94 ci_0 ?_
      obtain ⟨q_5, h_q_5, h⟩ := am_bind h
      refine am_callV C0 (m_C_Table_add (σ := q_4.2) (Nat.le_refl _) F (a0 + 5 + 3) 6 0 0 0 (tgC_1_1 (tgC_3_9 ha0)) h_q_5) mm_yX6_add ln_RX4_123 (As := fun b => [.int 6, .int 0, .int 0, .int 0]) (fun _ => rfl) (fun _ => rfl) (loC_4_0 (tgC_1_1 (tgC_3_9 ha0))).1 (loC_4_0 (tgC_1_1 (tgC_3_9 ha0))).2.1 rfl (Nat.le_trans (by decide) hd) rfl (Nat.le_of_ble_eq_true rfl) dX4_comparison_95 ?_
      refine am_pop C0 dX4_comparison_98 rfl ?_
      refine am_iload_n C0 dX4_comparison_99 3 rfl ?_
      have e := Option.some.inj h
      subst e
      exact hret _ _ dX4_comparison_100
    · replace h := am_in h c_3
      refine am_aload_n C0 dX4_comparison_50 0 rfl ?_
      refine am_iload_n C0 dX4_comparison_51 1 rfl ?_
      refine am_iconst C0 dX4_comparison_52 ci_1 ?_
      refine am_iadd C0 dX4_comparison_53 ?_
      obtain ⟨q_6, h_q_6, h⟩ := am_bind h
      refine am_callV C0 (hR_condition a0 (x1 + 1) σ_2 _ ha0 h_q_6) mm_yX4_condition ln_RX4_114 (As := fun b => [.int (x1 + 1)]) (fun _ => rfl) (fun _ => rfl) (loC_3_0 ha0).1 (loC_3_0 ha0).2.1 rfl hdR rfl (Nat.le_of_ble_eq_true rfl) dX4_comparison_54 ?_
      refine am_ifB_eq C0 dX4_comparison_57 (tgt := 73) (by decide) (fun c_7 => ?_) (fun c_7 => ?_)
      · replace h := am_in h c_7
        refine am_iconst C0 dX4_comparison_73 ci_0 ?_
        have e := Option.some.inj h
        subst e
        exact hret _ _ dX4_comparison_74
      · replace h := am_ip h c_7
        refine am_aload_n C0 dX4_comparison_60 0 rfl ?_
        refine am_bipush C0 dX4_comparison_61 kb_41 ?_
        obtain ⟨q_8, h_q_8, h⟩ := am_bind h
        refine am_callV C0 (m_C_Reader_sign (σ := q_6.2) (Nat.le_refl _) a0 41 ha0 h_q_8) mm_yX4_sign ln_RX4_117 (As := fun b => [.int 41]) (fun _ => rfl) (fun _ => rfl) (loC_3_0 ha0).1 (loC_3_0 ha0).2.1 rfl (Nat.le_trans (by decide) hd) rfl (Nat.le_of_ble_eq_true rfl) dX4_comparison_63 ?_
        refine am_ifB_eq C0 dX4_comparison_66 (tgt := 73) (by decide) (fun c_9 => ?_) (fun c_9 => ?_)
        · replace h := am_in h c_9
          refine am_iconst C0 dX4_comparison_73 ci_0 ?_
          have e := Option.some.inj h
          subst e
          exact hret _ _ dX4_comparison_74
        · replace h := am_ip h c_9
          refine am_iconst C0 dX4_comparison_69 ci_1 ?_
          refine am_goto C0 dX4_comparison_70 (tgt := 74) (by decide) ?_
          have e := Option.some.inj h
          subst e
          exact hret _ _ dX4_comparison_74
  · replace h := am_in h c_1
    refine am_aload_n C0 dX4_comparison_26 0 rfl ?_
    refine am_iconst C0 dX4_comparison_27 ci_3 ?_
    refine am_aload_n C0 dX4_comparison_28 0 rfl ?_
    refine am_getI C0 ff_RX4_28 (loC_3_5 ha0).1 (loC_3_5 ha0).2.1 (loC_3_5 ha0).2.2.1 (loC_3_5 ha0).2.2.2 dX4_comparison_29 ?_
    obtain ⟨q_10, h_q_10, h⟩ := am_bind h
    refine am_callV C0 (m_C_Reader_fail (σ := σ) (Nat.le_refl _) a0 3 (σ a0 5) ha0 h_q_10) mm_yX4_fail ln_RX4_91 (As := fun b => [.int 3, .int (σ a0 5)]) (fun _ => rfl) (fun _ => rfl) (loC_3_0 ha0).1 (loC_3_0 ha0).2.1 rfl (Nat.le_trans (by decide) hd) rfl (Nat.le_of_ble_eq_true rfl) dX4_comparison_32 ?_
    have e := Option.some.inj h
    subst e
    exact hret _ _ dX4_comparison_35
set_option maxRecDepth 100000 in
set_option maxHeartbeats 4000000 in
theorem k_C_Reader_comparison_o_p147 {G : am_T} {d0 : Nat} (C0 : am_C G cX4_comparison 5 RX4 LC d0) (hd : 5 ≤ d0) {dR : Nat} (hdR : dR + 1 ≤ d0) (R_comparison : Nat → Int32 → am_SS → Option (Bool × am_SS)) (R_condition : Nat → Int32 → am_SS → Option (Bool × am_SS)) (hR_comparison : ∀ (a0 : Nat) (y1 : Int32) (σ : am_SS) (q : Bool × am_SS), LC.1 a0 = 5 → R_comparison a0 y1 σ = some q → am_Met (am_l G) yX4_comparison cX4_comparison 5 (some .boolean) dR 0 0 LC (fun b => [.ref (b a0), .int y1]) σ (some (.int (am_bI q.1))) q.2) (hR_condition : ∀ (a0 : Nat) (y1 : Int32) (σ : am_SS) (q : Bool × am_SS), LC.1 a0 = 5 → R_condition a0 y1 σ = some q → am_Met (am_l G) yX4_condition cX4_condition 5 (some .boolean) dR 0 0 LC (fun b => [.ref (b a0), .int y1]) σ (some (.int (am_bI q.1))) q.2) (F : Nat) {q : Bool × am_SS} (hret : am_retI G cX4_comparison 5 (am_bI q.1) q.2) (a0 : Nat) (σ : am_SS) (ha0 : LC.1 a0 = 5) (h : C_Reader_comparison_o_p147 R_comparison R_condition F a0 σ = some q) : am_K G 5 147 [(0, .ref (am_b G a0))] [] σ := by
  unfold C_Reader_comparison_o_p147 at h
  refine am_aload_n C0 dX4_comparison_147 0 rfl ?_
  obtain ⟨q_1, h_q_1, h⟩ := am_bind h
  refine am_callV C0 (m_C_Reader_value (σ := σ) (Nat.le_refl _) a0 ha0 h_q_1) mm_yX4_value ln_RX4_84 (As := fun b => []) (fun _ => rfl) (fun _ => rfl) (loC_3_0 ha0).1 (loC_3_0 ha0).2.1 rfl (Nat.le_trans (by decide) hd) rfl (Nat.le_of_ble_eq_true rfl) dX4_comparison_148 ?_
  refine am_istore_n C0 dX4_comparison_151 rfl (by decide) rfl (lv' := [(0, .ref (am_b G a0)), (3, .int q_1)]) rfl ?_
  refine am_aload_n C0 dX4_comparison_152 0 rfl ?_
  refine am_dup C0 dX4_comparison_153 rfl ?_
  refine am_getI C0 ff_RX4_28 (loC_3_5 ha0).1 (loC_3_5 ha0).2.1 (loC_3_5 ha0).2.2.1 (loC_3_5 ha0).2.2.2 dX4_comparison_154 ?_
  refine am_iconst C0 dX4_comparison_157 ci_1 ?_
  refine am_iadd C0 dX4_comparison_158 ?_
  obtain ⟨σ_2, e_σ_2, h⟩ := am_lt h
  refine am_putI C0 e_σ_2 fp_RX4_28 (loC_3_5 ha0).1 (loC_3_5 ha0).2.1 (loC_3_5 ha0).2.2.1 (loC_3_5 ha0).2.2.2 rfl rfl dX4_comparison_159 ?_
  refine am_aload_n C0 dX4_comparison_162 0 rfl ?_
  obtain ⟨q_3, h_q_3, h⟩ := am_bind h
  refine am_callV C0 (m_C_Reader_sum (σ := σ_2) (Nat.le_refl _) F a0 ha0 h_q_3) mm_yX4_sum ln_RX4_110 (As := fun b => []) (fun _ => rfl) (fun _ => rfl) (loC_3_0 ha0).1 (loC_3_0 ha0).2.1 rfl (Nat.le_trans (by decide) hd) rfl (Nat.le_of_ble_eq_true rfl) dX4_comparison_163 ?_
  refine am_istore C0 dX4_comparison_166 (by decide) rfl (lv' := [(0, .ref (am_b G a0)), (3, .int q_1), (4, .int (am_bI q_3.1))]) rfl ?_
  refine am_aload_n C0 dX4_comparison_168 0 rfl ?_
  refine am_getR C0 (j := a0 + 5) ff_RX4_43 (loC_3_9 ha0).1 (loC_3_9 ha0).2.1 (loC_3_9 ha0).2.2.1 (loC_3_9 ha0).2.2.2 dX4_comparison_169 ?_
  refine am_getR C0 (j := a0 + 5 + 3) ff_RX4_105 (loC_1_1 (tgC_3_9 ha0)).1 (loC_1_1 (tgC_3_9 ha0)).2.1 (loC_1_1 (tgC_3_9 ha0)).2.2.1 (loC_1_1 (tgC_3_9 ha0)).2.2.2 dX4_comparison_172 ?_
  refine am_iload_n C0 dX4_comparison_175 1 rfl ?_
  refine am_iconst C0 dX4_comparison_176 ci_0 ?_
  refine am_iconst C0 dX4_comparison_177 ci_0 ?_
  refine am_iconst C0 dX4_comparison_178 ci_0 ?_
  obtain ⟨q_4, h_q_4, h⟩ := am_bind h
  refine am_callV C0 (m_C_Table_add (σ := q_3.2) (Nat.le_refl _) F (a0 + 5 + 3) q_1 0 0 0 (tgC_1_1 (tgC_3_9 ha0)) h_q_4) mm_yX6_add ln_RX4_123 (As := fun b => [.int q_1, .int 0, .int 0, .int 0]) (fun _ => rfl) (fun _ => rfl) (loC_4_0 (tgC_1_1 (tgC_3_9 ha0))).1 (loC_4_0 (tgC_1_1 (tgC_3_9 ha0))).2.1 rfl (Nat.le_trans (by decide) hd) rfl (Nat.le_of_ble_eq_true rfl) dX4_comparison_179 ?_
  refine am_pop C0 dX4_comparison_182 rfl ?_
  refine am_iload C0 dX4_comparison_183 2 rfl ?_
  have e := Option.some.inj h
  subst e
  exact hret _ _ dX4_comparison_185
set_option maxRecDepth 100000 in
set_option maxHeartbeats 4000000 in
theorem k_C_Reader_comparison_o {G : am_T} {d0 : Nat} (C0 : am_C G cX4_comparison 5 RX4 LC d0) (hd : 5 ≤ d0) {dR : Nat} (hdR : dR + 1 ≤ d0) (R_comparison : Nat → Int32 → am_SS → Option (Bool × am_SS)) (R_condition : Nat → Int32 → am_SS → Option (Bool × am_SS)) (hR_comparison : ∀ (a0 : Nat) (y1 : Int32) (σ : am_SS) (q : Bool × am_SS), LC.1 a0 = 5 → R_comparison a0 y1 σ = some q → am_Met (am_l G) yX4_comparison cX4_comparison 5 (some .boolean) dR 0 0 LC (fun b => [.ref (b a0), .int y1]) σ (some (.int (am_bI q.1))) q.2) (hR_condition : ∀ (a0 : Nat) (y1 : Int32) (σ : am_SS) (q : Bool × am_SS), LC.1 a0 = 5 → R_condition a0 y1 σ = some q → am_Met (am_l G) yX4_condition cX4_condition 5 (some .boolean) dR 0 0 LC (fun b => [.ref (b a0), .int y1]) σ (some (.int (am_bI q.1))) q.2) (F : Nat) {q : Bool × am_SS} (hret : am_retI G cX4_comparison 5 (am_bI q.1) q.2) (a0 : Nat) (x1 : Int32) (σ : am_SS) (ha0 : LC.1 a0 = 5) (h : C_Reader_comparison_o R_comparison R_condition F a0 x1 σ = some q) : am_K G 5 0 [(0, .ref (am_b G a0)), (1, .int x1)] [] σ := by
  unfold C_Reader_comparison_o at h
  refine am_aload_n C0 dX4_comparison_0 0 rfl ?_
  refine am_bipush C0 dX4_comparison_1 kb_6 ?_
  obtain ⟨q_1, h_q_1, h⟩ := am_bind h
  refine am_callV C0 (m_C_Reader_isWord (σ := σ) (Nat.le_refl _) a0 6 ha0 h_q_1) mm_yX4_isWord ln_RX4_95 (As := fun b => [.int 6]) (fun _ => rfl) (fun _ => rfl) (loC_3_0 ha0).1 (loC_3_0 ha0).2.1 rfl (Nat.le_trans (by decide) hd) rfl (Nat.le_of_ble_eq_true rfl) dX4_comparison_3 ?_
  refine am_istore_n C0 dX4_comparison_6 rfl (by decide) rfl (lv' := [(0, .ref (am_b G a0)), (1, .int x1), (2, .int (am_bI q_1))]) rfl ?_
  refine am_iload_n C0 dX4_comparison_7 2 rfl ?_
  refine am_ifB_ne C0 dX4_comparison_8 (tgt := 20) (by decide) (fun c_2 => ?_) (fun c_2 => ?_)
  · replace h := am_ip h c_2
    exact am_sub [0, 1, 2] rfl (k_C_Reader_comparison_o_p20 C0 hd hdR R_comparison R_condition hR_comparison hR_condition F hret a0 x1 q_1 σ ha0 h)
  · replace h := am_in h c_2
    refine am_aload_n C0 dX4_comparison_11 0 rfl ?_
    refine am_bipush C0 dX4_comparison_12 kb_40 ?_
    obtain ⟨q_3, h_q_3, h⟩ := am_bind h
    refine am_callV C0 (m_C_Reader_isSign (σ := σ) (Nat.le_refl _) a0 40 ha0 h_q_3) mm_yX4_isSign ln_RX4_87 (As := fun b => [.int 40]) (fun _ => rfl) (fun _ => rfl) (loC_3_0 ha0).1 (loC_3_0 ha0).2.1 rfl (Nat.le_trans (by decide) hd) rfl (Nat.le_of_ble_eq_true rfl) dX4_comparison_14 ?_
    refine am_ifB_eq C0 dX4_comparison_17 (tgt := 101) (by decide) (fun c_4 => ?_) (fun c_4 => ?_)
    · replace h := am_in h c_4
      refine am_aload_n C0 dX4_comparison_101 0 rfl ?_
      obtain ⟨q_5, h_q_5, h⟩ := am_bind h
      refine am_callV C0 (m_C_Reader_sum (σ := σ) (Nat.le_refl _) F a0 ha0 h_q_5) mm_yX4_sum ln_RX4_110 (As := fun b => []) (fun _ => rfl) (fun _ => rfl) (loC_3_0 ha0).1 (loC_3_0 ha0).2.1 rfl (Nat.le_trans (by decide) hd) rfl (Nat.le_of_ble_eq_true rfl) dX4_comparison_102 ?_
      refine am_ifB_ne C0 dX4_comparison_105 (tgt := 110) (by decide) (fun c_6 => ?_) (fun c_6 => ?_)
      · replace h := am_ip h c_6
        refine am_aload_n C0 dX4_comparison_110 0 rfl ?_
        refine am_bipush C0 dX4_comparison_111 kb_60 ?_
        obtain ⟨q_7, h_q_7, h⟩ := am_bind h
        refine am_callV C0 (m_C_Reader_isSign (σ := q_5.2) (Nat.le_refl _) a0 60 ha0 h_q_7) mm_yX4_isSign ln_RX4_87 (As := fun b => [.int 60]) (fun _ => rfl) (fun _ => rfl) (loC_3_0 ha0).1 (loC_3_0 ha0).2.1 rfl (Nat.le_trans (by decide) hd) rfl (Nat.le_of_ble_eq_true rfl) dX4_comparison_113 ?_
        refine am_ifB_ne C0 dX4_comparison_116 (tgt := 147) (by decide) (fun c_8 => ?_) (fun c_8 => ?_)
        · replace h := am_ip h c_8
          exact am_sub [0] rfl (k_C_Reader_comparison_o_p147 C0 hd hdR R_comparison R_condition hR_comparison hR_condition F hret a0 q_5.2 ha0 h)
        · replace h := am_in h c_8
          refine am_aload_n C0 dX4_comparison_119 0 rfl ?_
          refine am_bipush C0 dX4_comparison_120 kb_61 ?_
          obtain ⟨q_9, h_q_9, h⟩ := am_bind h
          refine am_callV C0 (m_C_Reader_isSign (σ := q_5.2) (Nat.le_refl _) a0 61 ha0 h_q_9) mm_yX4_isSign ln_RX4_87 (As := fun b => [.int 61]) (fun _ => rfl) (fun _ => rfl) (loC_3_0 ha0).1 (loC_3_0 ha0).2.1 rfl (Nat.le_trans (by decide) hd) rfl (Nat.le_of_ble_eq_true rfl) dX4_comparison_122 ?_
          refine am_ifB_ne C0 dX4_comparison_125 (tgt := 147) (by decide) (fun c_10 => ?_) (fun c_10 => ?_)
          · replace h := am_ip h c_10
            exact am_sub [0] rfl (k_C_Reader_comparison_o_p147 C0 hd hdR R_comparison R_condition hR_comparison hR_condition F hret a0 q_5.2 ha0 h)
          · replace h := am_in h c_10
            refine am_aload_n C0 dX4_comparison_128 0 rfl ?_
            refine am_bipush C0 dX4_comparison_129 kb_62 ?_
            obtain ⟨q_11, h_q_11, h⟩ := am_bind h
            refine am_callV C0 (m_C_Reader_isSign (σ := q_5.2) (Nat.le_refl _) a0 62 ha0 h_q_11) mm_yX4_isSign ln_RX4_87 (As := fun b => [.int 62]) (fun _ => rfl) (fun _ => rfl) (loC_3_0 ha0).1 (loC_3_0 ha0).2.1 rfl (Nat.le_trans (by decide) hd) rfl (Nat.le_of_ble_eq_true rfl) dX4_comparison_131 ?_
            refine am_ifB_ne C0 dX4_comparison_134 (tgt := 147) (by decide) (fun c_12 => ?_) (fun c_12 => ?_)
            · replace h := am_ip h c_12
              exact am_sub [0] rfl (k_C_Reader_comparison_o_p147 C0 hd hdR R_comparison R_condition hR_comparison hR_condition F hret a0 q_5.2 ha0 h)
            · replace h := am_in h c_12
              refine am_aload_n C0 dX4_comparison_137 0 rfl ?_
              refine am_iconst C0 dX4_comparison_138 ci_1 ?_
              refine am_aload_n C0 dX4_comparison_139 0 rfl ?_
              refine am_getI C0 ff_RX4_28 (loC_3_5 ha0).1 (loC_3_5 ha0).2.1 (loC_3_5 ha0).2.2.1 (loC_3_5 ha0).2.2.2 dX4_comparison_140 ?_
              obtain ⟨q_13, h_q_13, h⟩ := am_bind h
              refine am_callV C0 (m_C_Reader_fail (σ := q_5.2) (Nat.le_refl _) a0 1 (q_5.2 a0 5) ha0 h_q_13) mm_yX4_fail ln_RX4_91 (As := fun b => [.int 1, .int (q_5.2 a0 5)]) (fun _ => rfl) (fun _ => rfl) (loC_3_0 ha0).1 (loC_3_0 ha0).2.1 rfl (Nat.le_trans (by decide) hd) rfl (Nat.le_of_ble_eq_true rfl) dX4_comparison_143 ?_
              have e := Option.some.inj h
              subst e
              exact hret _ _ dX4_comparison_146
      · replace h := am_in h c_6
        refine am_iconst C0 dX4_comparison_108 ci_0 ?_
        have e := Option.some.inj h
        subst e
        exact hret _ _ dX4_comparison_109
    · replace h := am_ip h c_4
      exact am_sub [0, 1, 2] rfl (k_C_Reader_comparison_o_p20 C0 hd hdR R_comparison R_condition hR_comparison hR_condition F hret a0 x1 q_1 σ ha0 h)
set_option maxRecDepth 100000 in
set_option maxHeartbeats 4000000 in
theorem k_C_Reader_condition_o_p85 {G : am_T} {d0 : Nat} (C0 : am_C G cX4_condition 5 RX4 LC d0) (hd : 5 ≤ d0) {dR : Nat} (hdR : dR + 1 ≤ d0) (R_comparison : Nat → Int32 → am_SS → Option (Bool × am_SS)) (R_condition : Nat → Int32 → am_SS → Option (Bool × am_SS)) (hR_comparison : ∀ (a0 : Nat) (y1 : Int32) (σ : am_SS) (q : Bool × am_SS), LC.1 a0 = 5 → R_comparison a0 y1 σ = some q → am_Met (am_l G) yX4_comparison cX4_comparison 5 (some .boolean) dR 0 0 LC (fun b => [.ref (b a0), .int y1]) σ (some (.int (am_bI q.1))) q.2) (hR_condition : ∀ (a0 : Nat) (y1 : Int32) (σ : am_SS) (q : Bool × am_SS), LC.1 a0 = 5 → R_condition a0 y1 σ = some q → am_Met (am_l G) yX4_condition cX4_condition 5 (some .boolean) dR 0 0 LC (fun b => [.ref (b a0), .int y1]) σ (some (.int (am_bI q.1))) q.2) (rec7 : Nat → Int32 → Bool → Bool → Int32 → am_SS → Option (Bool × am_SS)) (F : Nat) {q : Bool × am_SS} (hret : am_retI G cX4_condition 5 (am_bI q.1) q.2) (hrec7 : ∀ (a0 : Nat) (x1 : Int32) (x2 : Bool) (x3 : Bool) (x4 : Int32) (σ : am_SS), LC.1 a0 = 5 → rec7 a0 x1 x2 x3 x4 σ = some q → am_K G 5 7 [(0, .ref (am_b G a0)), (1, .int x1), (2, .int (am_bI x2)), (3, .int (am_bI x3)), (4, .int x4)] [] σ) (a0 : Nat) (x1 : Int32) (x2 : Bool) (x3 : Bool) (x4 : Int32) (σ : am_SS) (ha0 : LC.1 a0 = 5) (h : C_Reader_condition_o_p85 R_comparison R_condition rec7 F a0 x1 x2 x3 x4 σ = some q) : am_K G 5 85 [(0, .ref (am_b G a0)), (1, .int x1), (2, .int (am_bI x2)), (3, .int (am_bI x3)), (4, .int x4)] [] σ := by
  unfold C_Reader_condition_o_p85 at h
  refine am_aload_n C0 dX4_condition_85 0 rfl ?_
  refine am_dup C0 dX4_condition_86 rfl ?_
  refine am_getI C0 ff_RX4_28 (loC_3_5 ha0).1 (loC_3_5 ha0).2.1 (loC_3_5 ha0).2.2.1 (loC_3_5 ha0).2.2.2 dX4_condition_87 ?_
  refine am_iconst C0 dX4_condition_90 ci_1 ?_
  refine am_iadd C0 dX4_condition_91 ?_
  obtain ⟨σ_1, e_σ_1, h⟩ := am_lt h
  refine am_putI C0 e_σ_1 fp_RX4_28 (loC_3_5 ha0).1 (loC_3_5 ha0).2.1 (loC_3_5 ha0).2.2.1 (loC_3_5 ha0).2.2.2 rfl rfl dX4_condition_92 ?_
  obtain ⟨x4_2, e_x4_2, h⟩ := am_lt h
  refine am_iinc C0 dX4_condition_95 4 rfl (by rw [ci_1]; exact e_x4_2) (by decide) rfl (lv' := [(0, .ref (am_b G a0)), (1, .int x1), (2, .int (am_bI x2)), (3, .int (am_bI x3)), (4, .int x4_2)]) rfl ?_
  refine am_goto C0 dX4_condition_98 (tgt := 7) (by decide) ?_
  exact am_sub [0, 1, 2, 3, 4] rfl (hrec7 a0 x1 x2 x3 x4_2 σ_1 ha0 h)
set_option maxRecDepth 100000 in
set_option maxHeartbeats 4000000 in
theorem k_C_Reader_condition_o_p73 {G : am_T} {d0 : Nat} (C0 : am_C G cX4_condition 5 RX4 LC d0) (hd : 5 ≤ d0) {dR : Nat} (hdR : dR + 1 ≤ d0) (R_comparison : Nat → Int32 → am_SS → Option (Bool × am_SS)) (R_condition : Nat → Int32 → am_SS → Option (Bool × am_SS)) (hR_comparison : ∀ (a0 : Nat) (y1 : Int32) (σ : am_SS) (q : Bool × am_SS), LC.1 a0 = 5 → R_comparison a0 y1 σ = some q → am_Met (am_l G) yX4_comparison cX4_comparison 5 (some .boolean) dR 0 0 LC (fun b => [.ref (b a0), .int y1]) σ (some (.int (am_bI q.1))) q.2) (hR_condition : ∀ (a0 : Nat) (y1 : Int32) (σ : am_SS) (q : Bool × am_SS), LC.1 a0 = 5 → R_condition a0 y1 σ = some q → am_Met (am_l G) yX4_condition cX4_condition 5 (some .boolean) dR 0 0 LC (fun b => [.ref (b a0), .int y1]) σ (some (.int (am_bI q.1))) q.2) (rec7 : Nat → Int32 → Bool → Bool → Int32 → am_SS → Option (Bool × am_SS)) (F : Nat) {q : Bool × am_SS} (hret : am_retI G cX4_condition 5 (am_bI q.1) q.2) (hrec7 : ∀ (a0 : Nat) (x1 : Int32) (x2 : Bool) (x3 : Bool) (x4 : Int32) (σ : am_SS), LC.1 a0 = 5 → rec7 a0 x1 x2 x3 x4 σ = some q → am_K G 5 7 [(0, .ref (am_b G a0)), (1, .int x1), (2, .int (am_bI x2)), (3, .int (am_bI x3)), (4, .int x4)] [] σ) (a0 : Nat) (x1 : Int32) (x2 : Bool) (x4 : Int32) (σ : am_SS) (ha0 : LC.1 a0 = 5) (h : C_Reader_condition_o_p73 R_comparison R_condition rec7 F a0 x1 x2 x4 σ = some q) : am_K G 5 73 [(0, .ref (am_b G a0)), (1, .int x1), (2, .int (am_bI x2)), (4, .int x4)] [] σ := by
  unfold C_Reader_condition_o_p73 at h
  refine am_aload_n C0 dX4_condition_73 0 rfl ?_
  refine am_iconst C0 dX4_condition_74 ci_4 ?_
  obtain ⟨q_1, h_q_1, h⟩ := am_bind h
  refine am_callV C0 (m_C_Reader_isWord (σ := σ) (Nat.le_refl _) a0 4 ha0 h_q_1) mm_yX4_isWord ln_RX4_95 (As := fun b => [.int 4]) (fun _ => rfl) (fun _ => rfl) (loC_3_0 ha0).1 (loC_3_0 ha0).2.1 rfl (Nat.le_trans (by decide) hd) rfl (Nat.le_of_ble_eq_true rfl) dX4_condition_75 ?_
  refine am_istore_n C0 dX4_condition_78 rfl (by decide) rfl (lv' := [(0, .ref (am_b G a0)), (1, .int x1), (2, .int (am_bI x2)), (4, .int x4), (3, .int (am_bI q_1))]) rfl ?_
  refine am_iload_n C0 dX4_condition_79 4 rfl ?_
  refine am_ifB_ne C0 dX4_condition_80 (tgt := 85) (by decide) (fun c_2 => ?_) (fun c_2 => ?_)
  · replace h := am_ip h c_2
    exact am_sub [0, 1, 2, 4, 3] rfl (k_C_Reader_condition_o_p85 C0 hd hdR R_comparison R_condition hR_comparison hR_condition rec7 F hret hrec7 a0 x1 x2 q_1 x4 σ ha0 h)
  · replace h := am_in h c_2
    refine am_iconst C0 dX4_condition_83 ci_1 ?_
    have e := Option.some.inj h
    subst e
    exact hret _ _ dX4_condition_84
set_option maxRecDepth 100000 in
set_option maxHeartbeats 4000000 in
theorem k_C_Reader_condition_o_p44 {G : am_T} {d0 : Nat} (C0 : am_C G cX4_condition 5 RX4 LC d0) (hd : 5 ≤ d0) {dR : Nat} (hdR : dR + 1 ≤ d0) (R_comparison : Nat → Int32 → am_SS → Option (Bool × am_SS)) (R_condition : Nat → Int32 → am_SS → Option (Bool × am_SS)) (hR_comparison : ∀ (a0 : Nat) (y1 : Int32) (σ : am_SS) (q : Bool × am_SS), LC.1 a0 = 5 → R_comparison a0 y1 σ = some q → am_Met (am_l G) yX4_comparison cX4_comparison 5 (some .boolean) dR 0 0 LC (fun b => [.ref (b a0), .int y1]) σ (some (.int (am_bI q.1))) q.2) (hR_condition : ∀ (a0 : Nat) (y1 : Int32) (σ : am_SS) (q : Bool × am_SS), LC.1 a0 = 5 → R_condition a0 y1 σ = some q → am_Met (am_l G) yX4_condition cX4_condition 5 (some .boolean) dR 0 0 LC (fun b => [.ref (b a0), .int y1]) σ (some (.int (am_bI q.1))) q.2) (rec7 : Nat → Int32 → Bool → Bool → Int32 → am_SS → Option (Bool × am_SS)) (F : Nat) {q : Bool × am_SS} (hret : am_retI G cX4_condition 5 (am_bI q.1) q.2) (hrec7 : ∀ (a0 : Nat) (x1 : Int32) (x2 : Bool) (x3 : Bool) (x4 : Int32) (σ : am_SS), LC.1 a0 = 5 → rec7 a0 x1 x2 x3 x4 σ = some q → am_K G 5 7 [(0, .ref (am_b G a0)), (1, .int x1), (2, .int (am_bI x2)), (3, .int (am_bI x3)), (4, .int x4)] [] σ) (a0 : Nat) (x1 : Int32) (x3 : Bool) (x4 : Int32) (σ : am_SS) (ha0 : LC.1 a0 = 5) (h : C_Reader_condition_o_p44 R_comparison R_condition rec7 F a0 x1 x3 x4 σ = some q) : am_K G 5 44 [(0, .ref (am_b G a0)), (1, .int x1), (3, .int (am_bI x3)), (4, .int x4)] [] σ := by
  unfold C_Reader_condition_o_p44 at h
  refine am_aload_n C0 dX4_condition_44 0 rfl ?_
  refine am_iconst C0 dX4_condition_45 ci_5 ?_
  obtain ⟨q_1, h_q_1, h⟩ := am_bind h
  refine am_callV C0 (m_C_Reader_isWord (σ := σ) (Nat.le_refl _) a0 5 ha0 h_q_1) mm_yX4_isWord ln_RX4_95 (As := fun b => [.int 5]) (fun _ => rfl) (fun _ => rfl) (loC_3_0 ha0).1 (loC_3_0 ha0).2.1 rfl (Nat.le_trans (by decide) hd) rfl (Nat.le_of_ble_eq_true rfl) dX4_condition_46 ?_
  refine am_istore_n C0 dX4_condition_49 rfl (by decide) rfl (lv' := [(0, .ref (am_b G a0)), (1, .int x1), (3, .int (am_bI x3)), (4, .int x4), (2, .int (am_bI q_1))]) rfl ?_
  refine am_iload_n C0 dX4_condition_50 4 rfl ?_
  refine am_ifB_ne C0 dX4_condition_51 (tgt := 85) (by decide) (fun c_2 => ?_) (fun c_2 => ?_)
  · replace h := am_ip h c_2
    exact am_sub [0, 1, 4, 2, 3] rfl (k_C_Reader_condition_o_p85 C0 hd hdR R_comparison R_condition hR_comparison hR_condition rec7 F hret hrec7 a0 x1 q_1 x3 x4 σ ha0 h)
  · replace h := am_in h c_2
    refine am_iload_n C0 dX4_condition_54 2 rfl ?_
    refine am_ifB_eq C0 dX4_condition_55 (tgt := 73) (by decide) (fun c_3 => ?_) (fun c_3 => ?_)
    · replace h := am_in h c_3
      exact am_sub [0, 1, 4, 3] rfl (k_C_Reader_condition_o_p73 C0 hd hdR R_comparison R_condition hR_comparison hR_condition rec7 F hret hrec7 a0 x1 q_1 x4 σ ha0 h)
    · replace h := am_ip h c_3
      refine am_aload_n C0 dX4_condition_58 0 rfl ?_
      refine am_getR C0 (j := a0 + 5) ff_RX4_43 (loC_3_9 ha0).1 (loC_3_9 ha0).2.1 (loC_3_9 ha0).2.2.1 (loC_3_9 ha0).2.2.2 dX4_condition_59 ?_
      refine am_getR C0 (j := a0 + 5 + 3) ff_RX4_105 (loC_1_1 (tgC_3_9 ha0)).1 (loC_1_1 (tgC_3_9 ha0)).2.1 (loC_1_1 (tgC_3_9 ha0)).2.2.1 (loC_1_1 (tgC_3_9 ha0)).2.2.2 dX4_condition_62 ?_
      refine am_iconst C0 dX4_condition_65 ci_4 ?_
      refine am_iconst C0 dX4_condition_66 ci_0 ?_
      refine am_iconst C0 dX4_condition_67 ci_0 ?_
      refine am_iconst C0 dX4_condition_68 ci_0 ?_
      obtain ⟨q_4, h_q_4, h⟩ := am_bind h
      refine am_callV C0 (m_C_Table_add (σ := σ) (Nat.le_refl _) F (a0 + 5 + 3) 4 0 0 0 (tgC_1_1 (tgC_3_9 ha0)) h_q_4) mm_yX6_add ln_RX4_123 (As := fun b => [.int 4, .int 0, .int 0, .int 0]) (fun _ => rfl) (fun _ => rfl) (loC_4_0 (tgC_1_1 (tgC_3_9 ha0))).1 (loC_4_0 (tgC_1_1 (tgC_3_9 ha0))).2.1 rfl (Nat.le_trans (by decide) hd) rfl (Nat.le_of_ble_eq_true rfl) dX4_condition_69 ?_
      refine am_pop C0 dX4_condition_72 rfl ?_
      exact am_sub [0, 1, 4, 3] rfl (k_C_Reader_condition_o_p73 C0 hd hdR R_comparison R_condition hR_comparison hR_condition rec7 F hret hrec7 a0 x1 q_1 x4 q_4.2 ha0 h)
set_option maxRecDepth 100000 in
set_option maxHeartbeats 4000000 in
theorem k_C_Reader_condition_o_l7 {G : am_T} {d0 : Nat} (C0 : am_C G cX4_condition 5 RX4 LC d0) (hd : 5 ≤ d0) {dR : Nat} (hdR : dR + 1 ≤ d0) (R_comparison : Nat → Int32 → am_SS → Option (Bool × am_SS)) (R_condition : Nat → Int32 → am_SS → Option (Bool × am_SS)) (hR_comparison : ∀ (a0 : Nat) (y1 : Int32) (σ : am_SS) (q : Bool × am_SS), LC.1 a0 = 5 → R_comparison a0 y1 σ = some q → am_Met (am_l G) yX4_comparison cX4_comparison 5 (some .boolean) dR 0 0 LC (fun b => [.ref (b a0), .int y1]) σ (some (.int (am_bI q.1))) q.2) (hR_condition : ∀ (a0 : Nat) (y1 : Int32) (σ : am_SS) (q : Bool × am_SS), LC.1 a0 = 5 → R_condition a0 y1 σ = some q → am_Met (am_l G) yX4_condition cX4_condition 5 (some .boolean) dR 0 0 LC (fun b => [.ref (b a0), .int y1]) σ (some (.int (am_bI q.1))) q.2) (F : Nat) {q : Bool × am_SS} (hret : am_retI G cX4_condition 5 (am_bI q.1) q.2) : ∀ (n : Nat) (a0 : Nat) (x1 : Int32) (x2 : Bool) (x3 : Bool) (x4 : Int32) (σ : am_SS) (ha0 : LC.1 a0 = 5) (h : C_Reader_condition_o_l7 R_comparison R_condition F n a0 x1 x2 x3 x4 σ = some q), am_K G 5 7 [(0, .ref (am_b G a0)), (1, .int x1), (2, .int (am_bI x2)), (3, .int (am_bI x3)), (4, .int x4)] [] σ := by
  intro n
  induction n with
  | zero =>
    intro a0 x1 x2 x3 x4 σ ha0 h
    rw [C_Reader_condition_o_l7] at h
    cases h
  | succ n ih =>
    intro a0 x1 x2 x3 x4 σ ha0 h
    rw [C_Reader_condition_o_l7] at h
    refine am_iload C0 dX4_condition_7 4 rfl ?_
    refine am_sipush C0 dX4_condition_9 cs_400 ?_
    refine am_icmp_gt C0 dX4_condition_12 (tgt := 101) (by decide) (fun c_1 => ?_) (fun c_1 => ?_)
    · replace h := am_ip h c_1
      refine am_iconst C0 dX4_condition_101 ci_0 ?_
      have e := Option.some.inj h
      subst e
      exact hret _ _ dX4_condition_102
    · replace h := am_in h c_1
      refine am_aload_n C0 dX4_condition_15 0 rfl ?_
      refine am_iload_n C0 dX4_condition_16 1 rfl ?_
      obtain ⟨q_2, h_q_2, h⟩ := am_bind h
      refine am_callV C0 (hR_comparison a0 x1 σ _ ha0 h_q_2) mm_yX4_comparison ln_RX4_127 (As := fun b => [.int x1]) (fun _ => rfl) (fun _ => rfl) (loC_3_0 ha0).1 (loC_3_0 ha0).2.1 rfl hdR rfl (Nat.le_of_ble_eq_true rfl) dX4_condition_17 ?_
      refine am_ifB_ne C0 dX4_condition_20 (tgt := 25) (by decide) (fun c_3 => ?_) (fun c_3 => ?_)
      · replace h := am_ip h c_3
        refine am_iload_n C0 dX4_condition_25 2 rfl ?_
        refine am_ifB_eq C0 dX4_condition_26 (tgt := 44) (by decide) (fun c_4 => ?_) (fun c_4 => ?_)
        · replace h := am_in h c_4
          exact am_sub [0, 1, 3, 4] rfl (k_C_Reader_condition_o_p44 C0 hd hdR R_comparison R_condition hR_comparison hR_condition _ F hret (fun z0 z1 z2 z3 z4 zs zh0 z => ih z0 z1 z2 z3 z4 zs zh0 z) a0 x1 x3 x4 q_2.2 ha0 h)
        · replace h := am_ip h c_4
          refine am_aload_n C0 dX4_condition_29 0 rfl ?_
          refine am_getR C0 (j := a0 + 5) ff_RX4_43 (loC_3_9 ha0).1 (loC_3_9 ha0).2.1 (loC_3_9 ha0).2.2.1 (loC_3_9 ha0).2.2.2 dX4_condition_30 ?_
          refine am_getR C0 (j := a0 + 5 + 3) ff_RX4_105 (loC_1_1 (tgC_3_9 ha0)).1 (loC_1_1 (tgC_3_9 ha0)).2.1 (loC_1_1 (tgC_3_9 ha0)).2.2.1 (loC_1_1 (tgC_3_9 ha0)).2.2.2 dX4_condition_33 ?_
          refine am_iconst C0 dX4_condition_36 ci_5 ?_
          refine am_iconst C0 dX4_condition_37 ci_0 ?_
          refine am_iconst C0 dX4_condition_38 ci_0 ?_
          refine am_iconst C0 dX4_condition_39 ci_0 ?_
          obtain ⟨q_5, h_q_5, h⟩ := am_bind h
          refine am_callV C0 (m_C_Table_add (σ := q_2.2) (Nat.le_refl _) F (a0 + 5 + 3) 5 0 0 0 (tgC_1_1 (tgC_3_9 ha0)) h_q_5) mm_yX6_add ln_RX4_123 (As := fun b => [.int 5, .int 0, .int 0, .int 0]) (fun _ => rfl) (fun _ => rfl) (loC_4_0 (tgC_1_1 (tgC_3_9 ha0))).1 (loC_4_0 (tgC_1_1 (tgC_3_9 ha0))).2.1 rfl (Nat.le_trans (by decide) hd) rfl (Nat.le_of_ble_eq_true rfl) dX4_condition_40 ?_
          refine am_pop C0 dX4_condition_43 rfl ?_
          exact am_sub [0, 1, 3, 4] rfl (k_C_Reader_condition_o_p44 C0 hd hdR R_comparison R_condition hR_comparison hR_condition _ F hret (fun z0 z1 z2 z3 z4 zs zh0 z => ih z0 z1 z2 z3 z4 zs zh0 z) a0 x1 x3 x4 q_5.2 ha0 h)
      · replace h := am_in h c_3
        refine am_iconst C0 dX4_condition_23 ci_0 ?_
        have e := Option.some.inj h
        subst e
        exact hret _ _ dX4_condition_24
set_option maxRecDepth 100000 in
set_option maxHeartbeats 4000000 in
theorem k_C_Reader_condition_o {G : am_T} {d0 : Nat} (C0 : am_C G cX4_condition 5 RX4 LC d0) (hd : 5 ≤ d0) {dR : Nat} (hdR : dR + 1 ≤ d0) (R_comparison : Nat → Int32 → am_SS → Option (Bool × am_SS)) (R_condition : Nat → Int32 → am_SS → Option (Bool × am_SS)) (hR_comparison : ∀ (a0 : Nat) (y1 : Int32) (σ : am_SS) (q : Bool × am_SS), LC.1 a0 = 5 → R_comparison a0 y1 σ = some q → am_Met (am_l G) yX4_comparison cX4_comparison 5 (some .boolean) dR 0 0 LC (fun b => [.ref (b a0), .int y1]) σ (some (.int (am_bI q.1))) q.2) (hR_condition : ∀ (a0 : Nat) (y1 : Int32) (σ : am_SS) (q : Bool × am_SS), LC.1 a0 = 5 → R_condition a0 y1 σ = some q → am_Met (am_l G) yX4_condition cX4_condition 5 (some .boolean) dR 0 0 LC (fun b => [.ref (b a0), .int y1]) σ (some (.int (am_bI q.1))) q.2) (F : Nat) {q : Bool × am_SS} (hret : am_retI G cX4_condition 5 (am_bI q.1) q.2) (a0 : Nat) (x1 : Int32) (σ : am_SS) (ha0 : LC.1 a0 = 5) (h : C_Reader_condition_o R_comparison R_condition F a0 x1 σ = some q) : am_K G 5 0 [(0, .ref (am_b G a0)), (1, .int x1)] [] σ := by
  unfold C_Reader_condition_o at h
  refine am_iconst C0 dX4_condition_0 ci_0 ?_
  refine am_istore_n C0 dX4_condition_1 rfl (by decide) rfl (lv' := [(0, .ref (am_b G a0)), (1, .int x1), (2, .int 0)]) rfl ?_
  refine am_iconst C0 dX4_condition_2 ci_0 ?_
  refine am_istore_n C0 dX4_condition_3 rfl (by decide) rfl (lv' := [(0, .ref (am_b G a0)), (1, .int x1), (2, .int 0), (3, .int 0)]) rfl ?_
  refine am_iconst C0 dX4_condition_4 ci_0 ?_
  refine am_istore C0 dX4_condition_5 (by decide) rfl (lv' := [(0, .ref (am_b G a0)), (1, .int x1), (2, .int 0), (3, .int 0), (4, .int 0)]) rfl ?_
  exact am_sub [0, 1, 2, 3, 4] rfl (k_C_Reader_condition_o_l7 C0 hd hdR R_comparison R_condition hR_comparison hR_condition F hret F a0 x1 false false 0 σ ha0 h)
set_option maxRecDepth 100000 in
set_option maxHeartbeats 4000000 in
theorem m_C_Reader_cc {l : Launch} (F : Nat) : ∀ (n d : Nat) (hd : 5 + n ≤ d), (∀ (a0 : Nat) (x1 : Int32) (σ : am_SS) (q : Bool × am_SS) (ha0 : LC.1 a0 = 5), (C_Reader_cc F n).1 a0 x1 σ = some q → am_Met l yX4_comparison cX4_comparison 5 (some .boolean) d 0 0 LC (fun b => [.ref (b a0), .int x1]) σ (some (.int (am_bI q.1))) q.2) ∧ (∀ (a0 : Nat) (x1 : Int32) (σ : am_SS) (q : Bool × am_SS) (ha0 : LC.1 a0 = 5), (C_Reader_cc F n).2 a0 x1 σ = some q → am_Met l yX4_condition cX4_condition 5 (some .boolean) d 0 0 LC (fun b => [.ref (b a0), .int x1]) σ (some (.int (am_bI q.1))) q.2) := by
  intro n
  induction n with
  | zero =>
    intro d hd
    exact ⟨fun _ _ _ _ _ h => by (rw [C_Reader_cc] at h; cases h), fun _ _ _ _ _ h => by (rw [C_Reader_cc] at h; cases h)⟩
  | succ n ih =>
    intro d hd
    obtain ⟨i1, i2⟩ := ih (d - 1) (by omega)
    refine ⟨fun a0 x1 σ q ha0 h => ?_, fun a0 x1 σ q ha0 h => ?_⟩
    · rw [C_Reader_cc] at h
      refine am_metI (plainFor_of_name (by decide)) (am_bI_nr _) (lv := fun b => [(0, .ref (b a0)), (1, .int x1)]) (fun _ => rfl) (fun _ => Nat.le_of_ble_eq_true rfl) (fun G C0 hl hret => ?_)
      refine k_C_Reader_comparison_o C0 (by omega) (dR := d - 1) (by omega) (C_Reader_cc F n).1 (C_Reader_cc F n).2 ?_ ?_ F hret a0 x1 σ ha0 h
      · intro a0 x1 σ q ha0 h1
        rw [hl]
        exact i1 a0 x1 σ q ha0 h1
      · intro a0 x1 σ q ha0 h1
        rw [hl]
        exact i2 a0 x1 σ q ha0 h1
    · rw [C_Reader_cc] at h
      refine am_metI (plainFor_of_name (by decide)) (am_bI_nr _) (lv := fun b => [(0, .ref (b a0)), (1, .int x1)]) (fun _ => rfl) (fun _ => Nat.le_of_ble_eq_true rfl) (fun G C0 hl hret => ?_)
      refine k_C_Reader_condition_o C0 (by omega) (dR := d - 1) (by omega) (C_Reader_cc F n).1 (C_Reader_cc F n).2 ?_ ?_ F hret a0 x1 σ ha0 h
      · intro a0 x1 σ q ha0 h1
        rw [hl]
        exact i1 a0 x1 σ q ha0 h1
      · intro a0 x1 σ q ha0 h1
        rw [hl]
        exact i2 a0 x1 σ q ha0 h1
set_option maxRecDepth 100000 in
set_option maxHeartbeats 4000000 in
theorem m_C_Reader_comparison {l : Launch} {d : Nat} {σ : am_SS} {q : Bool × am_SS} (hd : 25 ≤ d) (F : Nat) (a0 : Nat) (x1 : Int32) (ha0 : LC.1 a0 = 5) (h : C_Reader_comparison F a0 x1 σ = some q) : am_Met l yX4_comparison cX4_comparison 5 (some .boolean) d 0 0 LC (fun b => [.ref (b a0), .int x1]) σ (some (.int (am_bI q.1))) q.2 := (m_C_Reader_cc F 20 d hd).1 a0 x1 σ q ha0 h
set_option maxRecDepth 100000 in
set_option maxHeartbeats 4000000 in
theorem m_C_Reader_condition {l : Launch} {d : Nat} {σ : am_SS} {q : Bool × am_SS} (hd : 25 ≤ d) (F : Nat) (a0 : Nat) (x1 : Int32) (ha0 : LC.1 a0 = 5) (h : C_Reader_condition F a0 x1 σ = some q) : am_Met l yX4_condition cX4_condition 5 (some .boolean) d 0 0 LC (fun b => [.ref (b a0), .int x1]) σ (some (.int (am_bI q.1))) q.2 := (m_C_Reader_cc F 20 d hd).2 a0 x1 σ q ha0 h
set_option maxRecDepth 100000 in
set_option maxHeartbeats 4000000 in
theorem k_C_Reader_readLaw_p101 {G : am_T} {d0 : Nat} (C0 : am_C G cX4_readLaw 5 RX4 LC d0) (hd : 26 ≤ d0) (rec9 : Nat → Int32 → am_SS → Option (Bool × am_SS)) (F : Nat) {q : Bool × am_SS} (hret : am_retI G cX4_readLaw 5 (am_bI q.1) q.2) (hrec9 : ∀ (a0 : Nat) (x1 : Int32) (σ : am_SS), LC.1 a0 = 5 → rec9 a0 x1 σ = some q → am_K G 5 9 [(0, .ref (am_b G a0)), (1, .int x1)] [] σ) (a0 : Nat) (x1 : Int32) (x2 : Int32) (x3 : Int32) (x4 : Int32) (σ : am_SS) (ha0 : LC.1 a0 = 5) (h : C_Reader_readLaw_p101 rec9 F a0 x1 x2 x3 x4 σ = some q) : am_K G 5 101 [(0, .ref (am_b G a0)), (1, .int x1), (2, .int x2), (3, .int x3), (4, .int x4)] [] σ := by
  unfold C_Reader_readLaw_p101 at h
  refine am_aload_n C0 dX4_readLaw_101 0 rfl ?_
  refine am_bipush C0 dX4_readLaw_102 kb_59 ?_
  obtain ⟨q_1, h_q_1, h⟩ := am_bind h
  refine am_callV C0 (m_C_Reader_sign (σ := σ) (Nat.le_refl _) a0 59 ha0 h_q_1) mm_yX4_sign ln_RX4_117 (As := fun b => [.int 59]) (fun _ => rfl) (fun _ => rfl) (loC_3_0 ha0).1 (loC_3_0 ha0).2.1 rfl (Nat.le_trans (by decide) hd) rfl (Nat.le_of_ble_eq_true rfl) dX4_readLaw_104 ?_
  refine am_ifB_ne C0 dX4_readLaw_107 (tgt := 112) (by decide) (fun c_2 => ?_) (fun c_2 => ?_)
  · replace h := am_ip h c_2
    refine am_aload_n C0 dX4_readLaw_112 0 rfl ?_
    refine am_getR C0 (j := a0 + 5) ff_RX4_43 (loC_3_9 ha0).1 (loC_3_9 ha0).2.1 (loC_3_9 ha0).2.2.1 (loC_3_9 ha0).2.2.2 dX4_readLaw_113 ?_
    refine am_getR C0 (j := a0 + 5 + 1) ff_RX4_120 (loC_1_0 (tgC_3_9 ha0)).1 (loC_1_0 (tgC_3_9 ha0)).2.1 (loC_1_0 (tgC_3_9 ha0)).2.2.1 (loC_1_0 (tgC_3_9 ha0)).2.2.2 dX4_readLaw_116 ?_
    refine am_iload_n C0 dX4_readLaw_119 2 rfl ?_
    refine am_iload_n C0 dX4_readLaw_120 3 rfl ?_
    refine am_iload C0 dX4_readLaw_121 4 rfl ?_
    refine am_aload_n C0 dX4_readLaw_123 0 rfl ?_
    refine am_getR C0 (j := a0 + 5) ff_RX4_43 (loC_3_9 ha0).1 (loC_3_9 ha0).2.1 (loC_3_9 ha0).2.2.1 (loC_3_9 ha0).2.2.2 dX4_readLaw_124 ?_
    refine am_getR C0 (j := a0 + 5 + 3) ff_RX4_105 (loC_1_1 (tgC_3_9 ha0)).1 (loC_1_1 (tgC_3_9 ha0)).2.1 (loC_1_1 (tgC_3_9 ha0)).2.2.1 (loC_1_1 (tgC_3_9 ha0)).2.2.2 dX4_readLaw_127 ?_
    refine am_getI C0 ff_RX4_108 (loC_4_2 (tgC_1_1 (tgC_3_9 ha0))).1 (loC_4_2 (tgC_1_1 (tgC_3_9 ha0))).2.1 (loC_4_2 (tgC_1_1 (tgC_3_9 ha0))).2.2.1 (loC_4_2 (tgC_1_1 (tgC_3_9 ha0))).2.2.2 dX4_readLaw_130 ?_
    obtain ⟨q_3, h_q_3, h⟩ := am_bind h
    refine am_callV C0 (m_C_Table_add (σ := q_1.2) (Nat.le_refl _) F (a0 + 5 + 1) x2 x3 x4 (q_1.2 (a0 + 5 + 3) 2) (tgC_1_0 (tgC_3_9 ha0)) h_q_3) mm_yX6_add ln_RX4_123 (As := fun b => [.int x2, .int x3, .int x4, .int (q_1.2 (a0 + 5 + 3) 2)]) (fun _ => rfl) (fun _ => rfl) (loC_4_0 (tgC_1_0 (tgC_3_9 ha0))).1 (loC_4_0 (tgC_1_0 (tgC_3_9 ha0))).2.1 rfl (Nat.le_trans (by decide) hd) rfl (Nat.le_of_ble_eq_true rfl) dX4_readLaw_133 ?_
    refine am_pop C0 dX4_readLaw_136 rfl ?_
    obtain ⟨x1_4, e_x1_4, h⟩ := am_lt h
    refine am_iinc C0 dX4_readLaw_137 1 rfl (by rw [ci_1]; exact e_x1_4) (by decide) rfl (lv' := [(0, .ref (am_b G a0)), (1, .int x1_4), (2, .int x2), (3, .int x3), (4, .int x4)]) rfl ?_
    refine am_goto C0 dX4_readLaw_140 (tgt := 9) (by decide) ?_
    exact am_sub [0, 1] rfl (hrec9 a0 x1_4 q_3.2 ha0 h)
  · replace h := am_in h c_2
    refine am_iconst C0 dX4_readLaw_110 ci_0 ?_
    have e := Option.some.inj h
    subst e
    exact hret _ _ dX4_readLaw_111
set_option maxRecDepth 100000 in
set_option maxHeartbeats 4000000 in
theorem k_C_Reader_readLaw_l9 {G : am_T} {d0 : Nat} (C0 : am_C G cX4_readLaw 5 RX4 LC d0) (hd : 26 ≤ d0) (F : Nat) {q : Bool × am_SS} (hret : am_retI G cX4_readLaw 5 (am_bI q.1) q.2) : ∀ (n : Nat) (a0 : Nat) (x1 : Int32) (σ : am_SS) (ha0 : LC.1 a0 = 5) (h : C_Reader_readLaw_l9 F n a0 x1 σ = some q), am_K G 5 9 [(0, .ref (am_b G a0)), (1, .int x1)] [] σ := by
  intro n
  induction n with
  | zero =>
    intro a0 x1 σ ha0 h
    rw [C_Reader_readLaw_l9] at h
    cases h
  | succ n ih =>
    intro a0 x1 σ ha0 h
    rw [C_Reader_readLaw_l9] at h
    refine am_iload_n C0 dX4_readLaw_9 1 rfl ?_
    refine am_bipush C0 dX4_readLaw_10 kb_16 ?_
    refine am_icmp_gt C0 dX4_readLaw_12 (tgt := 143) (by decide) (fun c_1 => ?_) (fun c_1 => ?_)
    · replace h := am_ip h c_1
      refine am_iconst C0 dX4_readLaw_143 ci_0 ?_
      have e := Option.some.inj h
      subst e
      exact hret _ _ dX4_readLaw_144
    · replace h := am_in h c_1
      refine am_aload_n C0 dX4_readLaw_15 0 rfl ?_
      obtain ⟨q_2, h_q_2, h⟩ := am_bind h
      refine am_callV C0 (m_C_Reader_kind (σ := σ) (Nat.le_refl _) a0 ha0 h_q_2) mm_yX4_kind ln_RX4_81 (As := fun b => []) (fun _ => rfl) (fun _ => rfl) (loC_3_0 ha0).1 (loC_3_0 ha0).2.1 rfl (Nat.le_trans (by decide) hd) rfl (Nat.le_of_ble_eq_true rfl) dX4_readLaw_16 ?_
      refine am_if_ne C0 dX4_readLaw_19 (tgt := 24) (by decide) (fun c_3 => ?_) (fun c_3 => ?_)
      · replace h := am_in h c_3
        refine am_aload_n C0 dX4_readLaw_24 0 rfl ?_
        refine am_iload_n C0 dX4_readLaw_25 1 rfl ?_
        refine am_iconst C0 dX4_readLaw_26 ci_0 ?_
        refine am_iconst C0 dX4_readLaw_27 ci_2 ?_
        obtain ⟨q_4, h_q_4, h⟩ := am_bind h
        refine am_callV C0 (m_C_Reader_opens (σ := σ) (Nat.le_refl _) a0 x1 0 2 ha0 h_q_4) mm_yX4_opens ln_RX4_101 (As := fun b => [.int x1, .int 0, .int 2]) (fun _ => rfl) (fun _ => rfl) (loC_3_0 ha0).1 (loC_3_0 ha0).2.1 rfl (Nat.le_trans (by decide) hd) rfl (Nat.le_of_ble_eq_true rfl) dX4_readLaw_28 ?_
        refine am_ifB_ne C0 dX4_readLaw_31 (tgt := 36) (by decide) (fun c_5 => ?_) (fun c_5 => ?_)
        · replace h := am_ip h c_5
          refine am_aload_n C0 dX4_readLaw_36 0 rfl ?_
          refine am_getI C0 ff_RX4_31 (loC_3_6 ha0).1 (loC_3_6 ha0).2.1 (loC_3_6 ha0).2.2.1 (loC_3_6 ha0).2.2.2 dX4_readLaw_37 ?_
          obtain ⟨x2_6, e_x2_6, h⟩ := am_lt h
          refine am_top e_x2_6 ?_
          refine am_istore_n C0 dX4_readLaw_40 rfl (by decide) rfl (lv' := [(0, .ref (am_b G a0)), (1, .int x1), (2, .int x2_6)]) rfl ?_
          refine am_aload_n C0 dX4_readLaw_41 0 rfl ?_
          refine am_getR C0 (j := a0 + 5) ff_RX4_43 (loC_3_9 ha0).1 (loC_3_9 ha0).2.1 (loC_3_9 ha0).2.2.1 (loC_3_9 ha0).2.2.2 dX4_readLaw_42 ?_
          refine am_getR C0 (j := a0 + 5 + 3) ff_RX4_105 (loC_1_1 (tgC_3_9 ha0)).1 (loC_1_1 (tgC_3_9 ha0)).2.1 (loC_1_1 (tgC_3_9 ha0)).2.2.1 (loC_1_1 (tgC_3_9 ha0)).2.2.2 dX4_readLaw_45 ?_
          refine am_getI C0 ff_RX4_108 (loC_4_2 (tgC_1_1 (tgC_3_9 ha0))).1 (loC_4_2 (tgC_1_1 (tgC_3_9 ha0))).2.1 (loC_4_2 (tgC_1_1 (tgC_3_9 ha0))).2.2.1 (loC_4_2 (tgC_1_1 (tgC_3_9 ha0))).2.2.2 dX4_readLaw_48 ?_
          obtain ⟨x3_7, e_x3_7, h⟩ := am_lt h
          refine am_top e_x3_7 ?_
          refine am_istore_n C0 dX4_readLaw_51 rfl (by decide) rfl (lv' := [(0, .ref (am_b G a0)), (1, .int x1), (2, .int x2_6), (3, .int x3_7)]) rfl ?_
          refine am_aload_n C0 dX4_readLaw_52 0 rfl ?_
          obtain ⟨q_8, h_q_8, h⟩ := am_bind h
          refine am_callV C0 (m_C_Reader_sum (σ := q_4.2) (Nat.le_refl _) F a0 ha0 h_q_8) mm_yX4_sum ln_RX4_110 (As := fun b => []) (fun _ => rfl) (fun _ => rfl) (loC_3_0 ha0).1 (loC_3_0 ha0).2.1 rfl (Nat.le_trans (by decide) hd) rfl (Nat.le_of_ble_eq_true rfl) dX4_readLaw_53 ?_
          refine am_ifB_ne C0 dX4_readLaw_56 (tgt := 61) (by decide) (fun c_9 => ?_) (fun c_9 => ?_)
          · replace h := am_ip h c_9
            refine am_aload_n C0 dX4_readLaw_61 0 rfl ?_
            refine am_getR C0 (j := a0 + 5) ff_RX4_43 (loC_3_9 ha0).1 (loC_3_9 ha0).2.1 (loC_3_9 ha0).2.2.1 (loC_3_9 ha0).2.2.2 dX4_readLaw_62 ?_
            refine am_getR C0 (j := a0 + 5 + 3) ff_RX4_105 (loC_1_1 (tgC_3_9 ha0)).1 (loC_1_1 (tgC_3_9 ha0)).2.1 (loC_1_1 (tgC_3_9 ha0)).2.2.1 (loC_1_1 (tgC_3_9 ha0)).2.2.2 dX4_readLaw_65 ?_
            refine am_getI C0 ff_RX4_108 (loC_4_2 (tgC_1_1 (tgC_3_9 ha0))).1 (loC_4_2 (tgC_1_1 (tgC_3_9 ha0))).2.1 (loC_4_2 (tgC_1_1 (tgC_3_9 ha0))).2.2.1 (loC_4_2 (tgC_1_1 (tgC_3_9 ha0))).2.2.2 dX4_readLaw_68 ?_
            obtain ⟨x4_10, e_x4_10, h⟩ := am_lt h
            refine am_top e_x4_10 ?_
            refine am_istore C0 dX4_readLaw_71 (by decide) rfl (lv' := [(0, .ref (am_b G a0)), (1, .int x1), (2, .int x2_6), (3, .int x3_7), (4, .int x4_10)]) rfl ?_
            refine am_aload_n C0 dX4_readLaw_73 0 rfl ?_
            refine am_iconst C0 dX4_readLaw_74 ci_3 ?_
            obtain ⟨q_11, h_q_11, h⟩ := am_bind h
            refine am_callV C0 (m_C_Reader_isWord (σ := q_8.2) (Nat.le_refl _) a0 3 ha0 h_q_11) mm_yX4_isWord ln_RX4_95 (As := fun b => [.int 3]) (fun _ => rfl) (fun _ => rfl) (loC_3_0 ha0).1 (loC_3_0 ha0).2.1 rfl (Nat.le_trans (by decide) hd) rfl (Nat.le_of_ble_eq_true rfl) dX4_readLaw_75 ?_
            refine am_ifB_eq C0 dX4_readLaw_78 (tgt := 101) (by decide) (fun c_12 => ?_) (fun c_12 => ?_)
            · replace h := am_in h c_12
              exact am_sub [0, 1, 2, 3, 4] rfl (k_C_Reader_readLaw_p101 C0 hd _ F hret (fun z0 z1 zs zh0 z => ih z0 z1 zs zh0 z) a0 x1 x2_6 x3_7 x4_10 q_8.2 ha0 h)
            · replace h := am_ip h c_12
              refine am_aload_n C0 dX4_readLaw_81 0 rfl ?_
              refine am_dup C0 dX4_readLaw_82 rfl ?_
              refine am_getI C0 ff_RX4_28 (loC_3_5 ha0).1 (loC_3_5 ha0).2.1 (loC_3_5 ha0).2.2.1 (loC_3_5 ha0).2.2.2 dX4_readLaw_83 ?_
              refine am_iconst C0 dX4_readLaw_86 ci_1 ?_
              refine am_iadd C0 dX4_readLaw_87 ?_
              obtain ⟨σ_13, e_σ_13, h⟩ := am_lt h
              refine am_putI C0 e_σ_13 fp_RX4_28 (loC_3_5 ha0).1 (loC_3_5 ha0).2.1 (loC_3_5 ha0).2.2.1 (loC_3_5 ha0).2.2.2 rfl rfl dX4_readLaw_88 ?_
              refine am_aload_n C0 dX4_readLaw_91 0 rfl ?_
              refine am_iconst C0 dX4_readLaw_92 ci_0 ?_
              obtain ⟨q_14, h_q_14, h⟩ := am_bind h
              refine am_callV C0 (m_C_Reader_condition (σ := σ_13) (Nat.le_refl _) F a0 0 ha0 h_q_14) mm_yX4_condition ln_RX4_114 (As := fun b => [.int 0]) (fun _ => rfl) (fun _ => rfl) (loC_3_0 ha0).1 (loC_3_0 ha0).2.1 rfl (Nat.le_trans (by decide) hd) rfl (Nat.le_of_ble_eq_true rfl) dX4_readLaw_93 ?_
              refine am_ifB_ne C0 dX4_readLaw_96 (tgt := 101) (by decide) (fun c_15 => ?_) (fun c_15 => ?_)
              · replace h := am_ip h c_15
                exact am_sub [0, 1, 2, 3, 4] rfl (k_C_Reader_readLaw_p101 C0 hd _ F hret (fun z0 z1 zs zh0 z => ih z0 z1 zs zh0 z) a0 x1 x2_6 x3_7 x4_10 q_14.2 ha0 h)
              · replace h := am_in h c_15
                refine am_iconst C0 dX4_readLaw_99 ci_0 ?_
                have e := Option.some.inj h
                subst e
                exact hret _ _ dX4_readLaw_100
          · replace h := am_in h c_9
            refine am_iconst C0 dX4_readLaw_59 ci_0 ?_
            have e := Option.some.inj h
            subst e
            exact hret _ _ dX4_readLaw_60
        · replace h := am_in h c_5
          refine am_iconst C0 dX4_readLaw_34 ci_0 ?_
          have e := Option.some.inj h
          subst e
          exact hret _ _ dX4_readLaw_35
      · replace h := am_ip h c_3
        refine am_iconst C0 dX4_readLaw_22 ci_1 ?_
        have e := Option.some.inj h
        subst e
        exact hret _ _ dX4_readLaw_23
set_option maxRecDepth 100000 in
set_option maxHeartbeats 4000000 in
theorem k_C_Reader_readLaw {G : am_T} {d0 : Nat} (C0 : am_C G cX4_readLaw 5 RX4 LC d0) (hd : 26 ≤ d0) (F : Nat) {q : Bool × am_SS} (hret : am_retI G cX4_readLaw 5 (am_bI q.1) q.2) (a0 : Nat) (σ : am_SS) (ha0 : LC.1 a0 = 5) (h : C_Reader_readLaw F a0 σ = some q) : am_K G 5 0 [(0, .ref (am_b G a0))] [] σ := by
  unfold C_Reader_readLaw at h
  refine am_aload_n C0 dX4_readLaw_0 0 rfl ?_
  refine am_getR C0 (j := a0 + 5) ff_RX4_43 (loC_3_9 ha0).1 (loC_3_9 ha0).2.1 (loC_3_9 ha0).2.2.1 (loC_3_9 ha0).2.2.2 dX4_readLaw_1 ?_
  obtain ⟨q_1, h_q_1, h⟩ := am_lt h
  refine am_callV C0 (m_C_Law_clear (σ := σ) (Nat.le_refl _) (a0 + 5) (tgC_3_9 ha0) h_q_1) mm_yX1_clear ln_RX4_98 (As := fun b => []) (fun _ => rfl) (fun _ => rfl) (loC_1_0 (tgC_3_9 ha0)).1 (loC_1_0 (tgC_3_9 ha0)).2.1 rfl (Nat.le_trans (by decide) hd) rfl (Nat.le_of_ble_eq_true rfl) dX4_readLaw_4 ?_
  refine am_iconst C0 dX4_readLaw_7 ci_0 ?_
  refine am_istore_n C0 dX4_readLaw_8 rfl (by decide) rfl (lv' := [(0, .ref (am_b G a0)), (1, .int 0)]) rfl ?_
  exact am_sub [0, 1] rfl (k_C_Reader_readLaw_l9 C0 hd F hret F a0 0 q_1 ha0 h)
set_option maxRecDepth 100000 in
set_option maxHeartbeats 4000000 in
theorem m_C_Reader_readLaw {l : Launch} {d : Nat} {σ : am_SS} {q : Bool × am_SS} (hd : 26 ≤ d) (F : Nat) (a0 : Nat) (ha0 : LC.1 a0 = 5) (h : C_Reader_readLaw F a0 σ = some q) : am_Met l yX4_readLaw cX4_readLaw 5 (some .boolean) d 0 0 LC (fun b => [.ref (b a0)]) σ (some (.int (am_bI q.1))) q.2 :=
  am_metI (plainFor_of_name (by decide)) (am_bI_nr _) (lv := fun b => [(0, .ref (b a0))]) (fun _ => rfl) (fun _ => Nat.le_of_ble_eq_true rfl) (fun G C0 _ hret => k_C_Reader_readLaw C0 hd F hret a0 σ ha0 h)
set_option maxRecDepth 100000 in
set_option maxHeartbeats 4000000 in
theorem k_C_Reader_readOrders_p188 {G : am_T} {d0 : Nat} (C0 : am_C G cX4_readOrders 7 RX4 LC d0) (hd : 4 ≤ d0) (rec10 : Nat → Nat → Int32 → am_SS → Option (Bool × am_SS)) (F : Nat) {q : Bool × am_SS} (hret : am_retI G cX4_readOrders 7 (am_bI q.1) q.2) (hrec10 : ∀ (a0 : Nat) (a1 : Nat) (x2 : Int32) (σ : am_SS), LC.1 a0 = 5 → LC.1 a1 = 2 → rec10 a0 a1 x2 σ = some q → am_K G 7 10 [(0, .ref (am_b G a0)), (1, .ref (am_b G a1)), (2, .int x2)] [] σ) (a0 : Nat) (a1 : Nat) (x2 : Int32) (x3 : Int32) (x4 : Int32) (x5 : Int32) (x6 : Int32) (σ : am_SS) (ha0 : LC.1 a0 = 5) (ha1 : LC.1 a1 = 2) (h : C_Reader_readOrders_p188 rec10 F a0 a1 x2 x3 x4 x5 x6 σ = some q) : am_K G 7 188 [(0, .ref (am_b G a0)), (1, .ref (am_b G a1)), (2, .int x2), (3, .int x3), (4, .int x4), (5, .int x5), (6, .int x6)] [] σ := by
  unfold C_Reader_readOrders_p188 at h
  refine am_aload_n C0 dX4_readOrders_188 0 rfl ?_
  refine am_bipush C0 dX4_readOrders_189 kb_59 ?_
  obtain ⟨q_1, h_q_1, h⟩ := am_bind h
  refine am_callV C0 (m_C_Reader_sign (σ := σ) (Nat.le_refl _) a0 59 ha0 h_q_1) mm_yX4_sign ln_RX4_117 (As := fun b => [.int 59]) (fun _ => rfl) (fun _ => rfl) (loC_3_0 ha0).1 (loC_3_0 ha0).2.1 rfl (Nat.le_trans (by decide) hd) rfl (Nat.le_of_ble_eq_true rfl) dX4_readOrders_191 ?_
  refine am_ifB_ne C0 dX4_readOrders_194 (tgt := 199) (by decide) (fun c_2 => ?_) (fun c_2 => ?_)
  · replace h := am_ip h c_2
    refine am_aload_n C0 dX4_readOrders_199 0 rfl ?_
    refine am_getR C0 (j := a0 + 11) ff_RX4_52 (loC_3_10 ha0).1 (loC_3_10 ha0).2.1 (loC_3_10 ha0).2.2.1 (loC_3_10 ha0).2.2.2 dX4_readOrders_200 ?_
    refine am_iload_n C0 dX4_readOrders_203 3 rfl ?_
    refine am_iload C0 dX4_readOrders_204 4 rfl ?_
    refine am_iload C0 dX4_readOrders_206 5 rfl ?_
    refine am_iload C0 dX4_readOrders_208 6 rfl ?_
    obtain ⟨q_3, h_q_3, h⟩ := am_bind h
    refine am_callV C0 (m_C_Table_add (σ := q_1.2) (Nat.le_refl _) F (a0 + 11) x3 x4 x5 x6 (tgC_3_10 ha0) h_q_3) mm_yX6_add ln_RX4_123 (As := fun b => [.int x3, .int x4, .int x5, .int x6]) (fun _ => rfl) (fun _ => rfl) (loC_4_0 (tgC_3_10 ha0)).1 (loC_4_0 (tgC_3_10 ha0)).2.1 rfl (Nat.le_trans (by decide) hd) rfl (Nat.le_of_ble_eq_true rfl) dX4_readOrders_210 ?_
    refine am_pop C0 dX4_readOrders_213 rfl ?_
    obtain ⟨x2_4, e_x2_4, h⟩ := am_lt h
    refine am_iinc C0 dX4_readOrders_214 2 rfl (by rw [ci_1]; exact e_x2_4) (by decide) rfl (lv' := [(0, .ref (am_b G a0)), (1, .ref (am_b G a1)), (2, .int x2_4), (3, .int x3), (4, .int x4), (5, .int x5), (6, .int x6)]) rfl ?_
    refine am_goto C0 dX4_readOrders_217 (tgt := 10) (by decide) ?_
    exact am_sub [0, 1, 2] rfl (hrec10 a0 a1 x2_4 q_3.2 ha0 ha1 h)
  · replace h := am_in h c_2
    refine am_iconst C0 dX4_readOrders_197 ci_0 ?_
    have e := Option.some.inj h
    subst e
    exact hret _ _ dX4_readOrders_198
set_option maxRecDepth 100000 in
set_option maxHeartbeats 4000000 in
theorem k_C_Reader_readOrders_p163 {G : am_T} {d0 : Nat} (C0 : am_C G cX4_readOrders 7 RX4 LC d0) (hd : 4 ≤ d0) (rec10 : Nat → Nat → Int32 → am_SS → Option (Bool × am_SS)) (F : Nat) {q : Bool × am_SS} (hret : am_retI G cX4_readOrders 7 (am_bI q.1) q.2) (hrec10 : ∀ (a0 : Nat) (a1 : Nat) (x2 : Int32) (σ : am_SS), LC.1 a0 = 5 → LC.1 a1 = 2 → rec10 a0 a1 x2 σ = some q → am_K G 7 10 [(0, .ref (am_b G a0)), (1, .ref (am_b G a1)), (2, .int x2)] [] σ) (a0 : Nat) (a1 : Nat) (x2 : Int32) (x3 : Int32) (x4 : Int32) (x5 : Int32) (x6 : Bool) (σ : am_SS) (ha0 : LC.1 a0 = 5) (ha1 : LC.1 a1 = 2) (h : C_Reader_readOrders_p163 rec10 F a0 a1 x2 x3 x4 x5 x6 σ = some q) : am_K G 7 163 [(0, .ref (am_b G a0)), (1, .ref (am_b G a1)), (2, .int x2), (3, .int x3), (4, .int x4), (5, .int x5), (6, .int (am_bI x6))] [] σ := by
  unfold C_Reader_readOrders_p163 at h
  refine am_iload C0 dX4_readOrders_163 4 rfl ?_
  refine am_bipush C0 dX4_readOrders_165 kb_18 ?_
  refine am_icmp_ne C0 dX4_readOrders_167 (tgt := 188) (by decide) (fun c_1 => ?_) (fun c_1 => ?_)
  · replace h := am_in h c_1
    exact am_sub [0, 1, 2, 3, 4, 5, 6] rfl (k_C_Reader_readOrders_p188 C0 hd rec10 F hret hrec10 a0 a1 x2 x3 x4 x5 (am_bI x6) σ ha0 ha1 h)
  · replace h := am_ip h c_1
    refine am_aload_n C0 dX4_readOrders_170 0 rfl ?_
    refine am_iconst C0 dX4_readOrders_171 ci_1 ?_
    refine am_bipush C0 dX4_readOrders_172 kb_99 ?_
    obtain ⟨q_2, h_q_2, h⟩ := am_bind h
    refine am_callV C0 (m_C_Reader_takes (σ := σ) (Nat.le_refl _) a0 1 99 ha0 h_q_2) mm_yX4_takes ln_RX4_136 (As := fun b => [.int 1, .int 99]) (fun _ => rfl) (fun _ => rfl) (loC_3_0 ha0).1 (loC_3_0 ha0).2.1 rfl (Nat.le_trans (by decide) hd) rfl (Nat.le_of_ble_eq_true rfl) dX4_readOrders_174 ?_
    refine am_ifB_ne C0 dX4_readOrders_177 (tgt := 182) (by decide) (fun c_3 => ?_) (fun c_3 => ?_)
    · replace h := am_ip h c_3
      refine am_aload_n C0 dX4_readOrders_182 0 rfl ?_
      refine am_getI C0 ff_RX4_31 (loC_3_6 ha0).1 (loC_3_6 ha0).2.1 (loC_3_6 ha0).2.2.1 (loC_3_6 ha0).2.2.2 dX4_readOrders_183 ?_
      obtain ⟨x6_4, e_x6_4, h⟩ := am_lt h
      refine am_top e_x6_4 ?_
      refine am_istore C0 dX4_readOrders_186 (by decide) rfl (lv' := [(0, .ref (am_b G a0)), (1, .ref (am_b G a1)), (2, .int x2), (3, .int x3), (4, .int x4), (5, .int x5), (6, .int x6_4)]) rfl ?_
      exact am_sub [0, 1, 2, 3, 4, 5, 6] rfl (k_C_Reader_readOrders_p188 C0 hd rec10 F hret hrec10 a0 a1 x2 x3 x4 x5 x6_4 q_2.2 ha0 ha1 h)
    · replace h := am_in h c_3
      refine am_iconst C0 dX4_readOrders_180 ci_0 ?_
      have e := Option.some.inj h
      subst e
      exact hret _ _ dX4_readOrders_181
set_option maxRecDepth 100000 in
set_option maxHeartbeats 4000000 in
theorem k_C_Reader_readOrders_p147 {G : am_T} {d0 : Nat} (C0 : am_C G cX4_readOrders 7 RX4 LC d0) (hd : 4 ≤ d0) (rec10 : Nat → Nat → Int32 → am_SS → Option (Bool × am_SS)) (F : Nat) {q : Bool × am_SS} (hret : am_retI G cX4_readOrders 7 (am_bI q.1) q.2) (hrec10 : ∀ (a0 : Nat) (a1 : Nat) (x2 : Int32) (σ : am_SS), LC.1 a0 = 5 → LC.1 a1 = 2 → rec10 a0 a1 x2 σ = some q → am_K G 7 10 [(0, .ref (am_b G a0)), (1, .ref (am_b G a1)), (2, .int x2)] [] σ) (a0 : Nat) (a1 : Nat) (x2 : Int32) (x3 : Int32) (x4 : Int32) (x6 : Bool) (t0 : Nat) (s1 : Bool) (s2 : Int32) (σ : am_SS) (ha0 : LC.1 a0 = 5) (ha1 : LC.1 a1 = 2) (ht0 : LC.1 t0 = 5) (h : C_Reader_readOrders_p147 rec10 F a0 a1 x2 x3 x4 x6 t0 s1 s2 σ = some q) : am_K G 7 147 [(0, .ref (am_b G a0)), (1, .ref (am_b G a1)), (2, .int x2), (3, .int x3), (4, .int x4), (6, .int (am_bI x6))] [.int s2, .int (am_bI s1), .ref (am_b G t0)] σ := by
  unfold C_Reader_readOrders_p147 at h
  refine am_iconst C0 dX4_readOrders_147 ci_1 ?_
  refine am_isub C0 dX4_readOrders_148 ?_
  obtain ⟨q_1, h_q_1, h⟩ := am_bind h
  refine am_callV C0 (m_C_Reader_takes (σ := σ) (Nat.le_refl _) t0 (am_bI s1) (s2 - 1) ht0 h_q_1) mm_yX4_takes ln_RX4_136 (As := fun b => [.int (am_bI s1), .int (s2 - 1)]) (fun _ => rfl) (fun _ => rfl) (loC_3_0 ht0).1 (loC_3_0 ht0).2.1 rfl (Nat.le_trans (by decide) hd) rfl (Nat.le_of_ble_eq_true rfl) dX4_readOrders_149 ?_
  refine am_ifB_ne C0 dX4_readOrders_152 (tgt := 157) (by decide) (fun c_2 => ?_) (fun c_2 => ?_)
  · replace h := am_ip h c_2
    refine am_aload_n C0 dX4_readOrders_157 0 rfl ?_
    refine am_getI C0 ff_RX4_31 (loC_3_6 ha0).1 (loC_3_6 ha0).2.1 (loC_3_6 ha0).2.2.1 (loC_3_6 ha0).2.2.2 dX4_readOrders_158 ?_
    obtain ⟨x5_3, e_x5_3, h⟩ := am_lt h
    refine am_top e_x5_3 ?_
    refine am_istore C0 dX4_readOrders_161 (by decide) rfl (lv' := [(0, .ref (am_b G a0)), (1, .ref (am_b G a1)), (2, .int x2), (3, .int x3), (4, .int x4), (6, .int (am_bI x6)), (5, .int x5_3)]) rfl ?_
    exact am_sub [0, 1, 2, 3, 4, 6, 5] rfl (k_C_Reader_readOrders_p163 C0 hd rec10 F hret hrec10 a0 a1 x2 x3 x4 x5_3 x6 q_1.2 ha0 ha1 h)
  · replace h := am_in h c_2
    refine am_iconst C0 dX4_readOrders_155 ci_0 ?_
    have e := Option.some.inj h
    subst e
    exact hret _ _ dX4_readOrders_156
set_option maxRecDepth 100000 in
set_option maxHeartbeats 4000000 in
theorem k_C_Reader_readOrders_p104 {G : am_T} {d0 : Nat} (C0 : am_C G cX4_readOrders 7 RX4 LC d0) (hd : 4 ≤ d0) (rec10 : Nat → Nat → Int32 → am_SS → Option (Bool × am_SS)) (F : Nat) {q : Bool × am_SS} (hret : am_retI G cX4_readOrders 7 (am_bI q.1) q.2) (hrec10 : ∀ (a0 : Nat) (a1 : Nat) (x2 : Int32) (σ : am_SS), LC.1 a0 = 5 → LC.1 a1 = 2 → rec10 a0 a1 x2 σ = some q → am_K G 7 10 [(0, .ref (am_b G a0)), (1, .ref (am_b G a1)), (2, .int x2)] [] σ) (a0 : Nat) (a1 : Nat) (x2 : Int32) (x3 : Int32) (x4 : Int32) (σ : am_SS) (ha0 : LC.1 a0 = 5) (ha1 : LC.1 a1 = 2) (h : C_Reader_readOrders_p104 rec10 F a0 a1 x2 x3 x4 σ = some q) : am_K G 7 104 [(0, .ref (am_b G a0)), (1, .ref (am_b G a1)), (2, .int x2), (3, .int x3), (4, .int x4)] [] σ := by
  unfold C_Reader_readOrders_p104 at h
  refine am_aload_n C0 dX4_readOrders_104 0 rfl ?_
  refine am_dup C0 dX4_readOrders_105 rfl ?_
  refine am_getI C0 ff_RX4_28 (loC_3_5 ha0).1 (loC_3_5 ha0).2.1 (loC_3_5 ha0).2.2.1 (loC_3_5 ha0).2.2.2 dX4_readOrders_106 ?_
  refine am_iconst C0 dX4_readOrders_109 ci_1 ?_
  refine am_iadd C0 dX4_readOrders_110 ?_
  obtain ⟨σ_1, e_σ_1, h⟩ := am_lt h
  refine am_putI C0 e_σ_1 fp_RX4_28 (loC_3_5 ha0).1 (loC_3_5 ha0).2.1 (loC_3_5 ha0).2.2.1 (loC_3_5 ha0).2.2.2 rfl rfl dX4_readOrders_111 ?_
  refine am_iconst C0 dX4_readOrders_114 ci_m1 ?_
  refine am_istore C0 dX4_readOrders_115 (by decide) rfl (lv' := [(0, .ref (am_b G a0)), (1, .ref (am_b G a1)), (2, .int x2), (3, .int x3), (4, .int x4), (5, .int (-1))]) rfl ?_
  refine am_iconst C0 dX4_readOrders_117 ci_0 ?_
  refine am_istore C0 dX4_readOrders_118 (by decide) rfl (lv' := [(0, .ref (am_b G a0)), (1, .ref (am_b G a1)), (2, .int x2), (3, .int x3), (4, .int x4), (5, .int (-1)), (6, .int 0)]) rfl ?_
  refine am_iload C0 dX4_readOrders_120 4 rfl ?_
  refine am_bipush C0 dX4_readOrders_122 kb_21 ?_
  refine am_icmp_eq C0 dX4_readOrders_124 (tgt := 163) (by decide) (fun c_2 => ?_) (fun c_2 => ?_)
  · replace h := am_ip h c_2
    exact am_sub [0, 1, 2, 3, 4, 5, 6] rfl (k_C_Reader_readOrders_p163 C0 hd rec10 F hret hrec10 a0 a1 x2 x3 x4 (-1) false σ_1 ha0 ha1 h)
  · replace h := am_in h c_2
    refine am_aload_n C0 dX4_readOrders_127 0 rfl ?_
    refine am_iconst C0 dX4_readOrders_128 ci_0 ?_
    refine am_iload C0 dX4_readOrders_129 4 rfl ?_
    refine am_bipush C0 dX4_readOrders_131 kb_20 ?_
    refine am_icmp_ne C0 dX4_readOrders_133 (tgt := 143) (by decide) (fun c_3 => ?_) (fun c_3 => ?_)
    · replace h := am_in h c_3
      refine am_aload_n C0 dX4_readOrders_143 1 rfl ?_
      refine am_getI C0 ff_RX4_146 (loC_0_0 ha1).1 (loC_0_0 ha1).2.1 (loC_0_0 ha1).2.2.1 (loC_0_0 ha1).2.2.2 dX4_readOrders_144 ?_
      exact am_sub [0, 1, 2, 3, 4, 6] rfl (k_C_Reader_readOrders_p147 C0 hd rec10 F hret hrec10 a0 a1 x2 x3 x4 false a0 false (σ_1 a1 0) σ_1 ha0 ha1 ha0 h)
    · replace h := am_ip h c_3
      refine am_aload_n C0 dX4_readOrders_136 1 rfl ?_
      refine am_getI C0 ff_RX4_141 (loC_0_8 ha1).1 (loC_0_8 ha1).2.1 (loC_0_8 ha1).2.2.1 (loC_0_8 ha1).2.2.2 dX4_readOrders_137 ?_
      refine am_goto C0 dX4_readOrders_140 (tgt := 147) (by decide) ?_
      exact am_sub [0, 1, 2, 3, 4, 6] rfl (k_C_Reader_readOrders_p147 C0 hd rec10 F hret hrec10 a0 a1 x2 x3 x4 false a0 false (σ_1 a1 8) σ_1 ha0 ha1 ha0 h)
set_option maxRecDepth 100000 in
set_option maxHeartbeats 4000000 in
theorem k_C_Reader_readOrders_p94 {G : am_T} {d0 : Nat} (C0 : am_C G cX4_readOrders 7 RX4 LC d0) (hd : 4 ≤ d0) (F : Nat) {q : Bool × am_SS} (hret : am_retI G cX4_readOrders 7 (am_bI q.1) q.2) (a0 : Nat) (σ : am_SS) (ha0 : LC.1 a0 = 5) (h : C_Reader_readOrders_p94 F a0 σ = some q) : am_K G 7 94 [(0, .ref (am_b G a0))] [] σ := by
  unfold C_Reader_readOrders_p94 at h
  refine am_aload_n C0 dX4_readOrders_94 0 rfl ?_
  refine am_iconst C0 dX4_readOrders_95 ci_1 ?_
  refine am_aload_n C0 dX4_readOrders_96 0 rfl ?_
  refine am_getI C0 ff_RX4_28 (loC_3_5 ha0).1 (loC_3_5 ha0).2.1 (loC_3_5 ha0).2.2.1 (loC_3_5 ha0).2.2.2 dX4_readOrders_97 ?_
  obtain ⟨q_1, h_q_1, h⟩ := am_bind h
  refine am_callV C0 (m_C_Reader_fail (σ := σ) (Nat.le_refl _) a0 1 (σ a0 5) ha0 h_q_1) mm_yX4_fail ln_RX4_91 (As := fun b => [.int 1, .int (σ a0 5)]) (fun _ => rfl) (fun _ => rfl) (loC_3_0 ha0).1 (loC_3_0 ha0).2.1 rfl (Nat.le_trans (by decide) hd) rfl (Nat.le_of_ble_eq_true rfl) dX4_readOrders_100 ?_
  have e := Option.some.inj h
  subst e
  exact hret _ _ dX4_readOrders_103
set_option maxRecDepth 100000 in
set_option maxHeartbeats 4000000 in
theorem k_C_Reader_readOrders_p71 {G : am_T} {d0 : Nat} (C0 : am_C G cX4_readOrders 7 RX4 LC d0) (hd : 4 ≤ d0) (rec10 : Nat → Nat → Int32 → am_SS → Option (Bool × am_SS)) (F : Nat) {q : Bool × am_SS} (hret : am_retI G cX4_readOrders 7 (am_bI q.1) q.2) (hrec10 : ∀ (a0 : Nat) (a1 : Nat) (x2 : Int32) (σ : am_SS), LC.1 a0 = 5 → LC.1 a1 = 2 → rec10 a0 a1 x2 σ = some q → am_K G 7 10 [(0, .ref (am_b G a0)), (1, .ref (am_b G a1)), (2, .int x2)] [] σ) (a0 : Nat) (a1 : Nat) (x2 : Int32) (x3 : Int32) (s0 : Int32) (σ : am_SS) (ha0 : LC.1 a0 = 5) (ha1 : LC.1 a1 = 2) (h : C_Reader_readOrders_p71 rec10 F a0 a1 x2 x3 s0 σ = some q) : am_K G 7 71 [(0, .ref (am_b G a0)), (1, .ref (am_b G a1)), (2, .int x2), (3, .int x3)] [.int s0] σ := by
  unfold C_Reader_readOrders_p71 at h
  refine am_istore C0 dX4_readOrders_71 (by decide) rfl (lv' := [(0, .ref (am_b G a0)), (1, .ref (am_b G a1)), (2, .int x2), (3, .int x3), (4, .int s0)]) rfl ?_
  refine am_iload C0 dX4_readOrders_73 4 rfl ?_
  refine am_bipush C0 dX4_readOrders_75 kb_10 ?_
  refine am_icmp_eq C0 dX4_readOrders_77 (tgt := 104) (by decide) (fun c_1 => ?_) (fun c_1 => ?_)
  · replace h := am_ip h c_1
    exact am_sub [0, 1, 2, 3, 4] rfl (k_C_Reader_readOrders_p104 C0 hd rec10 F hret hrec10 a0 a1 x2 x3 s0 σ ha0 ha1 h)
  · replace h := am_in h c_1
    refine am_iload C0 dX4_readOrders_80 4 rfl ?_
    refine am_bipush C0 dX4_readOrders_82 kb_18 ?_
    refine am_icmp_lt C0 dX4_readOrders_84 (tgt := 94) (by decide) (fun c_2 => ?_) (fun c_2 => ?_)
    · replace h := am_ip h c_2
      exact am_sub [0] rfl (k_C_Reader_readOrders_p94 C0 hd F hret a0 σ ha0 h)
    · replace h := am_in h c_2
      refine am_iload C0 dX4_readOrders_87 4 rfl ?_
      refine am_bipush C0 dX4_readOrders_89 kb_21 ?_
      refine am_icmp_le C0 dX4_readOrders_91 (tgt := 104) (by decide) (fun c_3 => ?_) (fun c_3 => ?_)
      · replace h := am_in h c_3
        exact am_sub [0, 1, 2, 3, 4] rfl (k_C_Reader_readOrders_p104 C0 hd rec10 F hret hrec10 a0 a1 x2 x3 s0 σ ha0 ha1 h)
      · replace h := am_ip h c_3
        exact am_sub [0] rfl (k_C_Reader_readOrders_p94 C0 hd F hret a0 σ ha0 h)
set_option maxRecDepth 100000 in
set_option maxHeartbeats 4000000 in
theorem k_C_Reader_readOrders_l10 {G : am_T} {d0 : Nat} (C0 : am_C G cX4_readOrders 7 RX4 LC d0) (hd : 4 ≤ d0) (F : Nat) {q : Bool × am_SS} (hret : am_retI G cX4_readOrders 7 (am_bI q.1) q.2) : ∀ (n : Nat) (a0 : Nat) (a1 : Nat) (x2 : Int32) (σ : am_SS) (ha0 : LC.1 a0 = 5) (ha1 : LC.1 a1 = 2) (h : C_Reader_readOrders_l10 F n a0 a1 x2 σ = some q), am_K G 7 10 [(0, .ref (am_b G a0)), (1, .ref (am_b G a1)), (2, .int x2)] [] σ := by
  intro n
  induction n with
  | zero =>
    intro a0 a1 x2 σ ha0 ha1 h
    rw [C_Reader_readOrders_l10] at h
    cases h
  | succ n ih =>
    intro a0 a1 x2 σ ha0 ha1 h
    rw [C_Reader_readOrders_l10] at h
    refine am_iload_n C0 dX4_readOrders_10 2 rfl ?_
    refine am_bipush C0 dX4_readOrders_11 kb_16 ?_
    refine am_icmp_gt C0 dX4_readOrders_13 (tgt := 220) (by decide) (fun c_1 => ?_) (fun c_1 => ?_)
    · replace h := am_ip h c_1
      refine am_iconst C0 dX4_readOrders_220 ci_0 ?_
      have e := Option.some.inj h
      subst e
      exact hret _ _ dX4_readOrders_221
    · replace h := am_in h c_1
      refine am_aload_n C0 dX4_readOrders_16 0 rfl ?_
      obtain ⟨q_2, h_q_2, h⟩ := am_bind h
      refine am_callV C0 (m_C_Reader_kind (σ := σ) (Nat.le_refl _) a0 ha0 h_q_2) mm_yX4_kind ln_RX4_81 (As := fun b => []) (fun _ => rfl) (fun _ => rfl) (loC_3_0 ha0).1 (loC_3_0 ha0).2.1 rfl (Nat.le_trans (by decide) hd) rfl (Nat.le_of_ble_eq_true rfl) dX4_readOrders_17 ?_
      refine am_if_ne C0 dX4_readOrders_20 (tgt := 25) (by decide) (fun c_3 => ?_) (fun c_3 => ?_)
      · replace h := am_in h c_3
        refine am_aload_n C0 dX4_readOrders_25 0 rfl ?_
        refine am_iload_n C0 dX4_readOrders_26 2 rfl ?_
        refine am_bipush C0 dX4_readOrders_27 kb_17 ?_
        refine am_bipush C0 dX4_readOrders_29 kb_17 ?_
        obtain ⟨q_4, h_q_4, h⟩ := am_bind h
        refine am_callV C0 (m_C_Reader_opens (σ := σ) (Nat.le_refl _) a0 x2 17 17 ha0 h_q_4) mm_yX4_opens ln_RX4_101 (As := fun b => [.int x2, .int 17, .int 17]) (fun _ => rfl) (fun _ => rfl) (loC_3_0 ha0).1 (loC_3_0 ha0).2.1 rfl (Nat.le_trans (by decide) hd) rfl (Nat.le_of_ble_eq_true rfl) dX4_readOrders_31 ?_
        refine am_ifB_eq C0 dX4_readOrders_34 (tgt := 48) (by decide) (fun c_5 => ?_) (fun c_5 => ?_)
        · replace h := am_in h c_5
          refine am_iconst C0 dX4_readOrders_48 ci_0 ?_
          have e := Option.some.inj h
          subst e
          exact hret _ _ dX4_readOrders_49
        · replace h := am_ip h c_5
          refine am_aload_n C0 dX4_readOrders_37 0 rfl ?_
          refine am_iconst C0 dX4_readOrders_38 ci_0 ?_
          refine am_sipush C0 dX4_readOrders_39 cs_999 ?_
          obtain ⟨q_6, h_q_6, h⟩ := am_bind h
          refine am_callV C0 (m_C_Reader_takes (σ := q_4.2) (Nat.le_refl _) a0 0 999 ha0 h_q_6) mm_yX4_takes ln_RX4_136 (As := fun b => [.int 0, .int 999]) (fun _ => rfl) (fun _ => rfl) (loC_3_0 ha0).1 (loC_3_0 ha0).2.1 rfl (Nat.le_trans (by decide) hd) rfl (Nat.le_of_ble_eq_true rfl) dX4_readOrders_42 ?_
          refine am_ifB_ne C0 dX4_readOrders_45 (tgt := 50) (by decide) (fun c_7 => ?_) (fun c_7 => ?_)
          · replace h := am_ip h c_7
            refine am_aload_n C0 dX4_readOrders_50 0 rfl ?_
            refine am_getI C0 ff_RX4_31 (loC_3_6 ha0).1 (loC_3_6 ha0).2.1 (loC_3_6 ha0).2.2.1 (loC_3_6 ha0).2.2.2 dX4_readOrders_51 ?_
            obtain ⟨x3_8, e_x3_8, h⟩ := am_lt h
            refine am_top e_x3_8 ?_
            refine am_istore_n C0 dX4_readOrders_54 rfl (by decide) rfl (lv' := [(0, .ref (am_b G a0)), (1, .ref (am_b G a1)), (2, .int x2), (3, .int x3_8)]) rfl ?_
            refine am_aload_n C0 dX4_readOrders_55 0 rfl ?_
            obtain ⟨q_9, h_q_9, h⟩ := am_bind h
            refine am_callV C0 (m_C_Reader_kind (σ := q_6.2) (Nat.le_refl _) a0 ha0 h_q_9) mm_yX4_kind ln_RX4_81 (As := fun b => []) (fun _ => rfl) (fun _ => rfl) (loC_3_0 ha0).1 (loC_3_0 ha0).2.1 rfl (Nat.le_trans (by decide) hd) rfl (Nat.le_of_ble_eq_true rfl) dX4_readOrders_56 ?_
            refine am_iconst C0 dX4_readOrders_59 ci_2 ?_
            refine am_icmp_ne C0 dX4_readOrders_60 (tgt := 70) (by decide) (fun c_10 => ?_) (fun c_10 => ?_)
            · replace h := am_in h c_10
              refine am_iconst C0 dX4_readOrders_70 ci_m1 ?_
              exact am_sub [0, 1, 2, 3] rfl (k_C_Reader_readOrders_p71 C0 hd _ F hret (fun z0 z1 z2 zs zh0 zh1 z => ih z0 z1 z2 zs zh0 zh1 z) a0 a1 x2 x3_8 (-1) q_6.2 ha0 ha1 h)
            · replace h := am_ip h c_10
              refine am_aload_n C0 dX4_readOrders_63 0 rfl ?_
              obtain ⟨q_11, h_q_11, h⟩ := am_bind h
              refine am_callV C0 (m_C_Reader_value (σ := q_6.2) (Nat.le_refl _) a0 ha0 h_q_11) mm_yX4_value ln_RX4_84 (As := fun b => []) (fun _ => rfl) (fun _ => rfl) (loC_3_0 ha0).1 (loC_3_0 ha0).2.1 rfl (Nat.le_trans (by decide) hd) rfl (Nat.le_of_ble_eq_true rfl) dX4_readOrders_64 ?_
              refine am_goto C0 dX4_readOrders_67 (tgt := 71) (by decide) ?_
              exact am_sub [0, 1, 2, 3] rfl (k_C_Reader_readOrders_p71 C0 hd _ F hret (fun z0 z1 z2 zs zh0 zh1 z => ih z0 z1 z2 zs zh0 zh1 z) a0 a1 x2 x3_8 q_11 q_6.2 ha0 ha1 h)
          · replace h := am_in h c_7
            refine am_iconst C0 dX4_readOrders_48 ci_0 ?_
            have e := Option.some.inj h
            subst e
            exact hret _ _ dX4_readOrders_49
      · replace h := am_ip h c_3
        refine am_iconst C0 dX4_readOrders_23 ci_1 ?_
        have e := Option.some.inj h
        subst e
        exact hret _ _ dX4_readOrders_24
set_option maxRecDepth 100000 in
set_option maxHeartbeats 4000000 in
theorem k_C_Reader_readOrders {G : am_T} {d0 : Nat} (C0 : am_C G cX4_readOrders 7 RX4 LC d0) (hd : 4 ≤ d0) (F : Nat) {q : Bool × am_SS} (hret : am_retI G cX4_readOrders 7 (am_bI q.1) q.2) (a0 : Nat) (a1 : Nat) (σ : am_SS) (ha0 : LC.1 a0 = 5) (ha1 : LC.1 a1 = 2) (h : C_Reader_readOrders F a0 a1 σ = some q) : am_K G 7 0 [(0, .ref (am_b G a0)), (1, .ref (am_b G a1))] [] σ := by
  unfold C_Reader_readOrders at h
  refine am_aload_n C0 dX4_readOrders_0 0 rfl ?_
  refine am_getR C0 (j := a0 + 11) ff_RX4_52 (loC_3_10 ha0).1 (loC_3_10 ha0).2.1 (loC_3_10 ha0).2.2.1 (loC_3_10 ha0).2.2.2 dX4_readOrders_1 ?_
  obtain ⟨q_1, h_q_1, h⟩ := am_lt h
  refine am_callV C0 (m_C_Table_clear (σ := σ) (Nat.le_refl _) (a0 + 11) (tgC_3_10 ha0) h_q_1) mm_yX6_clear ln_RX4_139 (As := fun b => []) (fun _ => rfl) (fun _ => rfl) (loC_4_0 (tgC_3_10 ha0)).1 (loC_4_0 (tgC_3_10 ha0)).2.1 rfl (Nat.le_trans (by decide) hd) rfl (Nat.le_of_ble_eq_true rfl) dX4_readOrders_4 ?_
  refine am_pop C0 dX4_readOrders_7 rfl ?_
  refine am_iconst C0 dX4_readOrders_8 ci_0 ?_
  refine am_istore_n C0 dX4_readOrders_9 rfl (by decide) rfl (lv' := [(0, .ref (am_b G a0)), (1, .ref (am_b G a1)), (2, .int 0)]) rfl ?_
  exact am_sub [0, 1, 2] rfl (k_C_Reader_readOrders_l10 C0 hd F hret F a0 a1 0 q_1.2 ha0 ha1 h)
set_option maxRecDepth 100000 in
set_option maxHeartbeats 4000000 in
theorem m_C_Reader_readOrders {l : Launch} {d : Nat} {σ : am_SS} {q : Bool × am_SS} (hd : 4 ≤ d) (F : Nat) (a0 : Nat) (a1 : Nat) (ha0 : LC.1 a0 = 5) (ha1 : LC.1 a1 = 2) (h : C_Reader_readOrders F a0 a1 σ = some q) : am_Met l yX4_readOrders cX4_readOrders 7 (some .boolean) d 0 0 LC (fun b => [.ref (b a0), .ref (b a1)]) σ (some (.int (am_bI q.1))) q.2 :=
  am_metI (plainFor_of_name (by decide)) (am_bI_nr _) (lv := fun b => [(0, .ref (b a0)), (1, .ref (b a1))]) (fun _ => rfl) (fun _ => Nat.le_of_ble_eq_true rfl) (fun G C0 _ hret => k_C_Reader_readOrders C0 hd F hret a0 a1 σ ha0 ha1 h)
set_option maxRecDepth 100000 in
set_option maxHeartbeats 4000000 in
theorem k_C_Reader_canServe {G : am_T} {d0 : Nat} (C0 : am_C G cX4_canServe 3 RX4 LC d0) (hd : 2 ≤ d0) {σ : am_SS} {q : Bool} (hret : am_retI G cX4_canServe 3 (am_bI q) σ) (a0 : Nat) (x1 : Int32) (x2 : Int32) (ha0 : LC.1 a0 = 2) (h : C_Reader_canServe a0 x1 x2 σ = some q) : am_K G 3 0 [(0, .ref (am_b G a0)), (1, .int x1), (2, .int x2)] [] σ := by
  unfold C_Reader_canServe at h
  refine am_aload_n C0 dX4_canServe_0 0 rfl ?_
  refine am_iload_n C0 dX4_canServe_1 1 rfl ?_
  refine am_callV C0 (m_C_Front_hasOfficer (σ := σ) (Nat.le_refl _) a0 x1 ha0 rfl) mm_yX0_hasOfficer ln_RX4_159 (As := fun b => [.int x1]) (fun _ => rfl) (fun _ => rfl) (loC_0_0 ha0).1 (loC_0_0 ha0).2.1 rfl (Nat.le_trans (by decide) hd) rfl (Nat.le_of_ble_eq_true rfl) dX4_canServe_2 ?_
  refine am_ifB_eq C0 dX4_canServe_5 (tgt := 35) (by decide) (fun c_2 => ?_) (fun c_2 => ?_)
  · replace h := am_in h c_2
    refine am_iconst C0 dX4_canServe_35 ci_0 ?_
    have e := Option.some.inj h
    subst e
    exact hret _ _ dX4_canServe_36
  · replace h := am_ip h c_2
    refine am_aload_n C0 dX4_canServe_8 0 rfl ?_
    refine am_iload_n C0 dX4_canServe_9 2 rfl ?_
    refine am_callV C0 (m_C_Front_hasBatman (σ := σ) (Nat.le_refl _) a0 x2 ha0 rfl) mm_yX0_hasBatman ln_RX4_162 (As := fun b => [.int x2]) (fun _ => rfl) (fun _ => rfl) (loC_0_0 ha0).1 (loC_0_0 ha0).2.1 rfl (Nat.le_trans (by decide) hd) rfl (Nat.le_of_ble_eq_true rfl) dX4_canServe_10 ?_
    refine am_ifB_eq C0 dX4_canServe_13 (tgt := 35) (by decide) (fun c_4 => ?_) (fun c_4 => ?_)
    · replace h := am_in h c_4
      refine am_iconst C0 dX4_canServe_35 ci_0 ?_
      have e := Option.some.inj h
      subst e
      exact hret _ _ dX4_canServe_36
    · replace h := am_ip h c_4
      refine am_aload_n C0 dX4_canServe_16 0 rfl ?_
      refine am_getR C0 (j := a0 + 1) ff_RX4_165 (loC_0_1 ha0).1 (loC_0_1 ha0).2.1 (loC_0_1 ha0).2.2.1 (loC_0_1 ha0).2.2.2 dX4_canServe_17 ?_
      refine am_iload_n C0 dX4_canServe_20 1 rfl ?_
      obtain ⟨t_5, h_t_5, h⟩ := am_bind h
      refine am_iald C0 (ltC (tgC_0_1 ha0)) (tgC_0_1 ha0) (lnC_0_1 ha0) h_t_5 dX4_canServe_21 ?_
      refine am_aload_n C0 dX4_canServe_22 0 rfl ?_
      refine am_getR C0 (j := a0 + 8) ff_RX4_168 (loC_0_9 ha0).1 (loC_0_9 ha0).2.1 (loC_0_9 ha0).2.2.1 (loC_0_9 ha0).2.2.2 dX4_canServe_23 ?_
      refine am_iload_n C0 dX4_canServe_26 2 rfl ?_
      obtain ⟨t_6, h_t_6, h⟩ := am_bind h
      refine am_iald C0 (ltC (tgC_0_9 ha0)) (tgC_0_9 ha0) (lnC_0_9 ha0) h_t_6 dX4_canServe_27 ?_
      refine am_icmp_eq C0 dX4_canServe_28 (tgt := 35) (by decide) (fun c_7 => ?_) (fun c_7 => ?_)
      · replace h := am_ip h c_7
        refine am_iconst C0 dX4_canServe_35 ci_0 ?_
        have e := Option.some.inj h
        subst e
        exact hret _ _ dX4_canServe_36
      · replace h := am_in h c_7
        refine am_iconst C0 dX4_canServe_31 ci_1 ?_
        refine am_goto C0 dX4_canServe_32 (tgt := 36) (by decide) ?_
        have e := Option.some.inj h
        subst e
        exact hret _ _ dX4_canServe_36
set_option maxRecDepth 100000 in
set_option maxHeartbeats 4000000 in
theorem m_C_Reader_canServe {l : Launch} {d : Nat} {σ : am_SS} {q : Bool} (hd : 2 ≤ d) (a0 : Nat) (x1 : Int32) (x2 : Int32) (ha0 : LC.1 a0 = 2) (h : C_Reader_canServe a0 x1 x2 σ = some q) : am_Met l yX4_canServe cX4_canServe 3 (some .boolean) d 0 0 LC (fun b => [.ref (b a0), .int x1, .int x2]) σ (some (.int (am_bI q))) σ :=
  am_metI (plainFor_of_name (by decide)) (am_bI_nr _) (lv := fun b => [(0, .ref (b a0)), (1, .int x1), (2, .int x2)]) (fun _ => rfl) (fun _ => Nat.le_of_ble_eq_true rfl) (fun G C0 _ hret => k_C_Reader_canServe C0 hd hret a0 x1 x2 ha0 h)
set_option maxRecDepth 100000 in
set_option maxHeartbeats 4000000 in
theorem k_C_Reader_canNeed {G : am_T} {d0 : Nat} (C0 : am_C G cX4_canNeed 3 RX4 LC d0) (hd : 2 ≤ d0) {σ : am_SS} {q : Bool} (hret : am_retI G cX4_canNeed 3 (am_bI q) σ) (a0 : Nat) (x1 : Int32) (x2 : Int32) (ha0 : LC.1 a0 = 2) (h : C_Reader_canNeed a0 x1 x2 σ = some q) : am_K G 3 0 [(0, .ref (am_b G a0)), (1, .int x1), (2, .int x2)] [] σ := by
  unfold C_Reader_canNeed at h
  refine am_aload_n C0 dX4_canNeed_0 0 rfl ?_
  refine am_iload_n C0 dX4_canNeed_1 1 rfl ?_
  refine am_callV C0 (m_C_Front_hasOfficer (σ := σ) (Nat.le_refl _) a0 x1 ha0 rfl) mm_yX0_hasOfficer ln_RX4_159 (As := fun b => [.int x1]) (fun _ => rfl) (fun _ => rfl) (loC_0_0 ha0).1 (loC_0_0 ha0).2.1 rfl (Nat.le_trans (by decide) hd) rfl (Nat.le_of_ble_eq_true rfl) dX4_canNeed_2 ?_
  refine am_ifB_eq C0 dX4_canNeed_5 (tgt := 40) (by decide) (fun c_2 => ?_) (fun c_2 => ?_)
  · replace h := am_in h c_2
    refine am_iconst C0 dX4_canNeed_40 ci_0 ?_
    have e := Option.some.inj h
    subst e
    exact hret _ _ dX4_canNeed_41
  · replace h := am_ip h c_2
    refine am_aload_n C0 dX4_canNeed_8 0 rfl ?_
    refine am_iload_n C0 dX4_canNeed_9 2 rfl ?_
    refine am_callV C0 (m_C_Front_hasOfficer (σ := σ) (Nat.le_refl _) a0 x2 ha0 rfl) mm_yX0_hasOfficer ln_RX4_159 (As := fun b => [.int x2]) (fun _ => rfl) (fun _ => rfl) (loC_0_0 ha0).1 (loC_0_0 ha0).2.1 rfl (Nat.le_trans (by decide) hd) rfl (Nat.le_of_ble_eq_true rfl) dX4_canNeed_10 ?_
    refine am_ifB_eq C0 dX4_canNeed_13 (tgt := 40) (by decide) (fun c_4 => ?_) (fun c_4 => ?_)
    · replace h := am_in h c_4
      refine am_iconst C0 dX4_canNeed_40 ci_0 ?_
      have e := Option.some.inj h
      subst e
      exact hret _ _ dX4_canNeed_41
    · replace h := am_ip h c_4
      refine am_iload_n C0 dX4_canNeed_16 1 rfl ?_
      refine am_iload_n C0 dX4_canNeed_17 2 rfl ?_
      refine am_icmp_eq C0 dX4_canNeed_18 (tgt := 40) (by decide) (fun c_5 => ?_) (fun c_5 => ?_)
      · replace h := am_ip h c_5
        refine am_iconst C0 dX4_canNeed_40 ci_0 ?_
        have e := Option.some.inj h
        subst e
        exact hret _ _ dX4_canNeed_41
      · replace h := am_in h c_5
        refine am_aload_n C0 dX4_canNeed_21 0 rfl ?_
        refine am_getR C0 (j := a0 + 1) ff_RX4_165 (loC_0_1 ha0).1 (loC_0_1 ha0).2.1 (loC_0_1 ha0).2.2.1 (loC_0_1 ha0).2.2.2 dX4_canNeed_22 ?_
        refine am_iload_n C0 dX4_canNeed_25 1 rfl ?_
        obtain ⟨t_6, h_t_6, h⟩ := am_bind h
        refine am_iald C0 (ltC (tgC_0_1 ha0)) (tgC_0_1 ha0) (lnC_0_1 ha0) h_t_6 dX4_canNeed_26 ?_
        refine am_aload_n C0 dX4_canNeed_27 0 rfl ?_
        refine am_getR C0 (j := a0 + 1) ff_RX4_165 (loC_0_1 ha0).1 (loC_0_1 ha0).2.1 (loC_0_1 ha0).2.2.1 (loC_0_1 ha0).2.2.2 dX4_canNeed_28 ?_
        refine am_iload_n C0 dX4_canNeed_31 2 rfl ?_
        obtain ⟨t_7, h_t_7, h⟩ := am_bind h
        refine am_iald C0 (ltC (tgC_0_1 ha0)) (tgC_0_1 ha0) (lnC_0_1 ha0) h_t_7 dX4_canNeed_32 ?_
        refine am_icmp_ne C0 dX4_canNeed_33 (tgt := 40) (by decide) (fun c_8 => ?_) (fun c_8 => ?_)
        · replace h := am_in h c_8
          refine am_iconst C0 dX4_canNeed_40 ci_0 ?_
          have e := Option.some.inj h
          subst e
          exact hret _ _ dX4_canNeed_41
        · replace h := am_ip h c_8
          refine am_iconst C0 dX4_canNeed_36 ci_1 ?_
          refine am_goto C0 dX4_canNeed_37 (tgt := 41) (by decide) ?_
          have e := Option.some.inj h
          subst e
          exact hret _ _ dX4_canNeed_41
set_option maxRecDepth 100000 in
set_option maxHeartbeats 4000000 in
theorem m_C_Reader_canNeed {l : Launch} {d : Nat} {σ : am_SS} {q : Bool} (hd : 2 ≤ d) (a0 : Nat) (x1 : Int32) (x2 : Int32) (ha0 : LC.1 a0 = 2) (h : C_Reader_canNeed a0 x1 x2 σ = some q) : am_Met l yX4_canNeed cX4_canNeed 3 (some .boolean) d 0 0 LC (fun b => [.ref (b a0), .int x1, .int x2]) σ (some (.int (am_bI q))) σ :=
  am_metI (plainFor_of_name (by decide)) (am_bI_nr _) (lv := fun b => [(0, .ref (b a0)), (1, .int x1), (2, .int x2)]) (fun _ => rfl) (fun _ => Nat.le_of_ble_eq_true rfl) (fun G C0 _ hret => k_C_Reader_canNeed C0 hd hret a0 x1 x2 ha0 h)
set_option maxRecDepth 100000 in
set_option maxHeartbeats 4000000 in
theorem k_C_Reader_readCouples_p151 {G : am_T} {d0 : Nat} (C0 : am_C G cX4_readCouples 5 RX4 LC d0) (hd : 4 ≤ d0) (rec10 : Nat → Nat → Bool → Int32 → am_SS → Option (Bool × am_SS)) (F : Nat) {q : Bool × am_SS} (hret : am_retI G cX4_readCouples 5 (am_bI q.1) q.2) (hrec10 : ∀ (a0 : Nat) (a1 : Nat) (x2 : Bool) (x3 : Int32) (σ : am_SS), LC.1 a0 = 5 → LC.1 a1 = 2 → rec10 a0 a1 x2 x3 σ = some q → am_K G 5 10 [(0, .ref (am_b G a0)), (1, .ref (am_b G a1)), (2, .int (am_bI x2)), (3, .int x3)] [] σ) (a0 : Nat) (a1 : Nat) (x2 : Bool) (x3 : Int32) (x4 : Int32) (σ : am_SS) (ha0 : LC.1 a0 = 5) (ha1 : LC.1 a1 = 2) (h : C_Reader_readCouples_p151 rec10 F a0 a1 x2 x3 x4 σ = some q) : am_K G 5 151 [(0, .ref (am_b G a0)), (1, .ref (am_b G a1)), (2, .int (am_bI x2)), (3, .int x3), (4, .int x4)] [] σ := by
  unfold C_Reader_readCouples_p151 at h
  refine am_aload_n C0 dX4_readCouples_151 0 rfl ?_
  refine am_bipush C0 dX4_readCouples_152 kb_59 ?_
  obtain ⟨q_1, h_q_1, h⟩ := am_bind h
  refine am_callV C0 (m_C_Reader_sign (σ := σ) (Nat.le_refl _) a0 59 ha0 h_q_1) mm_yX4_sign ln_RX4_117 (As := fun b => [.int 59]) (fun _ => rfl) (fun _ => rfl) (loC_3_0 ha0).1 (loC_3_0 ha0).2.1 rfl (Nat.le_trans (by decide) hd) rfl (Nat.le_of_ble_eq_true rfl) dX4_readCouples_154 ?_
  refine am_ifB_ne C0 dX4_readCouples_157 (tgt := 162) (by decide) (fun c_2 => ?_) (fun c_2 => ?_)
  · replace h := am_ip h c_2
    refine am_aload_n C0 dX4_readCouples_162 0 rfl ?_
    refine am_getR C0 (j := a0 + 11) ff_RX4_52 (loC_3_10 ha0).1 (loC_3_10 ha0).2.1 (loC_3_10 ha0).2.2.1 (loC_3_10 ha0).2.2.2 dX4_readCouples_163 ?_
    refine am_iload C0 dX4_readCouples_166 4 rfl ?_
    refine am_aload_n C0 dX4_readCouples_168 0 rfl ?_
    refine am_getI C0 ff_RX4_31 (loC_3_6 ha0).1 (loC_3_6 ha0).2.1 (loC_3_6 ha0).2.2.1 (loC_3_6 ha0).2.2.2 dX4_readCouples_169 ?_
    refine am_iconst C0 dX4_readCouples_172 ci_0 ?_
    refine am_iconst C0 dX4_readCouples_173 ci_0 ?_
    obtain ⟨q_3, h_q_3, h⟩ := am_bind h
    refine am_callV C0 (m_C_Table_add (σ := q_1.2) (Nat.le_refl _) F (a0 + 11) x4 (q_1.2 a0 6) 0 0 (tgC_3_10 ha0) h_q_3) mm_yX6_add ln_RX4_123 (As := fun b => [.int x4, .int (q_1.2 a0 6), .int 0, .int 0]) (fun _ => rfl) (fun _ => rfl) (loC_4_0 (tgC_3_10 ha0)).1 (loC_4_0 (tgC_3_10 ha0)).2.1 rfl (Nat.le_trans (by decide) hd) rfl (Nat.le_of_ble_eq_true rfl) dX4_readCouples_174 ?_
    refine am_pop C0 dX4_readCouples_177 rfl ?_
    obtain ⟨x3_4, e_x3_4, h⟩ := am_lt h
    refine am_iinc C0 dX4_readCouples_178 3 rfl (by rw [ci_1]; exact e_x3_4) (by decide) rfl (lv' := [(0, .ref (am_b G a0)), (1, .ref (am_b G a1)), (2, .int (am_bI x2)), (3, .int x3_4), (4, .int x4)]) rfl ?_
    refine am_goto C0 dX4_readCouples_181 (tgt := 10) (by decide) ?_
    exact am_sub [0, 1, 2, 3] rfl (hrec10 a0 a1 x2 x3_4 q_3.2 ha0 ha1 h)
  · replace h := am_in h c_2
    refine am_iconst C0 dX4_readCouples_160 ci_0 ?_
    have e := Option.some.inj h
    subst e
    exact hret _ _ dX4_readCouples_161
set_option maxRecDepth 100000 in
set_option maxHeartbeats 4000000 in
theorem k_C_Reader_readCouples_p139 {G : am_T} {d0 : Nat} (C0 : am_C G cX4_readCouples 5 RX4 LC d0) (hd : 4 ≤ d0) (F : Nat) {q : Bool × am_SS} (hret : am_retI G cX4_readCouples 5 (am_bI q.1) q.2) (a0 : Nat) (σ : am_SS) (ha0 : LC.1 a0 = 5) (h : C_Reader_readCouples_p139 F a0 σ = some q) : am_K G 5 139 [(0, .ref (am_b G a0))] [] σ := by
  unfold C_Reader_readCouples_p139 at h
  refine am_aload_n C0 dX4_readCouples_139 0 rfl ?_
  refine am_iconst C0 dX4_readCouples_140 ci_2 ?_
  refine am_aload_n C0 dX4_readCouples_141 0 rfl ?_
  refine am_getI C0 ff_RX4_28 (loC_3_5 ha0).1 (loC_3_5 ha0).2.1 (loC_3_5 ha0).2.2.1 (loC_3_5 ha0).2.2.2 dX4_readCouples_142 ?_
  refine am_iconst C0 dX4_readCouples_145 ci_1 ?_
  refine am_isub C0 dX4_readCouples_146 ?_
  obtain ⟨q_1, h_q_1, h⟩ := am_bind h
  refine am_callV C0 (m_C_Reader_fail (σ := σ) (Nat.le_refl _) a0 2 ((σ a0 5) - 1) ha0 h_q_1) mm_yX4_fail ln_RX4_91 (As := fun b => [.int 2, .int ((σ a0 5) - 1)]) (fun _ => rfl) (fun _ => rfl) (loC_3_0 ha0).1 (loC_3_0 ha0).2.1 rfl (Nat.le_trans (by decide) hd) rfl (Nat.le_of_ble_eq_true rfl) dX4_readCouples_147 ?_
  have e := Option.some.inj h
  subst e
  exact hret _ _ dX4_readCouples_150
set_option maxRecDepth 100000 in
set_option maxHeartbeats 4000000 in
theorem k_C_Reader_readCouples_p96 {G : am_T} {d0 : Nat} (C0 : am_C G cX4_readCouples 5 RX4 LC d0) (hd : 4 ≤ d0) (rec10 : Nat → Nat → Bool → Int32 → am_SS → Option (Bool × am_SS)) (F : Nat) {q : Bool × am_SS} (hret : am_retI G cX4_readCouples 5 (am_bI q.1) q.2) (hrec10 : ∀ (a0 : Nat) (a1 : Nat) (x2 : Bool) (x3 : Int32) (σ : am_SS), LC.1 a0 = 5 → LC.1 a1 = 2 → rec10 a0 a1 x2 x3 σ = some q → am_K G 5 10 [(0, .ref (am_b G a0)), (1, .ref (am_b G a1)), (2, .int (am_bI x2)), (3, .int x3)] [] σ) (a0 : Nat) (a1 : Nat) (x2 : Bool) (x3 : Int32) (x4 : Int32) (t0 : Nat) (s1 : Bool) (s2 : Int32) (σ : am_SS) (ha0 : LC.1 a0 = 5) (ha1 : LC.1 a1 = 2) (ht0 : LC.1 t0 = 5) (h : C_Reader_readCouples_p96 rec10 F a0 a1 x2 x3 x4 t0 s1 s2 σ = some q) : am_K G 5 96 [(0, .ref (am_b G a0)), (1, .ref (am_b G a1)), (2, .int (am_bI x2)), (3, .int x3), (4, .int x4)] [.int s2, .int (am_bI s1), .ref (am_b G t0)] σ := by
  unfold C_Reader_readCouples_p96 at h
  refine am_iconst C0 dX4_readCouples_96 ci_1 ?_
  refine am_isub C0 dX4_readCouples_97 ?_
  obtain ⟨q_1, h_q_1, h⟩ := am_bind h
  refine am_callV C0 (m_C_Reader_takes (σ := σ) (Nat.le_refl _) t0 (am_bI s1) (s2 - 1) ht0 h_q_1) mm_yX4_takes ln_RX4_136 (As := fun b => [.int (am_bI s1), .int (s2 - 1)]) (fun _ => rfl) (fun _ => rfl) (loC_3_0 ht0).1 (loC_3_0 ht0).2.1 rfl (Nat.le_trans (by decide) hd) rfl (Nat.le_of_ble_eq_true rfl) dX4_readCouples_98 ?_
  refine am_ifB_ne C0 dX4_readCouples_101 (tgt := 106) (by decide) (fun c_2 => ?_) (fun c_2 => ?_)
  · replace h := am_ip h c_2
    refine am_iload_n C0 dX4_readCouples_106 2 rfl ?_
    refine am_ifB_eq C0 dX4_readCouples_107 (tgt := 126) (by decide) (fun c_3 => ?_) (fun c_3 => ?_)
    · replace h := am_in h c_3
      refine am_aload_n C0 dX4_readCouples_126 1 rfl ?_
      refine am_iload C0 dX4_readCouples_127 4 rfl ?_
      refine am_aload_n C0 dX4_readCouples_129 0 rfl ?_
      refine am_getI C0 ff_RX4_31 (loC_3_6 ha0).1 (loC_3_6 ha0).2.1 (loC_3_6 ha0).2.2.1 (loC_3_6 ha0).2.2.2 dX4_readCouples_130 ?_
      obtain ⟨q_4, h_q_4, h⟩ := am_bind h
      refine am_callS C0 (m_C_Reader_canNeed (σ := q_1.2) (Nat.le_refl _) a1 x4 (q_1.2 a0 6) ha1 h_q_4) mm_yX4_canNeed ln_RX4_156 (fun _ => rfl) (Nat.le_trans (by decide) hd) rfl (Nat.le_of_ble_eq_true rfl) dX4_readCouples_133 ?_
      refine am_ifB_ne C0 dX4_readCouples_136 (tgt := 151) (by decide) (fun c_5 => ?_) (fun c_5 => ?_)
      · replace h := am_ip h c_5
        exact am_sub [0, 1, 2, 3, 4] rfl (k_C_Reader_readCouples_p151 C0 hd rec10 F hret hrec10 a0 a1 x2 x3 x4 q_1.2 ha0 ha1 h)
      · replace h := am_in h c_5
        exact am_sub [0] rfl (k_C_Reader_readCouples_p139 C0 hd F hret a0 q_1.2 ha0 h)
    · replace h := am_ip h c_3
      refine am_aload_n C0 dX4_readCouples_110 1 rfl ?_
      refine am_iload C0 dX4_readCouples_111 4 rfl ?_
      refine am_aload_n C0 dX4_readCouples_113 0 rfl ?_
      refine am_getI C0 ff_RX4_31 (loC_3_6 ha0).1 (loC_3_6 ha0).2.1 (loC_3_6 ha0).2.2.1 (loC_3_6 ha0).2.2.2 dX4_readCouples_114 ?_
      obtain ⟨q_6, h_q_6, h⟩ := am_bind h
      refine am_callS C0 (m_C_Reader_canServe (σ := q_1.2) (Nat.le_refl _) a1 x4 (q_1.2 a0 6) ha1 h_q_6) mm_yX4_canServe ln_RX4_152 (fun _ => rfl) (Nat.le_trans (by decide) hd) rfl (Nat.le_of_ble_eq_true rfl) dX4_readCouples_117 ?_
      refine am_ifB_ne C0 dX4_readCouples_120 (tgt := 151) (by decide) (fun c_7 => ?_) (fun c_7 => ?_)
      · replace h := am_ip h c_7
        exact am_sub [0, 1, 2, 3, 4] rfl (k_C_Reader_readCouples_p151 C0 hd rec10 F hret hrec10 a0 a1 x2 x3 x4 q_1.2 ha0 ha1 h)
      · replace h := am_in h c_7
        refine am_goto C0 dX4_readCouples_123 (tgt := 139) (by decide) ?_
        exact am_sub [0] rfl (k_C_Reader_readCouples_p139 C0 hd F hret a0 q_1.2 ha0 h)
  · replace h := am_in h c_2
    refine am_iconst C0 dX4_readCouples_104 ci_0 ?_
    have e := Option.some.inj h
    subst e
    exact hret _ _ dX4_readCouples_105
set_option maxRecDepth 100000 in
set_option maxHeartbeats 4000000 in
theorem k_C_Reader_readCouples_p71 {G : am_T} {d0 : Nat} (C0 : am_C G cX4_readCouples 5 RX4 LC d0) (hd : 4 ≤ d0) (rec10 : Nat → Nat → Bool → Int32 → am_SS → Option (Bool × am_SS)) (F : Nat) {q : Bool × am_SS} (hret : am_retI G cX4_readCouples 5 (am_bI q.1) q.2) (hrec10 : ∀ (a0 : Nat) (a1 : Nat) (x2 : Bool) (x3 : Int32) (σ : am_SS), LC.1 a0 = 5 → LC.1 a1 = 2 → rec10 a0 a1 x2 x3 σ = some q → am_K G 5 10 [(0, .ref (am_b G a0)), (1, .ref (am_b G a1)), (2, .int (am_bI x2)), (3, .int x3)] [] σ) (a0 : Nat) (a1 : Nat) (x2 : Bool) (x3 : Int32) (x4 : Int32) (t0 : Nat) (s1 : Int32) (σ : am_SS) (ha0 : LC.1 a0 = 5) (ha1 : LC.1 a1 = 2) (ht0 : LC.1 t0 = 5) (h : C_Reader_readCouples_p71 rec10 F a0 a1 x2 x3 x4 t0 s1 σ = some q) : am_K G 5 71 [(0, .ref (am_b G a0)), (1, .ref (am_b G a1)), (2, .int (am_bI x2)), (3, .int x3), (4, .int x4)] [.int s1, .ref (am_b G t0)] σ := by
  unfold C_Reader_readCouples_p71 at h
  obtain ⟨q_1, h_q_1, h⟩ := am_bind h
  refine am_callV C0 (m_C_Reader_word (σ := σ) (Nat.le_refl _) t0 s1 ht0 h_q_1) mm_yX4_word ln_RX4_149 (As := fun b => [.int s1]) (fun _ => rfl) (fun _ => rfl) (loC_3_0 ht0).1 (loC_3_0 ht0).2.1 rfl (Nat.le_trans (by decide) hd) rfl (Nat.le_of_ble_eq_true rfl) dX4_readCouples_71 ?_
  refine am_ifB_ne C0 dX4_readCouples_74 (tgt := 79) (by decide) (fun c_2 => ?_) (fun c_2 => ?_)
  · replace h := am_ip h c_2
    refine am_aload_n C0 dX4_readCouples_79 0 rfl ?_
    refine am_iconst C0 dX4_readCouples_80 ci_0 ?_
    refine am_iload_n C0 dX4_readCouples_81 2 rfl ?_
    refine am_ifB_eq C0 dX4_readCouples_82 (tgt := 92) (by decide) (fun c_3 => ?_) (fun c_3 => ?_)
    · replace h := am_in h c_3
      refine am_aload_n C0 dX4_readCouples_92 1 rfl ?_
      refine am_getI C0 ff_RX4_146 (loC_0_0 ha1).1 (loC_0_0 ha1).2.1 (loC_0_0 ha1).2.2.1 (loC_0_0 ha1).2.2.2 dX4_readCouples_93 ?_
      exact am_sub [0, 1, 2, 3, 4] rfl (k_C_Reader_readCouples_p96 C0 hd rec10 F hret hrec10 a0 a1 x2 x3 x4 a0 false (q_1.2 a1 0) q_1.2 ha0 ha1 ha0 h)
    · replace h := am_ip h c_3
      refine am_aload_n C0 dX4_readCouples_85 1 rfl ?_
      refine am_getI C0 ff_RX4_141 (loC_0_8 ha1).1 (loC_0_8 ha1).2.1 (loC_0_8 ha1).2.2.1 (loC_0_8 ha1).2.2.2 dX4_readCouples_86 ?_
      refine am_goto C0 dX4_readCouples_89 (tgt := 96) (by decide) ?_
      exact am_sub [0, 1, 2, 3, 4] rfl (k_C_Reader_readCouples_p96 C0 hd rec10 F hret hrec10 a0 a1 x2 x3 x4 a0 false (q_1.2 a1 8) q_1.2 ha0 ha1 ha0 h)
  · replace h := am_in h c_2
    refine am_iconst C0 dX4_readCouples_77 ci_0 ?_
    have e := Option.some.inj h
    subst e
    exact hret _ _ dX4_readCouples_78
set_option maxRecDepth 100000 in
set_option maxHeartbeats 4000000 in
theorem k_C_Reader_readCouples_l10 {G : am_T} {d0 : Nat} (C0 : am_C G cX4_readCouples 5 RX4 LC d0) (hd : 4 ≤ d0) (F : Nat) {q : Bool × am_SS} (hret : am_retI G cX4_readCouples 5 (am_bI q.1) q.2) : ∀ (n : Nat) (a0 : Nat) (a1 : Nat) (x2 : Bool) (x3 : Int32) (σ : am_SS) (ha0 : LC.1 a0 = 5) (ha1 : LC.1 a1 = 2) (h : C_Reader_readCouples_l10 F n a0 a1 x2 x3 σ = some q), am_K G 5 10 [(0, .ref (am_b G a0)), (1, .ref (am_b G a1)), (2, .int (am_bI x2)), (3, .int x3)] [] σ := by
  intro n
  induction n with
  | zero =>
    intro a0 a1 x2 x3 σ ha0 ha1 h
    rw [C_Reader_readCouples_l10] at h
    cases h
  | succ n ih =>
    intro a0 a1 x2 x3 σ ha0 ha1 h
    rw [C_Reader_readCouples_l10] at h
    refine am_iload_n C0 dX4_readCouples_10 3 rfl ?_
    refine am_bipush C0 dX4_readCouples_11 kb_16 ?_
    refine am_icmp_gt C0 dX4_readCouples_13 (tgt := 184) (by decide) (fun c_1 => ?_) (fun c_1 => ?_)
    · replace h := am_ip h c_1
      refine am_iconst C0 dX4_readCouples_184 ci_0 ?_
      have e := Option.some.inj h
      subst e
      exact hret _ _ dX4_readCouples_185
    · replace h := am_in h c_1
      refine am_aload_n C0 dX4_readCouples_16 0 rfl ?_
      obtain ⟨q_2, h_q_2, h⟩ := am_bind h
      refine am_callV C0 (m_C_Reader_kind (σ := σ) (Nat.le_refl _) a0 ha0 h_q_2) mm_yX4_kind ln_RX4_81 (As := fun b => []) (fun _ => rfl) (fun _ => rfl) (loC_3_0 ha0).1 (loC_3_0 ha0).2.1 rfl (Nat.le_trans (by decide) hd) rfl (Nat.le_of_ble_eq_true rfl) dX4_readCouples_17 ?_
      refine am_if_ne C0 dX4_readCouples_20 (tgt := 25) (by decide) (fun c_3 => ?_) (fun c_3 => ?_)
      · replace h := am_in h c_3
        refine am_aload_n C0 dX4_readCouples_25 0 rfl ?_
        refine am_iload_n C0 dX4_readCouples_26 3 rfl ?_
        refine am_bipush C0 dX4_readCouples_27 kb_22 ?_
        refine am_bipush C0 dX4_readCouples_29 kb_22 ?_
        obtain ⟨q_4, h_q_4, h⟩ := am_bind h
        refine am_callV C0 (m_C_Reader_opens (σ := σ) (Nat.le_refl _) a0 x3 22 22 ha0 h_q_4) mm_yX4_opens ln_RX4_101 (As := fun b => [.int x3, .int 22, .int 22]) (fun _ => rfl) (fun _ => rfl) (loC_3_0 ha0).1 (loC_3_0 ha0).2.1 rfl (Nat.le_trans (by decide) hd) rfl (Nat.le_of_ble_eq_true rfl) dX4_readCouples_31 ?_
        refine am_ifB_eq C0 dX4_readCouples_34 (tgt := 51) (by decide) (fun c_5 => ?_) (fun c_5 => ?_)
        · replace h := am_in h c_5
          refine am_iconst C0 dX4_readCouples_51 ci_0 ?_
          have e := Option.some.inj h
          subst e
          exact hret _ _ dX4_readCouples_52
        · replace h := am_ip h c_5
          refine am_aload_n C0 dX4_readCouples_37 0 rfl ?_
          refine am_iconst C0 dX4_readCouples_38 ci_0 ?_
          refine am_aload_n C0 dX4_readCouples_39 1 rfl ?_
          refine am_getI C0 ff_RX4_146 (loC_0_0 ha1).1 (loC_0_0 ha1).2.1 (loC_0_0 ha1).2.2.1 (loC_0_0 ha1).2.2.2 dX4_readCouples_40 ?_
          refine am_iconst C0 dX4_readCouples_43 ci_1 ?_
          refine am_isub C0 dX4_readCouples_44 ?_
          obtain ⟨q_6, h_q_6, h⟩ := am_bind h
          refine am_callV C0 (m_C_Reader_takes (σ := q_4.2) (Nat.le_refl _) a0 0 ((q_4.2 a1 0) - 1) ha0 h_q_6) mm_yX4_takes ln_RX4_136 (As := fun b => [.int 0, .int ((q_4.2 a1 0) - 1)]) (fun _ => rfl) (fun _ => rfl) (loC_3_0 ha0).1 (loC_3_0 ha0).2.1 rfl (Nat.le_trans (by decide) hd) rfl (Nat.le_of_ble_eq_true rfl) dX4_readCouples_45 ?_
          refine am_ifB_ne C0 dX4_readCouples_48 (tgt := 53) (by decide) (fun c_7 => ?_) (fun c_7 => ?_)
          · replace h := am_ip h c_7
            refine am_aload_n C0 dX4_readCouples_53 0 rfl ?_
            refine am_getI C0 ff_RX4_31 (loC_3_6 ha0).1 (loC_3_6 ha0).2.1 (loC_3_6 ha0).2.2.1 (loC_3_6 ha0).2.2.2 dX4_readCouples_54 ?_
            obtain ⟨x4_8, e_x4_8, h⟩ := am_lt h
            refine am_top e_x4_8 ?_
            refine am_istore C0 dX4_readCouples_57 (by decide) rfl (lv' := [(0, .ref (am_b G a0)), (1, .ref (am_b G a1)), (2, .int (am_bI x2)), (3, .int x3), (4, .int x4_8)]) rfl ?_
            refine am_aload_n C0 dX4_readCouples_59 0 rfl ?_
            refine am_iload_n C0 dX4_readCouples_60 2 rfl ?_
            refine am_ifB_eq C0 dX4_readCouples_61 (tgt := 69) (by decide) (fun c_9 => ?_) (fun c_9 => ?_)
            · replace h := am_in h c_9
              refine am_bipush C0 dX4_readCouples_69 kb_24 ?_
              exact am_sub [0, 1, 2, 3, 4] rfl (k_C_Reader_readCouples_p71 C0 hd _ F hret (fun z0 z1 z2 z3 zs zh0 zh1 z => ih z0 z1 z2 z3 zs zh0 zh1 z) a0 a1 x2 x3 x4_8 a0 24 q_6.2 ha0 ha1 ha0 h)
            · replace h := am_ip h c_9
              refine am_bipush C0 dX4_readCouples_64 kb_23 ?_
              refine am_goto C0 dX4_readCouples_66 (tgt := 71) (by decide) ?_
              exact am_sub [0, 1, 2, 3, 4] rfl (k_C_Reader_readCouples_p71 C0 hd _ F hret (fun z0 z1 z2 z3 zs zh0 zh1 z => ih z0 z1 z2 z3 zs zh0 zh1 z) a0 a1 x2 x3 x4_8 a0 23 q_6.2 ha0 ha1 ha0 h)
          · replace h := am_in h c_7
            refine am_iconst C0 dX4_readCouples_51 ci_0 ?_
            have e := Option.some.inj h
            subst e
            exact hret _ _ dX4_readCouples_52
      · replace h := am_ip h c_3
        refine am_iconst C0 dX4_readCouples_23 ci_1 ?_
        have e := Option.some.inj h
        subst e
        exact hret _ _ dX4_readCouples_24
set_option maxRecDepth 100000 in
set_option maxHeartbeats 4000000 in
theorem k_C_Reader_readCouples {G : am_T} {d0 : Nat} (C0 : am_C G cX4_readCouples 5 RX4 LC d0) (hd : 4 ≤ d0) (F : Nat) {q : Bool × am_SS} (hret : am_retI G cX4_readCouples 5 (am_bI q.1) q.2) (a0 : Nat) (a1 : Nat) (x2 : Bool) (σ : am_SS) (ha0 : LC.1 a0 = 5) (ha1 : LC.1 a1 = 2) (h : C_Reader_readCouples F a0 a1 x2 σ = some q) : am_K G 5 0 [(0, .ref (am_b G a0)), (1, .ref (am_b G a1)), (2, .int (am_bI x2))] [] σ := by
  unfold C_Reader_readCouples at h
  refine am_aload_n C0 dX4_readCouples_0 0 rfl ?_
  refine am_getR C0 (j := a0 + 11) ff_RX4_52 (loC_3_10 ha0).1 (loC_3_10 ha0).2.1 (loC_3_10 ha0).2.2.1 (loC_3_10 ha0).2.2.2 dX4_readCouples_1 ?_
  obtain ⟨q_1, h_q_1, h⟩ := am_lt h
  refine am_callV C0 (m_C_Table_clear (σ := σ) (Nat.le_refl _) (a0 + 11) (tgC_3_10 ha0) h_q_1) mm_yX6_clear ln_RX4_139 (As := fun b => []) (fun _ => rfl) (fun _ => rfl) (loC_4_0 (tgC_3_10 ha0)).1 (loC_4_0 (tgC_3_10 ha0)).2.1 rfl (Nat.le_trans (by decide) hd) rfl (Nat.le_of_ble_eq_true rfl) dX4_readCouples_4 ?_
  refine am_pop C0 dX4_readCouples_7 rfl ?_
  refine am_iconst C0 dX4_readCouples_8 ci_0 ?_
  refine am_istore_n C0 dX4_readCouples_9 rfl (by decide) rfl (lv' := [(0, .ref (am_b G a0)), (1, .ref (am_b G a1)), (2, .int (am_bI x2)), (3, .int 0)]) rfl ?_
  exact am_sub [0, 1, 2, 3] rfl (k_C_Reader_readCouples_l10 C0 hd F hret F a0 a1 x2 0 q_1.2 ha0 ha1 h)
set_option maxRecDepth 100000 in
set_option maxHeartbeats 4000000 in
theorem m_C_Reader_readCouples {l : Launch} {d : Nat} {σ : am_SS} {q : Bool × am_SS} (hd : 4 ≤ d) (F : Nat) (a0 : Nat) (a1 : Nat) (x2 : Bool) (ha0 : LC.1 a0 = 5) (ha1 : LC.1 a1 = 2) (h : C_Reader_readCouples F a0 a1 x2 σ = some q) : am_Met l yX4_readCouples cX4_readCouples 5 (some .boolean) d 0 0 LC (fun b => [.ref (b a0), .ref (b a1), .int (am_bI x2)]) σ (some (.int (am_bI q.1))) q.2 :=
  am_metI (plainFor_of_name (by decide)) (am_bI_nr _) (lv := fun b => [(0, .ref (b a0)), (1, .ref (b a1)), (2, .int (am_bI x2))]) (fun _ => rfl) (fun _ => Nat.le_of_ble_eq_true rfl) (fun G C0 _ hret => k_C_Reader_readCouples C0 hd F hret a0 a1 x2 σ ha0 ha1 h)
set_option maxRecDepth 100000 in
set_option maxHeartbeats 4000000 in
theorem k_C_Sums_peg_p43 {G : am_T} {d0 : Nat} (C0 : am_C G cX5_peg 7 RX5 LC d0) (hd : 1 ≤ d0) (rec10 : Int32 → Int32 → Int32 → Int32 → Int32 → Option Int32) (F : Nat) {σ0 : am_SS} {q : Int32} (hret : am_retI G cX5_peg 7 q σ0) (hrec10 : ∀ (x1 : Int32) (x2 : Int32) (x3 : Int32) (x4 : Int32) (x5 : Int32), rec10 x1 x2 x3 x4 x5 = some q → am_K G 7 10 [(1, .int x1), (2, .int x2), (3, .int x3), (4, .int x4), (5, .int x5)] [] σ0) (x1 : Int32) (x2 : Int32) (x3 : Int32) (x4 : Int32) (x5 : Int32) (h : C_Sums_peg_p43 rec10 F x1 x2 x3 x4 x5 = some q) : am_K G 7 43 [(1, .int x1), (2, .int x2), (3, .int x3), (4, .int x4), (5, .int x5)] [] σ0 := by
  unfold C_Sums_peg_p43 at h
  obtain ⟨x5_1, e_x5_1, h⟩ := am_lt h
  refine am_iinc C0 dX5_peg_43 4 rfl (by rw [ci_m1]; exact e_x5_1) (by decide) rfl (lv' := [(1, .int x1), (2, .int x2), (3, .int x3), (4, .int x4), (5, .int x5_1)]) rfl ?_
  refine am_goto C0 dX5_peg_46 (tgt := 10) (by decide) ?_
  exact am_sub [0, 1, 2, 3, 4] rfl (hrec10 x1 x2 x3 x4 x5_1  h)
set_option maxRecDepth 100000 in
set_option maxHeartbeats 4000000 in
theorem k_C_Sums_peg_l10 {G : am_T} {d0 : Nat} (C0 : am_C G cX5_peg 7 RX5 LC d0) (hd : 1 ≤ d0) (F : Nat) {σ0 : am_SS} {q : Int32} (hret : am_retI G cX5_peg 7 q σ0) : ∀ (n : Nat) (x1 : Int32) (x2 : Int32) (x3 : Int32) (x4 : Int32) (x5 : Int32) (h : C_Sums_peg_l10 F n x1 x2 x3 x4 x5 = some q), am_K G 7 10 [(1, .int x1), (2, .int x2), (3, .int x3), (4, .int x4), (5, .int x5)] [] σ0 := by
  intro n
  induction n with
  | zero =>
    intro x1 x2 x3 x4 x5 h
    rw [C_Sums_peg_l10] at h
    cases h
  | succ n ih =>
    intro x1 x2 x3 x4 x5 h
    rw [C_Sums_peg_l10] at h
    refine am_iload C0 dX5_peg_10 4 rfl ?_
    refine am_iload_n C0 dX5_peg_12 0 rfl ?_
    refine am_icmp_le C0 dX5_peg_13 (tgt := 49) (by decide) (fun c_1 => ?_) (fun c_1 => ?_)
    · replace h := am_in h c_1
      refine am_iload_n C0 dX5_peg_49 1 rfl ?_
      refine am_iload_n C0 dX5_peg_50 0 rfl ?_
      refine am_ishr C0 dX5_peg_51 ?_
      refine am_iconst C0 dX5_peg_52 ci_1 ?_
      refine am_iand C0 dX5_peg_53 ?_
      refine am_if_ne C0 dX5_peg_54 (tgt := 61) (by decide) (fun c_2 => ?_) (fun c_2 => ?_)
      · replace h := am_in h c_2
        refine am_iload C0 dX5_peg_61 3 rfl ?_
        have e := Option.some.inj h
        subst e
        exact hret _ _ dX5_peg_63
      · replace h := am_ip h c_2
        refine am_iload_n C0 dX5_peg_57 2 rfl ?_
        refine am_goto C0 dX5_peg_58 (tgt := 63) (by decide) ?_
        have e := Option.some.inj h
        subst e
        exact hret _ _ dX5_peg_63
    · replace h := am_ip h c_1
      refine am_iconst C0 dX5_peg_16 ci_3 ?_
      refine am_iload_n C0 dX5_peg_17 2 rfl ?_
      refine am_isub C0 dX5_peg_18 ?_
      refine am_iload C0 dX5_peg_19 3 rfl ?_
      refine am_isub C0 dX5_peg_21 ?_
      obtain ⟨x6_3, e_x6_3, h⟩ := am_lt h
      refine am_top e_x6_3 ?_
      refine am_istore C0 dX5_peg_22 (by decide) rfl (lv' := [(1, .int x1), (2, .int x2), (3, .int x3), (4, .int x4), (5, .int x5), (6, .int x6_3)]) rfl ?_
      refine am_iload_n C0 dX5_peg_24 1 rfl ?_
      refine am_iload C0 dX5_peg_25 4 rfl ?_
      refine am_ishr C0 dX5_peg_27 ?_
      refine am_iconst C0 dX5_peg_28 ci_1 ?_
      refine am_iand C0 dX5_peg_29 ?_
      refine am_if_ne C0 dX5_peg_30 (tgt := 40) (by decide) (fun c_4 => ?_) (fun c_4 => ?_)
      · replace h := am_in h c_4
        refine am_iload C0 dX5_peg_40 5 rfl ?_
        refine am_istore_n C0 dX5_peg_42 rfl (by decide) rfl (lv' := [(1, .int x1), (2, .int x2), (3, .int x6_3), (4, .int x4), (5, .int x5), (6, .int x6_3)]) rfl ?_
        exact am_sub [0, 1, 2, 3, 4] rfl (k_C_Sums_peg_p43 C0 hd _ F hret (fun z0 z1 z2 z3 z4 z => ih z0 z1 z2 z3 z4 z) x1 x2 x6_3 x4 x5  h)
      · replace h := am_ip h c_4
        refine am_iload C0 dX5_peg_33 5 rfl ?_
        refine am_istore C0 dX5_peg_35 (by decide) rfl (lv' := [(1, .int x1), (2, .int x2), (3, .int x3), (4, .int x6_3), (5, .int x5), (6, .int x6_3)]) rfl ?_
        refine am_goto C0 dX5_peg_37 (tgt := 43) (by decide) ?_
        exact am_sub [0, 1, 2, 3, 4] rfl (k_C_Sums_peg_p43 C0 hd _ F hret (fun z0 z1 z2 z3 z4 z => ih z0 z1 z2 z3 z4 z) x1 x2 x3 x6_3 x5  h)
set_option maxRecDepth 100000 in
set_option maxHeartbeats 4000000 in
theorem k_C_Sums_peg {G : am_T} {d0 : Nat} (C0 : am_C G cX5_peg 7 RX5 LC d0) (hd : 1 ≤ d0) (F : Nat) {σ0 : am_SS} {q : Int32} (hret : am_retI G cX5_peg 7 q σ0) (x0 : Int32) (x1 : Int32) (x2 : Int32) (h : C_Sums_peg F x0 x1 x2 = some q) : am_K G 7 0 [(0, .int x0), (1, .int x1), (2, .int x2)] [] σ0 := by
  unfold C_Sums_peg at h
  refine am_iconst C0 dX5_peg_0 ci_0 ?_
  refine am_istore_n C0 dX5_peg_1 rfl (by decide) rfl (lv' := [(0, .int x0), (1, .int x1), (2, .int x2), (3, .int 0)]) rfl ?_
  refine am_iconst C0 dX5_peg_2 ci_2 ?_
  refine am_istore C0 dX5_peg_3 (by decide) rfl (lv' := [(0, .int x0), (1, .int x1), (2, .int x2), (3, .int 0), (4, .int 2)]) rfl ?_
  refine am_iload_n C0 dX5_peg_5 0 rfl ?_
  refine am_iconst C0 dX5_peg_6 ci_1 ?_
  refine am_isub C0 dX5_peg_7 ?_
  obtain ⟨x5_1, e_x5_1, h⟩ := am_lt h
  refine am_top e_x5_1 ?_
  refine am_istore C0 dX5_peg_8 (by decide) rfl (lv' := [(0, .int x0), (1, .int x1), (2, .int x2), (3, .int 0), (4, .int 2), (5, .int x5_1)]) rfl ?_
  exact am_sub [1, 2, 3, 4, 5] rfl (k_C_Sums_peg_l10 C0 hd F hret F x1 x2 0 2 x5_1  h)
set_option maxRecDepth 100000 in
set_option maxHeartbeats 4000000 in
theorem m_C_Sums_peg {l : Launch} {d : Nat} {σ : am_SS} {q : Int32} (hd : 1 ≤ d) (F : Nat) (x0 : Int32) (x1 : Int32) (x2 : Int32) (h : C_Sums_peg F x0 x1 x2 = some q) : am_Met l yX5_peg cX5_peg 7 (some .int) d 0 0 LC (fun b => [.int x0, .int x1, .int x2]) σ (some (.int q)) σ :=
  am_metI (plainFor_of_name (by decide)) rfl (lv := fun b => [(0, .int x0), (1, .int x1), (2, .int x2)]) (fun _ => rfl) (fun _ => Nat.le_of_ble_eq_true rfl) (fun G C0 _ hret => k_C_Sums_peg C0 hd F hret x0 x1 x2  h)
set_option maxRecDepth 100000 in
set_option maxHeartbeats 4000000 in
theorem k_C_Sums_movesFrom_p59 {G : am_T} {d0 : Nat} (C0 : am_C G cX5_movesFrom 7 RX5 LC d0) (hd : 1 ≤ d0) (rec12 : Int32 → Int32 → Int32 → Int32 → Option Int32) (F : Nat) {σ0 : am_SS} {q : Int32} (hret : am_retI G cX5_movesFrom 7 q σ0) (hrec12 : ∀ (x2 : Int32) (x3 : Int32) (x4 : Int32) (x5 : Int32), rec12 x2 x3 x4 x5 = some q → am_K G 7 12 [(2, .int x2), (3, .int x3), (4, .int x4), (5, .int x5)] [] σ0) (x2 : Int32) (x3 : Int32) (x4 : Int32) (x5 : Int32) (h : C_Sums_movesFrom_p59 rec12 F x2 x3 x4 x5 = some q) : am_K G 7 59 [(2, .int x2), (3, .int x3), (4, .int x4), (5, .int x5)] [] σ0 := by
  unfold C_Sums_movesFrom_p59 at h
  obtain ⟨x5_1, e_x5_1, h⟩ := am_lt h
  refine am_iinc C0 dX5_movesFrom_59 3 rfl (by rw [ci_m1]; exact e_x5_1) (by decide) rfl (lv' := [(2, .int x2), (3, .int x3), (4, .int x4), (5, .int x5_1)]) rfl ?_
  refine am_goto C0 dX5_movesFrom_62 (tgt := 12) (by decide) ?_
  exact am_sub [0, 1, 2, 3] rfl (hrec12 x2 x3 x4 x5_1  h)
set_option maxRecDepth 100000 in
set_option maxHeartbeats 4000000 in
theorem k_C_Sums_movesFrom_l12 {G : am_T} {d0 : Nat} (C0 : am_C G cX5_movesFrom 7 RX5 LC d0) (hd : 1 ≤ d0) (F : Nat) {σ0 : am_SS} {q : Int32} (hret : am_retI G cX5_movesFrom 7 q σ0) : ∀ (n : Nat) (x2 : Int32) (x3 : Int32) (x4 : Int32) (x5 : Int32) (h : C_Sums_movesFrom_l12 F n x2 x3 x4 x5 = some q), am_K G 7 12 [(2, .int x2), (3, .int x3), (4, .int x4), (5, .int x5)] [] σ0 := by
  intro n
  induction n with
  | zero =>
    intro x2 x3 x4 x5 h
    rw [C_Sums_movesFrom_l12] at h
    cases h
  | succ n ih =>
    intro x2 x3 x4 x5 h
    rw [C_Sums_movesFrom_l12] at h
    refine am_iload C0 dX5_movesFrom_12 3 rfl ?_
    refine am_if_lt C0 dX5_movesFrom_14 (tgt := 65) (by decide) (fun c_1 => ?_) (fun c_1 => ?_)
    · replace h := am_ip h c_1
      refine am_iload_n C0 dX5_movesFrom_65 0 rfl ?_
      have e := Option.some.inj h
      subst e
      exact hret _ _ dX5_movesFrom_66
    · replace h := am_in h c_1
      refine am_iload C0 dX5_movesFrom_17 2 rfl ?_
      refine am_bipush C0 dX5_movesFrom_19 kb_10 ?_
      refine am_irem C0 dX5_movesFrom_21 nz_10 ?_
      obtain ⟨x6_2, e_x6_2, h⟩ := am_lt h
      refine am_top e_x6_2 ?_
      refine am_istore C0 dX5_movesFrom_22 (by decide) rfl (lv' := [(2, .int x2), (3, .int x3), (4, .int x4), (5, .int x5), (6, .int x6_2)]) rfl ?_
      refine am_iload C0 dX5_movesFrom_24 2 rfl ?_
      refine am_bipush C0 dX5_movesFrom_26 kb_10 ?_
      refine am_idiv C0 dX5_movesFrom_28 nz_10 ?_
      obtain ⟨x4_3, e_x4_3, h⟩ := am_lt h
      refine am_top e_x4_3 ?_
      refine am_istore C0 dX5_movesFrom_29 (by decide) rfl (lv' := [(2, .int x2), (3, .int x3), (4, .int x4_3), (5, .int x5), (6, .int x6_2)]) rfl ?_
      refine am_iload C0 dX5_movesFrom_31 4 rfl ?_
      refine am_iconst C0 dX5_movesFrom_33 ci_2 ?_
      refine am_icmp_le C0 dX5_movesFrom_34 (tgt := 39) (by decide) (fun c_4 => ?_) (fun c_4 => ?_)
      · replace h := am_in h c_4
        refine am_iload C0 dX5_movesFrom_39 4 rfl ?_
        refine am_iload_n C0 dX5_movesFrom_41 1 rfl ?_
        refine am_icmp_eq C0 dX5_movesFrom_42 (tgt := 59) (by decide) (fun c_5 => ?_) (fun c_5 => ?_)
        · replace h := am_ip h c_5
          exact am_sub [0, 1, 2, 3] rfl (k_C_Sums_movesFrom_p59 C0 hd _ F hret (fun z0 z1 z2 z3 z => ih z0 z1 z2 z3 z) x2 x3 x4_3 x5  h)
        · replace h := am_in h c_5
          refine am_iload_n C0 dX5_movesFrom_45 0 rfl ?_
          refine am_iconst C0 dX5_movesFrom_46 ci_1 ?_
          refine am_iload C0 dX5_movesFrom_47 3 rfl ?_
          refine am_ishl C0 dX5_movesFrom_49 ?_
          refine am_iadd C0 dX5_movesFrom_50 ?_
          obtain ⟨x2_6, e_x2_6, h⟩ := am_lt h
          refine am_top e_x2_6 ?_
          refine am_istore_n C0 dX5_movesFrom_51 rfl (by decide) rfl (lv' := [(2, .int x2_6), (3, .int x3), (4, .int x4_3), (5, .int x5), (6, .int x6_2)]) rfl ?_
          refine am_iconst C0 dX5_movesFrom_52 ci_3 ?_
          refine am_iload_n C0 dX5_movesFrom_53 1 rfl ?_
          refine am_isub C0 dX5_movesFrom_54 ?_
          refine am_iload C0 dX5_movesFrom_55 4 rfl ?_
          refine am_isub C0 dX5_movesFrom_57 ?_
          obtain ⟨x3_7, e_x3_7, h⟩ := am_lt h
          refine am_top e_x3_7 ?_
          refine am_istore_n C0 dX5_movesFrom_58 rfl (by decide) rfl (lv' := [(2, .int x2_6), (3, .int x3_7), (4, .int x4_3), (5, .int x5), (6, .int x6_2)]) rfl ?_
          exact am_sub [0, 1, 2, 3] rfl (k_C_Sums_movesFrom_p59 C0 hd _ F hret (fun z0 z1 z2 z3 z => ih z0 z1 z2 z3 z) x2_6 x3_7 x4_3 x5  h)
      · replace h := am_ip h c_4
        refine am_iconst C0 dX5_movesFrom_37 ci_m1 ?_
        have e := Option.some.inj h
        subst e
        exact hret _ _ dX5_movesFrom_38
set_option maxRecDepth 100000 in
set_option maxHeartbeats 4000000 in
theorem k_C_Sums_movesFrom {G : am_T} {d0 : Nat} (C0 : am_C G cX5_movesFrom 7 RX5 LC d0) (hd : 1 ≤ d0) (F : Nat) {σ0 : am_SS} {q : Int32} (hret : am_retI G cX5_movesFrom 7 q σ0) (x0 : Int32) (x1 : Int32) (h : C_Sums_movesFrom F x0 x1 = some q) : am_K G 7 0 [(0, .int x0), (1, .int x1)] [] σ0 := by
  unfold C_Sums_movesFrom at h
  refine am_iconst C0 dX5_movesFrom_0 ci_0 ?_
  refine am_istore_n C0 dX5_movesFrom_1 rfl (by decide) rfl (lv' := [(0, .int x0), (1, .int x1), (2, .int 0)]) rfl ?_
  refine am_iconst C0 dX5_movesFrom_2 ci_2 ?_
  refine am_istore_n C0 dX5_movesFrom_3 rfl (by decide) rfl (lv' := [(0, .int x0), (1, .int x1), (2, .int 0), (3, .int 2)]) rfl ?_
  refine am_iload_n C0 dX5_movesFrom_4 0 rfl ?_
  refine am_istore C0 dX5_movesFrom_5 (by decide) rfl (lv' := [(0, .int x0), (1, .int x1), (2, .int 0), (3, .int 2), (4, .int x0)]) rfl ?_
  refine am_iload_n C0 dX5_movesFrom_7 1 rfl ?_
  refine am_iconst C0 dX5_movesFrom_8 ci_1 ?_
  refine am_isub C0 dX5_movesFrom_9 ?_
  obtain ⟨x5_1, e_x5_1, h⟩ := am_lt h
  refine am_top e_x5_1 ?_
  refine am_istore C0 dX5_movesFrom_10 (by decide) rfl (lv' := [(0, .int x0), (1, .int x1), (2, .int 0), (3, .int 2), (4, .int x0), (5, .int x5_1)]) rfl ?_
  exact am_sub [2, 3, 4, 5] rfl (k_C_Sums_movesFrom_l12 C0 hd F hret F 0 2 x0 x5_1  h)
set_option maxRecDepth 100000 in
set_option maxHeartbeats 4000000 in
theorem m_C_Sums_movesFrom {l : Launch} {d : Nat} {σ : am_SS} {q : Int32} (hd : 1 ≤ d) (F : Nat) (x0 : Int32) (x1 : Int32) (h : C_Sums_movesFrom F x0 x1 = some q) : am_Met l yX5_movesFrom cX5_movesFrom 7 (some .int) d 0 0 LC (fun b => [.int x0, .int x1]) σ (some (.int q)) σ :=
  am_metI (plainFor_of_name (by decide)) rfl (lv := fun b => [(0, .int x0), (1, .int x1)]) (fun _ => rfl) (fun _ => Nat.le_of_ble_eq_true rfl) (fun G C0 _ hret => k_C_Sums_movesFrom C0 hd F hret x0 x1  h)
set_option maxRecDepth 100000 in
set_option maxHeartbeats 4000000 in
theorem k_C_Sums_movesLeft_p40 {G : am_T} {d0 : Nat} (C0 : am_C G cX5_movesLeft 4 RX5 LC d0) (hd : 2 ≤ d0) (rec6 : Int32 → Int64 → Int32 → Option Int32) (F : Nat) {σ0 : am_SS} {q : Int32} (hret : am_retI G cX5_movesLeft 4 q σ0) (hrec6 : ∀ (x0 : Int32) (x1 : Int64) (x3 : Int32), rec6 x0 x1 x3 = some q → am_K G 4 6 [(0, .int x0), (1, .long x1), (3, .int x3)] [] σ0) (x0 : Int32) (x1 : Int64) (x3 : Int32) (h : C_Sums_movesLeft_p40 rec6 F x0 x1 x3 = some q) : am_K G 4 40 [(0, .int x0), (1, .long x1), (3, .int x3)] [] σ0 := by
  unfold C_Sums_movesLeft_p40 at h
  refine am_lload_n C0 dX5_movesLeft_40 1 rfl ?_
  refine am_ldc2 C0 kc_RX5_9 dX5_movesLeft_41 ?_
  refine am_lmul C0 dX5_movesLeft_44 ?_
  obtain ⟨x1_1, e_x1_1, h⟩ := am_lt h
  refine am_topl e_x1_1 ?_
  refine am_lstore_n C0 dX5_movesLeft_45 rfl (by decide) rfl (lv' := [(0, .int x0), (1, .long x1_1), (3, .int x3)]) rfl ?_
  obtain ⟨x3_2, e_x3_2, h⟩ := am_lt h
  refine am_iinc C0 dX5_movesLeft_46 2 rfl (by rw [ci_1]; exact e_x3_2) (by decide) rfl (lv' := [(0, .int x0), (1, .long x1_1), (3, .int x3_2)]) rfl ?_
  refine am_goto C0 dX5_movesLeft_49 (tgt := 6) (by decide) ?_
  exact am_sub [0, 1, 2] rfl (hrec6 x0 x1_1 x3_2  h)
set_option maxRecDepth 100000 in
set_option maxHeartbeats 4000000 in
theorem k_C_Sums_movesLeft_l6 {G : am_T} {d0 : Nat} (C0 : am_C G cX5_movesLeft 4 RX5 LC d0) (hd : 2 ≤ d0) (F : Nat) {σ0 : am_SS} {q : Int32} (hret : am_retI G cX5_movesLeft 4 q σ0) : ∀ (n : Nat) (x0 : Int32) (x1 : Int64) (x3 : Int32) (h : C_Sums_movesLeft_l6 F n x0 x1 x3 = some q), am_K G 4 6 [(0, .int x0), (1, .long x1), (3, .int x3)] [] σ0 := by
  intro n
  induction n with
  | zero =>
    intro x0 x1 x3 h
    rw [C_Sums_movesLeft_l6] at h
    cases h
  | succ n ih =>
    intro x0 x1 x3 h
    rw [C_Sums_movesLeft_l6] at h
    refine am_iload_n C0 dX5_movesLeft_6 2 rfl ?_
    refine am_bipush C0 dX5_movesLeft_7 kb_10 ?_
    refine am_icmp_gt C0 dX5_movesLeft_9 (tgt := 52) (by decide) (fun c_1 => ?_) (fun c_1 => ?_)
    · replace h := am_ip h c_1
      refine am_iconst C0 dX5_movesLeft_52 ci_m1 ?_
      have e := Option.some.inj h
      subst e
      exact hret _ _ dX5_movesLeft_53
    · replace h := am_in h c_1
      refine am_iload_n C0 dX5_movesLeft_12 0 rfl ?_
      refine am_i2l C0 dX5_movesLeft_13 ?_
      refine am_lload_n C0 dX5_movesLeft_14 1 rfl ?_
      refine am_lcmp C0 dX5_movesLeft_15 ?_
      refine am_if_lt C0 dX5_movesLeft_16 (tgt := 40) (by decide) (fun c_2 => ?_) (fun c_2 => ?_)
      · replace h := am_ip h c_2
        exact am_sub [0, 1, 2] rfl (k_C_Sums_movesLeft_p40 C0 hd _ F hret (fun z0 z1 z2 z => ih z0 z1 z2 z) x0 x1 x3  h)
      · replace h := am_in h c_2
        refine am_iload_n C0 dX5_movesLeft_19 0 rfl ?_
        refine am_i2l C0 dX5_movesLeft_20 ?_
        refine am_ldc2 C0 kc_RX5_11 dX5_movesLeft_21 ?_
        refine am_lload_n C0 dX5_movesLeft_24 1 rfl ?_
        refine am_lmul C0 dX5_movesLeft_25 ?_
        refine am_lcmp C0 dX5_movesLeft_26 ?_
        refine am_if_ge C0 dX5_movesLeft_27 (tgt := 40) (by decide) (fun c_3 => ?_) (fun c_3 => ?_)
        · replace h := am_in h c_3
          exact am_sub [0, 1, 2] rfl (k_C_Sums_movesLeft_p40 C0 hd _ F hret (fun z0 z1 z2 z => ih z0 z1 z2 z) x0 x1 x3  h)
        · replace h := am_ip h c_3
          refine am_iload_n C0 dX5_movesLeft_30 0 rfl ?_
          refine am_i2l C0 dX5_movesLeft_31 ?_
          refine am_lload_n C0 dX5_movesLeft_32 1 rfl ?_
          refine am_lsub C0 dX5_movesLeft_33 ?_
          refine am_l2i C0 dX5_movesLeft_34 ?_
          refine am_iload_n C0 dX5_movesLeft_35 2 rfl ?_
          obtain ⟨q_4, h_q_4, h⟩ := am_bind h
          refine am_callS C0 (m_C_Sums_movesFrom (σ := σ0) (Nat.le_refl _) F ((x0.toInt64 - x1).toInt32) x3  h_q_4) mm_yX5_movesFrom ln_RX5_13 (fun _ => rfl) (Nat.le_trans (by decide) hd) rfl (Nat.le_of_ble_eq_true rfl) dX5_movesLeft_36 ?_
          have e := Option.some.inj h
          subst e
          exact hret _ _ dX5_movesLeft_39
set_option maxRecDepth 100000 in
set_option maxHeartbeats 4000000 in
theorem k_C_Sums_movesLeft {G : am_T} {d0 : Nat} (C0 : am_C G cX5_movesLeft 4 RX5 LC d0) (hd : 2 ≤ d0) (F : Nat) {σ0 : am_SS} {q : Int32} (hret : am_retI G cX5_movesLeft 4 q σ0) (x0 : Int32) (h : C_Sums_movesLeft F x0 = some q) : am_K G 4 0 [(0, .int x0)] [] σ0 := by
  unfold C_Sums_movesLeft at h
  refine am_ldc2 C0 kc_RX5_9 dX5_movesLeft_0 ?_
  refine am_lstore_n C0 dX5_movesLeft_3 rfl (by decide) rfl (lv' := [(0, .int x0), (1, .long 10)]) rfl ?_
  refine am_iconst C0 dX5_movesLeft_4 ci_1 ?_
  refine am_istore_n C0 dX5_movesLeft_5 rfl (by decide) rfl (lv' := [(0, .int x0), (1, .long 10), (3, .int 1)]) rfl ?_
  exact am_sub [0, 1, 2] rfl (k_C_Sums_movesLeft_l6 C0 hd F hret F x0 10 1  h)
set_option maxRecDepth 100000 in
set_option maxHeartbeats 4000000 in
theorem m_C_Sums_movesLeft {l : Launch} {d : Nat} {σ : am_SS} {q : Int32} (hd : 2 ≤ d) (F : Nat) (x0 : Int32) (h : C_Sums_movesLeft F x0 = some q) : am_Met l yX5_movesLeft cX5_movesLeft 4 (some .int) d 0 0 LC (fun b => [.int x0]) σ (some (.int q)) σ :=
  am_metI (plainFor_of_name (by decide)) rfl (lv := fun b => [(0, .int x0)]) (fun _ => rfl) (fun _ => Nat.le_of_ble_eq_true rfl) (fun G C0 _ hret => k_C_Sums_movesLeft C0 hd F hret x0  h)
set_option maxRecDepth 100000 in
set_option maxHeartbeats 4000000 in
theorem k_C_Sums_housed_o_p19 {G : am_T} {d0 : Nat} (C0 : am_C G cX5_housed 2 RX5 LC d0) (hd : 1 ≤ d0) {dR : Nat} (hdR : dR + 1 ≤ d0) (R_housed : Int32 → Int32 → Option Int32) (hR_housed : ∀ (y1 : Int32) (y2 : Int32) (σ : am_SS) (q : Int32), R_housed y1 y2 = some q → am_Met (am_l G) yX5_housed cX5_housed 2 (some .int) dR 0 0 LC (fun b => [.int y1, .int y2]) σ (some (.int q)) σ) (F : Nat) {σ0 : am_SS} {q : Int32} (hret : am_retI G cX5_housed 2 q σ0) (x0 : Int32) (x1 : Int32) (h : C_Sums_housed_o_p19 R_housed F x0 x1 = some q) : am_K G 2 19 [(0, .int x0), (1, .int x1)] [] σ0 := by
  unfold C_Sums_housed_o_p19 at h
  refine am_iload_n C0 dX5_housed_19 0 rfl ?_
  refine am_if_ne C0 dX5_housed_20 (tgt := 31) (by decide) (fun c_1 => ?_) (fun c_1 => ?_)
  · replace h := am_in h c_1
    refine am_iconst C0 dX5_housed_31 ci_0 ?_
    have e := Option.some.inj h
    subst e
    exact hret _ _ dX5_housed_32
  · replace h := am_ip h c_1
    refine am_iload_n C0 dX5_housed_23 1 rfl ?_
    refine am_if_ne C0 dX5_housed_24 (tgt := 31) (by decide) (fun c_2 => ?_) (fun c_2 => ?_)
    · replace h := am_in h c_2
      refine am_iconst C0 dX5_housed_31 ci_0 ?_
      have e := Option.some.inj h
      subst e
      exact hret _ _ dX5_housed_32
    · replace h := am_ip h c_2
      refine am_iconst C0 dX5_housed_27 ci_1 ?_
      refine am_goto C0 dX5_housed_28 (tgt := 32) (by decide) ?_
      have e := Option.some.inj h
      subst e
      exact hret _ _ dX5_housed_32
set_option maxRecDepth 100000 in
set_option maxHeartbeats 4000000 in
theorem k_C_Sums_housed_o {G : am_T} {d0 : Nat} (C0 : am_C G cX5_housed 2 RX5 LC d0) (hd : 1 ≤ d0) {dR : Nat} (hdR : dR + 1 ≤ d0) (R_housed : Int32 → Int32 → Option Int32) (hR_housed : ∀ (y1 : Int32) (y2 : Int32) (σ : am_SS) (q : Int32), R_housed y1 y2 = some q → am_Met (am_l G) yX5_housed cX5_housed 2 (some .int) dR 0 0 LC (fun b => [.int y1, .int y2]) σ (some (.int q)) σ) (F : Nat) {σ0 : am_SS} {q : Int32} (hret : am_retI G cX5_housed 2 q σ0) (x0 : Int32) (x1 : Int32) (h : C_Sums_housed_o R_housed F x0 x1 = some q) : am_K G 2 0 [(0, .int x0), (1, .int x1)] [] σ0 := by
  unfold C_Sums_housed_o at h
  refine am_iload_n C0 dX5_housed_0 0 rfl ?_
  refine am_if_le C0 dX5_housed_1 (tgt := 19) (by decide) (fun c_1 => ?_) (fun c_1 => ?_)
  · replace h := am_in h c_1
    exact am_sub [0, 1] rfl (k_C_Sums_housed_o_p19 C0 hd hdR R_housed hR_housed F hret x0 x1  h)
  · replace h := am_ip h c_1
    refine am_iload_n C0 dX5_housed_4 0 rfl ?_
    refine am_bipush C0 dX5_housed_5 kb_10 ?_
    refine am_icmp_gt C0 dX5_housed_7 (tgt := 19) (by decide) (fun c_2 => ?_) (fun c_2 => ?_)
    · replace h := am_ip h c_2
      exact am_sub [0, 1] rfl (k_C_Sums_housed_o_p19 C0 hd hdR R_housed hR_housed F hret x0 x1  h)
    · replace h := am_in h c_2
      refine am_iload_n C0 dX5_housed_10 1 rfl ?_
      refine am_if_le C0 dX5_housed_11 (tgt := 19) (by decide) (fun c_3 => ?_) (fun c_3 => ?_)
      · replace h := am_in h c_3
        exact am_sub [0, 1] rfl (k_C_Sums_housed_o_p19 C0 hd hdR R_housed hR_housed F hret x0 x1  h)
      · replace h := am_ip h c_3
        refine am_iload_n C0 dX5_housed_14 1 rfl ?_
        refine am_iload_n C0 dX5_housed_15 0 rfl ?_
        refine am_icmp_le C0 dX5_housed_16 (tgt := 33) (by decide) (fun c_4 => ?_) (fun c_4 => ?_)
        · replace h := am_in h c_4
          refine am_iload_n C0 dX5_housed_33 1 rfl ?_
          refine am_iload_n C0 dX5_housed_34 0 rfl ?_
          refine am_iconst C0 dX5_housed_35 ci_1 ?_
          refine am_isub C0 dX5_housed_36 ?_
          refine am_iload_n C0 dX5_housed_37 1 rfl ?_
          obtain ⟨q_5, h_q_5, h⟩ := am_bind h
          refine am_callS C0 (hR_housed (x0 - 1) x1 σ0 _  h_q_5) mm_yX5_housed ln_RX5_19 (fun _ => rfl) hdR rfl (Nat.le_of_ble_eq_true rfl) dX5_housed_38 ?_
          refine am_imul C0 dX5_housed_41 ?_
          refine am_iload_n C0 dX5_housed_42 0 rfl ?_
          refine am_iconst C0 dX5_housed_43 ci_1 ?_
          refine am_isub C0 dX5_housed_44 ?_
          refine am_iload_n C0 dX5_housed_45 1 rfl ?_
          refine am_iconst C0 dX5_housed_46 ci_1 ?_
          refine am_isub C0 dX5_housed_47 ?_
          obtain ⟨q_6, h_q_6, h⟩ := am_bind h
          refine am_callS C0 (hR_housed (x0 - 1) (x1 - 1) σ0 _  h_q_6) mm_yX5_housed ln_RX5_19 (fun _ => rfl) hdR rfl (Nat.le_of_ble_eq_true rfl) dX5_housed_48 ?_
          refine am_iadd C0 dX5_housed_51 ?_
          have e := Option.some.inj h
          subst e
          exact hret _ _ dX5_housed_52
        · replace h := am_ip h c_4
          exact am_sub [0, 1] rfl (k_C_Sums_housed_o_p19 C0 hd hdR R_housed hR_housed F hret x0 x1  h)
set_option maxRecDepth 100000 in
set_option maxHeartbeats 4000000 in
theorem m_C_Sums_housed_n {l : Launch} (F : Nat) : ∀ (n d : Nat) (hd : 1 + n ≤ d) (x0 : Int32) (x1 : Int32) (σ : am_SS) (q : Int32) (h : C_Sums_housed_n F n x0 x1 = some q), am_Met l yX5_housed cX5_housed 2 (some .int) d 0 0 LC (fun b => [.int x0, .int x1]) σ (some (.int q)) σ := by
  intro n
  induction n with
  | zero =>
    intro d hd x0 x1 σ q h
    rw [C_Sums_housed_n] at h; cases h
  | succ n ih =>
    intro d hd x0 x1 σ q h
    rw [C_Sums_housed_n] at h
    refine am_metI (plainFor_of_name (by decide)) rfl (lv := fun b => [(0, .int x0), (1, .int x1)]) (fun _ => rfl) (fun _ => Nat.le_of_ble_eq_true rfl) (fun G C0 hl hret => ?_)
    refine k_C_Sums_housed_o C0 (by omega) (dR := d - 1) (by omega) (C_Sums_housed_n F n) ?_ F hret x0 x1  h
    intro x0 x1 σ q h1
    rw [hl]
    exact ih (d - 1) (by omega) x0 x1 σ q h1
set_option maxRecDepth 100000 in
set_option maxHeartbeats 4000000 in
theorem m_C_Sums_housed {l : Launch} {d : Nat} {σ : am_SS} {q : Int32} (hd : 13 ≤ d) (F : Nat) (x0 : Int32) (x1 : Int32) (h : C_Sums_housed F x0 x1 = some q) : am_Met l yX5_housed cX5_housed 2 (some .int) d 0 0 LC (fun b => [.int x0, .int x1]) σ (some (.int q)) σ := m_C_Sums_housed_n F 12 d hd x0 x1 σ q  h
set_option maxRecDepth 100000 in
set_option maxHeartbeats 4000000 in
theorem k_C_Sums_choose_l16 {G : am_T} {d0 : Nat} (C0 : am_C G cX5_choose 5 RX5 LC d0) (hd : 1 ≤ d0) (F : Nat) {σ0 : am_SS} {q : Int32} (hret : am_retI G cX5_choose 5 q σ0) : ∀ (n : Nat) (x0 : Int32) (x1 : Int32) (x2 : Int64) (x4 : Int32) (h : C_Sums_choose_l16 F n x0 x1 x2 x4 = some q), am_K G 5 16 [(0, .int x0), (1, .int x1), (2, .long x2), (4, .int x4)] [] σ0 := by
  intro n
  induction n with
  | zero =>
    intro x0 x1 x2 x4 h
    rw [C_Sums_choose_l16] at h
    cases h
  | succ n ih =>
    intro x0 x1 x2 x4 h
    rw [C_Sums_choose_l16] at h
    refine am_iload C0 dX5_choose_16 3 rfl ?_
    refine am_iload_n C0 dX5_choose_18 1 rfl ?_
    refine am_icmp_gt C0 dX5_choose_19 (tgt := 42) (by decide) (fun c_1 => ?_) (fun c_1 => ?_)
    · replace h := am_ip h c_1
      refine am_lload_n C0 dX5_choose_42 2 rfl ?_
      refine am_l2i C0 dX5_choose_43 ?_
      have e := Option.some.inj h
      subst e
      exact hret _ _ dX5_choose_44
    · replace h := am_in h c_1
      refine am_lload_n C0 dX5_choose_22 2 rfl ?_
      refine am_iload_n C0 dX5_choose_23 0 rfl ?_
      refine am_iload_n C0 dX5_choose_24 1 rfl ?_
      refine am_isub C0 dX5_choose_25 ?_
      refine am_iload C0 dX5_choose_26 3 rfl ?_
      refine am_iadd C0 dX5_choose_28 ?_
      refine am_i2l C0 dX5_choose_29 ?_
      refine am_lmul C0 dX5_choose_30 ?_
      refine am_iload C0 dX5_choose_31 3 rfl ?_
      refine am_i2l C0 dX5_choose_33 ?_
      obtain ⟨hz_2, h⟩ := am_gd h
      refine am_ldiv C0 dX5_choose_34 hz_2 ?_
      obtain ⟨x2_3, e_x2_3, h⟩ := am_lt h
      refine am_topl e_x2_3 ?_
      refine am_lstore_n C0 dX5_choose_35 rfl (by decide) rfl (lv' := [(0, .int x0), (1, .int x1), (2, .long x2_3), (4, .int x4)]) rfl ?_
      obtain ⟨x4_4, e_x4_4, h⟩ := am_lt h
      refine am_iinc C0 dX5_choose_36 3 rfl (by rw [ci_1]; exact e_x4_4) (by decide) rfl (lv' := [(0, .int x0), (1, .int x1), (2, .long x2_3), (4, .int x4_4)]) rfl ?_
      refine am_goto C0 dX5_choose_39 (tgt := 16) (by decide) ?_
      exact am_sub [0, 1, 2, 3] rfl (ih x0 x1 x2_3 x4_4  h)
set_option maxRecDepth 100000 in
set_option maxHeartbeats 4000000 in
theorem k_C_Sums_choose {G : am_T} {d0 : Nat} (C0 : am_C G cX5_choose 5 RX5 LC d0) (hd : 1 ≤ d0) (F : Nat) {σ0 : am_SS} {q : Int32} (hret : am_retI G cX5_choose 5 q σ0) (x0 : Int32) (x1 : Int32) (h : C_Sums_choose F x0 x1 = some q) : am_K G 5 0 [(0, .int x0), (1, .int x1)] [] σ0 := by
  unfold C_Sums_choose at h
  refine am_iload_n C0 dX5_choose_0 1 rfl ?_
  refine am_if_lt C0 dX5_choose_1 (tgt := 9) (by decide) (fun c_1 => ?_) (fun c_1 => ?_)
  · replace h := am_ip h c_1
    refine am_iconst C0 dX5_choose_9 ci_0 ?_
    have e := Option.some.inj h
    subst e
    exact hret _ _ dX5_choose_10
  · replace h := am_in h c_1
    refine am_iload_n C0 dX5_choose_4 1 rfl ?_
    refine am_iload_n C0 dX5_choose_5 0 rfl ?_
    refine am_icmp_le C0 dX5_choose_6 (tgt := 11) (by decide) (fun c_2 => ?_) (fun c_2 => ?_)
    · replace h := am_in h c_2
      refine am_lconst C0 dX5_choose_11 (v := 1) (by decide) ?_
      refine am_lstore_n C0 dX5_choose_12 rfl (by decide) rfl (lv' := [(0, .int x0), (1, .int x1), (2, .long 1)]) rfl ?_
      refine am_iconst C0 dX5_choose_13 ci_1 ?_
      refine am_istore C0 dX5_choose_14 (by decide) rfl (lv' := [(0, .int x0), (1, .int x1), (2, .long 1), (4, .int 1)]) rfl ?_
      exact am_sub [0, 1, 2, 3] rfl (k_C_Sums_choose_l16 C0 hd F hret F x0 x1 1 1  h)
    · replace h := am_ip h c_2
      refine am_iconst C0 dX5_choose_9 ci_0 ?_
      have e := Option.some.inj h
      subst e
      exact hret _ _ dX5_choose_10
set_option maxRecDepth 100000 in
set_option maxHeartbeats 4000000 in
theorem m_C_Sums_choose {l : Launch} {d : Nat} {σ : am_SS} {q : Int32} (hd : 1 ≤ d) (F : Nat) (x0 : Int32) (x1 : Int32) (h : C_Sums_choose F x0 x1 = some q) : am_Met l yX5_choose cX5_choose 5 (some .int) d 0 0 LC (fun b => [.int x0, .int x1]) σ (some (.int q)) σ :=
  am_metI (plainFor_of_name (by decide)) rfl (lv := fun b => [(0, .int x0), (1, .int x1)]) (fun _ => rfl) (fun _ => Nat.le_of_ble_eq_true rfl) (fun G C0 _ hret => k_C_Sums_choose C0 hd F hret x0 x1  h)
set_option maxRecDepth 100000 in
set_option maxHeartbeats 4000000 in
theorem k_C_Sums_noneHisOwn_p23 {G : am_T} {d0 : Nat} (C0 : am_C G cX5_noneHisOwn 3 RX5 LC d0) (hd : 1 ≤ d0) (rec4 : Int32 → Int32 → Int32 → Option Int32) (F : Nat) {σ0 : am_SS} {q : Int32} (hret : am_retI G cX5_noneHisOwn 3 q σ0) (hrec4 : ∀ (x0 : Int32) (x1 : Int32) (x2 : Int32), rec4 x0 x1 x2 = some q → am_K G 3 4 [(0, .int x0), (1, .int x1), (2, .int x2)] [] σ0) (x0 : Int32) (x2 : Int32) (s0 : Int32) (s1 : Int32) (h : C_Sums_noneHisOwn_p23 rec4 F x0 x2 s0 s1 = some q) : am_K G 3 23 [(0, .int x0), (2, .int x2)] [.int s1, .int s0] σ0 := by
  unfold C_Sums_noneHisOwn_p23 at h
  refine am_iadd C0 dX5_noneHisOwn_23 ?_
  obtain ⟨x1_1, e_x1_1, h⟩ := am_lt h
  refine am_top e_x1_1 ?_
  refine am_istore_n C0 dX5_noneHisOwn_24 rfl (by decide) rfl (lv' := [(0, .int x0), (2, .int x2), (1, .int x1_1)]) rfl ?_
  obtain ⟨x2_2, e_x2_2, h⟩ := am_lt h
  refine am_iinc C0 dX5_noneHisOwn_25 1 rfl (by rw [ci_1]; exact e_x2_2) (by decide) rfl (lv' := [(0, .int x0), (2, .int x2_2), (1, .int x1_1)]) rfl ?_
  refine am_goto C0 dX5_noneHisOwn_28 (tgt := 4) (by decide) ?_
  exact am_sub [0, 2, 1] rfl (hrec4 x0 x1_1 x2_2  h)
set_option maxRecDepth 100000 in
set_option maxHeartbeats 4000000 in
theorem k_C_Sums_noneHisOwn_l4 {G : am_T} {d0 : Nat} (C0 : am_C G cX5_noneHisOwn 3 RX5 LC d0) (hd : 1 ≤ d0) (F : Nat) {σ0 : am_SS} {q : Int32} (hret : am_retI G cX5_noneHisOwn 3 q σ0) : ∀ (n : Nat) (x0 : Int32) (x1 : Int32) (x2 : Int32) (h : C_Sums_noneHisOwn_l4 F n x0 x1 x2 = some q), am_K G 3 4 [(0, .int x0), (1, .int x1), (2, .int x2)] [] σ0 := by
  intro n
  induction n with
  | zero =>
    intro x0 x1 x2 h
    rw [C_Sums_noneHisOwn_l4] at h
    cases h
  | succ n ih =>
    intro x0 x1 x2 h
    rw [C_Sums_noneHisOwn_l4] at h
    refine am_iload_n C0 dX5_noneHisOwn_4 2 rfl ?_
    refine am_iload_n C0 dX5_noneHisOwn_5 0 rfl ?_
    refine am_icmp_gt C0 dX5_noneHisOwn_6 (tgt := 31) (by decide) (fun c_1 => ?_) (fun c_1 => ?_)
    · replace h := am_ip h c_1
      refine am_iload_n C0 dX5_noneHisOwn_31 1 rfl ?_
      have e := Option.some.inj h
      subst e
      exact hret _ _ dX5_noneHisOwn_32
    · replace h := am_in h c_1
      refine am_iload_n C0 dX5_noneHisOwn_9 1 rfl ?_
      refine am_iload_n C0 dX5_noneHisOwn_10 2 rfl ?_
      refine am_imul C0 dX5_noneHisOwn_11 ?_
      refine am_iload_n C0 dX5_noneHisOwn_12 2 rfl ?_
      refine am_iconst C0 dX5_noneHisOwn_13 ci_2 ?_
      refine am_irem C0 dX5_noneHisOwn_14 nz_2 ?_
      refine am_if_ne C0 dX5_noneHisOwn_15 (tgt := 22) (by decide) (fun c_2 => ?_) (fun c_2 => ?_)
      · replace h := am_in h c_2
        refine am_iconst C0 dX5_noneHisOwn_22 ci_m1 ?_
        exact am_sub [0, 2] rfl (k_C_Sums_noneHisOwn_p23 C0 hd _ F hret (fun z0 z1 z2 z => ih z0 z1 z2 z) x0 x2 (x1 * x2) (-1)  h)
      · replace h := am_ip h c_2
        refine am_iconst C0 dX5_noneHisOwn_18 ci_1 ?_
        refine am_goto C0 dX5_noneHisOwn_19 (tgt := 23) (by decide) ?_
        exact am_sub [0, 2] rfl (k_C_Sums_noneHisOwn_p23 C0 hd _ F hret (fun z0 z1 z2 z => ih z0 z1 z2 z) x0 x2 (x1 * x2) 1  h)
set_option maxRecDepth 100000 in
set_option maxHeartbeats 4000000 in
theorem k_C_Sums_noneHisOwn {G : am_T} {d0 : Nat} (C0 : am_C G cX5_noneHisOwn 3 RX5 LC d0) (hd : 1 ≤ d0) (F : Nat) {σ0 : am_SS} {q : Int32} (hret : am_retI G cX5_noneHisOwn 3 q σ0) (x0 : Int32) (h : C_Sums_noneHisOwn F x0 = some q) : am_K G 3 0 [(0, .int x0)] [] σ0 := by
  unfold C_Sums_noneHisOwn at h
  refine am_iconst C0 dX5_noneHisOwn_0 ci_1 ?_
  refine am_istore_n C0 dX5_noneHisOwn_1 rfl (by decide) rfl (lv' := [(0, .int x0), (1, .int 1)]) rfl ?_
  refine am_iconst C0 dX5_noneHisOwn_2 ci_1 ?_
  refine am_istore_n C0 dX5_noneHisOwn_3 rfl (by decide) rfl (lv' := [(0, .int x0), (1, .int 1), (2, .int 1)]) rfl ?_
  exact am_sub [0, 1, 2] rfl (k_C_Sums_noneHisOwn_l4 C0 hd F hret F x0 1 1  h)
set_option maxRecDepth 100000 in
set_option maxHeartbeats 4000000 in
theorem m_C_Sums_noneHisOwn {l : Launch} {d : Nat} {σ : am_SS} {q : Int32} (hd : 1 ≤ d) (F : Nat) (x0 : Int32) (h : C_Sums_noneHisOwn F x0 = some q) : am_Met l yX5_noneHisOwn cX5_noneHisOwn 3 (some .int) d 0 0 LC (fun b => [.int x0]) σ (some (.int q)) σ :=
  am_metI (plainFor_of_name (by decide)) rfl (lv := fun b => [(0, .int x0)]) (fun _ => rfl) (fun _ => Nat.le_of_ble_eq_true rfl) (fun G C0 _ hret => k_C_Sums_noneHisOwn C0 hd F hret x0  h)
set_option maxRecDepth 100000 in
set_option maxHeartbeats 4000000 in
theorem k_C_Sums_commonPart_p25 {G : am_T} {d0 : Nat} (C0 : am_C G cX5_commonPart 3 RX5 LC d0) (hd : 2 ≤ d0) (rec6 : Int32 → Int32 → Int32 → Option Int32) (F : Nat) {σ0 : am_SS} {q : Int32} (hret : am_retI G cX5_commonPart 3 q σ0) (hrec6 : ∀ (x0 : Int32) (x1 : Int32) (x2 : Int32), rec6 x0 x1 x2 = some q → am_K G 3 6 [(0, .int x0), (1, .int x1), (2, .int x2)] [] σ0) (x0 : Int32) (x1 : Int32) (x2 : Int32) (h : C_Sums_commonPart_p25 rec6 F x0 x1 x2 = some q) : am_K G 3 25 [(0, .int x0), (1, .int x1), (2, .int x2)] [] σ0 := by
  unfold C_Sums_commonPart_p25 at h
  obtain ⟨x2_1, e_x2_1, h⟩ := am_lt h
  refine am_iinc C0 dX5_commonPart_25 2 rfl (by rw [ci_m1]; exact e_x2_1) (by decide) rfl (lv' := [(0, .int x0), (1, .int x1), (2, .int x2_1)]) rfl ?_
  refine am_goto C0 dX5_commonPart_28 (tgt := 6) (by decide) ?_
  exact am_sub [0, 1, 2] rfl (hrec6 x0 x1 x2_1  h)
set_option maxRecDepth 100000 in
set_option maxHeartbeats 4000000 in
theorem k_C_Sums_commonPart_l6 {G : am_T} {d0 : Nat} (C0 : am_C G cX5_commonPart 3 RX5 LC d0) (hd : 2 ≤ d0) (F : Nat) {σ0 : am_SS} {q : Int32} (hret : am_retI G cX5_commonPart 3 q σ0) : ∀ (n : Nat) (x0 : Int32) (x1 : Int32) (x2 : Int32) (h : C_Sums_commonPart_l6 F n x0 x1 x2 = some q), am_K G 3 6 [(0, .int x0), (1, .int x1), (2, .int x2)] [] σ0 := by
  intro n
  induction n with
  | zero =>
    intro x0 x1 x2 h
    rw [C_Sums_commonPart_l6] at h
    cases h
  | succ n ih =>
    intro x0 x1 x2 h
    rw [C_Sums_commonPart_l6] at h
    refine am_iload_n C0 dX5_commonPart_6 2 rfl ?_
    refine am_iconst C0 dX5_commonPart_7 ci_1 ?_
    refine am_icmp_le C0 dX5_commonPart_8 (tgt := 31) (by decide) (fun c_1 => ?_) (fun c_1 => ?_)
    · replace h := am_in h c_1
      refine am_iconst C0 dX5_commonPart_31 ci_1 ?_
      have e := Option.some.inj h
      subst e
      exact hret _ _ dX5_commonPart_32
    · replace h := am_ip h c_1
      refine am_iload_n C0 dX5_commonPart_11 0 rfl ?_
      refine am_iload_n C0 dX5_commonPart_12 2 rfl ?_
      obtain ⟨hz_2, h⟩ := am_gd h
      refine am_irem C0 dX5_commonPart_13 hz_2 ?_
      refine am_if_ne C0 dX5_commonPart_14 (tgt := 25) (by decide) (fun c_3 => ?_) (fun c_3 => ?_)
      · replace h := am_in h c_3
        exact am_sub [0, 1, 2] rfl (k_C_Sums_commonPart_p25 C0 hd _ F hret (fun z0 z1 z2 z => ih z0 z1 z2 z) x0 x1 x2  h)
      · replace h := am_ip h c_3
        refine am_iload_n C0 dX5_commonPart_17 1 rfl ?_
        refine am_iload_n C0 dX5_commonPart_18 2 rfl ?_
        obtain ⟨hz_4, h⟩ := am_gd h
        refine am_irem C0 dX5_commonPart_19 hz_4 ?_
        refine am_if_ne C0 dX5_commonPart_20 (tgt := 25) (by decide) (fun c_5 => ?_) (fun c_5 => ?_)
        · replace h := am_in h c_5
          exact am_sub [0, 1, 2] rfl (k_C_Sums_commonPart_p25 C0 hd _ F hret (fun z0 z1 z2 z => ih z0 z1 z2 z) x0 x1 x2  h)
        · replace h := am_ip h c_5
          refine am_iload_n C0 dX5_commonPart_23 2 rfl ?_
          have e := Option.some.inj h
          subst e
          exact hret _ _ dX5_commonPart_24
set_option maxRecDepth 100000 in
set_option maxHeartbeats 4000000 in
theorem k_C_Sums_commonPart {G : am_T} {d0 : Nat} (C0 : am_C G cX5_commonPart 3 RX5 LC d0) (hd : 2 ≤ d0) (F : Nat) {σ0 : am_SS} {q : Int32} (hret : am_retI G cX5_commonPart 3 q σ0) (x0 : Int32) (x1 : Int32) (h : C_Sums_commonPart F x0 x1 = some q) : am_K G 3 0 [(0, .int x0), (1, .int x1)] [] σ0 := by
  unfold C_Sums_commonPart at h
  refine am_iload_n C0 dX5_commonPart_0 0 rfl ?_
  refine am_iload_n C0 dX5_commonPart_1 1 rfl ?_
  refine am_callS C0 (m_J_min (σ := σ0) (Nat.le_refl _) x0 x1  rfl) mm_yJ9_min_7cf53 ln_RX5_22 (fun _ => rfl) (Nat.le_trans (by decide) hd) rfl (Nat.le_of_ble_eq_true rfl) dX5_commonPart_2 ?_
  obtain ⟨x2_2, e_x2_2, h⟩ := am_lt h
  refine am_top e_x2_2 ?_
  refine am_istore_n C0 dX5_commonPart_5 rfl (by decide) rfl (lv' := [(0, .int x0), (1, .int x1), (2, .int x2_2)]) rfl ?_
  exact am_sub [0, 1, 2] rfl (k_C_Sums_commonPart_l6 C0 hd F hret F x0 x1 x2_2  h)
set_option maxRecDepth 100000 in
set_option maxHeartbeats 4000000 in
theorem m_C_Sums_commonPart {l : Launch} {d : Nat} {σ : am_SS} {q : Int32} (hd : 2 ≤ d) (F : Nat) (x0 : Int32) (x1 : Int32) (h : C_Sums_commonPart F x0 x1 = some q) : am_Met l yX5_commonPart cX5_commonPart 3 (some .int) d 0 0 LC (fun b => [.int x0, .int x1]) σ (some (.int q)) σ :=
  am_metI (plainFor_of_name (by decide)) rfl (lv := fun b => [(0, .int x0), (1, .int x1)]) (fun _ => rfl) (fun _ => Nat.le_of_ble_eq_true rfl) (fun G C0 _ hret => k_C_Sums_commonPart C0 hd F hret x0 x1  h)
set_option maxRecDepth 100000 in
set_option maxHeartbeats 4000000 in
theorem k_C_Sums_feastDay {G : am_T} {d0 : Nat} (C0 : am_C G cX5_feastDay 13 RX5 LC d0) (hd : 1 ≤ d0) {σ0 : am_SS} {q : Int32} (hret : am_retI G cX5_feastDay 13 q σ0) (x0 : Int32) (h : C_Sums_feastDay x0 = q) : am_K G 13 0 [(0, .int x0)] [] σ0 := by
  unfold C_Sums_feastDay at h
  refine am_iload_n C0 dX5_feastDay_0 0 rfl ?_
  refine am_bipush C0 dX5_feastDay_1 kb_19 ?_
  refine am_irem C0 dX5_feastDay_3 nz_19 ?_
  obtain ⟨x1_1, e_x1_1, h⟩ := am_lt h
  refine am_top e_x1_1 ?_
  refine am_istore_n C0 dX5_feastDay_4 rfl (by decide) rfl (lv' := [(0, .int x0), (1, .int x1_1)]) rfl ?_
  refine am_iload_n C0 dX5_feastDay_5 0 rfl ?_
  refine am_bipush C0 dX5_feastDay_6 kb_100 ?_
  refine am_idiv C0 dX5_feastDay_8 nz_100 ?_
  obtain ⟨x2_2, e_x2_2, h⟩ := am_lt h
  refine am_top e_x2_2 ?_
  refine am_istore_n C0 dX5_feastDay_9 rfl (by decide) rfl (lv' := [(0, .int x0), (1, .int x1_1), (2, .int x2_2)]) rfl ?_
  refine am_iload_n C0 dX5_feastDay_10 0 rfl ?_
  refine am_bipush C0 dX5_feastDay_11 kb_100 ?_
  refine am_irem C0 dX5_feastDay_13 nz_100 ?_
  obtain ⟨x3_3, e_x3_3, h⟩ := am_lt h
  refine am_top e_x3_3 ?_
  refine am_istore_n C0 dX5_feastDay_14 rfl (by decide) rfl (lv' := [(0, .int x0), (1, .int x1_1), (2, .int x2_2), (3, .int x3_3)]) rfl ?_
  refine am_iload_n C0 dX5_feastDay_15 2 rfl ?_
  refine am_iconst C0 dX5_feastDay_16 ci_4 ?_
  refine am_idiv C0 dX5_feastDay_17 nz_4 ?_
  obtain ⟨x4_4, e_x4_4, h⟩ := am_lt h
  refine am_top e_x4_4 ?_
  refine am_istore C0 dX5_feastDay_18 (by decide) rfl (lv' := [(0, .int x0), (1, .int x1_1), (2, .int x2_2), (3, .int x3_3), (4, .int x4_4)]) rfl ?_
  refine am_iload_n C0 dX5_feastDay_20 2 rfl ?_
  refine am_iconst C0 dX5_feastDay_21 ci_4 ?_
  refine am_irem C0 dX5_feastDay_22 nz_4 ?_
  obtain ⟨x5_5, e_x5_5, h⟩ := am_lt h
  refine am_top e_x5_5 ?_
  refine am_istore C0 dX5_feastDay_23 (by decide) rfl (lv' := [(0, .int x0), (1, .int x1_1), (2, .int x2_2), (3, .int x3_3), (4, .int x4_4), (5, .int x5_5)]) rfl ?_
  refine am_iload_n C0 dX5_feastDay_25 2 rfl ?_
  refine am_bipush C0 dX5_feastDay_26 kb_8 ?_
  refine am_iadd C0 dX5_feastDay_28 ?_
  refine am_bipush C0 dX5_feastDay_29 kb_25 ?_
  refine am_idiv C0 dX5_feastDay_31 nz_25 ?_
  obtain ⟨x6_6, e_x6_6, h⟩ := am_lt h
  refine am_top e_x6_6 ?_
  refine am_istore C0 dX5_feastDay_32 (by decide) rfl (lv' := [(0, .int x0), (1, .int x1_1), (2, .int x2_2), (3, .int x3_3), (4, .int x4_4), (5, .int x5_5), (6, .int x6_6)]) rfl ?_
  refine am_iload_n C0 dX5_feastDay_34 2 rfl ?_
  refine am_iload C0 dX5_feastDay_35 6 rfl ?_
  refine am_isub C0 dX5_feastDay_37 ?_
  refine am_iconst C0 dX5_feastDay_38 ci_1 ?_
  refine am_iadd C0 dX5_feastDay_39 ?_
  refine am_iconst C0 dX5_feastDay_40 ci_3 ?_
  refine am_idiv C0 dX5_feastDay_41 nz_3 ?_
  obtain ⟨x7_7, e_x7_7, h⟩ := am_lt h
  refine am_top e_x7_7 ?_
  refine am_istore C0 dX5_feastDay_42 (by decide) rfl (lv' := [(0, .int x0), (1, .int x1_1), (2, .int x2_2), (3, .int x3_3), (4, .int x4_4), (5, .int x5_5), (6, .int x6_6), (7, .int x7_7)]) rfl ?_
  refine am_bipush C0 dX5_feastDay_44 kb_19 ?_
  refine am_iload_n C0 dX5_feastDay_46 1 rfl ?_
  refine am_imul C0 dX5_feastDay_47 ?_
  refine am_iload_n C0 dX5_feastDay_48 2 rfl ?_
  refine am_iadd C0 dX5_feastDay_49 ?_
  refine am_iload C0 dX5_feastDay_50 4 rfl ?_
  refine am_isub C0 dX5_feastDay_52 ?_
  refine am_iload C0 dX5_feastDay_53 7 rfl ?_
  refine am_isub C0 dX5_feastDay_55 ?_
  refine am_bipush C0 dX5_feastDay_56 kb_15 ?_
  refine am_iadd C0 dX5_feastDay_58 ?_
  refine am_bipush C0 dX5_feastDay_59 kb_30 ?_
  refine am_irem C0 dX5_feastDay_61 nz_30 ?_
  obtain ⟨x8_8, e_x8_8, h⟩ := am_lt h
  refine am_top e_x8_8 ?_
  refine am_istore C0 dX5_feastDay_62 (by decide) rfl (lv' := [(0, .int x0), (1, .int x1_1), (2, .int x2_2), (3, .int x3_3), (4, .int x4_4), (5, .int x5_5), (6, .int x6_6), (7, .int x7_7), (8, .int x8_8)]) rfl ?_
  refine am_iload_n C0 dX5_feastDay_64 3 rfl ?_
  refine am_iconst C0 dX5_feastDay_65 ci_4 ?_
  refine am_idiv C0 dX5_feastDay_66 nz_4 ?_
  obtain ⟨x9_9, e_x9_9, h⟩ := am_lt h
  refine am_top e_x9_9 ?_
  refine am_istore C0 dX5_feastDay_67 (by decide) rfl (lv' := [(0, .int x0), (1, .int x1_1), (2, .int x2_2), (3, .int x3_3), (4, .int x4_4), (5, .int x5_5), (6, .int x6_6), (7, .int x7_7), (8, .int x8_8), (9, .int x9_9)]) rfl ?_
  refine am_iload_n C0 dX5_feastDay_69 3 rfl ?_
  refine am_iconst C0 dX5_feastDay_70 ci_4 ?_
  refine am_irem C0 dX5_feastDay_71 nz_4 ?_
  obtain ⟨x10_10, e_x10_10, h⟩ := am_lt h
  refine am_top e_x10_10 ?_
  refine am_istore C0 dX5_feastDay_72 (by decide) rfl (lv' := [(0, .int x0), (1, .int x1_1), (2, .int x2_2), (3, .int x3_3), (4, .int x4_4), (5, .int x5_5), (6, .int x6_6), (7, .int x7_7), (8, .int x8_8), (9, .int x9_9), (10, .int x10_10)]) rfl ?_
  refine am_bipush C0 dX5_feastDay_74 kb_32 ?_
  refine am_iconst C0 dX5_feastDay_76 ci_2 ?_
  refine am_iload C0 dX5_feastDay_77 5 rfl ?_
  refine am_imul C0 dX5_feastDay_79 ?_
  refine am_iadd C0 dX5_feastDay_80 ?_
  refine am_iconst C0 dX5_feastDay_81 ci_2 ?_
  refine am_iload C0 dX5_feastDay_82 9 rfl ?_
  refine am_imul C0 dX5_feastDay_84 ?_
  refine am_iadd C0 dX5_feastDay_85 ?_
  refine am_iload C0 dX5_feastDay_86 8 rfl ?_
  refine am_isub C0 dX5_feastDay_88 ?_
  refine am_iload C0 dX5_feastDay_89 10 rfl ?_
  refine am_isub C0 dX5_feastDay_91 ?_
  refine am_bipush C0 dX5_feastDay_92 kb_7 ?_
  refine am_irem C0 dX5_feastDay_94 nz_7 ?_
  obtain ⟨x11_11, e_x11_11, h⟩ := am_lt h
  refine am_top e_x11_11 ?_
  refine am_istore C0 dX5_feastDay_95 (by decide) rfl (lv' := [(0, .int x0), (1, .int x1_1), (2, .int x2_2), (3, .int x3_3), (4, .int x4_4), (5, .int x5_5), (6, .int x6_6), (7, .int x7_7), (8, .int x8_8), (9, .int x9_9), (10, .int x10_10), (11, .int x11_11)]) rfl ?_
  refine am_iload_n C0 dX5_feastDay_97 1 rfl ?_
  refine am_bipush C0 dX5_feastDay_98 kb_11 ?_
  refine am_iload C0 dX5_feastDay_100 8 rfl ?_
  refine am_imul C0 dX5_feastDay_102 ?_
  refine am_iadd C0 dX5_feastDay_103 ?_
  refine am_bipush C0 dX5_feastDay_104 kb_22 ?_
  refine am_iload C0 dX5_feastDay_106 11 rfl ?_
  refine am_imul C0 dX5_feastDay_108 ?_
  refine am_iadd C0 dX5_feastDay_109 ?_
  refine am_sipush C0 dX5_feastDay_110 cs_451 ?_
  refine am_idiv C0 dX5_feastDay_113 nz_451 ?_
  obtain ⟨x12_12, e_x12_12, h⟩ := am_lt h
  refine am_top e_x12_12 ?_
  refine am_istore C0 dX5_feastDay_114 (by decide) rfl (lv' := [(0, .int x0), (1, .int x1_1), (2, .int x2_2), (3, .int x3_3), (4, .int x4_4), (5, .int x5_5), (6, .int x6_6), (7, .int x7_7), (8, .int x8_8), (9, .int x9_9), (10, .int x10_10), (11, .int x11_11), (12, .int x12_12)]) rfl ?_
  refine am_iload C0 dX5_feastDay_116 8 rfl ?_
  refine am_iload C0 dX5_feastDay_118 11 rfl ?_
  refine am_iadd C0 dX5_feastDay_120 ?_
  refine am_bipush C0 dX5_feastDay_121 kb_7 ?_
  refine am_iload C0 dX5_feastDay_123 12 rfl ?_
  refine am_imul C0 dX5_feastDay_125 ?_
  refine am_isub C0 dX5_feastDay_126 ?_
  refine am_bipush C0 dX5_feastDay_127 kb_114 ?_
  refine am_iadd C0 dX5_feastDay_129 ?_
  have e := h
  subst e
  exact hret _ _ dX5_feastDay_130
set_option maxRecDepth 100000 in
set_option maxHeartbeats 4000000 in
theorem m_C_Sums_feastDay {l : Launch} {d : Nat} {σ : am_SS} {q : Int32} (hd : 1 ≤ d) (x0 : Int32) (h : C_Sums_feastDay x0 = q) : am_Met l yX5_feastDay cX5_feastDay 13 (some .int) d 0 0 LC (fun b => [.int x0]) σ (some (.int q)) σ :=
  am_metI (plainFor_of_name (by decide)) rfl (lv := fun b => [(0, .int x0)]) (fun _ => rfl) (fun _ => Nat.le_of_ble_eq_true rfl) (fun G C0 _ hret => k_C_Sums_feastDay C0 hd hret x0  h)
set_option maxRecDepth 100000 in
set_option maxHeartbeats 4000000 in
theorem k_C_Sums_digitSquares_l4 {G : am_T} {d0 : Nat} (C0 : am_C G cX5_digitSquares 3 RX5 LC d0) (hd : 1 ≤ d0) (F : Nat) {σ0 : am_SS} {q : Int32} (hret : am_retI G cX5_digitSquares 3 q σ0) : ∀ (n : Nat) (x1 : Int32) (x2 : Int32) (h : C_Sums_digitSquares_l4 F n x1 x2 = some q), am_K G 3 4 [(1, .int x1), (2, .int x2)] [] σ0 := by
  intro n
  induction n with
  | zero =>
    intro x1 x2 h
    rw [C_Sums_digitSquares_l4] at h
    cases h
  | succ n ih =>
    intro x1 x2 h
    rw [C_Sums_digitSquares_l4] at h
    refine am_iload_n C0 dX5_digitSquares_4 1 rfl ?_
    refine am_if_le C0 dX5_digitSquares_5 (tgt := 28) (by decide) (fun c_1 => ?_) (fun c_1 => ?_)
    · replace h := am_in h c_1
      refine am_iload_n C0 dX5_digitSquares_28 0 rfl ?_
      have e := Option.some.inj h
      subst e
      exact hret _ _ dX5_digitSquares_29
    · replace h := am_ip h c_1
      refine am_iload_n C0 dX5_digitSquares_8 0 rfl ?_
      refine am_iload_n C0 dX5_digitSquares_9 1 rfl ?_
      refine am_bipush C0 dX5_digitSquares_10 kb_10 ?_
      refine am_irem C0 dX5_digitSquares_12 nz_10 ?_
      refine am_iload_n C0 dX5_digitSquares_13 1 rfl ?_
      refine am_bipush C0 dX5_digitSquares_14 kb_10 ?_
      refine am_irem C0 dX5_digitSquares_16 nz_10 ?_
      refine am_imul C0 dX5_digitSquares_17 ?_
      refine am_iadd C0 dX5_digitSquares_18 ?_
      obtain ⟨x1_2, e_x1_2, h⟩ := am_lt h
      refine am_top e_x1_2 ?_
      refine am_istore_n C0 dX5_digitSquares_19 rfl (by decide) rfl (lv' := [(1, .int x1_2), (2, .int x2)]) rfl ?_
      refine am_iload_n C0 dX5_digitSquares_20 1 rfl ?_
      refine am_bipush C0 dX5_digitSquares_21 kb_10 ?_
      refine am_idiv C0 dX5_digitSquares_23 nz_10 ?_
      obtain ⟨x2_3, e_x2_3, h⟩ := am_lt h
      refine am_top e_x2_3 ?_
      refine am_istore_n C0 dX5_digitSquares_24 rfl (by decide) rfl (lv' := [(1, .int x1_2), (2, .int x2_3)]) rfl ?_
      refine am_goto C0 dX5_digitSquares_25 (tgt := 4) (by decide) ?_
      exact am_sub [0, 1] rfl (ih x1_2 x2_3  h)
set_option maxRecDepth 100000 in
set_option maxHeartbeats 4000000 in
theorem k_C_Sums_digitSquares {G : am_T} {d0 : Nat} (C0 : am_C G cX5_digitSquares 3 RX5 LC d0) (hd : 1 ≤ d0) (F : Nat) {σ0 : am_SS} {q : Int32} (hret : am_retI G cX5_digitSquares 3 q σ0) (x0 : Int32) (h : C_Sums_digitSquares F x0 = some q) : am_K G 3 0 [(0, .int x0)] [] σ0 := by
  unfold C_Sums_digitSquares at h
  refine am_iconst C0 dX5_digitSquares_0 ci_0 ?_
  refine am_istore_n C0 dX5_digitSquares_1 rfl (by decide) rfl (lv' := [(0, .int x0), (1, .int 0)]) rfl ?_
  refine am_iload_n C0 dX5_digitSquares_2 0 rfl ?_
  refine am_istore_n C0 dX5_digitSquares_3 rfl (by decide) rfl (lv' := [(0, .int x0), (1, .int 0), (2, .int x0)]) rfl ?_
  exact am_sub [1, 2] rfl (k_C_Sums_digitSquares_l4 C0 hd F hret F 0 x0  h)
set_option maxRecDepth 100000 in
set_option maxHeartbeats 4000000 in
theorem m_C_Sums_digitSquares {l : Launch} {d : Nat} {σ : am_SS} {q : Int32} (hd : 1 ≤ d) (F : Nat) (x0 : Int32) (h : C_Sums_digitSquares F x0 = some q) : am_Met l yX5_digitSquares cX5_digitSquares 3 (some .int) d 0 0 LC (fun b => [.int x0]) σ (some (.int q)) σ :=
  am_metI (plainFor_of_name (by decide)) rfl (lv := fun b => [(0, .int x0)]) (fun _ => rfl) (fun _ => Nat.le_of_ble_eq_true rfl) (fun G C0 _ hret => k_C_Sums_digitSquares C0 hd F hret x0  h)
set_option maxRecDepth 100000 in
set_option maxHeartbeats 4000000 in
theorem k_C_Sums_happySteps_l4 {G : am_T} {d0 : Nat} (C0 : am_C G cX5_happySteps 3 RX5 LC d0) (hd : 2 ≤ d0) (F : Nat) {σ0 : am_SS} {q : Int32} (hret : am_retI G cX5_happySteps 3 q σ0) : ∀ (n : Nat) (x1 : Int32) (x2 : Int32) (h : C_Sums_happySteps_l4 F n x1 x2 = some q), am_K G 3 4 [(1, .int x1), (2, .int x2)] [] σ0 := by
  intro n
  induction n with
  | zero =>
    intro x1 x2 h
    rw [C_Sums_happySteps_l4] at h
    cases h
  | succ n ih =>
    intro x1 x2 h
    rw [C_Sums_happySteps_l4] at h
    refine am_iload_n C0 dX5_happySteps_4 1 rfl ?_
    refine am_sipush C0 dX5_happySteps_5 cs_1000 ?_
    refine am_icmp_ge C0 dX5_happySteps_8 (tgt := 34) (by decide) (fun c_1 => ?_) (fun c_1 => ?_)
    · replace h := am_in h c_1
      refine am_iconst C0 dX5_happySteps_34 ci_m1 ?_
      have e := Option.some.inj h
      subst e
      exact hret _ _ dX5_happySteps_35
    · replace h := am_ip h c_1
      refine am_iload_n C0 dX5_happySteps_11 0 rfl ?_
      refine am_iconst C0 dX5_happySteps_12 ci_1 ?_
      refine am_icmp_eq C0 dX5_happySteps_13 (tgt := 21) (by decide) (fun c_2 => ?_) (fun c_2 => ?_)
      · replace h := am_ip h c_2
        refine am_iload_n C0 dX5_happySteps_21 1 rfl ?_
        have e := Option.some.inj h
        subst e
        exact hret _ _ dX5_happySteps_22
      · replace h := am_in h c_2
        refine am_iload_n C0 dX5_happySteps_16 0 rfl ?_
        refine am_iconst C0 dX5_happySteps_17 ci_4 ?_
        refine am_icmp_ne C0 dX5_happySteps_18 (tgt := 23) (by decide) (fun c_3 => ?_) (fun c_3 => ?_)
        · replace h := am_in h c_3
          refine am_iload_n C0 dX5_happySteps_23 0 rfl ?_
          obtain ⟨q_4, h_q_4, h⟩ := am_bind h
          refine am_callS C0 (m_C_Sums_digitSquares (σ := σ0) (Nat.le_refl _) F x1  h_q_4) mm_yX5_digitSquares ln_RX5_27 (fun _ => rfl) (Nat.le_trans (by decide) hd) rfl (Nat.le_of_ble_eq_true rfl) dX5_happySteps_24 ?_
          refine am_istore_n C0 dX5_happySteps_27 rfl (by decide) rfl (lv' := [(1, .int q_4), (2, .int x2)]) rfl ?_
          obtain ⟨x2_5, e_x2_5, h⟩ := am_lt h
          refine am_iinc C0 dX5_happySteps_28 1 rfl (by rw [ci_1]; exact e_x2_5) (by decide) rfl (lv' := [(1, .int q_4), (2, .int x2_5)]) rfl ?_
          refine am_goto C0 dX5_happySteps_31 (tgt := 4) (by decide) ?_
          exact am_sub [0, 1] rfl (ih q_4 x2_5  h)
        · replace h := am_ip h c_3
          refine am_iload_n C0 dX5_happySteps_21 1 rfl ?_
          have e := Option.some.inj h
          subst e
          exact hret _ _ dX5_happySteps_22
set_option maxRecDepth 100000 in
set_option maxHeartbeats 4000000 in
theorem k_C_Sums_happySteps {G : am_T} {d0 : Nat} (C0 : am_C G cX5_happySteps 3 RX5 LC d0) (hd : 2 ≤ d0) (F : Nat) {σ0 : am_SS} {q : Int32} (hret : am_retI G cX5_happySteps 3 q σ0) (x0 : Int32) (h : C_Sums_happySteps F x0 = some q) : am_K G 3 0 [(0, .int x0)] [] σ0 := by
  unfold C_Sums_happySteps at h
  refine am_iload_n C0 dX5_happySteps_0 0 rfl ?_
  refine am_istore_n C0 dX5_happySteps_1 rfl (by decide) rfl (lv' := [(0, .int x0), (1, .int x0)]) rfl ?_
  refine am_iconst C0 dX5_happySteps_2 ci_0 ?_
  refine am_istore_n C0 dX5_happySteps_3 rfl (by decide) rfl (lv' := [(0, .int x0), (1, .int x0), (2, .int 0)]) rfl ?_
  exact am_sub [1, 2] rfl (k_C_Sums_happySteps_l4 C0 hd F hret F x0 0  h)
set_option maxRecDepth 100000 in
set_option maxHeartbeats 4000000 in
theorem m_C_Sums_happySteps {l : Launch} {d : Nat} {σ : am_SS} {q : Int32} (hd : 2 ≤ d) (F : Nat) (x0 : Int32) (h : C_Sums_happySteps F x0 = some q) : am_Met l yX5_happySteps cX5_happySteps 3 (some .int) d 0 0 LC (fun b => [.int x0]) σ (some (.int q)) σ :=
  am_metI (plainFor_of_name (by decide)) rfl (lv := fun b => [(0, .int x0)]) (fun _ => rfl) (fun _ => Nat.le_of_ble_eq_true rfl) (fun G C0 _ hret => k_C_Sums_happySteps C0 hd F hret x0  h)
set_option maxRecDepth 100000 in
set_option maxHeartbeats 4000000 in
theorem k_C_Sums_happyEnd_l4 {G : am_T} {d0 : Nat} (C0 : am_C G cX5_happyEnd 3 RX5 LC d0) (hd : 2 ≤ d0) (F : Nat) {σ0 : am_SS} {q : Int32} (hret : am_retI G cX5_happyEnd 3 q σ0) : ∀ (n : Nat) (x1 : Int32) (x2 : Int32) (h : C_Sums_happyEnd_l4 F n x1 x2 = some q), am_K G 3 4 [(1, .int x1), (2, .int x2)] [] σ0 := by
  intro n
  induction n with
  | zero =>
    intro x1 x2 h
    rw [C_Sums_happyEnd_l4] at h
    cases h
  | succ n ih =>
    intro x1 x2 h
    rw [C_Sums_happyEnd_l4] at h
    refine am_iload_n C0 dX5_happyEnd_4 1 rfl ?_
    refine am_sipush C0 dX5_happyEnd_5 cs_1000 ?_
    refine am_icmp_ge C0 dX5_happyEnd_8 (tgt := 32) (by decide) (fun c_1 => ?_) (fun c_1 => ?_)
    · replace h := am_in h c_1
      refine am_iload_n C0 dX5_happyEnd_32 0 rfl ?_
      have e := Option.some.inj h
      subst e
      exact hret _ _ dX5_happyEnd_33
    · replace h := am_ip h c_1
      refine am_iload_n C0 dX5_happyEnd_11 0 rfl ?_
      refine am_iconst C0 dX5_happyEnd_12 ci_1 ?_
      refine am_icmp_eq C0 dX5_happyEnd_13 (tgt := 32) (by decide) (fun c_2 => ?_) (fun c_2 => ?_)
      · replace h := am_ip h c_2
        refine am_iload_n C0 dX5_happyEnd_32 0 rfl ?_
        have e := Option.some.inj h
        subst e
        exact hret _ _ dX5_happyEnd_33
      · replace h := am_in h c_2
        refine am_iload_n C0 dX5_happyEnd_16 0 rfl ?_
        refine am_iconst C0 dX5_happyEnd_17 ci_4 ?_
        refine am_icmp_eq C0 dX5_happyEnd_18 (tgt := 32) (by decide) (fun c_3 => ?_) (fun c_3 => ?_)
        · replace h := am_ip h c_3
          refine am_iload_n C0 dX5_happyEnd_32 0 rfl ?_
          have e := Option.some.inj h
          subst e
          exact hret _ _ dX5_happyEnd_33
        · replace h := am_in h c_3
          refine am_iload_n C0 dX5_happyEnd_21 0 rfl ?_
          obtain ⟨q_4, h_q_4, h⟩ := am_bind h
          refine am_callS C0 (m_C_Sums_digitSquares (σ := σ0) (Nat.le_refl _) F x1  h_q_4) mm_yX5_digitSquares ln_RX5_27 (fun _ => rfl) (Nat.le_trans (by decide) hd) rfl (Nat.le_of_ble_eq_true rfl) dX5_happyEnd_22 ?_
          refine am_istore_n C0 dX5_happyEnd_25 rfl (by decide) rfl (lv' := [(1, .int q_4), (2, .int x2)]) rfl ?_
          obtain ⟨x2_5, e_x2_5, h⟩ := am_lt h
          refine am_iinc C0 dX5_happyEnd_26 1 rfl (by rw [ci_1]; exact e_x2_5) (by decide) rfl (lv' := [(1, .int q_4), (2, .int x2_5)]) rfl ?_
          refine am_goto C0 dX5_happyEnd_29 (tgt := 4) (by decide) ?_
          exact am_sub [0, 1] rfl (ih q_4 x2_5  h)
set_option maxRecDepth 100000 in
set_option maxHeartbeats 4000000 in
theorem k_C_Sums_happyEnd {G : am_T} {d0 : Nat} (C0 : am_C G cX5_happyEnd 3 RX5 LC d0) (hd : 2 ≤ d0) (F : Nat) {σ0 : am_SS} {q : Int32} (hret : am_retI G cX5_happyEnd 3 q σ0) (x0 : Int32) (h : C_Sums_happyEnd F x0 = some q) : am_K G 3 0 [(0, .int x0)] [] σ0 := by
  unfold C_Sums_happyEnd at h
  refine am_iload_n C0 dX5_happyEnd_0 0 rfl ?_
  refine am_istore_n C0 dX5_happyEnd_1 rfl (by decide) rfl (lv' := [(0, .int x0), (1, .int x0)]) rfl ?_
  refine am_iconst C0 dX5_happyEnd_2 ci_0 ?_
  refine am_istore_n C0 dX5_happyEnd_3 rfl (by decide) rfl (lv' := [(0, .int x0), (1, .int x0), (2, .int 0)]) rfl ?_
  exact am_sub [1, 2] rfl (k_C_Sums_happyEnd_l4 C0 hd F hret F x0 0  h)
set_option maxRecDepth 100000 in
set_option maxHeartbeats 4000000 in
theorem m_C_Sums_happyEnd {l : Launch} {d : Nat} {σ : am_SS} {q : Int32} (hd : 2 ≤ d) (F : Nat) (x0 : Int32) (h : C_Sums_happyEnd F x0 = some q) : am_Met l yX5_happyEnd cX5_happyEnd 3 (some .int) d 0 0 LC (fun b => [.int x0]) σ (some (.int q)) σ :=
  am_metI (plainFor_of_name (by decide)) rfl (lv := fun b => [(0, .int x0)]) (fun _ => rfl) (fun _ => Nat.le_of_ble_eq_true rfl) (fun G C0 _ hret => k_C_Sums_happyEnd C0 hd F hret x0  h)
set_option maxRecDepth 100000 in
set_option maxHeartbeats 4000000 in
theorem k_C_Sums_happyUpTo_p23 {G : am_T} {d0 : Nat} (C0 : am_C G cX5_happyUpTo 3 RX5 LC d0) (hd : 3 ≤ d0) (rec4 : Int32 → Int32 → Int32 → Option Int32) (F : Nat) {σ0 : am_SS} {q : Int32} (hret : am_retI G cX5_happyUpTo 3 q σ0) (hrec4 : ∀ (x0 : Int32) (x1 : Int32) (x2 : Int32), rec4 x0 x1 x2 = some q → am_K G 3 4 [(0, .int x0), (1, .int x1), (2, .int x2)] [] σ0) (x0 : Int32) (x2 : Int32) (s0 : Int32) (s1 : Bool) (h : C_Sums_happyUpTo_p23 rec4 F x0 x2 s0 s1 = some q) : am_K G 3 23 [(0, .int x0), (2, .int x2)] [.int (am_bI s1), .int s0] σ0 := by
  unfold C_Sums_happyUpTo_p23 at h
  refine am_iadd C0 dX5_happyUpTo_23 ?_
  obtain ⟨x1_1, e_x1_1, h⟩ := am_lt h
  refine am_top e_x1_1 ?_
  refine am_istore_n C0 dX5_happyUpTo_24 rfl (by decide) rfl (lv' := [(0, .int x0), (2, .int x2), (1, .int x1_1)]) rfl ?_
  obtain ⟨x2_2, e_x2_2, h⟩ := am_lt h
  refine am_iinc C0 dX5_happyUpTo_25 1 rfl (by rw [ci_1]; exact e_x2_2) (by decide) rfl (lv' := [(0, .int x0), (2, .int x2_2), (1, .int x1_1)]) rfl ?_
  refine am_goto C0 dX5_happyUpTo_28 (tgt := 4) (by decide) ?_
  exact am_sub [0, 2, 1] rfl (hrec4 x0 x1_1 x2_2  h)
set_option maxRecDepth 100000 in
set_option maxHeartbeats 4000000 in
theorem k_C_Sums_happyUpTo_l4 {G : am_T} {d0 : Nat} (C0 : am_C G cX5_happyUpTo 3 RX5 LC d0) (hd : 3 ≤ d0) (F : Nat) {σ0 : am_SS} {q : Int32} (hret : am_retI G cX5_happyUpTo 3 q σ0) : ∀ (n : Nat) (x0 : Int32) (x1 : Int32) (x2 : Int32) (h : C_Sums_happyUpTo_l4 F n x0 x1 x2 = some q), am_K G 3 4 [(0, .int x0), (1, .int x1), (2, .int x2)] [] σ0 := by
  intro n
  induction n with
  | zero =>
    intro x0 x1 x2 h
    rw [C_Sums_happyUpTo_l4] at h
    cases h
  | succ n ih =>
    intro x0 x1 x2 h
    rw [C_Sums_happyUpTo_l4] at h
    refine am_iload_n C0 dX5_happyUpTo_4 2 rfl ?_
    refine am_iload_n C0 dX5_happyUpTo_5 0 rfl ?_
    refine am_icmp_gt C0 dX5_happyUpTo_6 (tgt := 31) (by decide) (fun c_1 => ?_) (fun c_1 => ?_)
    · replace h := am_ip h c_1
      refine am_iload_n C0 dX5_happyUpTo_31 1 rfl ?_
      have e := Option.some.inj h
      subst e
      exact hret _ _ dX5_happyUpTo_32
    · replace h := am_in h c_1
      refine am_iload_n C0 dX5_happyUpTo_9 1 rfl ?_
      refine am_iload_n C0 dX5_happyUpTo_10 2 rfl ?_
      obtain ⟨q_2, h_q_2, h⟩ := am_bind h
      refine am_callS C0 (m_C_Sums_happyEnd (σ := σ0) (Nat.le_refl _) F x2  h_q_2) mm_yX5_happyEnd ln_RX5_31 (fun _ => rfl) (Nat.le_trans (by decide) hd) rfl (Nat.le_of_ble_eq_true rfl) dX5_happyUpTo_11 ?_
      refine am_iconst C0 dX5_happyUpTo_14 ci_1 ?_
      refine am_icmp_ne C0 dX5_happyUpTo_15 (tgt := 22) (by decide) (fun c_3 => ?_) (fun c_3 => ?_)
      · replace h := am_in h c_3
        refine am_iconst C0 dX5_happyUpTo_22 ci_0 ?_
        exact am_sub [0, 2] rfl (k_C_Sums_happyUpTo_p23 C0 hd _ F hret (fun z0 z1 z2 z => ih z0 z1 z2 z) x0 x2 x1 false  h)
      · replace h := am_ip h c_3
        refine am_iconst C0 dX5_happyUpTo_18 ci_1 ?_
        refine am_goto C0 dX5_happyUpTo_19 (tgt := 23) (by decide) ?_
        exact am_sub [0, 2] rfl (k_C_Sums_happyUpTo_p23 C0 hd _ F hret (fun z0 z1 z2 z => ih z0 z1 z2 z) x0 x2 x1 true  h)
set_option maxRecDepth 100000 in
set_option maxHeartbeats 4000000 in
theorem k_C_Sums_happyUpTo {G : am_T} {d0 : Nat} (C0 : am_C G cX5_happyUpTo 3 RX5 LC d0) (hd : 3 ≤ d0) (F : Nat) {σ0 : am_SS} {q : Int32} (hret : am_retI G cX5_happyUpTo 3 q σ0) (x0 : Int32) (h : C_Sums_happyUpTo F x0 = some q) : am_K G 3 0 [(0, .int x0)] [] σ0 := by
  unfold C_Sums_happyUpTo at h
  refine am_iconst C0 dX5_happyUpTo_0 ci_0 ?_
  refine am_istore_n C0 dX5_happyUpTo_1 rfl (by decide) rfl (lv' := [(0, .int x0), (1, .int 0)]) rfl ?_
  refine am_iconst C0 dX5_happyUpTo_2 ci_1 ?_
  refine am_istore_n C0 dX5_happyUpTo_3 rfl (by decide) rfl (lv' := [(0, .int x0), (1, .int 0), (2, .int 1)]) rfl ?_
  exact am_sub [0, 1, 2] rfl (k_C_Sums_happyUpTo_l4 C0 hd F hret F x0 0 1  h)
set_option maxRecDepth 100000 in
set_option maxHeartbeats 4000000 in
theorem m_C_Sums_happyUpTo {l : Launch} {d : Nat} {σ : am_SS} {q : Int32} (hd : 3 ≤ d) (F : Nat) (x0 : Int32) (h : C_Sums_happyUpTo F x0 = some q) : am_Met l yX5_happyUpTo cX5_happyUpTo 3 (some .int) d 0 0 LC (fun b => [.int x0]) σ (some (.int q)) σ :=
  am_metI (plainFor_of_name (by decide)) rfl (lv := fun b => [(0, .int x0)]) (fun _ => rfl) (fun _ => Nat.le_of_ble_eq_true rfl) (fun G C0 _ hret => k_C_Sums_happyUpTo C0 hd F hret x0  h)
set_option maxRecDepth 100000 in
set_option maxHeartbeats 4000000 in
theorem k_C_Sums_ofPrimes_p118 {G : am_T} {d0 : Nat} (C0 : am_C G cX5_ofPrimes 10 RX5 LC d0) (hd : 1 ≤ d0) (F : Nat) {σ0 : am_SS} {q : Int32} (hret : am_retI G cX5_ofPrimes 10 q σ0) (x1 : Int32) (x3 : Int32) (x4 : Int32) (x5 : Int32) (x6 : Int32) (h : C_Sums_ofPrimes_p118 F x1 x3 x4 x5 x6 = some q) : am_K G 10 118 [(1, .int x1), (3, .int x3), (4, .int x4), (5, .int x5), (6, .int x6)] [] σ0 := by
  unfold C_Sums_ofPrimes_p118 at h
  refine am_iload_n C0 dX5_ofPrimes_118 0 rfl ?_
  refine am_if_ne C0 dX5_ofPrimes_119 (tgt := 126) (by decide) (fun c_1 => ?_) (fun c_1 => ?_)
  · replace h := am_in h c_1
    refine am_iload_n C0 dX5_ofPrimes_126 0 rfl ?_
    refine am_iconst C0 dX5_ofPrimes_127 ci_1 ?_
    refine am_icmp_ne C0 dX5_ofPrimes_128 (tgt := 136) (by decide) (fun c_2 => ?_) (fun c_2 => ?_)
    · replace h := am_in h c_2
      refine am_iload_n C0 dX5_ofPrimes_136 0 rfl ?_
      refine am_iconst C0 dX5_ofPrimes_137 ci_2 ?_
      refine am_icmp_ne C0 dX5_ofPrimes_138 (tgt := 146) (by decide) (fun c_3 => ?_) (fun c_3 => ?_)
      · replace h := am_in h c_3
        refine am_iload C0 dX5_ofPrimes_146 4 rfl ?_
        have e := Option.some.inj h
        subst e
        exact hret _ _ dX5_ofPrimes_148
      · replace h := am_ip h c_3
        refine am_iload C0 dX5_ofPrimes_141 3 rfl ?_
        refine am_goto C0 dX5_ofPrimes_143 (tgt := 148) (by decide) ?_
        have e := Option.some.inj h
        subst e
        exact hret _ _ dX5_ofPrimes_148
    · replace h := am_ip h c_2
      refine am_iload C0 dX5_ofPrimes_131 2 rfl ?_
      refine am_goto C0 dX5_ofPrimes_133 (tgt := 148) (by decide) ?_
      have e := Option.some.inj h
      subst e
      exact hret _ _ dX5_ofPrimes_148
  · replace h := am_ip h c_1
    refine am_iload_n C0 dX5_ofPrimes_122 1 rfl ?_
    refine am_goto C0 dX5_ofPrimes_123 (tgt := 148) (by decide) ?_
    have e := Option.some.inj h
    subst e
    exact hret _ _ dX5_ofPrimes_148
set_option maxRecDepth 100000 in
set_option maxHeartbeats 4000000 in
theorem k_C_Sums_ofPrimes_p94 {G : am_T} {d0 : Nat} (C0 : am_C G cX5_ofPrimes 10 RX5 LC d0) (hd : 1 ≤ d0) (rec16 : Int32 → Int32 → Int32 → Int32 → Int32 → Int32 → Int32 → Int32 → Option Int32) (F : Nat) {σ0 : am_SS} {q : Int32} (hret : am_retI G cX5_ofPrimes 10 q σ0) (hrec16 : ∀ (x0 : Int32) (x1 : Int32) (x2 : Int32) (x3 : Int32) (x4 : Int32) (x5 : Int32) (x6 : Int32) (x7 : Int32), rec16 x0 x1 x2 x3 x4 x5 x6 x7 = some q → am_K G 10 16 [(0, .int x0), (1, .int x1), (2, .int x2), (3, .int x3), (4, .int x4), (5, .int x5), (6, .int x6), (7, .int x7)] [] σ0) (x0 : Int32) (x1 : Int32) (x2 : Int32) (x3 : Int32) (x5 : Int32) (x6 : Int32) (x7 : Int32) (x8 : Int32) (x9 : Int32) (s0 : Int32) (h : C_Sums_ofPrimes_p94 rec16 F x0 x1 x2 x3 x5 x6 x7 x8 x9 s0 = some q) : am_K G 10 94 [(0, .int x0), (1, .int x1), (2, .int x2), (3, .int x3), (5, .int x5), (6, .int x6), (7, .int x7), (8, .int x8), (9, .int x9)] [.int s0] σ0 := by
  unfold C_Sums_ofPrimes_p94 at h
  refine am_istore C0 dX5_ofPrimes_94 (by decide) rfl (lv' := [(0, .int x0), (1, .int x1), (2, .int x2), (3, .int x3), (5, .int x5), (6, .int x6), (7, .int x7), (8, .int x8), (9, .int x9), (4, .int s0)]) rfl ?_
  refine am_iload C0 dX5_ofPrimes_96 4 rfl ?_
  refine am_iload C0 dX5_ofPrimes_98 7 rfl ?_
  refine am_iconst C0 dX5_ofPrimes_100 ci_1 ?_
  refine am_iadd C0 dX5_ofPrimes_101 ?_
  refine am_imul C0 dX5_ofPrimes_102 ?_
  obtain ⟨x5_1, e_x5_1, h⟩ := am_lt h
  refine am_top e_x5_1 ?_
  refine am_istore C0 dX5_ofPrimes_103 (by decide) rfl (lv' := [(0, .int x0), (1, .int x1), (2, .int x2), (3, .int x3), (5, .int x5_1), (6, .int x6), (7, .int x7), (8, .int x8), (9, .int x9), (4, .int s0)]) rfl ?_
  refine am_iload C0 dX5_ofPrimes_105 5 rfl ?_
  refine am_iload C0 dX5_ofPrimes_107 8 rfl ?_
  refine am_imul C0 dX5_ofPrimes_109 ?_
  obtain ⟨x6_2, e_x6_2, h⟩ := am_lt h
  refine am_top e_x6_2 ?_
  refine am_istore C0 dX5_ofPrimes_110 (by decide) rfl (lv' := [(0, .int x0), (1, .int x1), (2, .int x2), (3, .int x3), (5, .int x5_1), (6, .int x6_2), (7, .int x7), (8, .int x8), (9, .int x9), (4, .int s0)]) rfl ?_
  obtain ⟨x7_3, e_x7_3, h⟩ := am_lt h
  refine am_iinc C0 dX5_ofPrimes_112 6 rfl (by rw [ci_1]; exact e_x7_3) (by decide) rfl (lv' := [(0, .int x0), (1, .int x1), (2, .int x2), (3, .int x3), (5, .int x5_1), (6, .int x6_2), (7, .int x7_3), (8, .int x8), (9, .int x9), (4, .int s0)]) rfl ?_
  refine am_goto C0 dX5_ofPrimes_115 (tgt := 16) (by decide) ?_
  exact am_sub [0, 1, 2, 3, 9, 4, 5, 6] rfl (hrec16 x0 x1 x2 x3 s0 x5_1 x6_2 x7_3  h)
set_option maxRecDepth 100000 in
set_option maxHeartbeats 4000000 in
theorem k_C_Sums_ofPrimes_p77 {G : am_T} {d0 : Nat} (C0 : am_C G cX5_ofPrimes 10 RX5 LC d0) (hd : 1 ≤ d0) (rec16 : Int32 → Int32 → Int32 → Int32 → Int32 → Int32 → Int32 → Int32 → Option Int32) (F : Nat) {σ0 : am_SS} {q : Int32} (hret : am_retI G cX5_ofPrimes 10 q σ0) (hrec16 : ∀ (x0 : Int32) (x1 : Int32) (x2 : Int32) (x3 : Int32) (x4 : Int32) (x5 : Int32) (x6 : Int32) (x7 : Int32), rec16 x0 x1 x2 x3 x4 x5 x6 x7 = some q → am_K G 10 16 [(0, .int x0), (1, .int x1), (2, .int x2), (3, .int x3), (4, .int x4), (5, .int x5), (6, .int x6), (7, .int x7)] [] σ0) (x0 : Int32) (x1 : Int32) (x2 : Int32) (x3 : Int32) (x4 : Int32) (x5 : Int32) (x6 : Int32) (x7 : Int32) (x8 : Int32) (x9 : Int32) (h : C_Sums_ofPrimes_p77 rec16 F x0 x1 x2 x3 x4 x5 x6 x7 x8 x9 = some q) : am_K G 10 77 [(0, .int x0), (1, .int x1), (2, .int x2), (3, .int x3), (4, .int x4), (5, .int x5), (6, .int x6), (7, .int x7), (8, .int x8), (9, .int x9)] [] σ0 := by
  unfold C_Sums_ofPrimes_p77 at h
  refine am_iload_n C0 dX5_ofPrimes_77 3 rfl ?_
  refine am_iload C0 dX5_ofPrimes_78 8 rfl ?_
  refine am_iadd C0 dX5_ofPrimes_80 ?_
  obtain ⟨x3_1, e_x3_1, h⟩ := am_lt h
  refine am_top e_x3_1 ?_
  refine am_istore_n C0 dX5_ofPrimes_81 rfl (by decide) rfl (lv' := [(0, .int x0), (1, .int x1), (2, .int x2), (3, .int x3_1), (4, .int x4), (5, .int x5), (6, .int x6), (7, .int x7), (8, .int x8), (9, .int x9)]) rfl ?_
  refine am_iload C0 dX5_ofPrimes_82 8 rfl ?_
  refine am_if_le C0 dX5_ofPrimes_84 (tgt := 92) (by decide) (fun c_2 => ?_) (fun c_2 => ?_)
  · replace h := am_in h c_2
    refine am_iload C0 dX5_ofPrimes_92 4 rfl ?_
    exact am_sub [0, 1, 2, 3, 5, 6, 7, 8, 9] rfl (k_C_Sums_ofPrimes_p94 C0 hd rec16 F hret hrec16 x0 x1 x2 x3_1 x5 x6 x7 x8 x9 x4  h)
  · replace h := am_ip h c_2
    refine am_iload C0 dX5_ofPrimes_87 7 rfl ?_
    refine am_goto C0 dX5_ofPrimes_89 (tgt := 94) (by decide) ?_
    exact am_sub [0, 1, 2, 3, 5, 6, 7, 8, 9] rfl (k_C_Sums_ofPrimes_p94 C0 hd rec16 F hret hrec16 x0 x1 x2 x3_1 x5 x6 x7 x8 x9 x7  h)
set_option maxRecDepth 100000 in
set_option maxHeartbeats 4000000 in
theorem k_C_Sums_ofPrimes_l45 {G : am_T} {d0 : Nat} (C0 : am_C G cX5_ofPrimes 10 RX5 LC d0) (hd : 1 ≤ d0) (rec16 : Int32 → Int32 → Int32 → Int32 → Int32 → Int32 → Int32 → Int32 → Option Int32) (F : Nat) {σ0 : am_SS} {q : Int32} (hret : am_retI G cX5_ofPrimes 10 q σ0) (hrec16 : ∀ (x0 : Int32) (x1 : Int32) (x2 : Int32) (x3 : Int32) (x4 : Int32) (x5 : Int32) (x6 : Int32) (x7 : Int32), rec16 x0 x1 x2 x3 x4 x5 x6 x7 = some q → am_K G 10 16 [(0, .int x0), (1, .int x1), (2, .int x2), (3, .int x3), (4, .int x4), (5, .int x5), (6, .int x6), (7, .int x7)] [] σ0) : ∀ (n : Nat) (x0 : Int32) (x1 : Int32) (x2 : Int32) (x3 : Int32) (x4 : Int32) (x5 : Int32) (x6 : Int32) (x7 : Int32) (x8 : Int32) (x9 : Int32) (h : C_Sums_ofPrimes_l45 rec16 F n x0 x1 x2 x3 x4 x5 x6 x7 x8 x9 = some q), am_K G 10 45 [(0, .int x0), (1, .int x1), (2, .int x2), (3, .int x3), (4, .int x4), (5, .int x5), (6, .int x6), (7, .int x7), (8, .int x8), (9, .int x9)] [] σ0 := by
  intro n
  induction n with
  | zero =>
    intro x0 x1 x2 x3 x4 x5 x6 x7 x8 x9 h
    rw [C_Sums_ofPrimes_l45] at h
    cases h
  | succ n ih =>
    intro x0 x1 x2 x3 x4 x5 x6 x7 x8 x9 h
    rw [C_Sums_ofPrimes_l45] at h
    refine am_iload_n C0 dX5_ofPrimes_45 2 rfl ?_
    refine am_iconst C0 dX5_ofPrimes_46 ci_1 ?_
    refine am_icmp_le C0 dX5_ofPrimes_47 (tgt := 77) (by decide) (fun c_1 => ?_) (fun c_1 => ?_)
    · replace h := am_in h c_1
      exact am_sub [0, 1, 2, 3, 4, 5, 6, 7, 8, 9] rfl (k_C_Sums_ofPrimes_p77 C0 hd rec16 F hret hrec16 x0 x1 x2 x3 x4 x5 x6 x7 x8 x9  h)
    · replace h := am_ip h c_1
      refine am_iload_n C0 dX5_ofPrimes_50 2 rfl ?_
      refine am_iload C0 dX5_ofPrimes_51 7 rfl ?_
      obtain ⟨hz_2, h⟩ := am_gd h
      refine am_irem C0 dX5_ofPrimes_53 hz_2 ?_
      refine am_if_ne C0 dX5_ofPrimes_54 (tgt := 77) (by decide) (fun c_3 => ?_) (fun c_3 => ?_)
      · replace h := am_in h c_3
        exact am_sub [0, 1, 2, 3, 4, 5, 6, 7, 8, 9] rfl (k_C_Sums_ofPrimes_p77 C0 hd rec16 F hret hrec16 x0 x1 x2 x3 x4 x5 x6 x7 x8 x9  h)
      · replace h := am_ip h c_3
        obtain ⟨x8_4, e_x8_4, h⟩ := am_lt h
        refine am_iinc C0 dX5_ofPrimes_57 8 rfl (by rw [ci_1]; exact e_x8_4) (by decide) rfl (lv' := [(0, .int x0), (1, .int x1), (2, .int x2), (3, .int x3), (4, .int x4), (5, .int x5), (6, .int x6), (7, .int x7), (8, .int x8_4), (9, .int x9)]) rfl ?_
        refine am_iload C0 dX5_ofPrimes_60 9 rfl ?_
        refine am_iload C0 dX5_ofPrimes_62 7 rfl ?_
        refine am_imul C0 dX5_ofPrimes_64 ?_
        refine am_iconst C0 dX5_ofPrimes_65 ci_1 ?_
        refine am_iadd C0 dX5_ofPrimes_66 ?_
        obtain ⟨x9_5, e_x9_5, h⟩ := am_lt h
        refine am_top e_x9_5 ?_
        refine am_istore C0 dX5_ofPrimes_67 (by decide) rfl (lv' := [(0, .int x0), (1, .int x1), (2, .int x2), (3, .int x3), (4, .int x4), (5, .int x5), (6, .int x6), (7, .int x7), (8, .int x8_4), (9, .int x9_5)]) rfl ?_
        refine am_iload_n C0 dX5_ofPrimes_69 2 rfl ?_
        refine am_iload C0 dX5_ofPrimes_70 7 rfl ?_
        obtain ⟨hz_6, h⟩ := am_gd h
        refine am_idiv C0 dX5_ofPrimes_72 hz_6 ?_
        obtain ⟨x2_7, e_x2_7, h⟩ := am_lt h
        refine am_top e_x2_7 ?_
        refine am_istore_n C0 dX5_ofPrimes_73 rfl (by decide) rfl (lv' := [(0, .int x0), (1, .int x1), (2, .int x2_7), (3, .int x3), (4, .int x4), (5, .int x5), (6, .int x6), (7, .int x7), (8, .int x8_4), (9, .int x9_5)]) rfl ?_
        refine am_goto C0 dX5_ofPrimes_74 (tgt := 45) (by decide) ?_
        exact am_sub [0, 1, 2, 3, 4, 5, 6, 7, 8, 9] rfl (ih x0 x1 x2_7 x3 x4 x5 x6 x7 x8_4 x9_5  h)
set_option maxRecDepth 100000 in
set_option maxHeartbeats 4000000 in
theorem k_C_Sums_ofPrimes_p39 {G : am_T} {d0 : Nat} (C0 : am_C G cX5_ofPrimes 10 RX5 LC d0) (hd : 1 ≤ d0) (rec16 : Int32 → Int32 → Int32 → Int32 → Int32 → Int32 → Int32 → Int32 → Option Int32) (F : Nat) {σ0 : am_SS} {q : Int32} (hret : am_retI G cX5_ofPrimes 10 q σ0) (hrec16 : ∀ (x0 : Int32) (x1 : Int32) (x2 : Int32) (x3 : Int32) (x4 : Int32) (x5 : Int32) (x6 : Int32) (x7 : Int32), rec16 x0 x1 x2 x3 x4 x5 x6 x7 = some q → am_K G 10 16 [(0, .int x0), (1, .int x1), (2, .int x2), (3, .int x3), (4, .int x4), (5, .int x5), (6, .int x6), (7, .int x7)] [] σ0) (x0 : Int32) (x1 : Int32) (x2 : Int32) (x3 : Int32) (x4 : Int32) (x5 : Int32) (x6 : Int32) (x7 : Int32) (h : C_Sums_ofPrimes_p39 rec16 F x0 x1 x2 x3 x4 x5 x6 x7 = some q) : am_K G 10 39 [(0, .int x0), (1, .int x1), (2, .int x2), (3, .int x3), (4, .int x4), (5, .int x5), (6, .int x6), (7, .int x7)] [] σ0 := by
  unfold C_Sums_ofPrimes_p39 at h
  refine am_iconst C0 dX5_ofPrimes_39 ci_0 ?_
  refine am_istore C0 dX5_ofPrimes_40 (by decide) rfl (lv' := [(0, .int x0), (1, .int x1), (2, .int x2), (3, .int x3), (4, .int x4), (5, .int x5), (6, .int x6), (7, .int x7), (8, .int 0)]) rfl ?_
  refine am_iconst C0 dX5_ofPrimes_42 ci_1 ?_
  refine am_istore C0 dX5_ofPrimes_43 (by decide) rfl (lv' := [(0, .int x0), (1, .int x1), (2, .int x2), (3, .int x3), (4, .int x4), (5, .int x5), (6, .int x6), (7, .int x7), (8, .int 0), (9, .int 1)]) rfl ?_
  exact am_sub [0, 1, 2, 3, 4, 5, 6, 7, 8, 9] rfl (k_C_Sums_ofPrimes_l45 C0 hd rec16 F hret hrec16 F x0 x1 x2 x3 x4 x5 x6 x7 0 1  h)
set_option maxRecDepth 100000 in
set_option maxHeartbeats 4000000 in
theorem k_C_Sums_ofPrimes_l16 {G : am_T} {d0 : Nat} (C0 : am_C G cX5_ofPrimes 10 RX5 LC d0) (hd : 1 ≤ d0) (F : Nat) {σ0 : am_SS} {q : Int32} (hret : am_retI G cX5_ofPrimes 10 q σ0) : ∀ (n : Nat) (x0 : Int32) (x1 : Int32) (x2 : Int32) (x3 : Int32) (x4 : Int32) (x5 : Int32) (x6 : Int32) (x7 : Int32) (h : C_Sums_ofPrimes_l16 F n x0 x1 x2 x3 x4 x5 x6 x7 = some q), am_K G 10 16 [(0, .int x0), (1, .int x1), (2, .int x2), (3, .int x3), (4, .int x4), (5, .int x5), (6, .int x6), (7, .int x7)] [] σ0 := by
  intro n
  induction n with
  | zero =>
    intro x0 x1 x2 x3 x4 x5 x6 x7 h
    rw [C_Sums_ofPrimes_l16] at h
    cases h
  | succ n ih =>
    intro x0 x1 x2 x3 x4 x5 x6 x7 h
    rw [C_Sums_ofPrimes_l16] at h
    refine am_iload_n C0 dX5_ofPrimes_16 2 rfl ?_
    refine am_iconst C0 dX5_ofPrimes_17 ci_1 ?_
    refine am_icmp_le C0 dX5_ofPrimes_18 (tgt := 118) (by decide) (fun c_1 => ?_) (fun c_1 => ?_)
    · replace h := am_in h c_1
      exact am_sub [1, 3, 4, 5, 6] rfl (k_C_Sums_ofPrimes_p118 C0 hd F hret x1 x3 x4 x5 x6  h)
    · replace h := am_ip h c_1
      refine am_iload C0 dX5_ofPrimes_21 7 rfl ?_
      refine am_iload_n C0 dX5_ofPrimes_23 0 rfl ?_
      refine am_icmp_gt C0 dX5_ofPrimes_24 (tgt := 118) (by decide) (fun c_2 => ?_) (fun c_2 => ?_)
      · replace h := am_ip h c_2
        exact am_sub [1, 3, 4, 5, 6] rfl (k_C_Sums_ofPrimes_p118 C0 hd F hret x1 x3 x4 x5 x6  h)
      · replace h := am_in h c_2
        refine am_iload C0 dX5_ofPrimes_27 7 rfl ?_
        refine am_iload C0 dX5_ofPrimes_29 7 rfl ?_
        refine am_imul C0 dX5_ofPrimes_31 ?_
        refine am_iload_n C0 dX5_ofPrimes_32 2 rfl ?_
        refine am_icmp_le C0 dX5_ofPrimes_33 (tgt := 39) (by decide) (fun c_3 => ?_) (fun c_3 => ?_)
        · replace h := am_in h c_3
          exact am_sub [0, 1, 2, 3, 4, 5, 6, 7] rfl (k_C_Sums_ofPrimes_p39 C0 hd _ F hret (fun z0 z1 z2 z3 z4 z5 z6 z7 z => ih z0 z1 z2 z3 z4 z5 z6 z7 z) x0 x1 x2 x3 x4 x5 x6 x7  h)
        · replace h := am_ip h c_3
          refine am_iload_n C0 dX5_ofPrimes_36 2 rfl ?_
          refine am_istore C0 dX5_ofPrimes_37 (by decide) rfl (lv' := [(0, .int x0), (1, .int x1), (2, .int x2), (3, .int x3), (4, .int x4), (5, .int x5), (6, .int x6), (7, .int x2)]) rfl ?_
          exact am_sub [0, 1, 2, 3, 4, 5, 6, 7] rfl (k_C_Sums_ofPrimes_p39 C0 hd _ F hret (fun z0 z1 z2 z3 z4 z5 z6 z7 z => ih z0 z1 z2 z3 z4 z5 z6 z7 z) x0 x1 x2 x3 x4 x5 x6 x2  h)
set_option maxRecDepth 100000 in
set_option maxHeartbeats 4000000 in
theorem k_C_Sums_ofPrimes {G : am_T} {d0 : Nat} (C0 : am_C G cX5_ofPrimes 10 RX5 LC d0) (hd : 1 ≤ d0) (F : Nat) {σ0 : am_SS} {q : Int32} (hret : am_retI G cX5_ofPrimes 10 q σ0) (x0 : Int32) (x1 : Int32) (h : C_Sums_ofPrimes F x0 x1 = some q) : am_K G 10 0 [(0, .int x0), (1, .int x1)] [] σ0 := by
  unfold C_Sums_ofPrimes at h
  refine am_iload_n C0 dX5_ofPrimes_0 0 rfl ?_
  refine am_istore_n C0 dX5_ofPrimes_1 rfl (by decide) rfl (lv' := [(0, .int x0), (1, .int x1), (2, .int x0)]) rfl ?_
  refine am_iconst C0 dX5_ofPrimes_2 ci_0 ?_
  refine am_istore_n C0 dX5_ofPrimes_3 rfl (by decide) rfl (lv' := [(0, .int x0), (1, .int x1), (2, .int x0), (3, .int 0)]) rfl ?_
  refine am_iconst C0 dX5_ofPrimes_4 ci_1 ?_
  refine am_istore C0 dX5_ofPrimes_5 (by decide) rfl (lv' := [(0, .int x0), (1, .int x1), (2, .int x0), (3, .int 0), (4, .int 1)]) rfl ?_
  refine am_iconst C0 dX5_ofPrimes_7 ci_1 ?_
  refine am_istore C0 dX5_ofPrimes_8 (by decide) rfl (lv' := [(0, .int x0), (1, .int x1), (2, .int x0), (3, .int 0), (4, .int 1), (5, .int 1)]) rfl ?_
  refine am_iconst C0 dX5_ofPrimes_10 ci_1 ?_
  refine am_istore C0 dX5_ofPrimes_11 (by decide) rfl (lv' := [(0, .int x0), (1, .int x1), (2, .int x0), (3, .int 0), (4, .int 1), (5, .int 1), (6, .int 1)]) rfl ?_
  refine am_iconst C0 dX5_ofPrimes_13 ci_2 ?_
  refine am_istore C0 dX5_ofPrimes_14 (by decide) rfl (lv' := [(0, .int x0), (1, .int x1), (2, .int x0), (3, .int 0), (4, .int 1), (5, .int 1), (6, .int 1), (7, .int 2)]) rfl ?_
  exact am_sub [0, 1, 2, 3, 4, 5, 6, 7] rfl (k_C_Sums_ofPrimes_l16 C0 hd F hret F x0 x1 x0 0 1 1 1 2  h)
set_option maxRecDepth 100000 in
set_option maxHeartbeats 4000000 in
theorem m_C_Sums_ofPrimes {l : Launch} {d : Nat} {σ : am_SS} {q : Int32} (hd : 1 ≤ d) (F : Nat) (x0 : Int32) (x1 : Int32) (h : C_Sums_ofPrimes F x0 x1 = some q) : am_Met l yX5_ofPrimes cX5_ofPrimes 10 (some .int) d 0 0 LC (fun b => [.int x0, .int x1]) σ (some (.int q)) σ :=
  am_metI (plainFor_of_name (by decide)) rfl (lv := fun b => [(0, .int x0), (1, .int x1)]) (fun _ => rfl) (fun _ => Nat.le_of_ble_eq_true rfl) (fun G C0 _ hret => k_C_Sums_ofPrimes C0 hd F hret x0 x1  h)
set_option maxRecDepth 100000 in
set_option maxHeartbeats 4000000 in
theorem k_C_Sums_closings {G : am_T} {d0 : Nat} (C0 : am_C G cX5_closings 3 RX5 LC d0) (hd : 2 ≤ d0) (F : Nat) {σ0 : am_SS} {q : Int32} (hret : am_retI G cX5_closings 3 q σ0) (x0 : Int32) (x1 : Int32) (h : C_Sums_closings F x0 x1 = some q) : am_K G 3 0 [(0, .int x0), (1, .int x1)] [] σ0 := by
  unfold C_Sums_closings at h
  refine am_iload_n C0 dX5_closings_0 1 rfl ?_
  refine am_if_lt C0 dX5_closings_1 (tgt := 17) (by decide) (fun c_1 => ?_) (fun c_1 => ?_)
  · replace h := am_ip h c_1
    refine am_iconst C0 dX5_closings_17 ci_0 ?_
    have e := Option.some.inj h
    subst e
    exact hret _ _ dX5_closings_18
  · replace h := am_in h c_1
    refine am_iload_n C0 dX5_closings_4 1 rfl ?_
    refine am_iload_n C0 dX5_closings_5 0 rfl ?_
    refine am_icmp_gt C0 dX5_closings_6 (tgt := 17) (by decide) (fun c_2 => ?_) (fun c_2 => ?_)
    · replace h := am_ip h c_2
      refine am_iconst C0 dX5_closings_17 ci_0 ?_
      have e := Option.some.inj h
      subst e
      exact hret _ _ dX5_closings_18
    · replace h := am_in h c_2
      refine am_iload_n C0 dX5_closings_9 0 rfl ?_
      refine am_iload_n C0 dX5_closings_10 1 rfl ?_
      refine am_isub C0 dX5_closings_11 ?_
      refine am_iconst C0 dX5_closings_12 ci_2 ?_
      refine am_irem C0 dX5_closings_13 nz_2 ?_
      refine am_if_eq C0 dX5_closings_14 (tgt := 19) (by decide) (fun c_3 => ?_) (fun c_3 => ?_)
      · replace h := am_ip h c_3
        refine am_iload_n C0 dX5_closings_19 0 rfl ?_
        refine am_iload_n C0 dX5_closings_20 1 rfl ?_
        refine am_isub C0 dX5_closings_21 ?_
        refine am_iconst C0 dX5_closings_22 ci_2 ?_
        refine am_idiv C0 dX5_closings_23 nz_2 ?_
        obtain ⟨x2_4, e_x2_4, h⟩ := am_lt h
        refine am_top e_x2_4 ?_
        refine am_istore_n C0 dX5_closings_24 rfl (by decide) rfl (lv' := [(0, .int x0), (1, .int x1), (2, .int x2_4)]) rfl ?_
        refine am_iload_n C0 dX5_closings_25 0 rfl ?_
        refine am_iload_n C0 dX5_closings_26 2 rfl ?_
        obtain ⟨q_5, h_q_5, h⟩ := am_bind h
        refine am_callS C0 (m_C_Sums_choose (σ := σ0) (Nat.le_refl _) F x0 x2_4  h_q_5) mm_yX5_choose ln_RX5_34 (fun _ => rfl) (Nat.le_trans (by decide) hd) rfl (Nat.le_of_ble_eq_true rfl) dX5_closings_27 ?_
        refine am_iload_n C0 dX5_closings_30 0 rfl ?_
        refine am_iload_n C0 dX5_closings_31 2 rfl ?_
        refine am_iconst C0 dX5_closings_32 ci_1 ?_
        refine am_isub C0 dX5_closings_33 ?_
        obtain ⟨q_6, h_q_6, h⟩ := am_bind h
        refine am_callS C0 (m_C_Sums_choose (σ := σ0) (Nat.le_refl _) F x0 (x2_4 - 1)  h_q_6) mm_yX5_choose ln_RX5_34 (fun _ => rfl) (Nat.le_trans (by decide) hd) rfl (Nat.le_of_ble_eq_true rfl) dX5_closings_34 ?_
        refine am_isub C0 dX5_closings_37 ?_
        have e := Option.some.inj h
        subst e
        exact hret _ _ dX5_closings_38
      · replace h := am_in h c_3
        refine am_iconst C0 dX5_closings_17 ci_0 ?_
        have e := Option.some.inj h
        subst e
        exact hret _ _ dX5_closings_18
set_option maxRecDepth 100000 in
set_option maxHeartbeats 4000000 in
theorem m_C_Sums_closings {l : Launch} {d : Nat} {σ : am_SS} {q : Int32} (hd : 2 ≤ d) (F : Nat) (x0 : Int32) (x1 : Int32) (h : C_Sums_closings F x0 x1 = some q) : am_Met l yX5_closings cX5_closings 3 (some .int) d 0 0 LC (fun b => [.int x0, .int x1]) σ (some (.int q)) σ :=
  am_metI (plainFor_of_name (by decide)) rfl (lv := fun b => [(0, .int x0), (1, .int x1)]) (fun _ => rfl) (fun _ => Nat.le_of_ble_eq_true rfl) (fun G C0 _ hret => k_C_Sums_closings C0 hd F hret x0 x1  h)
