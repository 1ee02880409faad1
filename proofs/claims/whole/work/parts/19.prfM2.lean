set_option maxRecDepth 100000 in
set_option maxHeartbeats 4000000 in
theorem k_M_text_p69 {G : am_T} {d0 : Nat} (C0 : am_C G cX10_text 3 RX10 LM d0) (hd : 11 ≤ d0) (F : Nat) {q : Int32 × am_SS} (hret : am_retI G cX10_text 3 q.1 q.2) (x1 : Int32) (x2 : Int32) (σ : am_SS) (h : M_text_p69 F x1 x2 σ = some q) : am_K G 3 69 [(0, .ref (am_b G 0)), (1, .int x1), (2, .int x2)] [] σ := by
  unfold M_text_p69 at h
  refine am_aload_n C0 dX10_text_69 0 rfl ?_
  refine am_iconst C0 dX10_text_70 ci_0 ?_
  obtain ⟨σ_1, e_σ_1, h⟩ := am_lt h
  refine am_putI C0 e_σ_1 fp_RX10_167 (loM_7_14 kM0).1 (loM_7_14 kM0).2.1 (loM_7_14 kM0).2.2.1 (loM_7_14 kM0).2.2.2 rfl rfl dX10_text_71 ?_
  refine am_iload_n C0 dX10_text_74 2 rfl ?_
  refine am_iconst C0 dX10_text_75 ci_m1 ?_
  refine am_icmp_ne C0 dX10_text_76 (tgt := 81) (by decide) (fun c_2 => ?_) (fun c_2 => ?_)
  · replace h := am_in h c_2
    refine am_iload_n C0 dX10_text_81 1 rfl ?_
    refine am_if_ne C0 dX10_text_82 (tgt := 93) (by decide) (fun c_3 => ?_) (fun c_3 => ?_)
    · replace h := am_in h c_3
      refine am_aload_n C0 dX10_text_93 0 rfl ?_
      refine am_iload_n C0 dX10_text_94 1 rfl ?_
      refine am_iload_n C0 dX10_text_95 2 rfl ?_
      obtain ⟨q_4, h_q_4, h⟩ := am_bind h
      refine am_callV C0 (m_M_takesOther (σ := σ_1) (Nat.le_refl _) F x1 x2  h_q_4) mm_yX10_takesOther ln_RX10_315 (As := fun b => [.int x1, .int x2]) (fun _ => rfl) (fun _ => rfl) (loM_7_0 kM0).1 (loM_7_0 kM0).2.1 rfl (Nat.le_trans (by decide) hd) rfl (Nat.le_of_ble_eq_true rfl) dX10_text_96 ?_
      refine am_iload_n C0 dX10_text_99 2 rfl ?_
      have e := Option.some.inj h
      subst e
      exact hret _ _ dX10_text_100
    · replace h := am_ip h c_3
      refine am_aload_n C0 dX10_text_85 0 rfl ?_
      refine am_iload_n C0 dX10_text_86 2 rfl ?_
      obtain ⟨q_5, h_q_5, h⟩ := am_bind h
      refine am_callV C0 (m_M_takesLaw (σ := σ_1) (Nat.le_refl _) F x2  h_q_5) mm_yX10_takesLaw ln_RX10_312 (As := fun b => [.int x2]) (fun _ => rfl) (fun _ => rfl) (loM_7_0 kM0).1 (loM_7_0 kM0).2.1 rfl (Nat.le_trans (by decide) hd) rfl (Nat.le_of_ble_eq_true rfl) dX10_text_87 ?_
      refine am_goto C0 dX10_text_90 (tgt := 99) (by decide) ?_
      refine am_iload_n C0 dX10_text_99 2 rfl ?_
      have e := Option.some.inj h
      subst e
      exact hret _ _ dX10_text_100
  · replace h := am_ip h c_2
    refine am_iconst C0 dX10_text_79 ci_m1 ?_
    have e := Option.some.inj h
    subst e
    exact hret _ _ dX10_text_80
set_option maxRecDepth 100000 in
set_option maxHeartbeats 4000000 in
theorem k_M_text {G : am_T} {d0 : Nat} (C0 : am_C G cX10_text 3 RX10 LM d0) (hd : 11 ≤ d0) (F : Nat) {q : Int32 × am_SS} (hret : am_retI G cX10_text 3 q.1 q.2) (x1 : Int32) (σ : am_SS) (h : M_text F x1 σ = some q) : am_K G 3 0 [(0, .ref (am_b G 0)), (1, .int x1)] [] σ := by
  unfold M_text at h
  refine am_aload_n C0 dX10_text_0 0 rfl ?_
  refine am_iconst C0 dX10_text_1 ci_0 ?_
  obtain ⟨σ_1, e_σ_1, h⟩ := am_lt h
  refine am_putI C0 e_σ_1 fp_RX10_131 (loM_7_0 kM0).1 (loM_7_0 kM0).2.1 (loM_7_0 kM0).2.2.1 (loM_7_0 kM0).2.2.2 rfl rfl dX10_text_2 ?_
  refine am_aload_n C0 dX10_text_5 0 rfl ?_
  refine am_iconst C0 dX10_text_6 ci_0 ?_
  obtain ⟨σ_2, e_σ_2, h⟩ := am_lt h
  refine am_putI C0 e_σ_2 fp_RX10_306 (loM_7_34 kM0).1 (loM_7_34 kM0).2.1 (loM_7_34 kM0).2.2.1 (loM_7_34 kM0).2.2.2 rfl rfl dX10_text_7 ?_
  refine am_aload_n C0 dX10_text_10 0 rfl ?_
  refine am_iconst C0 dX10_text_11 ci_m1 ?_
  obtain ⟨σ_3, e_σ_3, h⟩ := am_lt h
  refine am_putI C0 e_σ_3 fp_RX10_64 (loM_7_35 kM0).1 (loM_7_35 kM0).2.1 (loM_7_35 kM0).2.2.1 (loM_7_35 kM0).2.2.2 rfl rfl dX10_text_12 ?_
  refine am_aload_n C0 dX10_text_15 0 rfl ?_
  refine am_iconst C0 dX10_text_16 ci_0 ?_
  obtain ⟨σ_4, e_σ_4, h⟩ := am_lt h
  refine am_putI C0 e_σ_4 fp_RX10_174 (loM_7_15 kM0).1 (loM_7_15 kM0).2.1 (loM_7_15 kM0).2.2.1 (loM_7_15 kM0).2.2.2 rfl rfl dX10_text_17 ?_
  refine am_aload_n C0 dX10_text_20 0 rfl ?_
  refine am_iconst C0 dX10_text_21 ci_0 ?_
  obtain ⟨σ_5, e_σ_5, h⟩ := am_lt h
  refine am_putI C0 e_σ_5 fp_RX10_209 (loM_7_28 kM0).1 (loM_7_28 kM0).2.1 (loM_7_28 kM0).2.2.1 (loM_7_28 kM0).2.2.2 rfl rfl dX10_text_22 ?_
  refine am_aload_n C0 dX10_text_25 0 rfl ?_
  refine am_iconst C0 dX10_text_26 ci_0 ?_
  obtain ⟨σ_6, e_σ_6, h⟩ := am_lt h
  refine am_putI C0 e_σ_6 fp_RX10_241 (loM_7_29 kM0).1 (loM_7_29 kM0).2.1 (loM_7_29 kM0).2.2.1 (loM_7_29 kM0).2.2.2 rfl rfl dX10_text_27 ?_
  refine am_iconst C0 dX10_text_30 ci_m1 ?_
  refine am_istore_n C0 dX10_text_31 rfl (by decide) rfl (lv' := [(0, .ref (am_b G 0)), (1, .int x1), (2, .int (-1))]) rfl ?_
  refine am_aload_n C0 dX10_text_32 0 rfl ?_
  refine am_iload_n C0 dX10_text_33 1 rfl ?_
  refine am_iconst C0 dX10_text_34 ci_0 ?_
  refine am_iconst C0 dX10_text_35 ci_3 ?_
  refine am_callV C0 (m_M_isIn (σ := σ_6) (Nat.le_refl _) x1 0 3  rfl) mm_yX10_isIn ln_RX10_149 (As := fun b => [.int x1, .int 0, .int 3]) (fun _ => rfl) (fun _ => rfl) (loM_7_0 kM0).1 (loM_7_0 kM0).2.1 rfl (Nat.le_trans (by decide) hd) rfl (Nat.le_of_ble_eq_true rfl) dX10_text_36 ?_
  refine am_ifB_eq C0 dX10_text_39 (tgt := 69) (by decide) (fun c_8 => ?_) (fun c_8 => ?_)
  · replace h := am_in h c_8
    exact am_sub [0, 1, 2] rfl (k_M_text_p69 C0 hd F hret x1 (-1) σ_6  h)
  · replace h := am_ip h c_8
    refine am_aload_n C0 dX10_text_42 0 rfl ?_
    refine am_iload_n C0 dX10_text_43 1 rfl ?_
    obtain ⟨q_9, h_q_9, h⟩ := am_bind h
    refine am_callV C0 (m_M_readsText (σ := σ_6) (Nat.le_refl _) F x1  h_q_9) mm_yX10_readsText ln_RX10_309 (As := fun b => [.int x1]) (fun _ => rfl) (fun _ => rfl) (loM_7_0 kM0).1 (loM_7_0 kM0).2.1 rfl (Nat.le_trans (by decide) hd) rfl (Nat.le_of_ble_eq_true rfl) dX10_text_44 ?_
    refine am_istore_n C0 dX10_text_47 rfl (by decide) rfl (lv' := [(0, .ref (am_b G 0)), (1, .int x1), (2, .int q_9.1)]) rfl ?_
    refine am_iload_n C0 dX10_text_48 2 rfl ?_
    refine am_iconst C0 dX10_text_49 ci_m1 ?_
    refine am_icmp_ne C0 dX10_text_50 (tgt := 69) (by decide) (fun c_10 => ?_) (fun c_10 => ?_)
    · replace h := am_in h c_10
      exact am_sub [0, 1, 2] rfl (k_M_text_p69 C0 hd F hret x1 q_9.1 q_9.2  h)
    · replace h := am_ip h c_10
      refine am_aload_n C0 dX10_text_53 0 rfl ?_
      refine am_aload_n C0 dX10_text_54 0 rfl ?_
      refine am_getI C0 ff_RX10_203 (loM_7_32 kM0).1 (loM_7_32 kM0).2.1 (loM_7_32 kM0).2.2.1 (loM_7_32 kM0).2.2.2 dX10_text_55 ?_
      obtain ⟨σ_11, e_σ_11, h⟩ := am_lt h
      refine am_putI C0 e_σ_11 fp_RX10_306 (loM_7_34 kM0).1 (loM_7_34 kM0).2.1 (loM_7_34 kM0).2.2.1 (loM_7_34 kM0).2.2.2 rfl rfl dX10_text_58 ?_
      refine am_aload_n C0 dX10_text_61 0 rfl ?_
      refine am_aload_n C0 dX10_text_62 0 rfl ?_
      refine am_getI C0 ff_RX10_206 (loM_7_33 kM0).1 (loM_7_33 kM0).2.1 (loM_7_33 kM0).2.2.1 (loM_7_33 kM0).2.2.2 dX10_text_63 ?_
      obtain ⟨σ_12, e_σ_12, h⟩ := am_lt h
      refine am_putI C0 e_σ_12 fp_RX10_64 (loM_7_35 kM0).1 (loM_7_35 kM0).2.1 (loM_7_35 kM0).2.2.1 (loM_7_35 kM0).2.2.2 rfl rfl dX10_text_66 ?_
      exact am_sub [0, 1, 2] rfl (k_M_text_p69 C0 hd F hret x1 q_9.1 σ_12  h)
set_option maxRecDepth 100000 in
set_option maxHeartbeats 4000000 in
theorem m_M_text {l : Launch} {d : Nat} {σ : am_SS} {q : Int32 × am_SS} (hd : 11 ≤ d) (F : Nat) (x1 : Int32) (h : M_text F x1 σ = some q) : am_Met l yX10_text cX10_text 3 (some .int) d 0 0 LM (fun b => [.ref (b 0), .int x1]) σ (some (.int q.1)) q.2 :=
  am_metI (plainFor_of_name (by decide)) rfl (lv := fun b => [(0, .ref (b 0)), (1, .int x1)]) (fun _ => rfl) (fun _ => Nat.le_of_ble_eq_true rfl) (fun G C0 _ hret => k_M_text C0 hd F hret x1 σ  h)
set_option maxRecDepth 100000 in
set_option maxHeartbeats 4000000 in
theorem k_M_fault {G : am_T} {d0 : Nat} (C0 : am_C G cX10_fault 2 RX10 LM d0) (hd : 1 ≤ d0) {q : Int32 × am_SS} (hret : am_retI G cX10_fault 2 q.1 q.2) (x1 : Int32) (σ : am_SS) (h : M_fault x1 σ = q) : am_K G 2 0 [(0, .ref (am_b G 0)), (1, .int x1)] [] σ := by
  unfold M_fault at h
  refine am_aload_n C0 dX10_fault_0 0 rfl ?_
  refine am_iconst C0 dX10_fault_1 ci_0 ?_
  obtain ⟨σ_1, e_σ_1, h⟩ := am_lt h
  refine am_putI C0 e_σ_1 fp_RX10_131 (loM_7_0 kM0).1 (loM_7_0 kM0).2.1 (loM_7_0 kM0).2.2.1 (loM_7_0 kM0).2.2.2 rfl rfl dX10_fault_2 ?_
  refine am_iload_n C0 dX10_fault_5 1 rfl ?_
  refine am_if_ne C0 dX10_fault_6 (tgt := 16) (by decide) (fun c_2 => ?_) (fun c_2 => ?_)
  · replace h := am_in h c_2
    refine am_iload_n C0 dX10_fault_16 1 rfl ?_
    refine am_iconst C0 dX10_fault_17 ci_1 ?_
    refine am_icmp_ne C0 dX10_fault_18 (tgt := 28) (by decide) (fun c_3 => ?_) (fun c_3 => ?_)
    · replace h := am_in h c_3
      refine am_iconst C0 dX10_fault_28 ci_m1 ?_
      have e := h
      subst e
      exact hret _ _ dX10_fault_29
    · replace h := am_ip h c_3
      refine am_aload_n C0 dX10_fault_21 0 rfl ?_
      refine am_getI C0 ff_RX10_64 (loM_7_35 kM0).1 (loM_7_35 kM0).2.1 (loM_7_35 kM0).2.2.1 (loM_7_35 kM0).2.2.2 dX10_fault_22 ?_
      refine am_goto C0 dX10_fault_25 (tgt := 29) (by decide) ?_
      have e := h
      subst e
      exact hret _ _ dX10_fault_29
  · replace h := am_ip h c_2
    refine am_aload_n C0 dX10_fault_9 0 rfl ?_
    refine am_getI C0 ff_RX10_306 (loM_7_34 kM0).1 (loM_7_34 kM0).2.1 (loM_7_34 kM0).2.2.1 (loM_7_34 kM0).2.2.2 dX10_fault_10 ?_
    refine am_goto C0 dX10_fault_13 (tgt := 29) (by decide) ?_
    have e := h
    subst e
    exact hret _ _ dX10_fault_29
set_option maxRecDepth 100000 in
set_option maxHeartbeats 4000000 in
theorem m_M_fault {l : Launch} {d : Nat} {σ : am_SS} {q : Int32 × am_SS} (hd : 1 ≤ d) (x1 : Int32) (h : M_fault x1 σ = q) : am_Met l yX10_fault cX10_fault 2 (some .int) d 0 0 LM (fun b => [.ref (b 0), .int x1]) σ (some (.int q.1)) q.2 :=
  am_metI (plainFor_of_name (by decide)) rfl (lv := fun b => [(0, .ref (b 0)), (1, .int x1)]) (fun _ => rfl) (fun _ => Nat.le_of_ble_eq_true rfl) (fun G C0 _ hret => k_M_fault C0 hd hret x1 σ  h)
set_option maxRecDepth 100000 in
set_option maxHeartbeats 4000000 in
theorem k_M_twoOf {G : am_T} {d0 : Nat} (C0 : am_C G cX10_twoOf 4 RX10 LM d0) (hd : 1 ≤ d0) {σ0 : am_SS} {q : Int32} (hret : am_retI G cX10_twoOf 4 q σ0) (x1 : Int32) (x2 : Int32) (x3 : Int32) (h : M_twoOf x1 x2 x3 = some q) : am_K G 4 0 [(0, .ref (am_b G 0)), (1, .int x1), (2, .int x2), (3, .int x3)] [] σ0 := by
  unfold M_twoOf at h
  refine am_iload_n C0 dX10_twoOf_0 1 rfl ?_
  refine am_iconst C0 dX10_twoOf_1 ci_2 ?_
  refine am_icmp_ne C0 dX10_twoOf_2 (tgt := 9) (by decide) (fun c_1 => ?_) (fun c_1 => ?_)
  · replace h := am_in h c_1
    refine am_iload_n C0 dX10_twoOf_9 1 rfl ?_
    refine am_iconst C0 dX10_twoOf_10 ci_3 ?_
    refine am_icmp_ne C0 dX10_twoOf_11 (tgt := 18) (by decide) (fun c_2 => ?_) (fun c_2 => ?_)
    · replace h := am_in h c_2
      refine am_iload_n C0 dX10_twoOf_18 1 rfl ?_
      refine am_iconst C0 dX10_twoOf_19 ci_4 ?_
      refine am_icmp_ne C0 dX10_twoOf_20 (tgt := 27) (by decide) (fun c_3 => ?_) (fun c_3 => ?_)
      · replace h := am_in h c_3
        refine am_iload_n C0 dX10_twoOf_27 1 rfl ?_
        refine am_iconst C0 dX10_twoOf_28 ci_5 ?_
        refine am_icmp_ne C0 dX10_twoOf_29 (tgt := 36) (by decide) (fun c_4 => ?_) (fun c_4 => ?_)
        · replace h := am_in h c_4
          refine am_iload_n C0 dX10_twoOf_36 1 rfl ?_
          refine am_bipush C0 dX10_twoOf_37 kb_6 ?_
          refine am_icmp_ne C0 dX10_twoOf_39 (tgt := 53) (by decide) (fun c_5 => ?_) (fun c_5 => ?_)
          · replace h := am_in h c_5
            refine am_iload_n C0 dX10_twoOf_53 1 rfl ?_
            refine am_bipush C0 dX10_twoOf_54 kb_7 ?_
            refine am_icmp_ne C0 dX10_twoOf_56 (tgt := 70) (by decide) (fun c_6 => ?_) (fun c_6 => ?_)
            · replace h := am_in h c_6
              refine am_iload_n C0 dX10_twoOf_70 1 rfl ?_
              refine am_bipush C0 dX10_twoOf_71 kb_8 ?_
              refine am_icmp_ne C0 dX10_twoOf_73 (tgt := 87) (by decide) (fun c_7 => ?_) (fun c_7 => ?_)
              · replace h := am_in h c_7
                refine am_iload_n C0 dX10_twoOf_87 1 rfl ?_
                refine am_bipush C0 dX10_twoOf_88 kb_10 ?_
                refine am_icmp_ne C0 dX10_twoOf_90 (tgt := 99) (by decide) (fun c_8 => ?_) (fun c_8 => ?_)
                · replace h := am_in h c_8
                  refine am_iload_n C0 dX10_twoOf_99 2 rfl ?_
                  refine am_iload_n C0 dX10_twoOf_100 3 rfl ?_
                  refine am_iadd C0 dX10_twoOf_101 ?_
                  refine am_if_le C0 dX10_twoOf_102 (tgt := 109) (by decide) (fun c_9 => ?_) (fun c_9 => ?_)
                  · replace h := am_in h c_9
                    refine am_iconst C0 dX10_twoOf_109 ci_0 ?_
                    have e := Option.some.inj h
                    subst e
                    exact hret _ _ dX10_twoOf_110
                  · replace h := am_ip h c_9
                    refine am_iconst C0 dX10_twoOf_105 ci_1 ?_
                    refine am_goto C0 dX10_twoOf_106 (tgt := 110) (by decide) ?_
                    have e := Option.some.inj h
                    subst e
                    exact hret _ _ dX10_twoOf_110
                · replace h := am_ip h c_8
                  refine am_iload_n C0 dX10_twoOf_93 2 rfl ?_
                  refine am_iload_n C0 dX10_twoOf_94 3 rfl ?_
                  refine am_imul C0 dX10_twoOf_95 ?_
                  refine am_goto C0 dX10_twoOf_96 (tgt := 110) (by decide) ?_
                  have e := Option.some.inj h
                  subst e
                  exact hret _ _ dX10_twoOf_110
              · replace h := am_ip h c_7
                refine am_iload_n C0 dX10_twoOf_76 2 rfl ?_
                refine am_iload_n C0 dX10_twoOf_77 3 rfl ?_
                refine am_icmp_le C0 dX10_twoOf_78 (tgt := 85) (by decide) (fun c_10 => ?_) (fun c_10 => ?_)
                · replace h := am_in h c_10
                  refine am_iconst C0 dX10_twoOf_85 ci_0 ?_
                  have e := Option.some.inj h
                  subst e
                  exact hret _ _ dX10_twoOf_86
                · replace h := am_ip h c_10
                  refine am_iconst C0 dX10_twoOf_81 ci_1 ?_
                  refine am_goto C0 dX10_twoOf_82 (tgt := 86) (by decide) ?_
                  have e := Option.some.inj h
                  subst e
                  exact hret _ _ dX10_twoOf_86
            · replace h := am_ip h c_6
              refine am_iload_n C0 dX10_twoOf_59 2 rfl ?_
              refine am_iload_n C0 dX10_twoOf_60 3 rfl ?_
              refine am_icmp_ne C0 dX10_twoOf_61 (tgt := 68) (by decide) (fun c_11 => ?_) (fun c_11 => ?_)
              · replace h := am_in h c_11
                refine am_iconst C0 dX10_twoOf_68 ci_0 ?_
                have e := Option.some.inj h
                subst e
                exact hret _ _ dX10_twoOf_69
              · replace h := am_ip h c_11
                refine am_iconst C0 dX10_twoOf_64 ci_1 ?_
                refine am_goto C0 dX10_twoOf_65 (tgt := 69) (by decide) ?_
                have e := Option.some.inj h
                subst e
                exact hret _ _ dX10_twoOf_69
          · replace h := am_ip h c_5
            refine am_iload_n C0 dX10_twoOf_42 2 rfl ?_
            refine am_iload_n C0 dX10_twoOf_43 3 rfl ?_
            refine am_icmp_ge C0 dX10_twoOf_44 (tgt := 51) (by decide) (fun c_12 => ?_) (fun c_12 => ?_)
            · replace h := am_in h c_12
              refine am_iconst C0 dX10_twoOf_51 ci_0 ?_
              have e := Option.some.inj h
              subst e
              exact hret _ _ dX10_twoOf_52
            · replace h := am_ip h c_12
              refine am_iconst C0 dX10_twoOf_47 ci_1 ?_
              refine am_goto C0 dX10_twoOf_48 (tgt := 52) (by decide) ?_
              have e := Option.some.inj h
              subst e
              exact hret _ _ dX10_twoOf_52
        · replace h := am_ip h c_4
          refine am_iload_n C0 dX10_twoOf_32 2 rfl ?_
          refine am_iload_n C0 dX10_twoOf_33 3 rfl ?_
          obtain ⟨hz_13, h⟩ := am_gd h
          refine am_idiv C0 dX10_twoOf_34 hz_13 ?_
          have e := Option.some.inj h
          subst e
          exact hret _ _ dX10_twoOf_35
      · replace h := am_ip h c_3
        refine am_iload_n C0 dX10_twoOf_23 2 rfl ?_
        refine am_iload_n C0 dX10_twoOf_24 3 rfl ?_
        refine am_imul C0 dX10_twoOf_25 ?_
        have e := Option.some.inj h
        subst e
        exact hret _ _ dX10_twoOf_26
    · replace h := am_ip h c_2
      refine am_iload_n C0 dX10_twoOf_14 2 rfl ?_
      refine am_iload_n C0 dX10_twoOf_15 3 rfl ?_
      refine am_isub C0 dX10_twoOf_16 ?_
      have e := Option.some.inj h
      subst e
      exact hret _ _ dX10_twoOf_17
  · replace h := am_ip h c_1
    refine am_iload_n C0 dX10_twoOf_5 2 rfl ?_
    refine am_iload_n C0 dX10_twoOf_6 3 rfl ?_
    refine am_iadd C0 dX10_twoOf_7 ?_
    have e := Option.some.inj h
    subst e
    exact hret _ _ dX10_twoOf_8
set_option maxRecDepth 100000 in
set_option maxHeartbeats 4000000 in
theorem m_M_twoOf {l : Launch} {d : Nat} {σ : am_SS} {q : Int32} (hd : 1 ≤ d) (x1 : Int32) (x2 : Int32) (x3 : Int32) (h : M_twoOf x1 x2 x3 = some q) : am_Met l yX10_twoOf cX10_twoOf 4 (some .int) d 0 0 LM (fun b => [.ref (b 0), .int x1, .int x2, .int x3]) σ (some (.int q)) σ :=
  am_metI (plainFor_of_name (by decide)) rfl (lv := fun b => [(0, .ref (b 0)), (1, .int x1), (2, .int x2), (3, .int x3)]) (fun _ => rfl) (fun _ => Nat.le_of_ble_eq_true rfl) (fun G C0 _ hret => k_M_twoOf C0 hd hret x1 x2 x3  h)
set_option maxRecDepth 100000 in
set_option maxHeartbeats 4000000 in
theorem k_M_runs_p170 {G : am_T} {d0 : Nat} (C0 : am_C G cX10_runs 6 RX10 LM d0) (hd : 2 ≤ d0) (rec12 : Int32 → Int32 → Int32 → Int32 → am_SS → Option (Int32 × am_SS)) (F : Nat) {q : Int32 × am_SS} (hret : am_retI G cX10_runs 6 q.1 q.2) (hrec12 : ∀ (x1 : Int32) (x3 : Int32) (x4 : Int32) (x5 : Int32) (σ : am_SS), rec12 x1 x3 x4 x5 σ = some q → am_K G 6 12 [(0, .ref (am_b G 0)), (1, .int x1), (3, .int x3), (4, .int x4), (5, .int x5)] [] σ) (x1 : Int32) (x3 : Int32) (x4 : Int32) (x5 : Int32) (σ : am_SS) (h : M_runs_p170 rec12 F x1 x3 x4 x5 σ = some q) : am_K G 6 170 [(0, .ref (am_b G 0)), (1, .int x1), (3, .int x3), (4, .int x4), (5, .int x5)] [] σ := by
  unfold M_runs_p170 at h
  obtain ⟨x5_1, e_x5_1, h⟩ := am_lt h
  refine am_iinc C0 dX10_runs_170 4 rfl (by rw [ci_1]; exact e_x5_1) (by decide) rfl (lv' := [(0, .ref (am_b G 0)), (1, .int x1), (3, .int x3), (4, .int x4), (5, .int x5_1)]) rfl ?_
  refine am_goto C0 dX10_runs_173 (tgt := 12) (by decide) ?_
  exact am_sub [0, 1, 2, 3, 4] rfl (hrec12 x1 x3 x4 x5_1 σ  h)
set_option maxRecDepth 100000 in
set_option maxHeartbeats 4000000 in
theorem k_M_runs_p83 {G : am_T} {d0 : Nat} (C0 : am_C G cX10_runs 6 RX10 LM d0) (hd : 2 ≤ d0) (rec12 : Int32 → Int32 → Int32 → Int32 → am_SS → Option (Int32 × am_SS)) (F : Nat) {q : Int32 × am_SS} (hret : am_retI G cX10_runs 6 q.1 q.2) (hrec12 : ∀ (x1 : Int32) (x3 : Int32) (x4 : Int32) (x5 : Int32) (σ : am_SS), rec12 x1 x3 x4 x5 σ = some q → am_K G 6 12 [(0, .ref (am_b G 0)), (1, .int x1), (3, .int x3), (4, .int x4), (5, .int x5)] [] σ) (x1 : Int32) (x3 : Int32) (x4 : Int32) (x5 : Int32) (s1 : Int32) (s2 : Int32) (σ : am_SS) (h : M_runs_p83 rec12 F x1 x3 x4 x5 s1 s2 σ = some q) : am_K G 6 83 [(0, .ref (am_b G 0)), (1, .int x1), (3, .int x3), (4, .int x4), (5, .int x5)] [.int s2, .int s1, .ref (am_b G 23)] σ := by
  unfold M_runs_p83 at h
  obtain ⟨σ_1, h_σ_1, h⟩ := am_bind h
  refine am_iast C0 (ltM (tgM_7_43 kM0)) (tgM_7_43 kM0) (lnM_7_43 kM0) h_σ_1 dX10_runs_83 ?_
  refine am_iload C0 dX10_runs_84 3 rfl ?_
  refine am_iconst C0 dX10_runs_86 ci_1 ?_
  refine am_iadd C0 dX10_runs_87 ?_
  obtain ⟨x4_2, e_x4_2, h⟩ := am_lt h
  refine am_top e_x4_2 ?_
  refine am_istore C0 dX10_runs_88 (by decide) rfl (lv' := [(0, .ref (am_b G 0)), (1, .int x1), (3, .int x3), (4, .int x4_2), (5, .int x5)]) rfl ?_
  refine am_goto C0 dX10_runs_90 (tgt := 170) (by decide) ?_
  exact am_sub [0, 1, 2, 3, 4] rfl (k_M_runs_p170 C0 hd rec12 F hret hrec12 x1 x3 x4_2 x5 σ_1  h)
set_option maxRecDepth 100000 in
set_option maxHeartbeats 4000000 in
theorem k_M_runs_p45 {G : am_T} {d0 : Nat} (C0 : am_C G cX10_runs 6 RX10 LM d0) (hd : 2 ≤ d0) (rec12 : Int32 → Int32 → Int32 → Int32 → am_SS → Option (Int32 × am_SS)) (F : Nat) {q : Int32 × am_SS} (hret : am_retI G cX10_runs 6 q.1 q.2) (hrec12 : ∀ (x1 : Int32) (x3 : Int32) (x4 : Int32) (x5 : Int32) (σ : am_SS), rec12 x1 x3 x4 x5 σ = some q → am_K G 6 12 [(0, .ref (am_b G 0)), (1, .int x1), (3, .int x3), (4, .int x4), (5, .int x5)] [] σ) (x1 : Int32) (x3 : Int32) (x4 : Int32) (x5 : Int32) (σ : am_SS) (h : M_runs_p45 rec12 F x1 x3 x4 x5 σ = some q) : am_K G 6 45 [(0, .ref (am_b G 0)), (1, .int x1), (3, .int x3), (4, .int x4), (5, .int x5)] [] σ := by
  unfold M_runs_p45 at h
  refine am_aload_n C0 dX10_runs_45 0 rfl ?_
  refine am_getR C0 (j := 23) ff_RX10_80 (loM_7_43 kM0).1 (loM_7_43 kM0).2.1 (loM_7_43 kM0).2.2.1 (loM_7_43 kM0).2.2.2 dX10_runs_46 ?_
  refine am_iload C0 dX10_runs_49 3 rfl ?_
  refine am_aload_n C0 dX10_runs_51 0 rfl ?_
  refine am_getR C0 (j := 16) ff_RX10_55 (loM_7_25 kM0).1 (loM_7_25 kM0).2.1 (loM_7_25 kM0).2.2.1 (loM_7_25 kM0).2.2.2 dX10_runs_52 ?_
  refine am_iload C0 dX10_runs_55 4 rfl ?_
  obtain ⟨t_1, h_t_1, h⟩ := am_bind h
  refine am_iald C0 (ltM (tgM_7_25 kM0)) (tgM_7_25 kM0) (lnM_7_25 kM0) h_t_1 dX10_runs_57 ?_
  refine am_if_ne C0 dX10_runs_58 (tgt := 71) (by decide) (fun c_2 => ?_) (fun c_2 => ?_)
  · replace h := am_in h c_2
    refine am_aload_n C0 dX10_runs_71 0 rfl ?_
    refine am_getR C0 (j := 22) ff_RX10_77 (loM_7_42 kM0).1 (loM_7_42 kM0).2.1 (loM_7_42 kM0).2.2.1 (loM_7_42 kM0).2.2.2 dX10_runs_72 ?_
    refine am_aload_n C0 dX10_runs_75 0 rfl ?_
    refine am_getR C0 (j := 17) ff_RX10_58 (loM_7_26 kM0).1 (loM_7_26 kM0).2.1 (loM_7_26 kM0).2.2.1 (loM_7_26 kM0).2.2.2 dX10_runs_76 ?_
    refine am_iload C0 dX10_runs_79 4 rfl ?_
    obtain ⟨t_3, h_t_3, h⟩ := am_bind h
    refine am_iald C0 (ltM (tgM_7_26 kM0)) (tgM_7_26 kM0) (lnM_7_26 kM0) h_t_3 dX10_runs_81 ?_
    obtain ⟨t_4, h_t_4, h⟩ := am_bind h
    refine am_iald C0 (ltM (tgM_7_42 kM0)) (tgM_7_42 kM0) (lnM_7_42 kM0) h_t_4 dX10_runs_82 ?_
    exact am_sub [0, 1, 2, 3, 4] rfl (k_M_runs_p83 C0 hd rec12 F hret hrec12 x1 x3 x4 x5 x4 t_4 σ  h)
  · replace h := am_ip h c_2
    refine am_aload_n C0 dX10_runs_61 0 rfl ?_
    refine am_getR C0 (j := 17) ff_RX10_58 (loM_7_26 kM0).1 (loM_7_26 kM0).2.1 (loM_7_26 kM0).2.2.1 (loM_7_26 kM0).2.2.2 dX10_runs_62 ?_
    refine am_iload C0 dX10_runs_65 4 rfl ?_
    obtain ⟨t_5, h_t_5, h⟩ := am_bind h
    refine am_iald C0 (ltM (tgM_7_26 kM0)) (tgM_7_26 kM0) (lnM_7_26 kM0) h_t_5 dX10_runs_67 ?_
    refine am_goto C0 dX10_runs_68 (tgt := 83) (by decide) ?_
    exact am_sub [0, 1, 2, 3, 4] rfl (k_M_runs_p83 C0 hd rec12 F hret hrec12 x1 x3 x4 x5 x4 t_5 σ  h)
set_option maxRecDepth 100000 in
set_option maxHeartbeats 4000000 in
theorem k_M_runs_l12 {G : am_T} {d0 : Nat} (C0 : am_C G cX10_runs 6 RX10 LM d0) (hd : 2 ≤ d0) (F : Nat) {q : Int32 × am_SS} (hret : am_retI G cX10_runs 6 q.1 q.2) : ∀ (n : Nat) (x1 : Int32) (x3 : Int32) (x4 : Int32) (x5 : Int32) (σ : am_SS) (h : M_runs_l12 F n x1 x3 x4 x5 σ = some q), am_K G 6 12 [(0, .ref (am_b G 0)), (1, .int x1), (3, .int x3), (4, .int x4), (5, .int x5)] [] σ := by
  intro n
  induction n with
  | zero =>
    intro x1 x3 x4 x5 σ h
    rw [M_runs_l12] at h
    cases h
  | succ n ih =>
    intro x1 x3 x4 x5 σ h
    rw [M_runs_l12] at h
    refine am_iload C0 dX10_runs_12 4 rfl ?_
    refine am_sipush C0 dX10_runs_14 cs_400 ?_
    refine am_iload_n C0 dX10_runs_17 1 rfl ?_
    refine am_imul C0 dX10_runs_18 ?_
    refine am_iload_n C0 dX10_runs_19 2 rfl ?_
    refine am_iadd C0 dX10_runs_20 ?_
    refine am_icmp_ge C0 dX10_runs_21 (tgt := 176) (by decide) (fun c_1 => ?_) (fun c_1 => ?_)
    · replace h := am_in h c_1
      refine am_aload_n C0 dX10_runs_176 0 rfl ?_
      refine am_getR C0 (j := 23) ff_RX10_80 (loM_7_43 kM0).1 (loM_7_43 kM0).2.1 (loM_7_43 kM0).2.2.1 (loM_7_43 kM0).2.2.2 dX10_runs_177 ?_
      refine am_iconst C0 dX10_runs_180 ci_0 ?_
      obtain ⟨t_2, h_t_2, h⟩ := am_bind h
      refine am_iald C0 (ltM (tgM_7_43 kM0)) (tgM_7_43 kM0) (lnM_7_43 kM0) h_t_2 dX10_runs_181 ?_
      have e := Option.some.inj h
      subst e
      exact hret _ _ dX10_runs_182
    · replace h := am_ip h c_1
      refine am_aload_n C0 dX10_runs_24 0 rfl ?_
      refine am_getR C0 (j := 16) ff_RX10_55 (loM_7_25 kM0).1 (loM_7_25 kM0).2.1 (loM_7_25 kM0).2.2.1 (loM_7_25 kM0).2.2.2 dX10_runs_25 ?_
      refine am_iload C0 dX10_runs_28 4 rfl ?_
      obtain ⟨t_3, h_t_3, h⟩ := am_bind h
      refine am_iald C0 (ltM (tgM_7_25 kM0)) (tgM_7_25 kM0) (lnM_7_25 kM0) h_t_3 dX10_runs_30 ?_
      refine am_if_eq C0 dX10_runs_31 (tgt := 45) (by decide) (fun c_4 => ?_) (fun c_4 => ?_)
      · replace h := am_ip h c_4
        exact am_sub [0, 1, 2, 3, 4] rfl (k_M_runs_p45 C0 hd _ F hret (fun z1 z2 z3 z4 zs z => ih z1 z2 z3 z4 zs z) x1 x3 x4 x5 σ  h)
      · replace h := am_in h c_4
        refine am_aload_n C0 dX10_runs_34 0 rfl ?_
        refine am_getR C0 (j := 16) ff_RX10_55 (loM_7_25 kM0).1 (loM_7_25 kM0).2.1 (loM_7_25 kM0).2.2.1 (loM_7_25 kM0).2.2.2 dX10_runs_35 ?_
        refine am_iload C0 dX10_runs_38 4 rfl ?_
        obtain ⟨t_5, h_t_5, h⟩ := am_bind h
        refine am_iald C0 (ltM (tgM_7_25 kM0)) (tgM_7_25 kM0) (lnM_7_25 kM0) h_t_5 dX10_runs_40 ?_
        refine am_iconst C0 dX10_runs_41 ci_1 ?_
        refine am_icmp_ne C0 dX10_runs_42 (tgt := 93) (by decide) (fun c_6 => ?_) (fun c_6 => ?_)
        · replace h := am_in h c_6
          refine am_aload_n C0 dX10_runs_93 0 rfl ?_
          refine am_getR C0 (j := 16) ff_RX10_55 (loM_7_25 kM0).1 (loM_7_25 kM0).2.1 (loM_7_25 kM0).2.2.1 (loM_7_25 kM0).2.2.2 dX10_runs_94 ?_
          refine am_iload C0 dX10_runs_97 4 rfl ?_
          obtain ⟨t_7, h_t_7, h⟩ := am_bind h
          refine am_iald C0 (ltM (tgM_7_25 kM0)) (tgM_7_25 kM0) (lnM_7_25 kM0) h_t_7 dX10_runs_99 ?_
          refine am_bipush C0 dX10_runs_100 kb_9 ?_
          refine am_icmp_ne C0 dX10_runs_102 (tgt := 128) (by decide) (fun c_8 => ?_) (fun c_8 => ?_)
          · replace h := am_in h c_8
            refine am_iload C0 dX10_runs_128 3 rfl ?_
            refine am_iconst C0 dX10_runs_130 ci_1 ?_
            refine am_isub C0 dX10_runs_131 ?_
            obtain ⟨x4_9, e_x4_9, h⟩ := am_lt h
            refine am_top e_x4_9 ?_
            refine am_istore C0 dX10_runs_132 (by decide) rfl (lv' := [(0, .ref (am_b G 0)), (1, .int x1), (3, .int x3), (4, .int x4_9), (5, .int x5)]) rfl ?_
            refine am_aload_n C0 dX10_runs_134 0 rfl ?_
            refine am_getR C0 (j := 23) ff_RX10_80 (loM_7_43 kM0).1 (loM_7_43 kM0).2.1 (loM_7_43 kM0).2.2.1 (loM_7_43 kM0).2.2.2 dX10_runs_135 ?_
            refine am_iload C0 dX10_runs_138 3 rfl ?_
            refine am_iconst C0 dX10_runs_140 ci_1 ?_
            refine am_isub C0 dX10_runs_141 ?_
            refine am_aload_n C0 dX10_runs_142 0 rfl ?_
            refine am_aload_n C0 dX10_runs_143 0 rfl ?_
            refine am_getR C0 (j := 16) ff_RX10_55 (loM_7_25 kM0).1 (loM_7_25 kM0).2.1 (loM_7_25 kM0).2.2.1 (loM_7_25 kM0).2.2.2 dX10_runs_144 ?_
            refine am_iload C0 dX10_runs_147 4 rfl ?_
            obtain ⟨t_10, h_t_10, h⟩ := am_bind h
            refine am_iald C0 (ltM (tgM_7_25 kM0)) (tgM_7_25 kM0) (lnM_7_25 kM0) h_t_10 dX10_runs_149 ?_
            refine am_aload_n C0 dX10_runs_150 0 rfl ?_
            refine am_getR C0 (j := 23) ff_RX10_80 (loM_7_43 kM0).1 (loM_7_43 kM0).2.1 (loM_7_43 kM0).2.2.1 (loM_7_43 kM0).2.2.2 dX10_runs_151 ?_
            refine am_iload C0 dX10_runs_154 3 rfl ?_
            refine am_iconst C0 dX10_runs_156 ci_1 ?_
            refine am_isub C0 dX10_runs_157 ?_
            obtain ⟨t_11, h_t_11, h⟩ := am_bind h
            refine am_iald C0 (ltM (tgM_7_43 kM0)) (tgM_7_43 kM0) (lnM_7_43 kM0) h_t_11 dX10_runs_158 ?_
            refine am_aload_n C0 dX10_runs_159 0 rfl ?_
            refine am_getR C0 (j := 23) ff_RX10_80 (loM_7_43 kM0).1 (loM_7_43 kM0).2.1 (loM_7_43 kM0).2.2.1 (loM_7_43 kM0).2.2.2 dX10_runs_160 ?_
            refine am_iload C0 dX10_runs_163 3 rfl ?_
            obtain ⟨t_12, h_t_12, h⟩ := am_bind h
            refine am_iald C0 (ltM (tgM_7_43 kM0)) (tgM_7_43 kM0) (lnM_7_43 kM0) h_t_12 dX10_runs_165 ?_
            obtain ⟨q_13, h_q_13, h⟩ := am_bind h
            refine am_callV C0 (m_M_twoOf (σ := σ) (Nat.le_refl _) t_10 t_11 t_12  h_q_13) mm_yX10_twoOf ln_RX10_318 (As := fun b => [.int t_10, .int t_11, .int t_12]) (fun _ => rfl) (fun _ => rfl) (loM_7_0 kM0).1 (loM_7_0 kM0).2.1 rfl (Nat.le_trans (by decide) hd) rfl (Nat.le_of_ble_eq_true rfl) dX10_runs_166 ?_
            obtain ⟨σ_14, h_σ_14, h⟩ := am_bind h
            refine am_iast C0 (ltM (tgM_7_43 kM0)) (tgM_7_43 kM0) (lnM_7_43 kM0) h_σ_14 dX10_runs_169 ?_
            exact am_sub [0, 1, 2, 3, 4] rfl (k_M_runs_p170 C0 hd _ F hret (fun z1 z2 z3 z4 zs z => ih z1 z2 z3 z4 zs z) x1 x3 x4_9 x5 σ_14  h)
          · replace h := am_ip h c_8
            refine am_aload_n C0 dX10_runs_105 0 rfl ?_
            refine am_getR C0 (j := 23) ff_RX10_80 (loM_7_43 kM0).1 (loM_7_43 kM0).2.1 (loM_7_43 kM0).2.2.1 (loM_7_43 kM0).2.2.2 dX10_runs_106 ?_
            refine am_iload C0 dX10_runs_109 3 rfl ?_
            refine am_iconst C0 dX10_runs_111 ci_1 ?_
            refine am_isub C0 dX10_runs_112 ?_
            refine am_iconst C0 dX10_runs_113 ci_1 ?_
            refine am_aload_n C0 dX10_runs_114 0 rfl ?_
            refine am_getR C0 (j := 23) ff_RX10_80 (loM_7_43 kM0).1 (loM_7_43 kM0).2.1 (loM_7_43 kM0).2.2.1 (loM_7_43 kM0).2.2.2 dX10_runs_115 ?_
            refine am_iload C0 dX10_runs_118 3 rfl ?_
            refine am_iconst C0 dX10_runs_120 ci_1 ?_
            refine am_isub C0 dX10_runs_121 ?_
            obtain ⟨t_15, h_t_15, h⟩ := am_bind h
            refine am_iald C0 (ltM (tgM_7_43 kM0)) (tgM_7_43 kM0) (lnM_7_43 kM0) h_t_15 dX10_runs_122 ?_
            refine am_isub C0 dX10_runs_123 ?_
            obtain ⟨σ_16, h_σ_16, h⟩ := am_bind h
            refine am_iast C0 (ltM (tgM_7_43 kM0)) (tgM_7_43 kM0) (lnM_7_43 kM0) h_σ_16 dX10_runs_124 ?_
            refine am_goto C0 dX10_runs_125 (tgt := 170) (by decide) ?_
            exact am_sub [0, 1, 2, 3, 4] rfl (k_M_runs_p170 C0 hd _ F hret (fun z1 z2 z3 z4 zs z => ih z1 z2 z3 z4 zs z) x1 x3 x4 x5 σ_16  h)
        · replace h := am_ip h c_6
          exact am_sub [0, 1, 2, 3, 4] rfl (k_M_runs_p45 C0 hd _ F hret (fun z1 z2 z3 z4 zs z => ih z1 z2 z3 z4 zs z) x1 x3 x4 x5 σ  h)
set_option maxRecDepth 100000 in
set_option maxHeartbeats 4000000 in
theorem k_M_runs {G : am_T} {d0 : Nat} (C0 : am_C G cX10_runs 6 RX10 LM d0) (hd : 2 ≤ d0) (F : Nat) {q : Int32 × am_SS} (hret : am_retI G cX10_runs 6 q.1 q.2) (x1 : Int32) (x2 : Int32) (x3 : Int32) (σ : am_SS) (h : M_runs F x1 x2 x3 σ = some q) : am_K G 6 0 [(0, .ref (am_b G 0)), (1, .int x1), (2, .int x2), (3, .int x3)] [] σ := by
  unfold M_runs at h
  refine am_iconst C0 dX10_runs_0 ci_0 ?_
  refine am_istore C0 dX10_runs_1 (by decide) rfl (lv' := [(0, .ref (am_b G 0)), (1, .int x1), (2, .int x2), (3, .int x3), (4, .int 0)]) rfl ?_
  refine am_sipush C0 dX10_runs_3 cs_400 ?_
  refine am_iload_n C0 dX10_runs_6 1 rfl ?_
  refine am_imul C0 dX10_runs_7 ?_
  refine am_iload_n C0 dX10_runs_8 2 rfl ?_
  refine am_iadd C0 dX10_runs_9 ?_
  obtain ⟨x5_1, e_x5_1, h⟩ := am_lt h
  refine am_top e_x5_1 ?_
  refine am_istore C0 dX10_runs_10 (by decide) rfl (lv' := [(0, .ref (am_b G 0)), (1, .int x1), (2, .int x2), (3, .int x3), (4, .int 0), (5, .int x5_1)]) rfl ?_
  exact am_sub [0, 1, 3, 4, 5] rfl (k_M_runs_l12 C0 hd F hret F x1 x3 0 x5_1 σ  h)
set_option maxRecDepth 100000 in
set_option maxHeartbeats 4000000 in
theorem m_M_runs {l : Launch} {d : Nat} {σ : am_SS} {q : Int32 × am_SS} (hd : 2 ≤ d) (F : Nat) (x1 : Int32) (x2 : Int32) (x3 : Int32) (h : M_runs F x1 x2 x3 σ = some q) : am_Met l yX10_runs cX10_runs 6 (some .int) d 0 0 LM (fun b => [.ref (b 0), .int x1, .int x2, .int x3]) σ (some (.int q.1)) q.2 :=
  am_metI (plainFor_of_name (by decide)) rfl (lv := fun b => [(0, .ref (b 0)), (1, .int x1), (2, .int x2), (3, .int x3)]) (fun _ => rfl) (fun _ => Nat.le_of_ble_eq_true rfl) (fun G C0 _ hret => k_M_runs C0 hd F hret x1 x2 x3 σ  h)
set_option maxRecDepth 100000 in
set_option maxHeartbeats 4000000 in
theorem k_M_lineOf_p59 {G : am_T} {d0 : Nat} (C0 : am_C G cX10_lineOf 3 RX10 LM d0) (hd : 3 ≤ d0) (rec2 : Int32 → Int32 → am_SS → Option (Int32 × am_SS)) (F : Nat) {q : Int32 × am_SS} (hret : am_retI G cX10_lineOf 3 q.1 q.2) (hrec2 : ∀ (x1 : Int32) (x2 : Int32) (σ : am_SS), rec2 x1 x2 σ = some q → am_K G 3 2 [(0, .ref (am_b G 0)), (1, .int x1), (2, .int x2)] [] σ) (x1 : Int32) (x2 : Int32) (σ : am_SS) (h : M_lineOf_p59 rec2 F x1 x2 σ = some q) : am_K G 3 59 [(0, .ref (am_b G 0)), (1, .int x1), (2, .int x2)] [] σ := by
  unfold M_lineOf_p59 at h
  obtain ⟨x2_1, e_x2_1, h⟩ := am_lt h
  refine am_iinc C0 dX10_lineOf_59 2 rfl (by rw [ci_1]; exact e_x2_1) (by decide) rfl (lv' := [(0, .ref (am_b G 0)), (1, .int x1), (2, .int x2_1)]) rfl ?_
  refine am_goto C0 dX10_lineOf_62 (tgt := 2) (by decide) ?_
  exact am_sub [0, 1, 2] rfl (hrec2 x1 x2_1 σ  h)
set_option maxRecDepth 100000 in
set_option maxHeartbeats 4000000 in
theorem k_M_lineOf_l2 {G : am_T} {d0 : Nat} (C0 : am_C G cX10_lineOf 3 RX10 LM d0) (hd : 3 ≤ d0) (F : Nat) {q : Int32 × am_SS} (hret : am_retI G cX10_lineOf 3 q.1 q.2) : ∀ (n : Nat) (x1 : Int32) (x2 : Int32) (σ : am_SS) (h : M_lineOf_l2 F n x1 x2 σ = some q), am_K G 3 2 [(0, .ref (am_b G 0)), (1, .int x1), (2, .int x2)] [] σ := by
  intro n
  induction n with
  | zero =>
    intro x1 x2 σ h
    rw [M_lineOf_l2] at h
    cases h
  | succ n ih =>
    intro x1 x2 σ h
    rw [M_lineOf_l2] at h
    refine am_iload_n C0 dX10_lineOf_2 2 rfl ?_
    refine am_aload_n C0 dX10_lineOf_3 0 rfl ?_
    refine am_getR C0 (j := 11) ff_RX10_40 (loM_7_20 kM0).1 (loM_7_20 kM0).2.1 (loM_7_20 kM0).2.2.1 (loM_7_20 kM0).2.2.2 dX10_lineOf_4 ?_
    refine am_iconst C0 dX10_lineOf_7 ci_0 ?_
    obtain ⟨t_1, h_t_1, h⟩ := am_bind h
    refine am_iald C0 (ltM (tgM_7_20 kM0)) (tgM_7_20 kM0) (lnM_7_20 kM0) h_t_1 dX10_lineOf_8 ?_
    refine am_icmp_ge C0 dX10_lineOf_9 (tgt := 65) (by decide) (fun c_2 => ?_) (fun c_2 => ?_)
    · replace h := am_in h c_2
      refine am_iconst C0 dX10_lineOf_65 ci_m1 ?_
      have e := Option.some.inj h
      subst e
      exact hret _ _ dX10_lineOf_66
    · replace h := am_ip h c_2
      refine am_aload_n C0 dX10_lineOf_12 0 rfl ?_
      refine am_getR C0 (j := 12) ff_RX10_43 (loM_7_21 kM0).1 (loM_7_21 kM0).2.1 (loM_7_21 kM0).2.2.1 (loM_7_21 kM0).2.2.2 dX10_lineOf_13 ?_
      refine am_iload_n C0 dX10_lineOf_16 2 rfl ?_
      obtain ⟨t_3, h_t_3, h⟩ := am_bind h
      refine am_iald C0 (ltM (tgM_7_21 kM0)) (tgM_7_21 kM0) (lnM_7_21 kM0) h_t_3 dX10_lineOf_17 ?_
      refine am_iload_n C0 dX10_lineOf_18 1 rfl ?_
      refine am_icmp_ne C0 dX10_lineOf_19 (tgt := 59) (by decide) (fun c_4 => ?_) (fun c_4 => ?_)
      · replace h := am_in h c_4
        exact am_sub [0, 1, 2] rfl (k_M_lineOf_p59 C0 hd _ F hret (fun z1 z2 zs z => ih z1 z2 zs z) x1 x2 σ  h)
      · replace h := am_ip h c_4
        refine am_aload_n C0 dX10_lineOf_22 0 rfl ?_
        refine am_getR C0 (j := 14) ff_RX10_49 (loM_7_23 kM0).1 (loM_7_23 kM0).2.1 (loM_7_23 kM0).2.2.1 (loM_7_23 kM0).2.2.2 dX10_lineOf_23 ?_
        refine am_iload_n C0 dX10_lineOf_26 2 rfl ?_
        obtain ⟨t_5, h_t_5, h⟩ := am_bind h
        refine am_iald C0 (ltM (tgM_7_23 kM0)) (tgM_7_23 kM0) (lnM_7_23 kM0) h_t_5 dX10_lineOf_27 ?_
        refine am_aload_n C0 dX10_lineOf_28 0 rfl ?_
        refine am_getR C0 (j := 15) ff_RX10_52 (loM_7_24 kM0).1 (loM_7_24 kM0).2.1 (loM_7_24 kM0).2.2.1 (loM_7_24 kM0).2.2.2 dX10_lineOf_29 ?_
        refine am_iload_n C0 dX10_lineOf_32 2 rfl ?_
        obtain ⟨t_6, h_t_6, h⟩ := am_bind h
        refine am_iald C0 (ltM (tgM_7_24 kM0)) (tgM_7_24 kM0) (lnM_7_24 kM0) h_t_6 dX10_lineOf_33 ?_
        refine am_icmp_eq C0 dX10_lineOf_34 (tgt := 57) (by decide) (fun c_7 => ?_) (fun c_7 => ?_)
        · replace h := am_ip h c_7
          refine am_iload_n C0 dX10_lineOf_57 2 rfl ?_
          have e := Option.some.inj h
          subst e
          exact hret _ _ dX10_lineOf_58
        · replace h := am_in h c_7
          refine am_aload_n C0 dX10_lineOf_37 0 rfl ?_
          refine am_iconst C0 dX10_lineOf_38 ci_0 ?_
          refine am_aload_n C0 dX10_lineOf_39 0 rfl ?_
          refine am_getR C0 (j := 14) ff_RX10_49 (loM_7_23 kM0).1 (loM_7_23 kM0).2.1 (loM_7_23 kM0).2.2.1 (loM_7_23 kM0).2.2.2 dX10_lineOf_40 ?_
          refine am_iload_n C0 dX10_lineOf_43 2 rfl ?_
          obtain ⟨t_8, h_t_8, h⟩ := am_bind h
          refine am_iald C0 (ltM (tgM_7_23 kM0)) (tgM_7_23 kM0) (lnM_7_23 kM0) h_t_8 dX10_lineOf_44 ?_
          refine am_aload_n C0 dX10_lineOf_45 0 rfl ?_
          refine am_getR C0 (j := 15) ff_RX10_52 (loM_7_24 kM0).1 (loM_7_24 kM0).2.1 (loM_7_24 kM0).2.2.1 (loM_7_24 kM0).2.2.2 dX10_lineOf_46 ?_
          refine am_iload_n C0 dX10_lineOf_49 2 rfl ?_
          obtain ⟨t_9, h_t_9, h⟩ := am_bind h
          refine am_iald C0 (ltM (tgM_7_24 kM0)) (tgM_7_24 kM0) (lnM_7_24 kM0) h_t_9 dX10_lineOf_50 ?_
          obtain ⟨q_10, h_q_10, h⟩ := am_bind h
          refine am_callV C0 (m_M_runs (σ := σ) (Nat.le_refl _) F 0 t_8 t_9  h_q_10) mm_yX10_runs ln_RX10_321 (As := fun b => [.int 0, .int t_8, .int t_9]) (fun _ => rfl) (fun _ => rfl) (loM_7_0 kM0).1 (loM_7_0 kM0).2.1 rfl (Nat.le_trans (by decide) hd) rfl (Nat.le_of_ble_eq_true rfl) dX10_lineOf_51 ?_
          refine am_if_eq C0 dX10_lineOf_54 (tgt := 59) (by decide) (fun c_11 => ?_) (fun c_11 => ?_)
          · replace h := am_ip h c_11
            exact am_sub [0, 1, 2] rfl (k_M_lineOf_p59 C0 hd _ F hret (fun z1 z2 zs z => ih z1 z2 zs z) x1 x2 q_10.2  h)
          · replace h := am_in h c_11
            refine am_iload_n C0 dX10_lineOf_57 2 rfl ?_
            have e := Option.some.inj h
            subst e
            exact hret _ _ dX10_lineOf_58
set_option maxRecDepth 100000 in
set_option maxHeartbeats 4000000 in
theorem k_M_lineOf {G : am_T} {d0 : Nat} (C0 : am_C G cX10_lineOf 3 RX10 LM d0) (hd : 3 ≤ d0) (F : Nat) {q : Int32 × am_SS} (hret : am_retI G cX10_lineOf 3 q.1 q.2) (x1 : Int32) (σ : am_SS) (h : M_lineOf F x1 σ = some q) : am_K G 3 0 [(0, .ref (am_b G 0)), (1, .int x1)] [] σ := by
  unfold M_lineOf at h
  refine am_iconst C0 dX10_lineOf_0 ci_0 ?_
  refine am_istore_n C0 dX10_lineOf_1 rfl (by decide) rfl (lv' := [(0, .ref (am_b G 0)), (1, .int x1), (2, .int 0)]) rfl ?_
  exact am_sub [0, 1, 2] rfl (k_M_lineOf_l2 C0 hd F hret F x1 0 σ  h)
set_option maxRecDepth 100000 in
set_option maxHeartbeats 4000000 in
theorem m_M_lineOf {l : Launch} {d : Nat} {σ : am_SS} {q : Int32 × am_SS} (hd : 3 ≤ d) (F : Nat) (x1 : Int32) (h : M_lineOf F x1 σ = some q) : am_Met l yX10_lineOf cX10_lineOf 3 (some .int) d 0 0 LM (fun b => [.ref (b 0), .int x1]) σ (some (.int q.1)) q.2 :=
  am_metI (plainFor_of_name (by decide)) rfl (lv := fun b => [(0, .ref (b 0)), (1, .int x1)]) (fun _ => rfl) (fun _ => Nat.le_of_ble_eq_true rfl) (fun G C0 _ hret => k_M_lineOf C0 hd F hret x1 σ  h)
set_option maxRecDepth 100000 in
set_option maxHeartbeats 4000000 in
theorem k_M_asks_p109 {G : am_T} {d0 : Nat} (C0 : am_C G cX10_asks 3 RX10 LM d0) (hd : 1 ≤ d0) {q : am_SS} (hret : am_retV G cX10_asks 3 q) (x1 : Int32) (s1 : Int32) (s2 : Int32) (σ : am_SS) (h : M_asks_p109 x1 s1 s2 σ = some q) : am_K G 3 109 [(0, .ref (am_b G 0)), (1, .int x1)] [.int s2, .int s1, .ref (am_b G 22)] σ := by
  unfold M_asks_p109 at h
  obtain ⟨σ_1, h_σ_1, h⟩ := am_bind h
  refine am_iast C0 (ltM (tgM_7_42 kM0)) (tgM_7_42 kM0) (lnM_7_42 kM0) h_σ_1 dX10_asks_109 ?_
  refine am_aload_n C0 dX10_asks_110 0 rfl ?_
  refine am_getR C0 (j := 22) ff_RX10_77 (loM_7_42 kM0).1 (loM_7_42 kM0).2.1 (loM_7_42 kM0).2.2.1 (loM_7_42 kM0).2.2.2 dX10_asks_111 ?_
  refine am_bipush C0 dX10_asks_114 kb_6 ?_
  refine am_aload_n C0 dX10_asks_116 0 rfl ?_
  refine am_getR C0 (j := 1) ff_RX10_7 (loM_7_1 kM0).1 (loM_7_1 kM0).2.1 (loM_7_1 kM0).2.2.1 (loM_7_1 kM0).2.2.2 dX10_asks_117 ?_
  refine am_iconst C0 dX10_asks_120 ci_3 ?_
  obtain ⟨t_2, h_t_2, h⟩ := am_bind h
  refine am_iald C0 (ltM (tgM_7_1 kM0)) (tgM_7_1 kM0) (lnM_7_1 kM0) h_t_2 dX10_asks_121 ?_
  obtain ⟨σ_3, h_σ_3, h⟩ := am_bind h
  refine am_iast C0 (ltM (tgM_7_42 kM0)) (tgM_7_42 kM0) (lnM_7_42 kM0) h_σ_3 dX10_asks_122 ?_
  refine am_aload_n C0 dX10_asks_123 0 rfl ?_
  refine am_getR C0 (j := 22) ff_RX10_77 (loM_7_42 kM0).1 (loM_7_42 kM0).2.1 (loM_7_42 kM0).2.2.1 (loM_7_42 kM0).2.2.2 dX10_asks_124 ?_
  refine am_bipush C0 dX10_asks_127 kb_7 ?_
  refine am_aload_n C0 dX10_asks_129 0 rfl ?_
  refine am_getR C0 (j := 4) ff_RX10_19 (loM_7_8 kM0).1 (loM_7_8 kM0).2.1 (loM_7_8 kM0).2.2.1 (loM_7_8 kM0).2.2.2 dX10_asks_130 ?_
  refine am_iload_n C0 dX10_asks_133 1 rfl ?_
  obtain ⟨t_4, h_t_4, h⟩ := am_bind h
  refine am_iald C0 (ltM (tgM_7_8 kM0)) (tgM_7_8 kM0) (lnM_7_8 kM0) h_t_4 dX10_asks_134 ?_
  obtain ⟨σ_5, h_σ_5, h⟩ := am_bind h
  refine am_iast C0 (ltM (tgM_7_42 kM0)) (tgM_7_42 kM0) (lnM_7_42 kM0) h_σ_5 dX10_asks_135 ?_
  refine am_aload_n C0 dX10_asks_136 0 rfl ?_
  refine am_getR C0 (j := 22) ff_RX10_77 (loM_7_42 kM0).1 (loM_7_42 kM0).2.1 (loM_7_42 kM0).2.2.1 (loM_7_42 kM0).2.2.2 dX10_asks_137 ?_
  refine am_bipush C0 dX10_asks_140 kb_8 ?_
  refine am_aload_n C0 dX10_asks_142 0 rfl ?_
  refine am_getR C0 (j := 1) ff_RX10_7 (loM_7_1 kM0).1 (loM_7_1 kM0).2.1 (loM_7_1 kM0).2.2.1 (loM_7_1 kM0).2.2.2 dX10_asks_143 ?_
  refine am_bipush C0 dX10_asks_146 kb_53 ?_
  refine am_iload_n C0 dX10_asks_148 1 rfl ?_
  refine am_iadd C0 dX10_asks_149 ?_
  obtain ⟨t_6, h_t_6, h⟩ := am_bind h
  refine am_iald C0 (ltM (tgM_7_1 kM0)) (tgM_7_1 kM0) (lnM_7_1 kM0) h_t_6 dX10_asks_150 ?_
  obtain ⟨σ_7, h_σ_7, h⟩ := am_bind h
  refine am_iast C0 (ltM (tgM_7_42 kM0)) (tgM_7_42 kM0) (lnM_7_42 kM0) h_σ_7 dX10_asks_151 ?_
  refine am_aload_n C0 dX10_asks_152 0 rfl ?_
  refine am_getR C0 (j := 22) ff_RX10_77 (loM_7_42 kM0).1 (loM_7_42 kM0).2.1 (loM_7_42 kM0).2.2.1 (loM_7_42 kM0).2.2.2 dX10_asks_153 ?_
  refine am_bipush C0 dX10_asks_156 kb_9 ?_
  refine am_aload_n C0 dX10_asks_158 0 rfl ?_
  refine am_getR C0 (j := 1) ff_RX10_7 (loM_7_1 kM0).1 (loM_7_1 kM0).2.1 (loM_7_1 kM0).2.2.1 (loM_7_1 kM0).2.2.2 dX10_asks_159 ?_
  refine am_iconst C0 dX10_asks_162 ci_0 ?_
  obtain ⟨t_8, h_t_8, h⟩ := am_bind h
  refine am_iald C0 (ltM (tgM_7_1 kM0)) (tgM_7_1 kM0) (lnM_7_1 kM0) h_t_8 dX10_asks_163 ?_
  obtain ⟨σ_9, h_σ_9, h⟩ := am_bind h
  refine am_iast C0 (ltM (tgM_7_42 kM0)) (tgM_7_42 kM0) (lnM_7_42 kM0) h_σ_9 dX10_asks_164 ?_
  have e := Option.some.inj h
  subst e
  exact hret _ _ dX10_asks_165
set_option maxRecDepth 100000 in
set_option maxHeartbeats 4000000 in
theorem k_M_asks_p85 {G : am_T} {d0 : Nat} (C0 : am_C G cX10_asks 3 RX10 LM d0) (hd : 1 ≤ d0) {q : am_SS} (hret : am_retV G cX10_asks 3 q) (x1 : Int32) (x2 : Int32) (s1 : Int32) (s2 : Int32) (σ : am_SS) (h : M_asks_p85 x1 x2 s1 s2 σ = some q) : am_K G 3 85 [(0, .ref (am_b G 0)), (1, .int x1), (2, .int x2)] [.int s2, .int s1, .ref (am_b G 22)] σ := by
  unfold M_asks_p85 at h
  obtain ⟨σ_1, h_σ_1, h⟩ := am_bind h
  refine am_iast C0 (ltM (tgM_7_42 kM0)) (tgM_7_42 kM0) (lnM_7_42 kM0) h_σ_1 dX10_asks_85 ?_
  refine am_aload_n C0 dX10_asks_86 0 rfl ?_
  refine am_getR C0 (j := 22) ff_RX10_77 (loM_7_42 kM0).1 (loM_7_42 kM0).2.1 (loM_7_42 kM0).2.2.1 (loM_7_42 kM0).2.2.2 dX10_asks_87 ?_
  refine am_iconst C0 dX10_asks_90 ci_5 ?_
  refine am_iload_n C0 dX10_asks_91 2 rfl ?_
  refine am_iconst C0 dX10_asks_92 ci_m1 ?_
  refine am_icmp_ne C0 dX10_asks_93 (tgt := 100) (by decide) (fun c_2 => ?_) (fun c_2 => ?_)
  · replace h := am_in h c_2
    refine am_aload_n C0 dX10_asks_100 0 rfl ?_
    refine am_getR C0 (j := 1) ff_RX10_7 (loM_7_1 kM0).1 (loM_7_1 kM0).2.1 (loM_7_1 kM0).2.2.1 (loM_7_1 kM0).2.2.2 dX10_asks_101 ?_
    refine am_bipush C0 dX10_asks_104 kb_65 ?_
    refine am_iload_n C0 dX10_asks_106 2 rfl ?_
    refine am_iadd C0 dX10_asks_107 ?_
    obtain ⟨t_3, h_t_3, h⟩ := am_bind h
    refine am_iald C0 (ltM (tgM_7_1 kM0)) (tgM_7_1 kM0) (lnM_7_1 kM0) h_t_3 dX10_asks_108 ?_
    exact am_sub [0, 1] rfl (k_M_asks_p109 C0 hd hret x1 5 t_3 σ_1  h)
  · replace h := am_ip h c_2
    refine am_iconst C0 dX10_asks_96 ci_0 ?_
    refine am_goto C0 dX10_asks_97 (tgt := 109) (by decide) ?_
    exact am_sub [0, 1] rfl (k_M_asks_p109 C0 hd hret x1 5 0 σ_1  h)
set_option maxRecDepth 100000 in
set_option maxHeartbeats 4000000 in
theorem k_M_asks {G : am_T} {d0 : Nat} (C0 : am_C G cX10_asks 3 RX10 LM d0) (hd : 1 ≤ d0) {q : am_SS} (hret : am_retV G cX10_asks 3 q) (x1 : Int32) (σ : am_SS) (h : M_asks x1 σ = some q) : am_K G 3 0 [(0, .ref (am_b G 0)), (1, .int x1)] [] σ := by
  unfold M_asks at h
  refine am_aload_n C0 dX10_asks_0 0 rfl ?_
  refine am_getR C0 (j := 20) ff_RX10_71 (loM_7_39 kM0).1 (loM_7_39 kM0).2.1 (loM_7_39 kM0).2.2.1 (loM_7_39 kM0).2.2.2 dX10_asks_1 ?_
  refine am_iload_n C0 dX10_asks_4 1 rfl ?_
  obtain ⟨t_1, h_t_1, h⟩ := am_bind h
  refine am_iald C0 (ltM (tgM_7_39 kM0)) (tgM_7_39 kM0) (lnM_7_39 kM0) h_t_1 dX10_asks_5 ?_
  refine am_iconst C0 dX10_asks_6 ci_1 ?_
  refine am_isub C0 dX10_asks_7 ?_
  obtain ⟨x2_2, e_x2_2, h⟩ := am_lt h
  refine am_top e_x2_2 ?_
  refine am_istore_n C0 dX10_asks_8 rfl (by decide) rfl (lv' := [(0, .ref (am_b G 0)), (1, .int x1), (2, .int x2_2)]) rfl ?_
  refine am_aload_n C0 dX10_asks_9 0 rfl ?_
  refine am_getR C0 (j := 22) ff_RX10_77 (loM_7_42 kM0).1 (loM_7_42 kM0).2.1 (loM_7_42 kM0).2.2.1 (loM_7_42 kM0).2.2.2 dX10_asks_10 ?_
  refine am_iconst C0 dX10_asks_13 ci_0 ?_
  refine am_aload_n C0 dX10_asks_14 0 rfl ?_
  refine am_getR C0 (j := 5) ff_RX10_22 (loM_7_9 kM0).1 (loM_7_9 kM0).2.1 (loM_7_9 kM0).2.2.1 (loM_7_9 kM0).2.2.2 dX10_asks_15 ?_
  refine am_iload_n C0 dX10_asks_18 1 rfl ?_
  obtain ⟨t_3, h_t_3, h⟩ := am_bind h
  refine am_iald C0 (ltM (tgM_7_9 kM0)) (tgM_7_9 kM0) (lnM_7_9 kM0) h_t_3 dX10_asks_19 ?_
  obtain ⟨σ_4, h_σ_4, h⟩ := am_bind h
  refine am_iast C0 (ltM (tgM_7_42 kM0)) (tgM_7_42 kM0) (lnM_7_42 kM0) h_σ_4 dX10_asks_20 ?_
  refine am_aload_n C0 dX10_asks_21 0 rfl ?_
  refine am_getR C0 (j := 22) ff_RX10_77 (loM_7_42 kM0).1 (loM_7_42 kM0).2.1 (loM_7_42 kM0).2.2.1 (loM_7_42 kM0).2.2.2 dX10_asks_22 ?_
  refine am_iconst C0 dX10_asks_25 ci_1 ?_
  refine am_aload_n C0 dX10_asks_26 0 rfl ?_
  refine am_getR C0 (j := 1) ff_RX10_7 (loM_7_1 kM0).1 (loM_7_1 kM0).2.1 (loM_7_1 kM0).2.2.1 (loM_7_1 kM0).2.2.2 dX10_asks_27 ?_
  refine am_iconst C0 dX10_asks_30 ci_5 ?_
  refine am_iload_n C0 dX10_asks_31 1 rfl ?_
  refine am_iadd C0 dX10_asks_32 ?_
  obtain ⟨t_5, h_t_5, h⟩ := am_bind h
  refine am_iald C0 (ltM (tgM_7_1 kM0)) (tgM_7_1 kM0) (lnM_7_1 kM0) h_t_5 dX10_asks_33 ?_
  obtain ⟨σ_6, h_σ_6, h⟩ := am_bind h
  refine am_iast C0 (ltM (tgM_7_42 kM0)) (tgM_7_42 kM0) (lnM_7_42 kM0) h_σ_6 dX10_asks_34 ?_
  refine am_aload_n C0 dX10_asks_35 0 rfl ?_
  refine am_getR C0 (j := 22) ff_RX10_77 (loM_7_42 kM0).1 (loM_7_42 kM0).2.1 (loM_7_42 kM0).2.2.1 (loM_7_42 kM0).2.2.2 dX10_asks_36 ?_
  refine am_iconst C0 dX10_asks_39 ci_2 ?_
  refine am_aload_n C0 dX10_asks_40 0 rfl ?_
  refine am_getR C0 (j := 1) ff_RX10_7 (loM_7_1 kM0).1 (loM_7_1 kM0).2.1 (loM_7_1 kM0).2.2.1 (loM_7_1 kM0).2.2.2 dX10_asks_41 ?_
  refine am_bipush C0 dX10_asks_44 kb_17 ?_
  refine am_iload_n C0 dX10_asks_46 1 rfl ?_
  refine am_iadd C0 dX10_asks_47 ?_
  obtain ⟨t_7, h_t_7, h⟩ := am_bind h
  refine am_iald C0 (ltM (tgM_7_1 kM0)) (tgM_7_1 kM0) (lnM_7_1 kM0) h_t_7 dX10_asks_48 ?_
  obtain ⟨σ_8, h_σ_8, h⟩ := am_bind h
  refine am_iast C0 (ltM (tgM_7_42 kM0)) (tgM_7_42 kM0) (lnM_7_42 kM0) h_σ_8 dX10_asks_49 ?_
  refine am_aload_n C0 dX10_asks_50 0 rfl ?_
  refine am_getR C0 (j := 22) ff_RX10_77 (loM_7_42 kM0).1 (loM_7_42 kM0).2.1 (loM_7_42 kM0).2.2.1 (loM_7_42 kM0).2.2.2 dX10_asks_51 ?_
  refine am_iconst C0 dX10_asks_54 ci_3 ?_
  refine am_aload_n C0 dX10_asks_55 0 rfl ?_
  refine am_getR C0 (j := 1) ff_RX10_7 (loM_7_1 kM0).1 (loM_7_1 kM0).2.1 (loM_7_1 kM0).2.2.1 (loM_7_1 kM0).2.2.2 dX10_asks_56 ?_
  refine am_bipush C0 dX10_asks_59 kb_41 ?_
  refine am_iload_n C0 dX10_asks_61 1 rfl ?_
  refine am_iadd C0 dX10_asks_62 ?_
  obtain ⟨t_9, h_t_9, h⟩ := am_bind h
  refine am_iald C0 (ltM (tgM_7_1 kM0)) (tgM_7_1 kM0) (lnM_7_1 kM0) h_t_9 dX10_asks_63 ?_
  obtain ⟨σ_10, h_σ_10, h⟩ := am_bind h
  refine am_iast C0 (ltM (tgM_7_42 kM0)) (tgM_7_42 kM0) (lnM_7_42 kM0) h_σ_10 dX10_asks_64 ?_
  refine am_aload_n C0 dX10_asks_65 0 rfl ?_
  refine am_getR C0 (j := 22) ff_RX10_77 (loM_7_42 kM0).1 (loM_7_42 kM0).2.1 (loM_7_42 kM0).2.2.1 (loM_7_42 kM0).2.2.2 dX10_asks_66 ?_
  refine am_iconst C0 dX10_asks_69 ci_4 ?_
  refine am_iload_n C0 dX10_asks_70 2 rfl ?_
  refine am_iconst C0 dX10_asks_71 ci_m1 ?_
  refine am_icmp_ne C0 dX10_asks_72 (tgt := 79) (by decide) (fun c_11 => ?_) (fun c_11 => ?_)
  · replace h := am_in h c_11
    refine am_aload_n C0 dX10_asks_79 0 rfl ?_
    refine am_getR C0 (j := 7) ff_RX10_28 (loM_7_11 kM0).1 (loM_7_11 kM0).2.1 (loM_7_11 kM0).2.2.1 (loM_7_11 kM0).2.2.2 dX10_asks_80 ?_
    refine am_iload_n C0 dX10_asks_83 2 rfl ?_
    obtain ⟨t_12, h_t_12, h⟩ := am_bind h
    refine am_iald C0 (ltM (tgM_7_11 kM0)) (tgM_7_11 kM0) (lnM_7_11 kM0) h_t_12 dX10_asks_84 ?_
    exact am_sub [0, 1, 2] rfl (k_M_asks_p85 C0 hd hret x1 x2_2 4 t_12 σ_10  h)
  · replace h := am_ip h c_11
    refine am_iconst C0 dX10_asks_75 ci_0 ?_
    refine am_goto C0 dX10_asks_76 (tgt := 85) (by decide) ?_
    exact am_sub [0, 1, 2] rfl (k_M_asks_p85 C0 hd hret x1 x2_2 4 0 σ_10  h)
set_option maxRecDepth 100000 in
set_option maxHeartbeats 4000000 in
theorem m_M_asks {l : Launch} {d : Nat} {σ : am_SS} {q : am_SS} (hd : 1 ≤ d) (x1 : Int32) (h : M_asks x1 σ = some q) : am_Met l yX10_asks cX10_asks 3 none d 0 0 LM (fun b => [.ref (b 0), .int x1]) σ none q :=
  am_metV (plainFor_of_name (by decide)) (lv := fun b => [(0, .ref (b 0)), (1, .int x1)]) (fun _ => rfl) (fun _ => Nat.le_of_ble_eq_true rfl) (fun G C0 _ hret => k_M_asks C0 hd hret x1 σ  h)
set_option maxRecDepth 100000 in
set_option maxHeartbeats 4000000 in
theorem k_M_lawTells_p37 {G : am_T} {d0 : Nat} (C0 : am_C G cX10_lawTells 5 RX10 LM d0) (hd : 4 ≤ d0) (F : Nat) {q : Int32 × am_SS} (hret : am_retI G cX10_lawTells 5 q.1 q.2) (x3 : Int32) (s1 : Int32) (σ : am_SS) (h : M_lawTells_p37 F x3 s1 σ = some q) : am_K G 5 37 [(3, .int x3)] [.int s1, .ref (am_b G 0)] σ := by
  unfold M_lawTells_p37 at h
  refine am_iconst C0 dX10_lawTells_37 ci_0 ?_
  refine am_iload_n C0 dX10_lawTells_38 0 rfl ?_
  refine am_callV C0 (m_M_held (σ := σ) (Nat.le_refl _) s1 0 x3  rfl) mm_yX10_held ln_RX10_327 (As := fun b => [.int s1, .int 0, .int x3]) (fun _ => rfl) (fun _ => rfl) (loM_7_0 kM0).1 (loM_7_0 kM0).2.1 rfl (Nat.le_trans (by decide) hd) rfl (Nat.le_of_ble_eq_true rfl) dX10_lawTells_39 ?_
  have e := Option.some.inj h
  subst e
  exact hret _ _ dX10_lawTells_42
set_option maxRecDepth 100000 in
set_option maxHeartbeats 4000000 in
theorem k_M_lawTells {G : am_T} {d0 : Nat} (C0 : am_C G cX10_lawTells 5 RX10 LM d0) (hd : 4 ≤ d0) (F : Nat) {q : Int32 × am_SS} (hret : am_retI G cX10_lawTells 5 q.1 q.2) (x1 : Int32) (x2 : Int32) (x3 : Int32) (σ : am_SS) (h : M_lawTells F x1 x2 x3 σ = some q) : am_K G 5 0 [(0, .ref (am_b G 0)), (1, .int x1), (2, .int x2), (3, .int x3)] [] σ := by
  unfold M_lawTells at h
  refine am_aload_n C0 dX10_lawTells_0 0 rfl ?_
  refine am_iload_n C0 dX10_lawTells_1 1 rfl ?_
  obtain ⟨q_1, h_q_1, h⟩ := am_bind h
  refine am_callV C0 (m_M_lineOf (σ := σ) (Nat.le_refl _) F x1  h_q_1) mm_yX10_lineOf ln_RX10_324 (As := fun b => [.int x1]) (fun _ => rfl) (fun _ => rfl) (loM_7_0 kM0).1 (loM_7_0 kM0).2.1 rfl (Nat.le_trans (by decide) hd) rfl (Nat.le_of_ble_eq_true rfl) dX10_lawTells_2 ?_
  refine am_istore C0 dX10_lawTells_5 (by decide) rfl (lv' := [(0, .ref (am_b G 0)), (1, .int x1), (2, .int x2), (3, .int x3), (4, .int q_1.1)]) rfl ?_
  refine am_aload_n C0 dX10_lawTells_7 0 rfl ?_
  refine am_iload C0 dX10_lawTells_8 4 rfl ?_
  refine am_iconst C0 dX10_lawTells_10 ci_m1 ?_
  refine am_icmp_ne C0 dX10_lawTells_11 (tgt := 18) (by decide) (fun c_2 => ?_) (fun c_2 => ?_)
  · replace h := am_in h c_2
    refine am_aload_n C0 dX10_lawTells_18 0 rfl ?_
    refine am_iconst C0 dX10_lawTells_19 ci_0 ?_
    refine am_aload_n C0 dX10_lawTells_20 0 rfl ?_
    refine am_getR C0 (j := 13) ff_RX10_46 (loM_7_22 kM0).1 (loM_7_22 kM0).2.1 (loM_7_22 kM0).2.2.1 (loM_7_22 kM0).2.2.2 dX10_lawTells_21 ?_
    refine am_iload C0 dX10_lawTells_24 4 rfl ?_
    obtain ⟨t_3, h_t_3, h⟩ := am_bind h
    refine am_iald C0 (ltM (tgM_7_22 kM0)) (tgM_7_22 kM0) (lnM_7_22 kM0) h_t_3 dX10_lawTells_26 ?_
    refine am_aload_n C0 dX10_lawTells_27 0 rfl ?_
    refine am_getR C0 (j := 14) ff_RX10_49 (loM_7_23 kM0).1 (loM_7_23 kM0).2.1 (loM_7_23 kM0).2.2.1 (loM_7_23 kM0).2.2.2 dX10_lawTells_28 ?_
    refine am_iload C0 dX10_lawTells_31 4 rfl ?_
    obtain ⟨t_4, h_t_4, h⟩ := am_bind h
    refine am_iald C0 (ltM (tgM_7_23 kM0)) (tgM_7_23 kM0) (lnM_7_23 kM0) h_t_4 dX10_lawTells_33 ?_
    obtain ⟨q_5, h_q_5, h⟩ := am_bind h
    refine am_callV C0 (m_M_runs (σ := q_1.2) (Nat.le_refl _) F 0 t_3 t_4  h_q_5) mm_yX10_runs ln_RX10_321 (As := fun b => [.int 0, .int t_3, .int t_4]) (fun _ => rfl) (fun _ => rfl) (loM_7_0 kM0).1 (loM_7_0 kM0).2.1 rfl (Nat.le_trans (by decide) hd) rfl (Nat.le_of_ble_eq_true rfl) dX10_lawTells_34 ?_
    exact am_sub [3] rfl (k_M_lawTells_p37 C0 hd F hret x3 q_5.1 q_5.2  h)
  · replace h := am_ip h c_2
    refine am_iload_n C0 dX10_lawTells_14 2 rfl ?_
    refine am_goto C0 dX10_lawTells_15 (tgt := 37) (by decide) ?_
    exact am_sub [3] rfl (k_M_lawTells_p37 C0 hd F hret x3 x2 q_1.2  h)
set_option maxRecDepth 100000 in
set_option maxHeartbeats 4000000 in
theorem m_M_lawTells {l : Launch} {d : Nat} {σ : am_SS} {q : Int32 × am_SS} (hd : 4 ≤ d) (F : Nat) (x1 : Int32) (x2 : Int32) (x3 : Int32) (h : M_lawTells F x1 x2 x3 σ = some q) : am_Met l yX10_lawTells cX10_lawTells 5 (some .int) d 0 0 LM (fun b => [.ref (b 0), .int x1, .int x2, .int x3]) σ (some (.int q.1)) q.2 :=
  am_metI (plainFor_of_name (by decide)) rfl (lv := fun b => [(0, .ref (b 0)), (1, .int x1), (2, .int x2), (3, .int x3)]) (fun _ => rfl) (fun _ => Nat.le_of_ble_eq_true rfl) (fun G C0 _ hret => k_M_lawTells C0 hd F hret x1 x2 x3 σ  h)
set_option maxRecDepth 100000 in
set_option maxHeartbeats 4000000 in
theorem k_M_pressesOf {G : am_T} {d0 : Nat} (C0 : am_C G cX10_pressesOf 2 RX10 LM d0) (hd : 5 ≤ d0) (F : Nat) {q : Int32 × am_SS} (hret : am_retI G cX10_pressesOf 2 q.1 q.2) (x1 : Int32) (σ : am_SS) (h : M_pressesOf F x1 σ = some q) : am_K G 2 0 [(0, .ref (am_b G 0)), (1, .int x1)] [] σ := by
  unfold M_pressesOf at h
  refine am_aload_n C0 dX10_pressesOf_0 0 rfl ?_
  refine am_iload_n C0 dX10_pressesOf_1 1 rfl ?_
  obtain ⟨q_1, h_q_1, h⟩ := am_bind h
  refine am_callV C0 (m_M_asks (σ := σ) (Nat.le_refl _) x1  h_q_1) mm_yX10_asks ln_RX10_330 (As := fun b => [.int x1]) (fun _ => rfl) (fun _ => rfl) (loM_7_0 kM0).1 (loM_7_0 kM0).2.1 rfl (Nat.le_trans (by decide) hd) rfl (Nat.le_of_ble_eq_true rfl) dX10_pressesOf_2 ?_
  refine am_aload_n C0 dX10_pressesOf_5 0 rfl ?_
  refine am_iconst C0 dX10_pressesOf_6 ci_0 ?_
  refine am_aload_n C0 dX10_pressesOf_7 0 rfl ?_
  refine am_getR C0 (j := 22) ff_RX10_77 (loM_7_42 kM0).1 (loM_7_42 kM0).2.1 (loM_7_42 kM0).2.2.1 (loM_7_42 kM0).2.2.2 dX10_pressesOf_8 ?_
  refine am_iconst C0 dX10_pressesOf_11 ci_0 ?_
  obtain ⟨t_2, h_t_2, h⟩ := am_bind h
  refine am_iald C0 (ltM (tgM_7_42 kM0)) (tgM_7_42 kM0) (lnM_7_42 kM0) h_t_2 dX10_pressesOf_12 ?_
  refine am_bipush C0 dX10_pressesOf_13 kb_20 ?_
  obtain ⟨q_3, h_q_3, h⟩ := am_bind h
  refine am_callV C0 (m_M_lawTells (σ := q_1) (Nat.le_refl _) F 0 t_2 20  h_q_3) mm_yX10_lawTells ln_RX10_333 (As := fun b => [.int 0, .int t_2, .int 20]) (fun _ => rfl) (fun _ => rfl) (loM_7_0 kM0).1 (loM_7_0 kM0).2.1 rfl (Nat.le_trans (by decide) hd) rfl (Nat.le_of_ble_eq_true rfl) dX10_pressesOf_15 ?_
  have e := Option.some.inj h
  subst e
  exact hret _ _ dX10_pressesOf_18
set_option maxRecDepth 100000 in
set_option maxHeartbeats 4000000 in
theorem m_M_pressesOf {l : Launch} {d : Nat} {σ : am_SS} {q : Int32 × am_SS} (hd : 5 ≤ d) (F : Nat) (x1 : Int32) (h : M_pressesOf F x1 σ = some q) : am_Met l yX10_pressesOf cX10_pressesOf 2 (some .int) d 0 0 LM (fun b => [.ref (b 0), .int x1]) σ (some (.int q.1)) q.2 :=
  am_metI (plainFor_of_name (by decide)) rfl (lv := fun b => [(0, .ref (b 0)), (1, .int x1)]) (fun _ => rfl) (fun _ => Nat.le_of_ble_eq_true rfl) (fun G C0 _ hret => k_M_pressesOf C0 hd F hret x1 σ  h)
set_option maxRecDepth 100000 in
set_option maxHeartbeats 4000000 in
theorem k_M_restsOf {G : am_T} {d0 : Nat} (C0 : am_C G cX10_restsOf 2 RX10 LM d0) (hd : 5 ≤ d0) (F : Nat) {q : Int32 × am_SS} (hret : am_retI G cX10_restsOf 2 q.1 q.2) (x1 : Int32) (σ : am_SS) (h : M_restsOf F x1 σ = some q) : am_K G 2 0 [(0, .ref (am_b G 0)), (1, .int x1)] [] σ := by
  unfold M_restsOf at h
  refine am_aload_n C0 dX10_restsOf_0 0 rfl ?_
  refine am_iload_n C0 dX10_restsOf_1 1 rfl ?_
  obtain ⟨q_1, h_q_1, h⟩ := am_bind h
  refine am_callV C0 (m_M_asks (σ := σ) (Nat.le_refl _) x1  h_q_1) mm_yX10_asks ln_RX10_330 (As := fun b => [.int x1]) (fun _ => rfl) (fun _ => rfl) (loM_7_0 kM0).1 (loM_7_0 kM0).2.1 rfl (Nat.le_trans (by decide) hd) rfl (Nat.le_of_ble_eq_true rfl) dX10_restsOf_2 ?_
  refine am_aload_n C0 dX10_restsOf_5 0 rfl ?_
  refine am_iconst C0 dX10_restsOf_6 ci_1 ?_
  refine am_bipush C0 dX10_restsOf_7 kb_10 ?_
  refine am_iconst C0 dX10_restsOf_9 ci_5 ?_
  refine am_aload_n C0 dX10_restsOf_10 0 rfl ?_
  refine am_getR C0 (j := 22) ff_RX10_77 (loM_7_42 kM0).1 (loM_7_42 kM0).2.1 (loM_7_42 kM0).2.2.1 (loM_7_42 kM0).2.2.2 dX10_restsOf_11 ?_
  refine am_iconst C0 dX10_restsOf_14 ci_4 ?_
  obtain ⟨t_2, h_t_2, h⟩ := am_bind h
  refine am_iald C0 (ltM (tgM_7_42 kM0)) (tgM_7_42 kM0) (lnM_7_42 kM0) h_t_2 dX10_restsOf_15 ?_
  refine am_imul C0 dX10_restsOf_16 ?_
  refine am_iadd C0 dX10_restsOf_17 ?_
  refine am_bipush C0 dX10_restsOf_18 kb_99 ?_
  obtain ⟨q_3, h_q_3, h⟩ := am_bind h
  refine am_callV C0 (m_M_lawTells (σ := q_1) (Nat.le_refl _) F 1 (10 + (5 * t_2)) 99  h_q_3) mm_yX10_lawTells ln_RX10_333 (As := fun b => [.int 1, .int (10 + (5 * t_2)), .int 99]) (fun _ => rfl) (fun _ => rfl) (loM_7_0 kM0).1 (loM_7_0 kM0).2.1 rfl (Nat.le_trans (by decide) hd) rfl (Nat.le_of_ble_eq_true rfl) dX10_restsOf_20 ?_
  have e := Option.some.inj h
  subst e
  exact hret _ _ dX10_restsOf_23
set_option maxRecDepth 100000 in
set_option maxHeartbeats 4000000 in
theorem m_M_restsOf {l : Launch} {d : Nat} {σ : am_SS} {q : Int32 × am_SS} (hd : 5 ≤ d) (F : Nat) (x1 : Int32) (h : M_restsOf F x1 σ = some q) : am_Met l yX10_restsOf cX10_restsOf 2 (some .int) d 0 0 LM (fun b => [.ref (b 0), .int x1]) σ (some (.int q.1)) q.2 :=
  am_metI (plainFor_of_name (by decide)) rfl (lv := fun b => [(0, .ref (b 0)), (1, .int x1)]) (fun _ => rfl) (fun _ => Nat.le_of_ble_eq_true rfl) (fun G C0 _ hret => k_M_restsOf C0 hd F hret x1 σ  h)
set_option maxRecDepth 100000 in
set_option maxHeartbeats 4000000 in
theorem k_M_readsOf {G : am_T} {d0 : Nat} (C0 : am_C G cX10_readsOf 2 RX10 LM d0) (hd : 5 ≤ d0) (F : Nat) {q : Int32 × am_SS} (hret : am_retI G cX10_readsOf 2 q.1 q.2) (x1 : Int32) (σ : am_SS) (h : M_readsOf F x1 σ = some q) : am_K G 2 0 [(0, .ref (am_b G 0)), (1, .int x1)] [] σ := by
  unfold M_readsOf at h
  refine am_aload_n C0 dX10_readsOf_0 0 rfl ?_
  refine am_iload_n C0 dX10_readsOf_1 1 rfl ?_
  obtain ⟨q_1, h_q_1, h⟩ := am_bind h
  refine am_callV C0 (m_M_asks (σ := σ) (Nat.le_refl _) x1  h_q_1) mm_yX10_asks ln_RX10_330 (As := fun b => [.int x1]) (fun _ => rfl) (fun _ => rfl) (loM_7_0 kM0).1 (loM_7_0 kM0).2.1 rfl (Nat.le_trans (by decide) hd) rfl (Nat.le_of_ble_eq_true rfl) dX10_readsOf_2 ?_
  refine am_aload_n C0 dX10_readsOf_5 0 rfl ?_
  refine am_iconst C0 dX10_readsOf_6 ci_2 ?_
  refine am_bipush C0 dX10_readsOf_7 kb_40 ?_
  refine am_aload_n C0 dX10_readsOf_9 0 rfl ?_
  refine am_getR C0 (j := 22) ff_RX10_77 (loM_7_42 kM0).1 (loM_7_42 kM0).2.1 (loM_7_42 kM0).2.2.1 (loM_7_42 kM0).2.2.2 dX10_readsOf_10 ?_
  refine am_iconst C0 dX10_readsOf_13 ci_4 ?_
  obtain ⟨t_2, h_t_2, h⟩ := am_bind h
  refine am_iald C0 (ltM (tgM_7_42 kM0)) (tgM_7_42 kM0) (lnM_7_42 kM0) h_t_2 dX10_readsOf_14 ?_
  refine am_imul C0 dX10_readsOf_15 ?_
  refine am_aload_n C0 dX10_readsOf_16 0 rfl ?_
  refine am_getR C0 (j := 22) ff_RX10_77 (loM_7_42 kM0).1 (loM_7_42 kM0).2.1 (loM_7_42 kM0).2.2.1 (loM_7_42 kM0).2.2.2 dX10_readsOf_17 ?_
  refine am_iconst C0 dX10_readsOf_20 ci_5 ?_
  obtain ⟨t_3, h_t_3, h⟩ := am_bind h
  refine am_iald C0 (ltM (tgM_7_42 kM0)) (tgM_7_42 kM0) (lnM_7_42 kM0) h_t_3 dX10_readsOf_21 ?_
  refine am_iadd C0 dX10_readsOf_22 ?_
  refine am_sipush C0 dX10_readsOf_23 cs_1000 ?_
  obtain ⟨q_4, h_q_4, h⟩ := am_bind h
  refine am_callV C0 (m_M_lawTells (σ := q_1) (Nat.le_refl _) F 2 ((40 * t_2) + t_3) 1000  h_q_4) mm_yX10_lawTells ln_RX10_333 (As := fun b => [.int 2, .int ((40 * t_2) + t_3), .int 1000]) (fun _ => rfl) (fun _ => rfl) (loM_7_0 kM0).1 (loM_7_0 kM0).2.1 rfl (Nat.le_trans (by decide) hd) rfl (Nat.le_of_ble_eq_true rfl) dX10_readsOf_26 ?_
  have e := Option.some.inj h
  subst e
  exact hret _ _ dX10_readsOf_29
set_option maxRecDepth 100000 in
set_option maxHeartbeats 4000000 in
theorem m_M_readsOf {l : Launch} {d : Nat} {σ : am_SS} {q : Int32 × am_SS} (hd : 5 ≤ d) (F : Nat) (x1 : Int32) (h : M_readsOf F x1 σ = some q) : am_Met l yX10_readsOf cX10_readsOf 2 (some .int) d 0 0 LM (fun b => [.ref (b 0), .int x1]) σ (some (.int q.1)) q.2 :=
  am_metI (plainFor_of_name (by decide)) rfl (lv := fun b => [(0, .ref (b 0)), (1, .int x1)]) (fun _ => rfl) (fun _ => Nat.le_of_ble_eq_true rfl) (fun G C0 _ hret => k_M_readsOf C0 hd F hret x1 σ  h)
set_option maxRecDepth 100000 in
set_option maxHeartbeats 4000000 in
theorem k_M_notes {G : am_T} {d0 : Nat} (C0 : am_C G cX10_notes 5 RX10 LM d0) (hd : 1 ≤ d0) {q : am_SS} (hret : am_retV G cX10_notes 5 q) (x1 : Int32) (x2 : Int32) (x3 : Int32) (σ : am_SS) (h : M_notes x1 x2 x3 σ = some q) : am_K G 5 0 [(0, .ref (am_b G 0)), (1, .int x1), (2, .int x2), (3, .int x3)] [] σ := by
  unfold M_notes at h
  refine am_aload_n C0 dX10_notes_0 0 rfl ?_
  refine am_getI C0 ff_RX10_137 (loM_7_5 kM0).1 (loM_7_5 kM0).2.1 (loM_7_5 kM0).2.2.1 (loM_7_5 kM0).2.2.2 dX10_notes_1 ?_
  refine am_if_ne C0 dX10_notes_4 (tgt := 19) (by decide) (fun c_1 => ?_) (fun c_1 => ?_)
  · replace h := am_in h c_1
    have e := Option.some.inj h
    subst e
    exact hret _ _ dX10_notes_19
  · replace h := am_ip h c_1
    refine am_aload_n C0 dX10_notes_7 0 rfl ?_
    refine am_getR C0 (j := 1) ff_RX10_7 (loM_7_1 kM0).1 (loM_7_1 kM0).2.1 (loM_7_1 kM0).2.2.1 (loM_7_1 kM0).2.2.2 dX10_notes_8 ?_
    refine am_iconst C0 dX10_notes_11 ci_2 ?_
    obtain ⟨t_2, h_t_2, h⟩ := am_bind h
    refine am_iald C0 (ltM (tgM_7_1 kM0)) (tgM_7_1 kM0) (lnM_7_1 kM0) h_t_2 dX10_notes_12 ?_
    refine am_sipush C0 dX10_notes_13 cs_150 ?_
    refine am_icmp_ne C0 dX10_notes_16 (tgt := 20) (by decide) (fun c_3 => ?_) (fun c_3 => ?_)
    · replace h := am_in h c_3
      refine am_iconst C0 dX10_notes_20 ci_4 ?_
      refine am_aload_n C0 dX10_notes_21 0 rfl ?_
      refine am_getR C0 (j := 1) ff_RX10_7 (loM_7_1 kM0).1 (loM_7_1 kM0).2.1 (loM_7_1 kM0).2.2.1 (loM_7_1 kM0).2.2.2 dX10_notes_22 ?_
      refine am_iconst C0 dX10_notes_25 ci_2 ?_
      obtain ⟨t_4, h_t_4, h⟩ := am_bind h
      refine am_iald C0 (ltM (tgM_7_1 kM0)) (tgM_7_1 kM0) (lnM_7_1 kM0) h_t_4 dX10_notes_26 ?_
      refine am_imul C0 dX10_notes_27 ?_
      obtain ⟨x4_5, e_x4_5, h⟩ := am_lt h
      refine am_top e_x4_5 ?_
      refine am_istore C0 dX10_notes_28 (by decide) rfl (lv' := [(0, .ref (am_b G 0)), (1, .int x1), (2, .int x2), (3, .int x3), (4, .int x4_5)]) rfl ?_
      refine am_aload_n C0 dX10_notes_30 0 rfl ?_
      refine am_getR C0 (j := 8) ff_RX10_31 (loM_7_12 kM0).1 (loM_7_12 kM0).2.1 (loM_7_12 kM0).2.2.1 (loM_7_12 kM0).2.2.2 dX10_notes_31 ?_
      refine am_iload C0 dX10_notes_34 4 rfl ?_
      refine am_aload_n C0 dX10_notes_36 0 rfl ?_
      refine am_getR C0 (j := 1) ff_RX10_7 (loM_7_1 kM0).1 (loM_7_1 kM0).2.1 (loM_7_1 kM0).2.2.1 (loM_7_1 kM0).2.2.2 dX10_notes_37 ?_
      refine am_iconst C0 dX10_notes_40 ci_0 ?_
      obtain ⟨t_6, h_t_6, h⟩ := am_bind h
      refine am_iald C0 (ltM (tgM_7_1 kM0)) (tgM_7_1 kM0) (lnM_7_1 kM0) h_t_6 dX10_notes_41 ?_
      obtain ⟨σ_7, h_σ_7, h⟩ := am_bind h
      refine am_iast C0 (ltM (tgM_7_12 kM0)) (tgM_7_12 kM0) (lnM_7_12 kM0) h_σ_7 dX10_notes_42 ?_
      refine am_aload_n C0 dX10_notes_43 0 rfl ?_
      refine am_getR C0 (j := 8) ff_RX10_31 (loM_7_12 kM0).1 (loM_7_12 kM0).2.1 (loM_7_12 kM0).2.2.1 (loM_7_12 kM0).2.2.2 dX10_notes_44 ?_
      refine am_iload C0 dX10_notes_47 4 rfl ?_
      refine am_iconst C0 dX10_notes_49 ci_1 ?_
      refine am_iadd C0 dX10_notes_50 ?_
      refine am_iload_n C0 dX10_notes_51 1 rfl ?_
      obtain ⟨σ_8, h_σ_8, h⟩ := am_bind h
      refine am_iast C0 (ltM (tgM_7_12 kM0)) (tgM_7_12 kM0) (lnM_7_12 kM0) h_σ_8 dX10_notes_52 ?_
      refine am_aload_n C0 dX10_notes_53 0 rfl ?_
      refine am_getR C0 (j := 8) ff_RX10_31 (loM_7_12 kM0).1 (loM_7_12 kM0).2.1 (loM_7_12 kM0).2.2.1 (loM_7_12 kM0).2.2.2 dX10_notes_54 ?_
      refine am_iload C0 dX10_notes_57 4 rfl ?_
      refine am_iconst C0 dX10_notes_59 ci_2 ?_
      refine am_iadd C0 dX10_notes_60 ?_
      refine am_iload_n C0 dX10_notes_61 2 rfl ?_
      obtain ⟨σ_9, h_σ_9, h⟩ := am_bind h
      refine am_iast C0 (ltM (tgM_7_12 kM0)) (tgM_7_12 kM0) (lnM_7_12 kM0) h_σ_9 dX10_notes_62 ?_
      refine am_aload_n C0 dX10_notes_63 0 rfl ?_
      refine am_getR C0 (j := 8) ff_RX10_31 (loM_7_12 kM0).1 (loM_7_12 kM0).2.1 (loM_7_12 kM0).2.2.1 (loM_7_12 kM0).2.2.2 dX10_notes_64 ?_
      refine am_iload C0 dX10_notes_67 4 rfl ?_
      refine am_iconst C0 dX10_notes_69 ci_3 ?_
      refine am_iadd C0 dX10_notes_70 ?_
      refine am_iload_n C0 dX10_notes_71 3 rfl ?_
      obtain ⟨σ_10, h_σ_10, h⟩ := am_bind h
      refine am_iast C0 (ltM (tgM_7_12 kM0)) (tgM_7_12 kM0) (lnM_7_12 kM0) h_σ_10 dX10_notes_72 ?_
      refine am_aload_n C0 dX10_notes_73 0 rfl ?_
      refine am_getR C0 (j := 1) ff_RX10_7 (loM_7_1 kM0).1 (loM_7_1 kM0).2.1 (loM_7_1 kM0).2.2.1 (loM_7_1 kM0).2.2.2 dX10_notes_74 ?_
      refine am_iconst C0 dX10_notes_77 ci_2 ?_
      refine am_aload_n C0 dX10_notes_78 0 rfl ?_
      refine am_getR C0 (j := 1) ff_RX10_7 (loM_7_1 kM0).1 (loM_7_1 kM0).2.1 (loM_7_1 kM0).2.2.1 (loM_7_1 kM0).2.2.2 dX10_notes_79 ?_
      refine am_iconst C0 dX10_notes_82 ci_2 ?_
      obtain ⟨t_11, h_t_11, h⟩ := am_bind h
      refine am_iald C0 (ltM (tgM_7_1 kM0)) (tgM_7_1 kM0) (lnM_7_1 kM0) h_t_11 dX10_notes_83 ?_
      refine am_iconst C0 dX10_notes_84 ci_1 ?_
      refine am_iadd C0 dX10_notes_85 ?_
      obtain ⟨σ_12, h_σ_12, h⟩ := am_bind h
      refine am_iast C0 (ltM (tgM_7_1 kM0)) (tgM_7_1 kM0) (lnM_7_1 kM0) h_σ_12 dX10_notes_86 ?_
      have e := Option.some.inj h
      subst e
      exact hret _ _ dX10_notes_87
    · replace h := am_ip h c_3
      have e := Option.some.inj h
      subst e
      exact hret _ _ dX10_notes_19
set_option maxRecDepth 100000 in
set_option maxHeartbeats 4000000 in
theorem m_M_notes {l : Launch} {d : Nat} {σ : am_SS} {q : am_SS} (hd : 1 ≤ d) (x1 : Int32) (x2 : Int32) (x3 : Int32) (h : M_notes x1 x2 x3 σ = some q) : am_Met l yX10_notes cX10_notes 5 none d 0 0 LM (fun b => [.ref (b 0), .int x1, .int x2, .int x3]) σ none q :=
  am_metV (plainFor_of_name (by decide)) (lv := fun b => [(0, .ref (b 0)), (1, .int x1), (2, .int x2), (3, .int x3)]) (fun _ => rfl) (fun _ => Nat.le_of_ble_eq_true rfl) (fun G C0 _ hret => k_M_notes C0 hd hret x1 x2 x3 σ  h)
set_option maxRecDepth 100000 in
set_option maxHeartbeats 4000000 in
theorem k_M_isGivenUp_p26 {G : am_T} {d0 : Nat} (C0 : am_C G cX10_isGivenUp 2 RX10 LM d0) (hd : 1 ≤ d0) {σ : am_SS} {q : Bool} (hret : am_retI G cX10_isGivenUp 2 (am_bI q) σ) (h : M_isGivenUp_p26  σ = some q) : am_K G 2 26 [] [] σ := by
  unfold M_isGivenUp_p26 at h
  refine am_iconst C0 dX10_isGivenUp_26 ci_1 ?_
  refine am_goto C0 dX10_isGivenUp_27 (tgt := 31) (by decide) ?_
  have e := Option.some.inj h
  subst e
  exact hret _ _ dX10_isGivenUp_31
set_option maxRecDepth 100000 in
set_option maxHeartbeats 4000000 in
theorem k_M_isGivenUp {G : am_T} {d0 : Nat} (C0 : am_C G cX10_isGivenUp 2 RX10 LM d0) (hd : 1 ≤ d0) {σ : am_SS} {q : Bool} (hret : am_retI G cX10_isGivenUp 2 (am_bI q) σ) (x1 : Int32) (h : M_isGivenUp x1 σ = some q) : am_K G 2 0 [(0, .ref (am_b G 0)), (1, .int x1)] [] σ := by
  unfold M_isGivenUp at h
  refine am_aload_n C0 dX10_isGivenUp_0 0 rfl ?_
  refine am_getR C0 (j := 1) ff_RX10_7 (loM_7_1 kM0).1 (loM_7_1 kM0).2.1 (loM_7_1 kM0).2.2.1 (loM_7_1 kM0).2.2.2 dX10_isGivenUp_1 ?_
  refine am_bipush C0 dX10_isGivenUp_4 kb_41 ?_
  refine am_iload_n C0 dX10_isGivenUp_6 1 rfl ?_
  refine am_iadd C0 dX10_isGivenUp_7 ?_
  obtain ⟨t_1, h_t_1, h⟩ := am_bind h
  refine am_iald C0 (ltM (tgM_7_1 kM0)) (tgM_7_1 kM0) (lnM_7_1 kM0) h_t_1 dX10_isGivenUp_8 ?_
  refine am_iconst C0 dX10_isGivenUp_9 ci_1 ?_
  refine am_icmp_eq C0 dX10_isGivenUp_10 (tgt := 26) (by decide) (fun c_2 => ?_) (fun c_2 => ?_)
  · replace h := am_ip h c_2
    exact am_sub [] rfl (k_M_isGivenUp_p26 C0 hd hret   h)
  · replace h := am_in h c_2
    refine am_aload_n C0 dX10_isGivenUp_13 0 rfl ?_
    refine am_getR C0 (j := 1) ff_RX10_7 (loM_7_1 kM0).1 (loM_7_1 kM0).2.1 (loM_7_1 kM0).2.2.1 (loM_7_1 kM0).2.2.2 dX10_isGivenUp_14 ?_
    refine am_bipush C0 dX10_isGivenUp_17 kb_29 ?_
    refine am_iload_n C0 dX10_isGivenUp_19 1 rfl ?_
    refine am_iadd C0 dX10_isGivenUp_20 ?_
    obtain ⟨t_3, h_t_3, h⟩ := am_bind h
    refine am_iald C0 (ltM (tgM_7_1 kM0)) (tgM_7_1 kM0) (lnM_7_1 kM0) h_t_3 dX10_isGivenUp_21 ?_
    refine am_iconst C0 dX10_isGivenUp_22 ci_1 ?_
    refine am_icmp_ne C0 dX10_isGivenUp_23 (tgt := 30) (by decide) (fun c_4 => ?_) (fun c_4 => ?_)
    · replace h := am_in h c_4
      refine am_iconst C0 dX10_isGivenUp_30 ci_0 ?_
      have e := Option.some.inj h
      subst e
      exact hret _ _ dX10_isGivenUp_31
    · replace h := am_ip h c_4
      exact am_sub [] rfl (k_M_isGivenUp_p26 C0 hd hret   h)
set_option maxRecDepth 100000 in
set_option maxHeartbeats 4000000 in
theorem m_M_isGivenUp {l : Launch} {d : Nat} {σ : am_SS} {q : Bool} (hd : 1 ≤ d) (x1 : Int32) (h : M_isGivenUp x1 σ = some q) : am_Met l yX10_isGivenUp cX10_isGivenUp 2 (some .boolean) d 0 0 LM (fun b => [.ref (b 0), .int x1]) σ (some (.int (am_bI q))) σ :=
  am_metI (plainFor_of_name (by decide)) (am_bI_nr _) (lv := fun b => [(0, .ref (b 0)), (1, .int x1)]) (fun _ => rfl) (fun _ => Nat.le_of_ble_eq_true rfl) (fun G C0 _ hret => k_M_isGivenUp C0 hd hret x1  h)
set_option maxRecDepth 100000 in
set_option maxHeartbeats 4000000 in
theorem k_M_hasNeeds_p40 {G : am_T} {d0 : Nat} (C0 : am_C G cX10_hasNeeds 3 RX10 LM d0) (hd : 2 ≤ d0) (rec2 : Int32 → Int32 → am_SS → Option Bool) (F : Nat) {σ : am_SS} {q : Bool} (hret : am_retI G cX10_hasNeeds 3 (am_bI q) σ) (hrec2 : ∀ (x1 : Int32) (x2 : Int32), rec2 x1 x2 σ = some q → am_K G 3 2 [(0, .ref (am_b G 0)), (1, .int x1), (2, .int x2)] [] σ) (x1 : Int32) (x2 : Int32) (h : M_hasNeeds_p40 rec2 F x1 x2 σ = some q) : am_K G 3 40 [(0, .ref (am_b G 0)), (1, .int x1), (2, .int x2)] [] σ := by
  unfold M_hasNeeds_p40 at h
  obtain ⟨x2_1, e_x2_1, h⟩ := am_lt h
  refine am_iinc C0 dX10_hasNeeds_40 2 rfl (by rw [ci_1]; exact e_x2_1) (by decide) rfl (lv' := [(0, .ref (am_b G 0)), (1, .int x1), (2, .int x2_1)]) rfl ?_
  refine am_goto C0 dX10_hasNeeds_43 (tgt := 2) (by decide) ?_
  exact am_sub [0, 1, 2] rfl (hrec2 x1 x2_1  h)
set_option maxRecDepth 100000 in
set_option maxHeartbeats 4000000 in
theorem k_M_hasNeeds_l2 {G : am_T} {d0 : Nat} (C0 : am_C G cX10_hasNeeds 3 RX10 LM d0) (hd : 2 ≤ d0) (F : Nat) {σ : am_SS} {q : Bool} (hret : am_retI G cX10_hasNeeds 3 (am_bI q) σ) : ∀ (n : Nat) (x1 : Int32) (x2 : Int32) (h : M_hasNeeds_l2 F n x1 x2 σ = some q), am_K G 3 2 [(0, .ref (am_b G 0)), (1, .int x1), (2, .int x2)] [] σ := by
  intro n
  induction n with
  | zero =>
    intro x1 x2 h
    rw [M_hasNeeds_l2] at h
    cases h
  | succ n ih =>
    intro x1 x2 h
    rw [M_hasNeeds_l2] at h
    refine am_iload_n C0 dX10_hasNeeds_2 2 rfl ?_
    refine am_aload_n C0 dX10_hasNeeds_3 0 rfl ?_
    refine am_getI C0 ff_RX10_143 (loM_7_6 kM0).1 (loM_7_6 kM0).2.1 (loM_7_6 kM0).2.2.1 (loM_7_6 kM0).2.2.2 dX10_hasNeeds_4 ?_
    refine am_icmp_ge C0 dX10_hasNeeds_7 (tgt := 46) (by decide) (fun c_1 => ?_) (fun c_1 => ?_)
    · replace h := am_in h c_1
      refine am_iconst C0 dX10_hasNeeds_46 ci_1 ?_
      have e := Option.some.inj h
      subst e
      exact hret _ _ dX10_hasNeeds_47
    · replace h := am_ip h c_1
      refine am_aload_n C0 dX10_hasNeeds_10 0 rfl ?_
      refine am_aload_n C0 dX10_hasNeeds_11 0 rfl ?_
      refine am_getR C0 (j := 21) ff_RX10_74 (loM_7_41 kM0).1 (loM_7_41 kM0).2.1 (loM_7_41 kM0).2.2.1 (loM_7_41 kM0).2.2.2 dX10_hasNeeds_12 ?_
      refine am_iload_n C0 dX10_hasNeeds_15 1 rfl ?_
      obtain ⟨t_2, h_t_2, h⟩ := am_bind h
      refine am_iald C0 (ltM (tgM_7_41 kM0)) (tgM_7_41 kM0) (lnM_7_41 kM0) h_t_2 dX10_hasNeeds_16 ?_
      refine am_iload_n C0 dX10_hasNeeds_17 2 rfl ?_
      refine am_callV C0 (m_M_has (σ := σ) (Nat.le_refl _) t_2 x2  rfl) mm_yX10_has ln_RX10_336 (As := fun b => [.int t_2, .int x2]) (fun _ => rfl) (fun _ => rfl) (loM_7_0 kM0).1 (loM_7_0 kM0).2.1 rfl (Nat.le_trans (by decide) hd) rfl (Nat.le_of_ble_eq_true rfl) dX10_hasNeeds_18 ?_
      refine am_ifB_eq C0 dX10_hasNeeds_21 (tgt := 40) (by decide) (fun c_4 => ?_) (fun c_4 => ?_)
      · replace h := am_in h c_4
        exact am_sub [0, 1, 2] rfl (k_M_hasNeeds_p40 C0 hd _ F hret (fun z1 z2 z => ih z1 z2 z) x1 x2  h)
      · replace h := am_ip h c_4
        refine am_aload_n C0 dX10_hasNeeds_24 0 rfl ?_
        refine am_getR C0 (j := 1) ff_RX10_7 (loM_7_1 kM0).1 (loM_7_1 kM0).2.1 (loM_7_1 kM0).2.2.1 (loM_7_1 kM0).2.2.2 dX10_hasNeeds_25 ?_
        refine am_bipush C0 dX10_hasNeeds_28 kb_17 ?_
        refine am_iload_n C0 dX10_hasNeeds_30 2 rfl ?_
        refine am_iadd C0 dX10_hasNeeds_31 ?_
        obtain ⟨t_5, h_t_5, h⟩ := am_bind h
        refine am_iald C0 (ltM (tgM_7_1 kM0)) (tgM_7_1 kM0) (lnM_7_1 kM0) h_t_5 dX10_hasNeeds_32 ?_
        refine am_bipush C0 dX10_hasNeeds_33 kb_10 ?_
        refine am_icmp_ge C0 dX10_hasNeeds_35 (tgt := 40) (by decide) (fun c_6 => ?_) (fun c_6 => ?_)
        · replace h := am_in h c_6
          exact am_sub [0, 1, 2] rfl (k_M_hasNeeds_p40 C0 hd _ F hret (fun z1 z2 z => ih z1 z2 z) x1 x2  h)
        · replace h := am_ip h c_6
          refine am_iconst C0 dX10_hasNeeds_38 ci_0 ?_
          have e := Option.some.inj h
          subst e
          exact hret _ _ dX10_hasNeeds_39
set_option maxRecDepth 100000 in
set_option maxHeartbeats 4000000 in
theorem k_M_hasNeeds {G : am_T} {d0 : Nat} (C0 : am_C G cX10_hasNeeds 3 RX10 LM d0) (hd : 2 ≤ d0) (F : Nat) {σ : am_SS} {q : Bool} (hret : am_retI G cX10_hasNeeds 3 (am_bI q) σ) (x1 : Int32) (h : M_hasNeeds F x1 σ = some q) : am_K G 3 0 [(0, .ref (am_b G 0)), (1, .int x1)] [] σ := by
  unfold M_hasNeeds at h
  refine am_iconst C0 dX10_hasNeeds_0 ci_0 ?_
  refine am_istore_n C0 dX10_hasNeeds_1 rfl (by decide) rfl (lv' := [(0, .ref (am_b G 0)), (1, .int x1), (2, .int 0)]) rfl ?_
  exact am_sub [0, 1, 2] rfl (k_M_hasNeeds_l2 C0 hd F hret F x1 0  h)
set_option maxRecDepth 100000 in
set_option maxHeartbeats 4000000 in
theorem m_M_hasNeeds {l : Launch} {d : Nat} {σ : am_SS} {q : Bool} (hd : 2 ≤ d) (F : Nat) (x1 : Int32) (h : M_hasNeeds F x1 σ = some q) : am_Met l yX10_hasNeeds cX10_hasNeeds 3 (some .boolean) d 0 0 LM (fun b => [.ref (b 0), .int x1]) σ (some (.int (am_bI q))) σ :=
  am_metI (plainFor_of_name (by decide)) (am_bI_nr _) (lv := fun b => [(0, .ref (b 0)), (1, .int x1)]) (fun _ => rfl) (fun _ => Nat.le_of_ble_eq_true rfl) (fun G C0 _ hret => k_M_hasNeeds C0 hd F hret x1  h)
set_option maxRecDepth 100000 in
set_option maxHeartbeats 4000000 in
theorem k_M_marches {G : am_T} {d0 : Nat} (C0 : am_C G cX10_marches 3 RX10 LM d0) (hd : 3 ≤ d0) (F : Nat) {q : am_SS} (hret : am_retV G cX10_marches 3 q) (x1 : Int32) (x2 : Int32) (σ : am_SS) (h : M_marches F x1 x2 σ = some q) : am_K G 3 0 [(0, .ref (am_b G 0)), (1, .int x1), (2, .int x2)] [] σ := by
  unfold M_marches at h
  refine am_aload_n C0 dX10_marches_0 0 rfl ?_
  refine am_iload_n C0 dX10_marches_1 1 rfl ?_
  obtain ⟨q_1, h_q_1, h⟩ := am_bind h
  refine am_callV C0 (m_M_isGivenUp (σ := σ) (Nat.le_refl _) x1  h_q_1) mm_yX10_isGivenUp ln_RX10_340 (As := fun b => [.int x1]) (fun _ => rfl) (fun _ => rfl) (loM_7_0 kM0).1 (loM_7_0 kM0).2.1 rfl (Nat.le_trans (by decide) hd) rfl (Nat.le_of_ble_eq_true rfl) dX10_marches_2 ?_
  refine am_ifB_eq C0 dX10_marches_5 (tgt := 44) (by decide) (fun c_2 => ?_) (fun c_2 => ?_)
  · replace h := am_in h c_2
    refine am_aload_n C0 dX10_marches_44 0 rfl ?_
    refine am_iload_n C0 dX10_marches_45 1 rfl ?_
    obtain ⟨q_3, h_q_3, h⟩ := am_bind h
    refine am_callV C0 (m_M_hasNeeds (σ := σ) (Nat.le_refl _) F x1  h_q_3) mm_yX10_hasNeeds ln_RX10_347 (As := fun b => [.int x1]) (fun _ => rfl) (fun _ => rfl) (loM_7_0 kM0).1 (loM_7_0 kM0).2.1 rfl (Nat.le_trans (by decide) hd) rfl (Nat.le_of_ble_eq_true rfl) dX10_marches_46 ?_
    refine am_ifB_ne C0 dX10_marches_49 (tgt := 68) (by decide) (fun c_4 => ?_) (fun c_4 => ?_)
    · replace h := am_ip h c_4
      refine am_aload_n C0 dX10_marches_68 0 rfl ?_
      refine am_getR C0 (j := 1) ff_RX10_7 (loM_7_1 kM0).1 (loM_7_1 kM0).2.1 (loM_7_1 kM0).2.2.1 (loM_7_1 kM0).2.2.2 dX10_marches_69 ?_
      refine am_bipush C0 dX10_marches_72 kb_17 ?_
      refine am_iload_n C0 dX10_marches_74 1 rfl ?_
      refine am_iadd C0 dX10_marches_75 ?_
      refine am_aload_n C0 dX10_marches_76 0 rfl ?_
      refine am_bipush C0 dX10_marches_77 kb_99 ?_
      refine am_aload_n C0 dX10_marches_79 0 rfl ?_
      refine am_getR C0 (j := 1) ff_RX10_7 (loM_7_1 kM0).1 (loM_7_1 kM0).2.1 (loM_7_1 kM0).2.2.1 (loM_7_1 kM0).2.2.2 dX10_marches_80 ?_
      refine am_bipush C0 dX10_marches_83 kb_17 ?_
      refine am_iload_n C0 dX10_marches_85 1 rfl ?_
      refine am_iadd C0 dX10_marches_86 ?_
      obtain ⟨t_5, h_t_5, h⟩ := am_bind h
      refine am_iald C0 (ltM (tgM_7_1 kM0)) (tgM_7_1 kM0) (lnM_7_1 kM0) h_t_5 dX10_marches_87 ?_
      refine am_iload_n C0 dX10_marches_88 2 rfl ?_
      refine am_iadd C0 dX10_marches_89 ?_
      refine am_callV C0 (m_M_lesser (σ := σ) (Nat.le_refl _) 99 (t_5 + x2)  rfl) mm_yX10_lesser ln_RX10_350 (As := fun b => [.int 99, .int (t_5 + x2)]) (fun _ => rfl) (fun _ => rfl) (loM_7_0 kM0).1 (loM_7_0 kM0).2.1 rfl (Nat.le_trans (by decide) hd) rfl (Nat.le_of_ble_eq_true rfl) dX10_marches_90 ?_
      obtain ⟨σ_7, h_σ_7, h⟩ := am_bind h
      refine am_iast C0 (ltM (tgM_7_1 kM0)) (tgM_7_1 kM0) (lnM_7_1 kM0) h_σ_7 dX10_marches_93 ?_
      refine am_aload_n C0 dX10_marches_94 0 rfl ?_
      refine am_iconst C0 dX10_marches_95 ci_0 ?_
      refine am_iload_n C0 dX10_marches_96 1 rfl ?_
      refine am_aload_n C0 dX10_marches_97 0 rfl ?_
      refine am_getR C0 (j := 1) ff_RX10_7 (loM_7_1 kM0).1 (loM_7_1 kM0).2.1 (loM_7_1 kM0).2.2.1 (loM_7_1 kM0).2.2.2 dX10_marches_98 ?_
      refine am_bipush C0 dX10_marches_101 kb_17 ?_
      refine am_iload_n C0 dX10_marches_103 1 rfl ?_
      refine am_iadd C0 dX10_marches_104 ?_
      obtain ⟨t_8, h_t_8, h⟩ := am_bind h
      refine am_iald C0 (ltM (tgM_7_1 kM0)) (tgM_7_1 kM0) (lnM_7_1 kM0) h_t_8 dX10_marches_105 ?_
      obtain ⟨q_9, h_q_9, h⟩ := am_bind h
      refine am_callV C0 (m_M_notes (σ := σ_7) (Nat.le_refl _) 0 x1 t_8  h_q_9) mm_yX10_notes ln_RX10_343 (As := fun b => [.int 0, .int x1, .int t_8]) (fun _ => rfl) (fun _ => rfl) (loM_7_0 kM0).1 (loM_7_0 kM0).2.1 rfl (Nat.le_trans (by decide) hd) rfl (Nat.le_of_ble_eq_true rfl) dX10_marches_106 ?_
      have e := Option.some.inj h
      subst e
      exact hret _ _ dX10_marches_109
    · replace h := am_in h c_4
      refine am_aload_n C0 dX10_marches_52 0 rfl ?_
      refine am_iconst C0 dX10_marches_53 ci_2 ?_
      refine am_iload_n C0 dX10_marches_54 1 rfl ?_
      refine am_aload_n C0 dX10_marches_55 0 rfl ?_
      refine am_getR C0 (j := 1) ff_RX10_7 (loM_7_1 kM0).1 (loM_7_1 kM0).2.1 (loM_7_1 kM0).2.2.1 (loM_7_1 kM0).2.2.2 dX10_marches_56 ?_
      refine am_bipush C0 dX10_marches_59 kb_17 ?_
      refine am_iload_n C0 dX10_marches_61 1 rfl ?_
      refine am_iadd C0 dX10_marches_62 ?_
      obtain ⟨t_10, h_t_10, h⟩ := am_bind h
      refine am_iald C0 (ltM (tgM_7_1 kM0)) (tgM_7_1 kM0) (lnM_7_1 kM0) h_t_10 dX10_marches_63 ?_
      obtain ⟨q_11, h_q_11, h⟩ := am_bind h
      refine am_callV C0 (m_M_notes (σ := σ) (Nat.le_refl _) 2 x1 t_10  h_q_11) mm_yX10_notes ln_RX10_343 (As := fun b => [.int 2, .int x1, .int t_10]) (fun _ => rfl) (fun _ => rfl) (loM_7_0 kM0).1 (loM_7_0 kM0).2.1 rfl (Nat.le_trans (by decide) hd) rfl (Nat.le_of_ble_eq_true rfl) dX10_marches_64 ?_
      have e := Option.some.inj h
      subst e
      exact hret _ _ dX10_marches_67
  · replace h := am_ip h c_2
    refine am_aload_n C0 dX10_marches_8 0 rfl ?_
    refine am_iconst C0 dX10_marches_9 ci_1 ?_
    refine am_iload_n C0 dX10_marches_10 1 rfl ?_
    refine am_aload_n C0 dX10_marches_11 0 rfl ?_
    refine am_getR C0 (j := 1) ff_RX10_7 (loM_7_1 kM0).1 (loM_7_1 kM0).2.1 (loM_7_1 kM0).2.2.1 (loM_7_1 kM0).2.2.2 dX10_marches_12 ?_
    refine am_bipush C0 dX10_marches_15 kb_17 ?_
    refine am_iload_n C0 dX10_marches_17 1 rfl ?_
    refine am_iadd C0 dX10_marches_18 ?_
    obtain ⟨t_12, h_t_12, h⟩ := am_bind h
    refine am_iald C0 (ltM (tgM_7_1 kM0)) (tgM_7_1 kM0) (lnM_7_1 kM0) h_t_12 dX10_marches_19 ?_
    obtain ⟨q_13, h_q_13, h⟩ := am_bind h
    refine am_callV C0 (m_M_notes (σ := σ) (Nat.le_refl _) 1 x1 t_12  h_q_13) mm_yX10_notes ln_RX10_343 (As := fun b => [.int 1, .int x1, .int t_12]) (fun _ => rfl) (fun _ => rfl) (loM_7_0 kM0).1 (loM_7_0 kM0).2.1 rfl (Nat.le_trans (by decide) hd) rfl (Nat.le_of_ble_eq_true rfl) dX10_marches_20 ?_
    refine am_aload_n C0 dX10_marches_23 0 rfl ?_
    refine am_getR C0 (j := 1) ff_RX10_7 (loM_7_1 kM0).1 (loM_7_1 kM0).2.1 (loM_7_1 kM0).2.2.1 (loM_7_1 kM0).2.2.2 dX10_marches_24 ?_
    refine am_bipush C0 dX10_marches_27 kb_17 ?_
    refine am_iload_n C0 dX10_marches_29 1 rfl ?_
    refine am_iadd C0 dX10_marches_30 ?_
    refine am_iconst C0 dX10_marches_31 ci_0 ?_
    obtain ⟨σ_14, h_σ_14, h⟩ := am_bind h
    refine am_iast C0 (ltM (tgM_7_1 kM0)) (tgM_7_1 kM0) (lnM_7_1 kM0) h_σ_14 dX10_marches_32 ?_
    refine am_aload_n C0 dX10_marches_33 0 rfl ?_
    refine am_getR C0 (j := 1) ff_RX10_7 (loM_7_1 kM0).1 (loM_7_1 kM0).2.1 (loM_7_1 kM0).2.2.1 (loM_7_1 kM0).2.2.2 dX10_marches_34 ?_
    refine am_bipush C0 dX10_marches_37 kb_29 ?_
    refine am_iload_n C0 dX10_marches_39 1 rfl ?_
    refine am_iadd C0 dX10_marches_40 ?_
    refine am_iconst C0 dX10_marches_41 ci_0 ?_
    obtain ⟨σ_15, h_σ_15, h⟩ := am_bind h
    refine am_iast C0 (ltM (tgM_7_1 kM0)) (tgM_7_1 kM0) (lnM_7_1 kM0) h_σ_15 dX10_marches_42 ?_
    have e := Option.some.inj h
    subst e
    exact hret _ _ dX10_marches_43
set_option maxRecDepth 100000 in
set_option maxHeartbeats 4000000 in
theorem m_M_marches {l : Launch} {d : Nat} {σ : am_SS} {q : am_SS} (hd : 3 ≤ d) (F : Nat) (x1 : Int32) (x2 : Int32) (h : M_marches F x1 x2 σ = some q) : am_Met l yX10_marches cX10_marches 3 none d 0 0 LM (fun b => [.ref (b 0), .int x1, .int x2]) σ none q :=
  am_metV (plainFor_of_name (by decide)) (lv := fun b => [(0, .ref (b 0)), (1, .int x1), (2, .int x2)]) (fun _ => rfl) (fun _ => Nat.le_of_ble_eq_true rfl) (fun G C0 _ hret => k_M_marches C0 hd F hret x1 x2 σ  h)
set_option maxRecDepth 100000 in
set_option maxHeartbeats 4000000 in
theorem k_M_canAct_p48 {G : am_T} {d0 : Nat} (C0 : am_C G cX10_canAct 4 RX10 LM d0) (hd : 2 ≤ d0) {σ : am_SS} {q : Bool} (hret : am_retI G cX10_canAct 4 (am_bI q) σ) (x1 : Int32) (x2 : Int32) (h : M_canAct_p48 x1 x2 σ = some q) : am_K G 4 48 [(0, .ref (am_b G 0)), (1, .int x1), (2, .int x2)] [] σ := by
  unfold M_canAct_p48 at h
  refine am_aload_n C0 dX10_canAct_48 0 rfl ?_
  refine am_iload_n C0 dX10_canAct_49 2 rfl ?_
  refine am_callV C0 (m_M_isOfficer (σ := σ) (Nat.le_refl _) x2  rfl) mm_yX10_isOfficer ln_RX10_157 (As := fun b => [.int x2]) (fun _ => rfl) (fun _ => rfl) (loM_7_0 kM0).1 (loM_7_0 kM0).2.1 rfl (Nat.le_trans (by decide) hd) rfl (Nat.le_of_ble_eq_true rfl) dX10_canAct_50 ?_
  refine am_ifB_eq C0 dX10_canAct_53 (tgt := 75) (by decide) (fun c_2 => ?_) (fun c_2 => ?_)
  · replace h := am_in h c_2
    refine am_iconst C0 dX10_canAct_75 ci_0 ?_
    have e := Option.some.inj h
    subst e
    exact hret _ _ dX10_canAct_76
  · replace h := am_ip h c_2
    refine am_aload_n C0 dX10_canAct_56 0 rfl ?_
    refine am_getR C0 (j := 1) ff_RX10_7 (loM_7_1 kM0).1 (loM_7_1 kM0).2.1 (loM_7_1 kM0).2.2.1 (loM_7_1 kM0).2.2.2 dX10_canAct_57 ?_
    refine am_bipush C0 dX10_canAct_60 kb_41 ?_
    refine am_iload_n C0 dX10_canAct_62 2 rfl ?_
    refine am_iadd C0 dX10_canAct_63 ?_
    obtain ⟨t_3, h_t_3, h⟩ := am_bind h
    refine am_iald C0 (ltM (tgM_7_1 kM0)) (tgM_7_1 kM0) (lnM_7_1 kM0) h_t_3 dX10_canAct_64 ?_
    refine am_iload_n C0 dX10_canAct_65 1 rfl ?_
    refine am_iconst C0 dX10_canAct_66 ci_1 ?_
    refine am_isub C0 dX10_canAct_67 ?_
    refine am_icmp_ne C0 dX10_canAct_68 (tgt := 75) (by decide) (fun c_4 => ?_) (fun c_4 => ?_)
    · replace h := am_in h c_4
      refine am_iconst C0 dX10_canAct_75 ci_0 ?_
      have e := Option.some.inj h
      subst e
      exact hret _ _ dX10_canAct_76
    · replace h := am_ip h c_4
      refine am_iconst C0 dX10_canAct_71 ci_1 ?_
      refine am_goto C0 dX10_canAct_72 (tgt := 76) (by decide) ?_
      have e := Option.some.inj h
      subst e
      exact hret _ _ dX10_canAct_76
set_option maxRecDepth 100000 in
set_option maxHeartbeats 4000000 in
theorem k_M_canAct {G : am_T} {d0 : Nat} (C0 : am_C G cX10_canAct 4 RX10 LM d0) (hd : 2 ≤ d0) {σ : am_SS} {q : Bool} (hret : am_retI G cX10_canAct 4 (am_bI q) σ) (x1 : Int32) (x2 : Int32) (x3 : Int32) (h : M_canAct x1 x2 x3 σ = some q) : am_K G 4 0 [(0, .ref (am_b G 0)), (1, .int x1), (2, .int x2), (3, .int x3)] [] σ := by
  unfold M_canAct at h
  refine am_aload_n C0 dX10_canAct_0 0 rfl ?_
  obtain ⟨q_1, h_q_1, h⟩ := am_bind h
  refine am_callV C0 (m_M_isWon (σ := σ) (Nat.le_refl _)   h_q_1) mm_yX10_isWon ln_RX10_153 (As := fun b => []) (fun _ => rfl) (fun _ => rfl) (loM_7_0 kM0).1 (loM_7_0 kM0).2.1 rfl (Nat.le_trans (by decide) hd) rfl (Nat.le_of_ble_eq_true rfl) dX10_canAct_1 ?_
  refine am_ifB_eq C0 dX10_canAct_4 (tgt := 9) (by decide) (fun c_2 => ?_) (fun c_2 => ?_)
  · replace h := am_in h c_2
    refine am_iload_n C0 dX10_canAct_9 1 rfl ?_
    refine am_if_ne C0 dX10_canAct_10 (tgt := 38) (by decide) (fun c_3 => ?_) (fun c_3 => ?_)
    · replace h := am_in h c_3
      refine am_iload_n C0 dX10_canAct_38 1 rfl ?_
      refine am_iconst C0 dX10_canAct_39 ci_1 ?_
      refine am_icmp_eq C0 dX10_canAct_40 (tgt := 48) (by decide) (fun c_4 => ?_) (fun c_4 => ?_)
      · replace h := am_ip h c_4
        exact am_sub [0, 1, 2] rfl (k_M_canAct_p48 C0 hd hret x1 x2  h)
      · replace h := am_in h c_4
        refine am_iload_n C0 dX10_canAct_43 1 rfl ?_
        refine am_iconst C0 dX10_canAct_44 ci_2 ?_
        refine am_icmp_ne C0 dX10_canAct_45 (tgt := 77) (by decide) (fun c_5 => ?_) (fun c_5 => ?_)
        · replace h := am_in h c_5
          refine am_iload_n C0 dX10_canAct_77 1 rfl ?_
          refine am_iconst C0 dX10_canAct_78 ci_3 ?_
          refine am_icmp_ne C0 dX10_canAct_79 (tgt := 106) (by decide) (fun c_6 => ?_) (fun c_6 => ?_)
          · replace h := am_in h c_6
            refine am_iconst C0 dX10_canAct_106 ci_0 ?_
            have e := Option.some.inj h
            subst e
            exact hret _ _ dX10_canAct_107
          · replace h := am_ip h c_6
            refine am_aload_n C0 dX10_canAct_82 0 rfl ?_
            refine am_iload_n C0 dX10_canAct_83 2 rfl ?_
            refine am_callV C0 (m_M_isBatman (σ := σ) (Nat.le_refl _) x2  rfl) mm_yX10_isBatman ln_RX10_161 (As := fun b => [.int x2]) (fun _ => rfl) (fun _ => rfl) (loM_7_0 kM0).1 (loM_7_0 kM0).2.1 rfl (Nat.le_trans (by decide) hd) rfl (Nat.le_of_ble_eq_true rfl) dX10_canAct_84 ?_
            refine am_ifB_eq C0 dX10_canAct_87 (tgt := 106) (by decide) (fun c_8 => ?_) (fun c_8 => ?_)
            · replace h := am_in h c_8
              refine am_iconst C0 dX10_canAct_106 ci_0 ?_
              have e := Option.some.inj h
              subst e
              exact hret _ _ dX10_canAct_107
            · replace h := am_ip h c_8
              refine am_aload_n C0 dX10_canAct_90 0 rfl ?_
              refine am_getR C0 (j := 1) ff_RX10_7 (loM_7_1 kM0).1 (loM_7_1 kM0).2.1 (loM_7_1 kM0).2.2.1 (loM_7_1 kM0).2.2.2 dX10_canAct_91 ?_
              refine am_bipush C0 dX10_canAct_94 kb_65 ?_
              refine am_iload_n C0 dX10_canAct_96 2 rfl ?_
              refine am_iadd C0 dX10_canAct_97 ?_
              obtain ⟨t_9, h_t_9, h⟩ := am_bind h
              refine am_iald C0 (ltM (tgM_7_1 kM0)) (tgM_7_1 kM0) (lnM_7_1 kM0) h_t_9 dX10_canAct_98 ?_
              refine am_if_le C0 dX10_canAct_99 (tgt := 106) (by decide) (fun c_10 => ?_) (fun c_10 => ?_)
              · replace h := am_in h c_10
                refine am_iconst C0 dX10_canAct_106 ci_0 ?_
                have e := Option.some.inj h
                subst e
                exact hret _ _ dX10_canAct_107
              · replace h := am_ip h c_10
                refine am_iconst C0 dX10_canAct_102 ci_1 ?_
                refine am_goto C0 dX10_canAct_103 (tgt := 107) (by decide) ?_
                have e := Option.some.inj h
                subst e
                exact hret _ _ dX10_canAct_107
        · replace h := am_ip h c_5
          exact am_sub [0, 1, 2] rfl (k_M_canAct_p48 C0 hd hret x1 x2  h)
    · replace h := am_ip h c_3
      refine am_aload_n C0 dX10_canAct_13 0 rfl ?_
      refine am_iload_n C0 dX10_canAct_14 2 rfl ?_
      refine am_callV C0 (m_M_isOfficer (σ := σ) (Nat.le_refl _) x2  rfl) mm_yX10_isOfficer ln_RX10_157 (As := fun b => [.int x2]) (fun _ => rfl) (fun _ => rfl) (loM_7_0 kM0).1 (loM_7_0 kM0).2.1 rfl (Nat.le_trans (by decide) hd) rfl (Nat.le_of_ble_eq_true rfl) dX10_canAct_15 ?_
      refine am_ifB_eq C0 dX10_canAct_18 (tgt := 36) (by decide) (fun c_12 => ?_) (fun c_12 => ?_)
      · replace h := am_in h c_12
        refine am_iconst C0 dX10_canAct_36 ci_0 ?_
        have e := Option.some.inj h
        subst e
        exact hret _ _ dX10_canAct_37
      · replace h := am_ip h c_12
        refine am_aload_n C0 dX10_canAct_21 0 rfl ?_
        refine am_iload_n C0 dX10_canAct_22 3 rfl ?_
        refine am_iconst C0 dX10_canAct_23 ci_1 ?_
        refine am_bipush C0 dX10_canAct_24 kb_99 ?_
        refine am_callV C0 (m_M_isIn (σ := σ) (Nat.le_refl _) x3 1 99  rfl) mm_yX10_isIn ln_RX10_149 (As := fun b => [.int x3, .int 1, .int 99]) (fun _ => rfl) (fun _ => rfl) (loM_7_0 kM0).1 (loM_7_0 kM0).2.1 rfl (Nat.le_trans (by decide) hd) rfl (Nat.le_of_ble_eq_true rfl) dX10_canAct_26 ?_
        refine am_ifB_eq C0 dX10_canAct_29 (tgt := 36) (by decide) (fun c_14 => ?_) (fun c_14 => ?_)
        · replace h := am_in h c_14
          refine am_iconst C0 dX10_canAct_36 ci_0 ?_
          have e := Option.some.inj h
          subst e
          exact hret _ _ dX10_canAct_37
        · replace h := am_ip h c_14
          refine am_iconst C0 dX10_canAct_32 ci_1 ?_
          refine am_goto C0 dX10_canAct_33 (tgt := 37) (by decide) ?_
          have e := Option.some.inj h
          subst e
          exact hret _ _ dX10_canAct_37
  · replace h := am_ip h c_2
    refine am_iconst C0 dX10_canAct_7 ci_0 ?_
    have e := Option.some.inj h
    subst e
    exact hret _ _ dX10_canAct_8
set_option maxRecDepth 100000 in
set_option maxHeartbeats 4000000 in
theorem m_M_canAct {l : Launch} {d : Nat} {σ : am_SS} {q : Bool} (hd : 2 ≤ d) (x1 : Int32) (x2 : Int32) (x3 : Int32) (h : M_canAct x1 x2 x3 σ = some q) : am_Met l yX10_canAct cX10_canAct 4 (some .boolean) d 0 0 LM (fun b => [.ref (b 0), .int x1, .int x2, .int x3]) σ (some (.int (am_bI q))) σ :=
  am_metI (plainFor_of_name (by decide)) (am_bI_nr _) (lv := fun b => [(0, .ref (b 0)), (1, .int x1), (2, .int x2), (3, .int x3)]) (fun _ => rfl) (fun _ => Nat.le_of_ble_eq_true rfl) (fun G C0 _ hret => k_M_canAct C0 hd hret x1 x2 x3  h)
set_option maxRecDepth 100000 in
set_option maxHeartbeats 4000000 in
theorem k_M_act_p61 {G : am_T} {d0 : Nat} (C0 : am_C G cX10_act 4 RX10 LM d0) (hd : 4 ≤ d0) (F : Nat) {q : Bool × am_SS} (hret : am_retI G cX10_act 4 (am_bI q.1) q.2) (x1 : Int32) (x2 : Int32) (σ : am_SS) (h : M_act_p61 F x1 x2 σ = some q) : am_K G 4 61 [(0, .ref (am_b G 0)), (1, .int x1), (2, .int x2)] [] σ := by
  unfold M_act_p61 at h
  refine am_iload_n C0 dX10_act_61 1 rfl ?_
  refine am_iconst C0 dX10_act_62 ci_3 ?_
  refine am_icmp_ne C0 dX10_act_63 (tgt := 76) (by decide) (fun c_1 => ?_) (fun c_1 => ?_)
  · replace h := am_in h c_1
    refine am_iconst C0 dX10_act_76 ci_1 ?_
    have e := Option.some.inj h
    subst e
    exact hret _ _ dX10_act_77
  · replace h := am_ip h c_1
    refine am_aload_n C0 dX10_act_66 0 rfl ?_
    refine am_getR C0 (j := 1) ff_RX10_7 (loM_7_1 kM0).1 (loM_7_1 kM0).2.1 (loM_7_1 kM0).2.2.1 (loM_7_1 kM0).2.2.2 dX10_act_67 ?_
    refine am_bipush C0 dX10_act_70 kb_65 ?_
    refine am_iload_n C0 dX10_act_72 2 rfl ?_
    refine am_iadd C0 dX10_act_73 ?_
    refine am_iconst C0 dX10_act_74 ci_0 ?_
    obtain ⟨σ_2, h_σ_2, h⟩ := am_bind h
    refine am_iast C0 (ltM (tgM_7_1 kM0)) (tgM_7_1 kM0) (lnM_7_1 kM0) h_σ_2 dX10_act_75 ?_
    refine am_iconst C0 dX10_act_76 ci_1 ?_
    have e := Option.some.inj h
    subst e
    exact hret _ _ dX10_act_77
set_option maxRecDepth 100000 in
set_option maxHeartbeats 4000000 in
theorem k_M_act_p46 {G : am_T} {d0 : Nat} (C0 : am_C G cX10_act 4 RX10 LM d0) (hd : 4 ≤ d0) (F : Nat) {q : Bool × am_SS} (hret : am_retI G cX10_act 4 (am_bI q.1) q.2) (x1 : Int32) (x2 : Int32) (σ : am_SS) (h : M_act_p46 F x1 x2 σ = some q) : am_K G 4 46 [(0, .ref (am_b G 0)), (1, .int x1), (2, .int x2)] [] σ := by
  unfold M_act_p46 at h
  refine am_iload_n C0 dX10_act_46 1 rfl ?_
  refine am_iconst C0 dX10_act_47 ci_2 ?_
  refine am_icmp_ne C0 dX10_act_48 (tgt := 61) (by decide) (fun c_1 => ?_) (fun c_1 => ?_)
  · replace h := am_in h c_1
    exact am_sub [0, 1, 2] rfl (k_M_act_p61 C0 hd F hret x1 x2 σ  h)
  · replace h := am_ip h c_1
    refine am_aload_n C0 dX10_act_51 0 rfl ?_
    refine am_getR C0 (j := 1) ff_RX10_7 (loM_7_1 kM0).1 (loM_7_1 kM0).2.1 (loM_7_1 kM0).2.2.1 (loM_7_1 kM0).2.2.2 dX10_act_52 ?_
    refine am_bipush C0 dX10_act_55 kb_41 ?_
    refine am_iload_n C0 dX10_act_57 2 rfl ?_
    refine am_iadd C0 dX10_act_58 ?_
    refine am_iconst C0 dX10_act_59 ci_0 ?_
    obtain ⟨σ_2, h_σ_2, h⟩ := am_bind h
    refine am_iast C0 (ltM (tgM_7_1 kM0)) (tgM_7_1 kM0) (lnM_7_1 kM0) h_σ_2 dX10_act_60 ?_
    exact am_sub [0, 1, 2] rfl (k_M_act_p61 C0 hd F hret x1 x2 σ_2  h)
set_option maxRecDepth 100000 in
set_option maxHeartbeats 4000000 in
theorem k_M_act_p31 {G : am_T} {d0 : Nat} (C0 : am_C G cX10_act 4 RX10 LM d0) (hd : 4 ≤ d0) (F : Nat) {q : Bool × am_SS} (hret : am_retI G cX10_act 4 (am_bI q.1) q.2) (x1 : Int32) (x2 : Int32) (σ : am_SS) (h : M_act_p31 F x1 x2 σ = some q) : am_K G 4 31 [(0, .ref (am_b G 0)), (1, .int x1), (2, .int x2)] [] σ := by
  unfold M_act_p31 at h
  refine am_iload_n C0 dX10_act_31 1 rfl ?_
  refine am_iconst C0 dX10_act_32 ci_1 ?_
  refine am_icmp_ne C0 dX10_act_33 (tgt := 46) (by decide) (fun c_1 => ?_) (fun c_1 => ?_)
  · replace h := am_in h c_1
    exact am_sub [0, 1, 2] rfl (k_M_act_p46 C0 hd F hret x1 x2 σ  h)
  · replace h := am_ip h c_1
    refine am_aload_n C0 dX10_act_36 0 rfl ?_
    refine am_getR C0 (j := 1) ff_RX10_7 (loM_7_1 kM0).1 (loM_7_1 kM0).2.1 (loM_7_1 kM0).2.2.1 (loM_7_1 kM0).2.2.2 dX10_act_37 ?_
    refine am_bipush C0 dX10_act_40 kb_41 ?_
    refine am_iload_n C0 dX10_act_42 2 rfl ?_
    refine am_iadd C0 dX10_act_43 ?_
    refine am_iconst C0 dX10_act_44 ci_1 ?_
    obtain ⟨σ_2, h_σ_2, h⟩ := am_bind h
    refine am_iast C0 (ltM (tgM_7_1 kM0)) (tgM_7_1 kM0) (lnM_7_1 kM0) h_σ_2 dX10_act_45 ?_
    exact am_sub [0, 1, 2] rfl (k_M_act_p46 C0 hd F hret x1 x2 σ_2  h)
set_option maxRecDepth 100000 in
set_option maxHeartbeats 4000000 in
theorem k_M_act {G : am_T} {d0 : Nat} (C0 : am_C G cX10_act 4 RX10 LM d0) (hd : 4 ≤ d0) (F : Nat) {q : Bool × am_SS} (hret : am_retI G cX10_act 4 (am_bI q.1) q.2) (x1 : Int32) (x2 : Int32) (x3 : Int32) (σ : am_SS) (h : M_act F x1 x2 x3 σ = some q) : am_K G 4 0 [(0, .ref (am_b G 0)), (1, .int x1), (2, .int x2), (3, .int x3)] [] σ := by
  unfold M_act at h
  refine am_aload_n C0 dX10_act_0 0 rfl ?_
  refine am_iconst C0 dX10_act_1 ci_0 ?_
  obtain ⟨σ_1, e_σ_1, h⟩ := am_lt h
  refine am_putI C0 e_σ_1 fp_RX10_131 (loM_7_0 kM0).1 (loM_7_0 kM0).2.1 (loM_7_0 kM0).2.2.1 (loM_7_0 kM0).2.2.2 rfl rfl dX10_act_2 ?_
  refine am_aload_n C0 dX10_act_5 0 rfl ?_
  refine am_iload_n C0 dX10_act_6 1 rfl ?_
  refine am_iload_n C0 dX10_act_7 2 rfl ?_
  refine am_iload_n C0 dX10_act_8 3 rfl ?_
  obtain ⟨q_2, h_q_2, h⟩ := am_bind h
  refine am_callV C0 (m_M_canAct (σ := σ_1) (Nat.le_refl _) x1 x2 x3  h_q_2) mm_yX10_canAct ln_RX10_353 (As := fun b => [.int x1, .int x2, .int x3]) (fun _ => rfl) (fun _ => rfl) (loM_7_0 kM0).1 (loM_7_0 kM0).2.1 rfl (Nat.le_trans (by decide) hd) rfl (Nat.le_of_ble_eq_true rfl) dX10_act_9 ?_
  refine am_ifB_ne C0 dX10_act_12 (tgt := 17) (by decide) (fun c_3 => ?_) (fun c_3 => ?_)
  · replace h := am_ip h c_3
    refine am_aload_n C0 dX10_act_17 0 rfl ?_
    obtain ⟨q_4, h_q_4, h⟩ := am_bind h
    refine am_callV C0 (m_M_keepsAhead (σ := σ_1) (Nat.le_refl _) F   h_q_4) mm_yX10_keepsAhead ln_RX10_356 (As := fun b => []) (fun _ => rfl) (fun _ => rfl) (loM_7_0 kM0).1 (loM_7_0 kM0).2.1 rfl (Nat.le_trans (by decide) hd) rfl (Nat.le_of_ble_eq_true rfl) dX10_act_18 ?_
    refine am_iload_n C0 dX10_act_21 1 rfl ?_
    refine am_if_ne C0 dX10_act_22 (tgt := 31) (by decide) (fun c_5 => ?_) (fun c_5 => ?_)
    · replace h := am_in h c_5
      exact am_sub [0, 1, 2] rfl (k_M_act_p31 C0 hd F hret x1 x2 q_4  h)
    · replace h := am_ip h c_5
      refine am_aload_n C0 dX10_act_25 0 rfl ?_
      refine am_iload_n C0 dX10_act_26 2 rfl ?_
      refine am_iload_n C0 dX10_act_27 3 rfl ?_
      obtain ⟨q_6, h_q_6, h⟩ := am_bind h
      refine am_callV C0 (m_M_marches (σ := q_4) (Nat.le_refl _) F x2 x3  h_q_6) mm_yX10_marches ln_RX10_359 (As := fun b => [.int x2, .int x3]) (fun _ => rfl) (fun _ => rfl) (loM_7_0 kM0).1 (loM_7_0 kM0).2.1 rfl (Nat.le_trans (by decide) hd) rfl (Nat.le_of_ble_eq_true rfl) dX10_act_28 ?_
      exact am_sub [0, 1, 2] rfl (k_M_act_p31 C0 hd F hret x1 x2 q_6  h)
  · replace h := am_in h c_3
    refine am_iconst C0 dX10_act_15 ci_0 ?_
    have e := Option.some.inj h
    subst e
    exact hret _ _ dX10_act_16
set_option maxRecDepth 100000 in
set_option maxHeartbeats 4000000 in
theorem m_M_act {l : Launch} {d : Nat} {σ : am_SS} {q : Bool × am_SS} (hd : 4 ≤ d) (F : Nat) (x1 : Int32) (x2 : Int32) (x3 : Int32) (h : M_act F x1 x2 x3 σ = some q) : am_Met l yX10_act cX10_act 4 (some .boolean) d 0 0 LM (fun b => [.ref (b 0), .int x1, .int x2, .int x3]) σ (some (.int (am_bI q.1))) q.2 :=
  am_metI (plainFor_of_name (by decide)) (am_bI_nr _) (lv := fun b => [(0, .ref (b 0)), (1, .int x1), (2, .int x2), (3, .int x3)]) (fun _ => rfl) (fun _ => Nat.le_of_ble_eq_true rfl) (fun G C0 _ hret => k_M_act C0 hd F hret x1 x2 x3 σ  h)
set_option maxRecDepth 100000 in
set_option maxHeartbeats 4000000 in
theorem k_M_happens {G : am_T} {d0 : Nat} (C0 : am_C G cX10_happens 2 RX10 LM d0) (hd : 2 ≤ d0) {q : Bool × am_SS} (hret : am_retI G cX10_happens 2 (am_bI q.1) q.2) (x1 : Int32) (σ : am_SS) (h : M_happens x1 σ = some q) : am_K G 2 0 [(0, .ref (am_b G 0)), (1, .int x1)] [] σ := by
  unfold M_happens at h
  refine am_aload_n C0 dX10_happens_0 0 rfl ?_
  refine am_getI C0 ff_RX10_137 (loM_7_5 kM0).1 (loM_7_5 kM0).2.1 (loM_7_5 kM0).2.2.1 (loM_7_5 kM0).2.2.2 dX10_happens_1 ?_
  refine am_if_eq C0 dX10_happens_4 (tgt := 24) (by decide) (fun c_1 => ?_) (fun c_1 => ?_)
  · replace h := am_ip h c_1
    refine am_iload_n C0 dX10_happens_24 1 rfl ?_
    refine am_if_le C0 dX10_happens_25 (tgt := 43) (by decide) (fun c_2 => ?_) (fun c_2 => ?_)
    · replace h := am_in h c_2
      refine am_iconst C0 dX10_happens_43 ci_0 ?_
      have e := Option.some.inj h
      subst e
      exact hret _ _ dX10_happens_44
    · replace h := am_ip h c_2
      refine am_aload_n C0 dX10_happens_28 0 rfl ?_
      refine am_sipush C0 dX10_happens_29 cs_1000 ?_
      obtain ⟨q_3, h_q_3, h⟩ := am_bind h
      refine am_callV C0 (m_M_draw (σ := σ) (Nat.le_refl _) 1000  h_q_3) mm_yX10_draw ln_RX10_362 (As := fun b => [.int 1000]) (fun _ => rfl) (fun _ => rfl) (loM_7_0 kM0).1 (loM_7_0 kM0).2.1 rfl (Nat.le_trans (by decide) hd) rfl (Nat.le_of_ble_eq_true rfl) dX10_happens_32 ?_
      refine am_iload_n C0 dX10_happens_35 1 rfl ?_
      refine am_icmp_ge C0 dX10_happens_36 (tgt := 43) (by decide) (fun c_4 => ?_) (fun c_4 => ?_)
      · replace h := am_in h c_4
        refine am_iconst C0 dX10_happens_43 ci_0 ?_
        have e := Option.some.inj h
        subst e
        exact hret _ _ dX10_happens_44
      · replace h := am_ip h c_4
        refine am_iconst C0 dX10_happens_39 ci_1 ?_
        refine am_goto C0 dX10_happens_40 (tgt := 44) (by decide) ?_
        have e := Option.some.inj h
        subst e
        exact hret _ _ dX10_happens_44
  · replace h := am_in h c_1
    refine am_iconst C0 dX10_happens_7 ci_2 ?_
    refine am_iload_n C0 dX10_happens_8 1 rfl ?_
    refine am_imul C0 dX10_happens_9 ?_
    refine am_sipush C0 dX10_happens_10 cs_1000 ?_
    refine am_icmp_lt C0 dX10_happens_13 (tgt := 20) (by decide) (fun c_5 => ?_) (fun c_5 => ?_)
    · replace h := am_ip h c_5
      refine am_iconst C0 dX10_happens_20 ci_0 ?_
      refine am_goto C0 dX10_happens_21 (tgt := 44) (by decide) ?_
      have e := Option.some.inj h
      subst e
      exact hret _ _ dX10_happens_44
    · replace h := am_in h c_5
      refine am_iconst C0 dX10_happens_16 ci_1 ?_
      refine am_goto C0 dX10_happens_17 (tgt := 44) (by decide) ?_
      have e := Option.some.inj h
      subst e
      exact hret _ _ dX10_happens_44
set_option maxRecDepth 100000 in
set_option maxHeartbeats 4000000 in
theorem m_M_happens {l : Launch} {d : Nat} {σ : am_SS} {q : Bool × am_SS} (hd : 2 ≤ d) (x1 : Int32) (h : M_happens x1 σ = some q) : am_Met l yX10_happens cX10_happens 2 (some .boolean) d 0 0 LM (fun b => [.ref (b 0), .int x1]) σ (some (.int (am_bI q.1))) q.2 :=
  am_metI (plainFor_of_name (by decide)) (am_bI_nr _) (lv := fun b => [(0, .ref (b 0)), (1, .int x1)]) (fun _ => rfl) (fun _ => Nat.le_of_ble_eq_true rfl) (fun G C0 _ hret => k_M_happens C0 hd hret x1 σ  h)
set_option maxRecDepth 100000 in
set_option maxHeartbeats 4000000 in
theorem k_M_does_p64 {G : am_T} {d0 : Nat} (C0 : am_C G cX10_does 4 RX10 LM d0) (hd : 4 ≤ d0) (F : Nat) {q : am_SS} (hret : am_retV G cX10_does 4 q) (x2 : Int32) (x3 : Int32) (σ : am_SS) (h : M_does_p64 F x2 x3 σ = some q) : am_K G 4 64 [(0, .ref (am_b G 0)), (2, .int x2), (3, .int x3)] [] σ := by
  unfold M_does_p64 at h
  refine am_iload_n C0 dX10_does_64 1 rfl ?_
  refine am_iconst C0 dX10_does_65 ci_3 ?_
  refine am_icmp_ne C0 dX10_does_66 (tgt := 79) (by decide) (fun c_1 => ?_) (fun c_1 => ?_)
  · replace h := am_in h c_1
    have e := Option.some.inj h
    subst e
    exact hret _ _ dX10_does_79
  · replace h := am_ip h c_1
    refine am_aload_n C0 dX10_does_69 0 rfl ?_
    refine am_getR C0 (j := 1) ff_RX10_7 (loM_7_1 kM0).1 (loM_7_1 kM0).2.1 (loM_7_1 kM0).2.2.1 (loM_7_1 kM0).2.2.2 dX10_does_70 ?_
    refine am_bipush C0 dX10_does_73 kb_65 ?_
    refine am_iload_n C0 dX10_does_75 2 rfl ?_
    refine am_iadd C0 dX10_does_76 ?_
    refine am_iconst C0 dX10_does_77 ci_0 ?_
    obtain ⟨σ_2, h_σ_2, h⟩ := am_bind h
    refine am_iast C0 (ltM (tgM_7_1 kM0)) (tgM_7_1 kM0) (lnM_7_1 kM0) h_σ_2 dX10_does_78 ?_
    have e := Option.some.inj h
    subst e
    exact hret _ _ dX10_does_79
set_option maxRecDepth 100000 in
set_option maxHeartbeats 4000000 in
theorem k_M_does_p63 {G : am_T} {d0 : Nat} (C0 : am_C G cX10_does 4 RX10 LM d0) (hd : 4 ≤ d0) (F : Nat) {q : am_SS} (hret : am_retV G cX10_does 4 q) (x2 : Int32) (x3 : Int32) (s1 : Int32) (s2 : Bool) (σ : am_SS) (h : M_does_p63 F x2 x3 s1 s2 σ = some q) : am_K G 4 63 [(0, .ref (am_b G 0)), (2, .int x2), (3, .int x3)] [.int (am_bI s2), .int s1, .ref (am_b G 1)] σ := by
  unfold M_does_p63 at h
  obtain ⟨σ_1, h_σ_1, h⟩ := am_bind h
  refine am_iast C0 (ltM (tgM_7_1 kM0)) (tgM_7_1 kM0) (lnM_7_1 kM0) h_σ_1 dX10_does_63 ?_
  exact am_sub [0, 1, 2] rfl (k_M_does_p64 C0 hd F hret x2 x3 σ_1  h)
set_option maxRecDepth 100000 in
set_option maxHeartbeats 4000000 in
theorem k_M_does_p45 {G : am_T} {d0 : Nat} (C0 : am_C G cX10_does 4 RX10 LM d0) (hd : 4 ≤ d0) (F : Nat) {q : am_SS} (hret : am_retV G cX10_does 4 q) (x2 : Int32) (x3 : Int32) (σ : am_SS) (h : M_does_p45 F x2 x3 σ = some q) : am_K G 4 45 [(0, .ref (am_b G 0)), (2, .int x2), (3, .int x3)] [] σ := by
  unfold M_does_p45 at h
  refine am_aload_n C0 dX10_does_45 0 rfl ?_
  refine am_getR C0 (j := 1) ff_RX10_7 (loM_7_1 kM0).1 (loM_7_1 kM0).2.1 (loM_7_1 kM0).2.2.1 (loM_7_1 kM0).2.2.2 dX10_does_46 ?_
  refine am_bipush C0 dX10_does_49 kb_41 ?_
  refine am_iload_n C0 dX10_does_51 2 rfl ?_
  refine am_iadd C0 dX10_does_52 ?_
  refine am_iload_n C0 dX10_does_53 1 rfl ?_
  refine am_iconst C0 dX10_does_54 ci_1 ?_
  refine am_icmp_ne C0 dX10_does_55 (tgt := 62) (by decide) (fun c_1 => ?_) (fun c_1 => ?_)
  · replace h := am_in h c_1
    refine am_iconst C0 dX10_does_62 ci_0 ?_
    exact am_sub [0, 1, 2] rfl (k_M_does_p63 C0 hd F hret x2 x3 (41 + x3) false σ  h)
  · replace h := am_ip h c_1
    refine am_iconst C0 dX10_does_58 ci_1 ?_
    refine am_goto C0 dX10_does_59 (tgt := 63) (by decide) ?_
    exact am_sub [0, 1, 2] rfl (k_M_does_p63 C0 hd F hret x2 x3 (41 + x3) true σ  h)
set_option maxRecDepth 100000 in
set_option maxHeartbeats 4000000 in
theorem k_M_does_p35 {G : am_T} {d0 : Nat} (C0 : am_C G cX10_does 4 RX10 LM d0) (hd : 4 ≤ d0) (F : Nat) {q : am_SS} (hret : am_retV G cX10_does 4 q) (x2 : Int32) (x3 : Int32) (σ : am_SS) (h : M_does_p35 F x2 x3 σ = some q) : am_K G 4 35 [(0, .ref (am_b G 0)), (2, .int x2), (3, .int x3)] [] σ := by
  unfold M_does_p35 at h
  refine am_iload_n C0 dX10_does_35 1 rfl ?_
  refine am_iconst C0 dX10_does_36 ci_1 ?_
  refine am_icmp_eq C0 dX10_does_37 (tgt := 45) (by decide) (fun c_1 => ?_) (fun c_1 => ?_)
  · replace h := am_ip h c_1
    exact am_sub [0, 1, 2] rfl (k_M_does_p45 C0 hd F hret x2 x3 σ  h)
  · replace h := am_in h c_1
    refine am_iload_n C0 dX10_does_40 1 rfl ?_
    refine am_iconst C0 dX10_does_41 ci_2 ?_
    refine am_icmp_ne C0 dX10_does_42 (tgt := 64) (by decide) (fun c_2 => ?_) (fun c_2 => ?_)
    · replace h := am_in h c_2
      exact am_sub [0, 1, 2] rfl (k_M_does_p64 C0 hd F hret x2 x3 σ  h)
    · replace h := am_ip h c_2
      exact am_sub [0, 1, 2] rfl (k_M_does_p45 C0 hd F hret x2 x3 σ  h)
set_option maxRecDepth 100000 in
set_option maxHeartbeats 4000000 in
theorem k_M_does {G : am_T} {d0 : Nat} (C0 : am_C G cX10_does 4 RX10 LM d0) (hd : 4 ≤ d0) (F : Nat) {q : am_SS} (hret : am_retV G cX10_does 4 q) (x1 : Int32) (σ : am_SS) (h : M_does F x1 σ = some q) : am_K G 4 0 [(0, .ref (am_b G 0)), (1, .int x1)] [] σ := by
  unfold M_does at h
  refine am_aload_n C0 dX10_does_0 0 rfl ?_
  refine am_getR C0 (j := 19) ff_RX10_68 (loM_7_37 kM0).1 (loM_7_37 kM0).2.1 (loM_7_37 kM0).2.2.1 (loM_7_37 kM0).2.2.2 dX10_does_1 ?_
  refine am_iload_n C0 dX10_does_4 1 rfl ?_
  refine am_iconst C0 dX10_does_5 ci_1 ?_
  refine am_iadd C0 dX10_does_6 ?_
  obtain ⟨t_1, h_t_1, h⟩ := am_bind h
  refine am_iald C0 (ltM (tgM_7_37 kM0)) (tgM_7_37 kM0) (lnM_7_37 kM0) h_t_1 dX10_does_7 ?_
  refine am_istore_n C0 dX10_does_8 rfl (by decide) rfl (lv' := [(0, .ref (am_b G 0)), (1, .int x1), (2, .int t_1)]) rfl ?_
  refine am_aload_n C0 dX10_does_9 0 rfl ?_
  refine am_getR C0 (j := 19) ff_RX10_68 (loM_7_37 kM0).1 (loM_7_37 kM0).2.1 (loM_7_37 kM0).2.2.1 (loM_7_37 kM0).2.2.2 dX10_does_10 ?_
  refine am_iload_n C0 dX10_does_13 1 rfl ?_
  refine am_iconst C0 dX10_does_14 ci_2 ?_
  refine am_iadd C0 dX10_does_15 ?_
  obtain ⟨t_2, h_t_2, h⟩ := am_bind h
  refine am_iald C0 (ltM (tgM_7_37 kM0)) (tgM_7_37 kM0) (lnM_7_37 kM0) h_t_2 dX10_does_16 ?_
  refine am_istore_n C0 dX10_does_17 rfl (by decide) rfl (lv' := [(0, .ref (am_b G 0)), (1, .int x1), (2, .int t_1), (3, .int t_2)]) rfl ?_
  refine am_iload_n C0 dX10_does_18 2 rfl ?_
  refine am_if_ne C0 dX10_does_19 (tgt := 35) (by decide) (fun c_3 => ?_) (fun c_3 => ?_)
  · replace h := am_in h c_3
    exact am_sub [0, 2, 3] rfl (k_M_does_p35 C0 hd F hret t_1 t_2 σ  h)
  · replace h := am_ip h c_3
    refine am_aload_n C0 dX10_does_22 0 rfl ?_
    refine am_iload_n C0 dX10_does_23 3 rfl ?_
    refine am_aload_n C0 dX10_does_24 0 rfl ?_
    refine am_getR C0 (j := 19) ff_RX10_68 (loM_7_37 kM0).1 (loM_7_37 kM0).2.1 (loM_7_37 kM0).2.2.1 (loM_7_37 kM0).2.2.2 dX10_does_25 ?_
    refine am_iload_n C0 dX10_does_28 1 rfl ?_
    refine am_iconst C0 dX10_does_29 ci_3 ?_
    refine am_iadd C0 dX10_does_30 ?_
    obtain ⟨t_4, h_t_4, h⟩ := am_bind h
    refine am_iald C0 (ltM (tgM_7_37 kM0)) (tgM_7_37 kM0) (lnM_7_37 kM0) h_t_4 dX10_does_31 ?_
    obtain ⟨q_5, h_q_5, h⟩ := am_bind h
    refine am_callV C0 (m_M_marches (σ := σ) (Nat.le_refl _) F t_2 t_4  h_q_5) mm_yX10_marches ln_RX10_359 (As := fun b => [.int t_2, .int t_4]) (fun _ => rfl) (fun _ => rfl) (loM_7_0 kM0).1 (loM_7_0 kM0).2.1 rfl (Nat.le_trans (by decide) hd) rfl (Nat.le_of_ble_eq_true rfl) dX10_does_32 ?_
    exact am_sub [0, 2, 3] rfl (k_M_does_p35 C0 hd F hret t_1 t_2 q_5  h)
set_option maxRecDepth 100000 in
set_option maxHeartbeats 4000000 in
theorem m_M_does {l : Launch} {d : Nat} {σ : am_SS} {q : am_SS} (hd : 4 ≤ d) (F : Nat) (x1 : Int32) (h : M_does F x1 σ = some q) : am_Met l yX10_does cX10_does 4 none d 0 0 LM (fun b => [.ref (b 0), .int x1]) σ none q :=
  am_metV (plainFor_of_name (by decide)) (lv := fun b => [(0, .ref (b 0)), (1, .int x1)]) (fun _ => rfl) (fun _ => Nat.le_of_ble_eq_true rfl) (fun G C0 _ hret => k_M_does C0 hd F hret x1 σ  h)
set_option maxRecDepth 100000 in
set_option maxHeartbeats 4000000 in
theorem k_M_presses_p190 {G : am_T} {d0 : Nat} (C0 : am_C G cX10_presses 4 RX10 LM d0) (hd : 6 ≤ d0) (F : Nat) {q : Bool × am_SS} (hret : am_retI G cX10_presses 4 (am_bI q.1) q.2) (x1 : Int32) (x3 : Bool) (s1 : Int32) (s2 : Int32) (σ : am_SS) (h : M_presses_p190 F x1 x3 s1 s2 σ = some q) : am_K G 4 190 [(0, .ref (am_b G 0)), (1, .int x1), (3, .int (am_bI x3))] [.int s2, .int s1, .ref (am_b G 1)] σ := by
  unfold M_presses_p190 at h
  obtain ⟨σ_1, h_σ_1, h⟩ := am_bind h
  refine am_iast C0 (ltM (tgM_7_1 kM0)) (tgM_7_1 kM0) (lnM_7_1 kM0) h_σ_1 dX10_presses_190 ?_
  refine am_aload_n C0 dX10_presses_191 0 rfl ?_
  refine am_iconst C0 dX10_presses_192 ci_5 ?_
  refine am_iload_n C0 dX10_presses_193 1 rfl ?_
  refine am_aload_n C0 dX10_presses_194 0 rfl ?_
  refine am_getR C0 (j := 1) ff_RX10_7 (loM_7_1 kM0).1 (loM_7_1 kM0).2.1 (loM_7_1 kM0).2.2.1 (loM_7_1 kM0).2.2.2 dX10_presses_195 ?_
  refine am_iconst C0 dX10_presses_198 ci_4 ?_
  obtain ⟨t_2, h_t_2, h⟩ := am_bind h
  refine am_iald C0 (ltM (tgM_7_1 kM0)) (tgM_7_1 kM0) (lnM_7_1 kM0) h_t_2 dX10_presses_199 ?_
  refine am_iconst C0 dX10_presses_200 ci_1 ?_
  refine am_isub C0 dX10_presses_201 ?_
  obtain ⟨q_3, h_q_3, h⟩ := am_bind h
  refine am_callV C0 (m_M_notes (σ := σ_1) (Nat.le_refl _) 5 x1 (t_2 - 1)  h_q_3) mm_yX10_notes ln_RX10_343 (As := fun b => [.int 5, .int x1, .int (t_2 - 1)]) (fun _ => rfl) (fun _ => rfl) (loM_7_0 kM0).1 (loM_7_0 kM0).2.1 rfl (Nat.le_trans (by decide) hd) rfl (Nat.le_of_ble_eq_true rfl) dX10_presses_202 ?_
  refine am_iload_n C0 dX10_presses_205 2 rfl ?_
  have e := Option.some.inj h
  subst e
  exact hret _ _ dX10_presses_206
set_option maxRecDepth 100000 in
set_option maxHeartbeats 4000000 in
theorem k_M_presses_p169 {G : am_T} {d0 : Nat} (C0 : am_C G cX10_presses 4 RX10 LM d0) (hd : 6 ≤ d0) (F : Nat) {q : Bool × am_SS} (hret : am_retI G cX10_presses 4 (am_bI q.1) q.2) (x1 : Int32) (x3 : Bool) (σ : am_SS) (h : M_presses_p169 F x1 x3 σ = some q) : am_K G 4 169 [(0, .ref (am_b G 0)), (1, .int x1), (3, .int (am_bI x3))] [] σ := by
  unfold M_presses_p169 at h
  refine am_aload_n C0 dX10_presses_169 0 rfl ?_
  refine am_getR C0 (j := 1) ff_RX10_7 (loM_7_1 kM0).1 (loM_7_1 kM0).2.1 (loM_7_1 kM0).2.2.1 (loM_7_1 kM0).2.2.2 dX10_presses_170 ?_
  refine am_iconst C0 dX10_presses_173 ci_4 ?_
  refine am_aload_n C0 dX10_presses_174 0 rfl ?_
  refine am_getR C0 (j := 1) ff_RX10_7 (loM_7_1 kM0).1 (loM_7_1 kM0).2.1 (loM_7_1 kM0).2.2.1 (loM_7_1 kM0).2.2.2 dX10_presses_175 ?_
  refine am_iconst C0 dX10_presses_178 ci_3 ?_
  obtain ⟨t_1, h_t_1, h⟩ := am_bind h
  refine am_iald C0 (ltM (tgM_7_1 kM0)) (tgM_7_1 kM0) (lnM_7_1 kM0) h_t_1 dX10_presses_179 ?_
  refine am_bipush C0 dX10_presses_180 kb_99 ?_
  refine am_icmp_ne C0 dX10_presses_182 (tgt := 189) (by decide) (fun c_2 => ?_) (fun c_2 => ?_)
  · replace h := am_in h c_2
    refine am_iconst C0 dX10_presses_189 ci_2 ?_
    exact am_sub [0, 1, 2] rfl (k_M_presses_p190 C0 hd F hret x1 x3 4 2 σ  h)
  · replace h := am_ip h c_2
    refine am_iconst C0 dX10_presses_185 ci_1 ?_
    refine am_goto C0 dX10_presses_186 (tgt := 190) (by decide) ?_
    exact am_sub [0, 1, 2] rfl (k_M_presses_p190 C0 hd F hret x1 x3 4 1 σ  h)
set_option maxRecDepth 100000 in
set_option maxHeartbeats 4000000 in
theorem k_M_presses_p147 {G : am_T} {d0 : Nat} (C0 : am_C G cX10_presses 4 RX10 LM d0) (hd : 6 ≤ d0) (F : Nat) {q : Bool × am_SS} (hret : am_retI G cX10_presses 4 (am_bI q.1) q.2) (x1 : Int32) (x3 : Bool) (σ : am_SS) (h : M_presses_p147 F x1 x3 σ = some q) : am_K G 4 147 [(0, .ref (am_b G 0)), (1, .int x1), (3, .int (am_bI x3))] [] σ := by
  unfold M_presses_p147 at h
  refine am_aload_n C0 dX10_presses_147 0 rfl ?_
  refine am_getR C0 (j := 1) ff_RX10_7 (loM_7_1 kM0).1 (loM_7_1 kM0).2.1 (loM_7_1 kM0).2.2.1 (loM_7_1 kM0).2.2.2 dX10_presses_148 ?_
  refine am_iconst C0 dX10_presses_151 ci_3 ?_
  obtain ⟨t_1, h_t_1, h⟩ := am_bind h
  refine am_iald C0 (ltM (tgM_7_1 kM0)) (tgM_7_1 kM0) (lnM_7_1 kM0) h_t_1 dX10_presses_152 ?_
  refine am_bipush C0 dX10_presses_153 kb_99 ?_
  refine am_icmp_eq C0 dX10_presses_155 (tgt := 169) (by decide) (fun c_2 => ?_) (fun c_2 => ?_)
  · replace h := am_ip h c_2
    exact am_sub [0, 1, 2] rfl (k_M_presses_p169 C0 hd F hret x1 x3 σ  h)
  · replace h := am_in h c_2
    refine am_aload_n C0 dX10_presses_158 0 rfl ?_
    refine am_getR C0 (j := 1) ff_RX10_7 (loM_7_1 kM0).1 (loM_7_1 kM0).2.1 (loM_7_1 kM0).2.2.1 (loM_7_1 kM0).2.2.2 dX10_presses_159 ?_
    refine am_iconst C0 dX10_presses_162 ci_3 ?_
    obtain ⟨t_3, h_t_3, h⟩ := am_bind h
    refine am_iald C0 (ltM (tgM_7_1 kM0)) (tgM_7_1 kM0) (lnM_7_1 kM0) h_t_3 dX10_presses_163 ?_
    refine am_bipush C0 dX10_presses_164 kb_m99 ?_
    refine am_icmp_ne C0 dX10_presses_166 (tgt := 205) (by decide) (fun c_4 => ?_) (fun c_4 => ?_)
    · replace h := am_in h c_4
      refine am_iload_n C0 dX10_presses_205 2 rfl ?_
      have e := Option.some.inj h
      subst e
      exact hret _ _ dX10_presses_206
    · replace h := am_ip h c_4
      exact am_sub [0, 1, 2] rfl (k_M_presses_p169 C0 hd F hret x1 x3 σ  h)
set_option maxRecDepth 100000 in
set_option maxHeartbeats 4000000 in
theorem k_M_presses_p127 {G : am_T} {d0 : Nat} (C0 : am_C G cX10_presses 4 RX10 LM d0) (hd : 6 ≤ d0) (F : Nat) {q : Bool × am_SS} (hret : am_retI G cX10_presses 4 (am_bI q.1) q.2) (x1 : Int32) (x2 : Int32) (x3 : Bool) (s1 : Int32) (s3 : Int32) (s4 : Int32) (σ : am_SS) (h : M_presses_p127 F x1 x2 x3 s1 s3 s4 σ = some q) : am_K G 4 127 [(0, .ref (am_b G 0)), (1, .int x1), (2, .int x2), (3, .int (am_bI x3))] [.int s4, .int s3, .ref (am_b G 0), .int s1, .ref (am_b G 1)] σ := by
  unfold M_presses_p127 at h
  refine am_iadd C0 dX10_presses_127 ?_
  refine am_bipush C0 dX10_presses_128 kb_m99 ?_
  refine am_bipush C0 dX10_presses_130 kb_99 ?_
  refine am_callV C0 (m_M_held (σ := σ) (Nat.le_refl _) (s3 + s4) (-99) 99  rfl) mm_yX10_held ln_RX10_327 (As := fun b => [.int (s3 + s4), .int (-99), .int 99]) (fun _ => rfl) (fun _ => rfl) (loM_7_0 kM0).1 (loM_7_0 kM0).2.1 rfl (Nat.le_trans (by decide) hd) rfl (Nat.le_of_ble_eq_true rfl) dX10_presses_132 ?_
  obtain ⟨σ_2, h_σ_2, h⟩ := am_bind h
  refine am_iast C0 (ltM (tgM_7_1 kM0)) (tgM_7_1 kM0) (lnM_7_1 kM0) h_σ_2 dX10_presses_135 ?_
  refine am_iload_n C0 dX10_presses_136 3 rfl ?_
  refine am_ifB_eq C0 dX10_presses_137 (tgt := 147) (by decide) (fun c_3 => ?_) (fun c_3 => ?_)
  · replace h := am_in h c_3
    exact am_sub [0, 1, 3] rfl (k_M_presses_p147 C0 hd F hret x1 x3 σ_2  h)
  · replace h := am_ip h c_3
    refine am_aload_n C0 dX10_presses_140 0 rfl ?_
    refine am_iconst C0 dX10_presses_141 ci_3 ?_
    refine am_iload_n C0 dX10_presses_142 1 rfl ?_
    refine am_iload_n C0 dX10_presses_143 2 rfl ?_
    obtain ⟨q_4, h_q_4, h⟩ := am_bind h
    refine am_callV C0 (m_M_notes (σ := σ_2) (Nat.le_refl _) 3 x1 x2  h_q_4) mm_yX10_notes ln_RX10_343 (As := fun b => [.int 3, .int x1, .int x2]) (fun _ => rfl) (fun _ => rfl) (loM_7_0 kM0).1 (loM_7_0 kM0).2.1 rfl (Nat.le_trans (by decide) hd) rfl (Nat.le_of_ble_eq_true rfl) dX10_presses_144 ?_
    exact am_sub [0, 1, 3] rfl (k_M_presses_p147 C0 hd F hret x1 x3 q_4  h)
set_option maxRecDepth 100000 in
set_option maxHeartbeats 4000000 in
theorem k_M_presses_p100 {G : am_T} {d0 : Nat} (C0 : am_C G cX10_presses 4 RX10 LM d0) (hd : 6 ≤ d0) (F : Nat) {q : Bool × am_SS} (hret : am_retI G cX10_presses 4 (am_bI q.1) q.2) (x1 : Int32) (x2 : Int32) (x3 : Bool) (σ : am_SS) (h : M_presses_p100 F x1 x2 x3 σ = some q) : am_K G 4 100 [(0, .ref (am_b G 0)), (1, .int x1), (2, .int x2), (3, .int (am_bI x3))] [] σ := by
  unfold M_presses_p100 at h
  refine am_aload_n C0 dX10_presses_100 0 rfl ?_
  refine am_getR C0 (j := 1) ff_RX10_7 (loM_7_1 kM0).1 (loM_7_1 kM0).2.1 (loM_7_1 kM0).2.2.1 (loM_7_1 kM0).2.2.2 dX10_presses_101 ?_
  refine am_iconst C0 dX10_presses_104 ci_3 ?_
  refine am_aload_n C0 dX10_presses_105 0 rfl ?_
  refine am_aload_n C0 dX10_presses_106 0 rfl ?_
  refine am_getR C0 (j := 1) ff_RX10_7 (loM_7_1 kM0).1 (loM_7_1 kM0).2.1 (loM_7_1 kM0).2.2.1 (loM_7_1 kM0).2.2.2 dX10_presses_107 ?_
  refine am_iconst C0 dX10_presses_110 ci_3 ?_
  obtain ⟨t_1, h_t_1, h⟩ := am_bind h
  refine am_iald C0 (ltM (tgM_7_1 kM0)) (tgM_7_1 kM0) (lnM_7_1 kM0) h_t_1 dX10_presses_111 ?_
  refine am_aload_n C0 dX10_presses_112 0 rfl ?_
  refine am_getR C0 (j := 4) ff_RX10_19 (loM_7_8 kM0).1 (loM_7_8 kM0).2.1 (loM_7_8 kM0).2.2.1 (loM_7_8 kM0).2.2.2 dX10_presses_113 ?_
  refine am_iload_n C0 dX10_presses_116 1 rfl ?_
  obtain ⟨t_2, h_t_2, h⟩ := am_bind h
  refine am_iald C0 (ltM (tgM_7_8 kM0)) (tgM_7_8 kM0) (lnM_7_8 kM0) h_t_2 dX10_presses_117 ?_
  refine am_if_ne C0 dX10_presses_118 (tgt := 125) (by decide) (fun c_3 => ?_) (fun c_3 => ?_)
  · replace h := am_in h c_3
    refine am_iload_n C0 dX10_presses_125 2 rfl ?_
    refine am_ineg C0 dX10_presses_126 ?_
    exact am_sub [0, 1, 2, 3] rfl (k_M_presses_p127 C0 hd F hret x1 x2 x3 3 t_1 (-x2) σ  h)
  · replace h := am_ip h c_3
    refine am_iload_n C0 dX10_presses_121 2 rfl ?_
    refine am_goto C0 dX10_presses_122 (tgt := 127) (by decide) ?_
    exact am_sub [0, 1, 2, 3] rfl (k_M_presses_p127 C0 hd F hret x1 x2 x3 3 t_1 x2 σ  h)
set_option maxRecDepth 100000 in
set_option maxHeartbeats 4000000 in
theorem k_M_presses_p60 {G : am_T} {d0 : Nat} (C0 : am_C G cX10_presses 4 RX10 LM d0) (hd : 6 ≤ d0) (F : Nat) {q : Bool × am_SS} (hret : am_retI G cX10_presses 4 (am_bI q.1) q.2) (x1 : Int32) (x2 : Int32) (s0 : Bool) (σ : am_SS) (h : M_presses_p60 F x1 x2 s0 σ = some q) : am_K G 4 60 [(0, .ref (am_b G 0)), (1, .int x1), (2, .int x2)] [.int (am_bI s0)] σ := by
  unfold M_presses_p60 at h
  refine am_istore_n C0 dX10_presses_60 rfl (by decide) rfl (lv' := [(0, .ref (am_b G 0)), (1, .int x1), (2, .int x2), (3, .int (am_bI s0))]) rfl ?_
  refine am_iload_n C0 dX10_presses_61 3 rfl ?_
  refine am_ifB_eq C0 dX10_presses_62 (tgt := 100) (by decide) (fun c_1 => ?_) (fun c_1 => ?_)
  · replace h := am_in h c_1
    exact am_sub [0, 1, 2, 3] rfl (k_M_presses_p100 C0 hd F hret x1 x2 s0 σ  h)
  · replace h := am_ip h c_1
    refine am_iload_n C0 dX10_presses_65 2 rfl ?_
    refine am_bipush C0 dX10_presses_66 kb_10 ?_
    refine am_iadd C0 dX10_presses_68 ?_
    obtain ⟨x2_2, e_x2_2, h⟩ := am_lt h
    refine am_top e_x2_2 ?_
    refine am_istore_n C0 dX10_presses_69 rfl (by decide) rfl (lv' := [(0, .ref (am_b G 0)), (1, .int x1), (2, .int x2_2), (3, .int (am_bI s0))]) rfl ?_
    refine am_aload_n C0 dX10_presses_70 0 rfl ?_
    refine am_getR C0 (j := 1) ff_RX10_7 (loM_7_1 kM0).1 (loM_7_1 kM0).2.1 (loM_7_1 kM0).2.2.1 (loM_7_1 kM0).2.2.2 dX10_presses_71 ?_
    refine am_bipush C0 dX10_presses_74 kb_53 ?_
    refine am_iload_n C0 dX10_presses_76 1 rfl ?_
    refine am_iadd C0 dX10_presses_77 ?_
    refine am_aload_n C0 dX10_presses_78 0 rfl ?_
    refine am_getR C0 (j := 1) ff_RX10_7 (loM_7_1 kM0).1 (loM_7_1 kM0).2.1 (loM_7_1 kM0).2.2.1 (loM_7_1 kM0).2.2.2 dX10_presses_79 ?_
    refine am_bipush C0 dX10_presses_82 kb_53 ?_
    refine am_iload_n C0 dX10_presses_84 1 rfl ?_
    refine am_iadd C0 dX10_presses_85 ?_
    obtain ⟨t_3, h_t_3, h⟩ := am_bind h
    refine am_iald C0 (ltM (tgM_7_1 kM0)) (tgM_7_1 kM0) (lnM_7_1 kM0) h_t_3 dX10_presses_86 ?_
    refine am_iconst C0 dX10_presses_87 ci_1 ?_
    refine am_iadd C0 dX10_presses_88 ?_
    obtain ⟨σ_4, h_σ_4, h⟩ := am_bind h
    refine am_iast C0 (ltM (tgM_7_1 kM0)) (tgM_7_1 kM0) (lnM_7_1 kM0) h_σ_4 dX10_presses_89 ?_
    refine am_aload_n C0 dX10_presses_90 0 rfl ?_
    refine am_getR C0 (j := 1) ff_RX10_7 (loM_7_1 kM0).1 (loM_7_1 kM0).2.1 (loM_7_1 kM0).2.2.1 (loM_7_1 kM0).2.2.2 dX10_presses_91 ?_
    refine am_bipush C0 dX10_presses_94 kb_17 ?_
    refine am_iload_n C0 dX10_presses_96 1 rfl ?_
    refine am_iadd C0 dX10_presses_97 ?_
    refine am_iconst C0 dX10_presses_98 ci_0 ?_
    obtain ⟨σ_5, h_σ_5, h⟩ := am_bind h
    refine am_iast C0 (ltM (tgM_7_1 kM0)) (tgM_7_1 kM0) (lnM_7_1 kM0) h_σ_5 dX10_presses_99 ?_
    exact am_sub [0, 1, 2, 3] rfl (k_M_presses_p100 C0 hd F hret x1 x2_2 s0 σ_5  h)
set_option maxRecDepth 100000 in
set_option maxHeartbeats 4000000 in
theorem k_M_presses_p41 {G : am_T} {d0 : Nat} (C0 : am_C G cX10_presses 4 RX10 LM d0) (hd : 6 ≤ d0) (F : Nat) {q : Bool × am_SS} (hret : am_retI G cX10_presses 4 (am_bI q.1) q.2) (x1 : Int32) (x2 : Int32) (σ : am_SS) (h : M_presses_p41 F x1 x2 σ = some q) : am_K G 4 41 [(0, .ref (am_b G 0)), (1, .int x1), (2, .int x2)] [] σ := by
  unfold M_presses_p41 at h
  refine am_aload_n C0 dX10_presses_41 0 rfl ?_
  refine am_getR C0 (j := 1) ff_RX10_7 (loM_7_1 kM0).1 (loM_7_1 kM0).2.1 (loM_7_1 kM0).2.2.1 (loM_7_1 kM0).2.2.2 dX10_presses_42 ?_
  refine am_bipush C0 dX10_presses_45 kb_17 ?_
  refine am_iload_n C0 dX10_presses_47 1 rfl ?_
  refine am_iadd C0 dX10_presses_48 ?_
  obtain ⟨t_1, h_t_1, h⟩ := am_bind h
  refine am_iald C0 (ltM (tgM_7_1 kM0)) (tgM_7_1 kM0) (lnM_7_1 kM0) h_t_1 dX10_presses_49 ?_
  refine am_bipush C0 dX10_presses_50 kb_99 ?_
  refine am_icmp_ne C0 dX10_presses_52 (tgt := 59) (by decide) (fun c_2 => ?_) (fun c_2 => ?_)
  · replace h := am_in h c_2
    refine am_iconst C0 dX10_presses_59 ci_0 ?_
    exact am_sub [0, 1, 2] rfl (k_M_presses_p60 C0 hd F hret x1 x2 false σ  h)
  · replace h := am_ip h c_2
    refine am_iconst C0 dX10_presses_55 ci_1 ?_
    refine am_goto C0 dX10_presses_56 (tgt := 60) (by decide) ?_
    exact am_sub [0, 1, 2] rfl (k_M_presses_p60 C0 hd F hret x1 x2 true σ  h)
set_option maxRecDepth 100000 in
set_option maxHeartbeats 4000000 in
theorem k_M_presses {G : am_T} {d0 : Nat} (C0 : am_C G cX10_presses 4 RX10 LM d0) (hd : 6 ≤ d0) (F : Nat) {q : Bool × am_SS} (hret : am_retI G cX10_presses 4 (am_bI q.1) q.2) (x1 : Int32) (σ : am_SS) (h : M_presses F x1 σ = some q) : am_K G 4 0 [(0, .ref (am_b G 0)), (1, .int x1)] [] σ := by
  unfold M_presses at h
  refine am_aload_n C0 dX10_presses_0 0 rfl ?_
  refine am_iload_n C0 dX10_presses_1 1 rfl ?_
  obtain ⟨q_1, h_q_1, h⟩ := am_bind h
  refine am_callV C0 (m_M_pressesOf (σ := σ) (Nat.le_refl _) F x1  h_q_1) mm_yX10_pressesOf ln_RX10_365 (As := fun b => [.int x1]) (fun _ => rfl) (fun _ => rfl) (loM_7_0 kM0).1 (loM_7_0 kM0).2.1 rfl (Nat.le_trans (by decide) hd) rfl (Nat.le_of_ble_eq_true rfl) dX10_presses_2 ?_
  refine am_istore_n C0 dX10_presses_5 rfl (by decide) rfl (lv' := [(0, .ref (am_b G 0)), (1, .int x1), (2, .int q_1.1)]) rfl ?_
  refine am_aload_n C0 dX10_presses_6 0 rfl ?_
  refine am_getR C0 (j := 1) ff_RX10_7 (loM_7_1 kM0).1 (loM_7_1 kM0).2.1 (loM_7_1 kM0).2.2.1 (loM_7_1 kM0).2.2.2 dX10_presses_7 ?_
  refine am_iconst C0 dX10_presses_10 ci_5 ?_
  refine am_iload_n C0 dX10_presses_11 1 rfl ?_
  refine am_iadd C0 dX10_presses_12 ?_
  obtain ⟨t_2, h_t_2, h⟩ := am_bind h
  refine am_iald C0 (ltM (tgM_7_1 kM0)) (tgM_7_1 kM0) (lnM_7_1 kM0) h_t_2 dX10_presses_13 ?_
  refine am_bipush C0 dX10_presses_14 kb_50 ?_
  refine am_icmp_ge C0 dX10_presses_16 (tgt := 41) (by decide) (fun c_3 => ?_) (fun c_3 => ?_)
  · replace h := am_in h c_3
    exact am_sub [0, 1, 2] rfl (k_M_presses_p41 C0 hd F hret x1 q_1.1 q_1.2  h)
  · replace h := am_ip h c_3
    refine am_aload_n C0 dX10_presses_19 0 rfl ?_
    refine am_iconst C0 dX10_presses_20 ci_0 ?_
    refine am_iload_n C0 dX10_presses_21 2 rfl ?_
    refine am_bipush C0 dX10_presses_22 kb_50 ?_
    refine am_aload_n C0 dX10_presses_24 0 rfl ?_
    refine am_getR C0 (j := 1) ff_RX10_7 (loM_7_1 kM0).1 (loM_7_1 kM0).2.1 (loM_7_1 kM0).2.2.1 (loM_7_1 kM0).2.2.2 dX10_presses_25 ?_
    refine am_iconst C0 dX10_presses_28 ci_5 ?_
    refine am_iload_n C0 dX10_presses_29 1 rfl ?_
    refine am_iadd C0 dX10_presses_30 ?_
    obtain ⟨t_4, h_t_4, h⟩ := am_bind h
    refine am_iald C0 (ltM (tgM_7_1 kM0)) (tgM_7_1 kM0) (lnM_7_1 kM0) h_t_4 dX10_presses_31 ?_
    refine am_isub C0 dX10_presses_32 ?_
    refine am_bipush C0 dX10_presses_33 kb_10 ?_
    refine am_idiv C0 dX10_presses_35 nz_10 ?_
    refine am_isub C0 dX10_presses_36 ?_
    refine am_callV C0 (m_M_greater (σ := q_1.2) (Nat.le_refl _) 0 (q_1.1 - ((50 - t_4) / 10))  rfl) mm_yX10_greater ln_RX10_368 (As := fun b => [.int 0, .int (q_1.1 - ((50 - t_4) / 10))]) (fun _ => rfl) (fun _ => rfl) (loM_7_0 kM0).1 (loM_7_0 kM0).2.1 rfl (Nat.le_trans (by decide) hd) rfl (Nat.le_of_ble_eq_true rfl) dX10_presses_37 ?_
    obtain ⟨x2_6, e_x2_6, h⟩ := am_lt h
    refine am_top e_x2_6 ?_
    refine am_istore_n C0 dX10_presses_40 rfl (by decide) rfl (lv' := [(0, .ref (am_b G 0)), (1, .int x1), (2, .int x2_6)]) rfl ?_
    exact am_sub [0, 1, 2] rfl (k_M_presses_p41 C0 hd F hret x1 x2_6 q_1.2  h)
set_option maxRecDepth 100000 in
set_option maxHeartbeats 4000000 in
theorem m_M_presses {l : Launch} {d : Nat} {σ : am_SS} {q : Bool × am_SS} (hd : 6 ≤ d) (F : Nat) (x1 : Int32) (h : M_presses F x1 σ = some q) : am_Met l yX10_presses cX10_presses 4 (some .boolean) d 0 0 LM (fun b => [.ref (b 0), .int x1]) σ (some (.int (am_bI q.1))) q.2 :=
  am_metI (plainFor_of_name (by decide)) (am_bI_nr _) (lv := fun b => [(0, .ref (b 0)), (1, .int x1)]) (fun _ => rfl) (fun _ => Nat.le_of_ble_eq_true rfl) (fun G C0 _ hret => k_M_presses C0 hd F hret x1 σ  h)
set_option maxRecDepth 100000 in
set_option maxHeartbeats 4000000 in
theorem k_M_sleeps_p132 {G : am_T} {d0 : Nat} (C0 : am_C G cX10_sleeps 3 RX10 LM d0) (hd : 6 ≤ d0) (F : Nat) {q : am_SS} (hret : am_retV G cX10_sleeps 3 q) (x1 : Int32) (σ : am_SS) (h : M_sleeps_p132 F x1 σ = some q) : am_K G 3 132 [(0, .ref (am_b G 0)), (1, .int x1)] [] σ := by
  unfold M_sleeps_p132 at h
  refine am_aload_n C0 dX10_sleeps_132 0 rfl ?_
  refine am_getR C0 (j := 1) ff_RX10_7 (loM_7_1 kM0).1 (loM_7_1 kM0).2.1 (loM_7_1 kM0).2.2.1 (loM_7_1 kM0).2.2.2 dX10_sleeps_133 ?_
  refine am_bipush C0 dX10_sleeps_136 kb_29 ?_
  refine am_iload_n C0 dX10_sleeps_138 1 rfl ?_
  refine am_iadd C0 dX10_sleeps_139 ?_
  refine am_iconst C0 dX10_sleeps_140 ci_1 ?_
  obtain ⟨σ_1, h_σ_1, h⟩ := am_bind h
  refine am_iast C0 (ltM (tgM_7_1 kM0)) (tgM_7_1 kM0) (lnM_7_1 kM0) h_σ_1 dX10_sleeps_141 ?_
  have e := Option.some.inj h
  subst e
  exact hret _ _ dX10_sleeps_142
set_option maxRecDepth 100000 in
set_option maxHeartbeats 4000000 in
theorem k_M_sleeps {G : am_T} {d0 : Nat} (C0 : am_C G cX10_sleeps 3 RX10 LM d0) (hd : 6 ≤ d0) (F : Nat) {q : am_SS} (hret : am_retV G cX10_sleeps 3 q) (x1 : Int32) (σ : am_SS) (h : M_sleeps F x1 σ = some q) : am_K G 3 0 [(0, .ref (am_b G 0)), (1, .int x1)] [] σ := by
  unfold M_sleeps at h
  refine am_aload_n C0 dX10_sleeps_0 0 rfl ?_
  refine am_getR C0 (j := 20) ff_RX10_71 (loM_7_39 kM0).1 (loM_7_39 kM0).2.1 (loM_7_39 kM0).2.2.1 (loM_7_39 kM0).2.2.2 dX10_sleeps_1 ?_
  refine am_iload_n C0 dX10_sleeps_4 1 rfl ?_
  obtain ⟨t_1, h_t_1, h⟩ := am_bind h
  refine am_iald C0 (ltM (tgM_7_39 kM0)) (tgM_7_39 kM0) (lnM_7_39 kM0) h_t_1 dX10_sleeps_5 ?_
  refine am_iconst C0 dX10_sleeps_6 ci_1 ?_
  refine am_isub C0 dX10_sleeps_7 ?_
  obtain ⟨x2_2, e_x2_2, h⟩ := am_lt h
  refine am_top e_x2_2 ?_
  refine am_istore_n C0 dX10_sleeps_8 rfl (by decide) rfl (lv' := [(0, .ref (am_b G 0)), (1, .int x1), (2, .int x2_2)]) rfl ?_
  refine am_aload_n C0 dX10_sleeps_9 0 rfl ?_
  refine am_getR C0 (j := 1) ff_RX10_7 (loM_7_1 kM0).1 (loM_7_1 kM0).2.1 (loM_7_1 kM0).2.2.1 (loM_7_1 kM0).2.2.2 dX10_sleeps_10 ?_
  refine am_iconst C0 dX10_sleeps_13 ci_5 ?_
  refine am_iload_n C0 dX10_sleeps_14 1 rfl ?_
  refine am_iadd C0 dX10_sleeps_15 ?_
  refine am_aload_n C0 dX10_sleeps_16 0 rfl ?_
  refine am_iconst C0 dX10_sleeps_17 ci_0 ?_
  refine am_aload_n C0 dX10_sleeps_18 0 rfl ?_
  refine am_getR C0 (j := 1) ff_RX10_7 (loM_7_1 kM0).1 (loM_7_1 kM0).2.1 (loM_7_1 kM0).2.2.1 (loM_7_1 kM0).2.2.2 dX10_sleeps_19 ?_
  refine am_iconst C0 dX10_sleeps_22 ci_5 ?_
  refine am_iload_n C0 dX10_sleeps_23 1 rfl ?_
  refine am_iadd C0 dX10_sleeps_24 ?_
  obtain ⟨t_3, h_t_3, h⟩ := am_bind h
  refine am_iald C0 (ltM (tgM_7_1 kM0)) (tgM_7_1 kM0) (lnM_7_1 kM0) h_t_3 dX10_sleeps_25 ?_
  refine am_bipush C0 dX10_sleeps_26 kb_10 ?_
  refine am_isub C0 dX10_sleeps_28 ?_
  refine am_callV C0 (m_M_greater (σ := σ) (Nat.le_refl _) 0 (t_3 - 10)  rfl) mm_yX10_greater ln_RX10_368 (As := fun b => [.int 0, .int (t_3 - 10)]) (fun _ => rfl) (fun _ => rfl) (loM_7_0 kM0).1 (loM_7_0 kM0).2.1 rfl (Nat.le_trans (by decide) hd) rfl (Nat.le_of_ble_eq_true rfl) dX10_sleeps_29 ?_
  obtain ⟨σ_5, h_σ_5, h⟩ := am_bind h
  refine am_iast C0 (ltM (tgM_7_1 kM0)) (tgM_7_1 kM0) (lnM_7_1 kM0) h_σ_5 dX10_sleeps_32 ?_
  refine am_iload_n C0 dX10_sleeps_33 2 rfl ?_
  refine am_iconst C0 dX10_sleeps_34 ci_m1 ?_
  refine am_icmp_ne C0 dX10_sleeps_35 (tgt := 39) (by decide) (fun c_6 => ?_) (fun c_6 => ?_)
  · replace h := am_in h c_6
    refine am_aload_n C0 dX10_sleeps_39 0 rfl ?_
    refine am_getR C0 (j := 1) ff_RX10_7 (loM_7_1 kM0).1 (loM_7_1 kM0).2.1 (loM_7_1 kM0).2.2.1 (loM_7_1 kM0).2.2.2 dX10_sleeps_40 ?_
    refine am_iconst C0 dX10_sleeps_43 ci_5 ?_
    refine am_iload_n C0 dX10_sleeps_44 1 rfl ?_
    refine am_iadd C0 dX10_sleeps_45 ?_
    refine am_aload_n C0 dX10_sleeps_46 0 rfl ?_
    refine am_bipush C0 dX10_sleeps_47 kb_99 ?_
    refine am_aload_n C0 dX10_sleeps_49 0 rfl ?_
    refine am_getR C0 (j := 1) ff_RX10_7 (loM_7_1 kM0).1 (loM_7_1 kM0).2.1 (loM_7_1 kM0).2.2.1 (loM_7_1 kM0).2.2.2 dX10_sleeps_50 ?_
    refine am_iconst C0 dX10_sleeps_53 ci_5 ?_
    refine am_iload_n C0 dX10_sleeps_54 1 rfl ?_
    refine am_iadd C0 dX10_sleeps_55 ?_
    obtain ⟨t_7, h_t_7, h⟩ := am_bind h
    refine am_iald C0 (ltM (tgM_7_1 kM0)) (tgM_7_1 kM0) (lnM_7_1 kM0) h_t_7 dX10_sleeps_56 ?_
    refine am_aload_n C0 dX10_sleeps_57 0 rfl ?_
    refine am_iload_n C0 dX10_sleeps_58 1 rfl ?_
    obtain ⟨q_8, h_q_8, h⟩ := am_bind h
    refine am_callV C0 (m_M_restsOf (σ := σ_5) (Nat.le_refl _) F x1  h_q_8) mm_yX10_restsOf ln_RX10_371 (As := fun b => [.int x1]) (fun _ => rfl) (fun _ => rfl) (loM_7_0 kM0).1 (loM_7_0 kM0).2.1 rfl (Nat.le_trans (by decide) hd) rfl (Nat.le_of_ble_eq_true rfl) dX10_sleeps_59 ?_
    refine am_iadd C0 dX10_sleeps_62 ?_
    refine am_callV C0 (m_M_lesser (σ := q_8.2) (Nat.le_refl _) 99 (t_7 + q_8.1)  rfl) mm_yX10_lesser ln_RX10_350 (As := fun b => [.int 99, .int (t_7 + q_8.1)]) (fun _ => rfl) (fun _ => rfl) (loM_7_0 kM0).1 (loM_7_0 kM0).2.1 rfl (Nat.le_trans (by decide) hd) rfl (Nat.le_of_ble_eq_true rfl) dX10_sleeps_63 ?_
    obtain ⟨σ_10, h_σ_10, h⟩ := am_bind h
    refine am_iast C0 (ltM (tgM_7_1 kM0)) (tgM_7_1 kM0) (lnM_7_1 kM0) h_σ_10 dX10_sleeps_66 ?_
    refine am_aload_n C0 dX10_sleeps_67 0 rfl ?_
    refine am_getR C0 (j := 1) ff_RX10_7 (loM_7_1 kM0).1 (loM_7_1 kM0).2.1 (loM_7_1 kM0).2.2.1 (loM_7_1 kM0).2.2.2 dX10_sleeps_68 ?_
    refine am_bipush C0 dX10_sleeps_71 kb_65 ?_
    refine am_iload_n C0 dX10_sleeps_73 2 rfl ?_
    refine am_iadd C0 dX10_sleeps_74 ?_
    refine am_aload_n C0 dX10_sleeps_75 0 rfl ?_
    refine am_bipush C0 dX10_sleeps_76 kb_99 ?_
    refine am_aload_n C0 dX10_sleeps_78 0 rfl ?_
    refine am_getR C0 (j := 1) ff_RX10_7 (loM_7_1 kM0).1 (loM_7_1 kM0).2.1 (loM_7_1 kM0).2.2.1 (loM_7_1 kM0).2.2.2 dX10_sleeps_79 ?_
    refine am_bipush C0 dX10_sleeps_82 kb_65 ?_
    refine am_iload_n C0 dX10_sleeps_84 2 rfl ?_
    refine am_iadd C0 dX10_sleeps_85 ?_
    obtain ⟨t_11, h_t_11, h⟩ := am_bind h
    refine am_iald C0 (ltM (tgM_7_1 kM0)) (tgM_7_1 kM0) (lnM_7_1 kM0) h_t_11 dX10_sleeps_86 ?_
    refine am_iconst C0 dX10_sleeps_87 ci_1 ?_
    refine am_iadd C0 dX10_sleeps_88 ?_
    refine am_callV C0 (m_M_lesser (σ := σ_10) (Nat.le_refl _) 99 (t_11 + 1)  rfl) mm_yX10_lesser ln_RX10_350 (As := fun b => [.int 99, .int (t_11 + 1)]) (fun _ => rfl) (fun _ => rfl) (loM_7_0 kM0).1 (loM_7_0 kM0).2.1 rfl (Nat.le_trans (by decide) hd) rfl (Nat.le_of_ble_eq_true rfl) dX10_sleeps_89 ?_
    obtain ⟨σ_13, h_σ_13, h⟩ := am_bind h
    refine am_iast C0 (ltM (tgM_7_1 kM0)) (tgM_7_1 kM0) (lnM_7_1 kM0) h_σ_13 dX10_sleeps_92 ?_
    refine am_aload_n C0 dX10_sleeps_93 0 rfl ?_
    refine am_aload_n C0 dX10_sleeps_94 0 rfl ?_
    refine am_iload_n C0 dX10_sleeps_95 1 rfl ?_
    obtain ⟨q_14, h_q_14, h⟩ := am_bind h
    refine am_callV C0 (m_M_readsOf (σ := σ_13) (Nat.le_refl _) F x1  h_q_14) mm_yX10_readsOf ln_RX10_374 (As := fun b => [.int x1]) (fun _ => rfl) (fun _ => rfl) (loM_7_0 kM0).1 (loM_7_0 kM0).2.1 rfl (Nat.le_trans (by decide) hd) rfl (Nat.le_of_ble_eq_true rfl) dX10_sleeps_96 ?_
    obtain ⟨q_15, h_q_15, h⟩ := am_bind h
    refine am_callV C0 (m_M_happens (σ := q_14.2) (Nat.le_refl _) q_14.1  h_q_15) mm_yX10_happens ln_RX10_377 (As := fun b => [.int q_14.1]) (fun _ => rfl) (fun _ => rfl) (loM_7_0 kM0).1 (loM_7_0 kM0).2.1 rfl (Nat.le_trans (by decide) hd) rfl (Nat.le_of_ble_eq_true rfl) dX10_sleeps_99 ?_
    refine am_ifB_ne C0 dX10_sleeps_102 (tgt := 106) (by decide) (fun c_16 => ?_) (fun c_16 => ?_)
    · replace h := am_ip h c_16
      refine am_aload_n C0 dX10_sleeps_106 0 rfl ?_
      refine am_getR C0 (j := 1) ff_RX10_7 (loM_7_1 kM0).1 (loM_7_1 kM0).2.1 (loM_7_1 kM0).2.2.1 (loM_7_1 kM0).2.2.2 dX10_sleeps_107 ?_
      refine am_bipush C0 dX10_sleeps_110 kb_29 ?_
      refine am_iload_n C0 dX10_sleeps_112 1 rfl ?_
      refine am_iadd C0 dX10_sleeps_113 ?_
      obtain ⟨t_17, h_t_17, h⟩ := am_bind h
      refine am_iald C0 (ltM (tgM_7_1 kM0)) (tgM_7_1 kM0) (lnM_7_1 kM0) h_t_17 dX10_sleeps_114 ?_
      refine am_if_ne C0 dX10_sleeps_115 (tgt := 132) (by decide) (fun c_18 => ?_) (fun c_18 => ?_)
      · replace h := am_in h c_18
        exact am_sub [0, 1] rfl (k_M_sleeps_p132 C0 hd F hret x1 q_15.2  h)
      · replace h := am_ip h c_18
        refine am_aload_n C0 dX10_sleeps_118 0 rfl ?_
        refine am_iconst C0 dX10_sleeps_119 ci_4 ?_
        refine am_iload_n C0 dX10_sleeps_120 1 rfl ?_
        refine am_aload_n C0 dX10_sleeps_121 0 rfl ?_
        refine am_getR C0 (j := 1) ff_RX10_7 (loM_7_1 kM0).1 (loM_7_1 kM0).2.1 (loM_7_1 kM0).2.2.1 (loM_7_1 kM0).2.2.2 dX10_sleeps_122 ?_
        refine am_iconst C0 dX10_sleeps_125 ci_5 ?_
        refine am_iload_n C0 dX10_sleeps_126 1 rfl ?_
        refine am_iadd C0 dX10_sleeps_127 ?_
        obtain ⟨t_19, h_t_19, h⟩ := am_bind h
        refine am_iald C0 (ltM (tgM_7_1 kM0)) (tgM_7_1 kM0) (lnM_7_1 kM0) h_t_19 dX10_sleeps_128 ?_
        obtain ⟨q_20, h_q_20, h⟩ := am_bind h
        refine am_callV C0 (m_M_notes (σ := q_15.2) (Nat.le_refl _) 4 x1 t_19  h_q_20) mm_yX10_notes ln_RX10_343 (As := fun b => [.int 4, .int x1, .int t_19]) (fun _ => rfl) (fun _ => rfl) (loM_7_0 kM0).1 (loM_7_0 kM0).2.1 rfl (Nat.le_trans (by decide) hd) rfl (Nat.le_of_ble_eq_true rfl) dX10_sleeps_129 ?_
        exact am_sub [0, 1] rfl (k_M_sleeps_p132 C0 hd F hret x1 q_20  h)
    · replace h := am_in h c_16
      have e := Option.some.inj h
      subst e
      exact hret _ _ dX10_sleeps_105
  · replace h := am_ip h c_6
    have e := Option.some.inj h
    subst e
    exact hret _ _ dX10_sleeps_38
set_option maxRecDepth 100000 in
set_option maxHeartbeats 4000000 in
theorem m_M_sleeps {l : Launch} {d : Nat} {σ : am_SS} {q : am_SS} (hd : 6 ≤ d) (F : Nat) (x1 : Int32) (h : M_sleeps F x1 σ = some q) : am_Met l yX10_sleeps cX10_sleeps 3 none d 0 0 LM (fun b => [.ref (b 0), .int x1]) σ none q :=
  am_metV (plainFor_of_name (by decide)) (lv := fun b => [(0, .ref (b 0)), (1, .int x1)]) (fun _ => rfl) (fun _ => Nat.le_of_ble_eq_true rfl) (fun G C0 _ hret => k_M_sleeps C0 hd F hret x1 σ  h)
