set_option maxRecDepth 100000 in
set_option maxHeartbeats 4000000 in
theorem k_M_look {G : am_T} {d0 : Nat} (C0 : am_C G cX10_look 2 RX10 LM d0) (hd : 2 ≤ d0) (F : Nat) {q : Int32 × am_SS} (hret : am_retI G cX10_look 2 q.1 q.2) (x1 : Int32) (σ : am_SS) (h : M_look F x1 σ = some q) : am_K G 2 0 [(0, .ref (am_b G 0)), (1, .int x1)] [] σ := by
  unfold M_look at h
  refine am_aload_n C0 dX10_look_0 0 rfl ?_
  refine am_iconst C0 dX10_look_1 ci_0 ?_
  obtain ⟨σ_1, e_σ_1, h⟩ := am_lt h
  refine am_putI C0 e_σ_1 fp_RX10_131 (loM_7_0 kM0).1 (loM_7_0 kM0).2.1 (loM_7_0 kM0).2.2.1 (loM_7_0 kM0).2.2.2 rfl rfl dX10_look_2 ?_
  refine am_iload_n C0 dX10_look_5 1 rfl ?_
  refine am_if_ne C0 dX10_look_6 (tgt := 14) (by decide) (fun c_2 => ?_) (fun c_2 => ?_)
  · replace h := am_in h c_2
    refine am_iload_n C0 dX10_look_14 1 rfl ?_
    refine am_iconst C0 dX10_look_15 ci_1 ?_
    refine am_icmp_ne C0 dX10_look_16 (tgt := 24) (by decide) (fun c_3 => ?_) (fun c_3 => ?_)
    · replace h := am_in h c_3
      refine am_iload_n C0 dX10_look_24 1 rfl ?_
      refine am_iconst C0 dX10_look_25 ci_2 ?_
      refine am_icmp_ne C0 dX10_look_26 (tgt := 36) (by decide) (fun c_4 => ?_) (fun c_4 => ?_)
      · replace h := am_in h c_4
        refine am_iload_n C0 dX10_look_36 1 rfl ?_
        refine am_iconst C0 dX10_look_37 ci_3 ?_
        refine am_icmp_ne C0 dX10_look_38 (tgt := 50) (by decide) (fun c_5 => ?_) (fun c_5 => ?_)
        · replace h := am_in h c_5
          refine am_iload_n C0 dX10_look_50 1 rfl ?_
          refine am_iconst C0 dX10_look_51 ci_4 ?_
          refine am_icmp_ne C0 dX10_look_52 (tgt := 60) (by decide) (fun c_6 => ?_) (fun c_6 => ?_)
          · replace h := am_in h c_6
            refine am_iload_n C0 dX10_look_60 1 rfl ?_
            refine am_iconst C0 dX10_look_61 ci_5 ?_
            refine am_icmp_ne C0 dX10_look_62 (tgt := 72) (by decide) (fun c_7 => ?_) (fun c_7 => ?_)
            · replace h := am_in h c_7
              refine am_iload_n C0 dX10_look_72 1 rfl ?_
              refine am_bipush C0 dX10_look_73 kb_6 ?_
              refine am_icmp_ne C0 dX10_look_75 (tgt := 85) (by decide) (fun c_8 => ?_) (fun c_8 => ?_)
              · replace h := am_in h c_8
                refine am_iload_n C0 dX10_look_85 1 rfl ?_
                refine am_bipush C0 dX10_look_86 kb_7 ?_
                refine am_icmp_ne C0 dX10_look_88 (tgt := 98) (by decide) (fun c_9 => ?_) (fun c_9 => ?_)
                · replace h := am_in h c_9
                  refine am_iload_n C0 dX10_look_98 1 rfl ?_
                  refine am_bipush C0 dX10_look_99 kb_8 ?_
                  refine am_icmp_ne C0 dX10_look_101 (tgt := 111) (by decide) (fun c_10 => ?_) (fun c_10 => ?_)
                  · replace h := am_in h c_10
                    refine am_iload_n C0 dX10_look_111 1 rfl ?_
                    refine am_bipush C0 dX10_look_112 kb_9 ?_
                    refine am_icmp_ne C0 dX10_look_114 (tgt := 122) (by decide) (fun c_11 => ?_) (fun c_11 => ?_)
                    · replace h := am_in h c_11
                      refine am_iload_n C0 dX10_look_122 1 rfl ?_
                      refine am_bipush C0 dX10_look_123 kb_10 ?_
                      refine am_icmp_ne C0 dX10_look_125 (tgt := 133) (by decide) (fun c_12 => ?_) (fun c_12 => ?_)
                      · replace h := am_in h c_12
                        refine am_iload_n C0 dX10_look_133 1 rfl ?_
                        refine am_bipush C0 dX10_look_134 kb_11 ?_
                        refine am_icmp_ne C0 dX10_look_136 (tgt := 144) (by decide) (fun c_13 => ?_) (fun c_13 => ?_)
                        · replace h := am_in h c_13
                          refine am_iload_n C0 dX10_look_144 1 rfl ?_
                          refine am_bipush C0 dX10_look_145 kb_12 ?_
                          refine am_icmp_ne C0 dX10_look_147 (tgt := 157) (by decide) (fun c_14 => ?_) (fun c_14 => ?_)
                          · replace h := am_in h c_14
                            refine am_ldcw C0 kc_RX10_498 dX10_look_157 ?_
                            have e := Option.some.inj h
                            subst e
                            exact hret _ _ dX10_look_160
                          · replace h := am_ip h c_14
                            refine am_aload_n C0 dX10_look_150 0 rfl ?_
                            refine am_getI C0 ff_RX10_134 (loM_7_3 kM0).1 (loM_7_3 kM0).2.1 (loM_7_3 kM0).2.2.1 (loM_7_3 kM0).2.2.2 dX10_look_151 ?_
                            refine am_goto C0 dX10_look_154 (tgt := 160) (by decide) ?_
                            have e := Option.some.inj h
                            subst e
                            exact hret _ _ dX10_look_160
                        · replace h := am_ip h c_13
                          refine am_aload_n C0 dX10_look_139 0 rfl ?_
                          refine am_getI C0 ff_RX10_303 (loM_7_40 kM0).1 (loM_7_40 kM0).2.1 (loM_7_40 kM0).2.2.1 (loM_7_40 kM0).2.2.2 dX10_look_140 ?_
                          have e := Option.some.inj h
                          subst e
                          exact hret _ _ dX10_look_143
                      · replace h := am_ip h c_12
                        refine am_aload_n C0 dX10_look_128 0 rfl ?_
                        refine am_getI C0 ff_RX10_300 (loM_7_38 kM0).1 (loM_7_38 kM0).2.1 (loM_7_38 kM0).2.2.1 (loM_7_38 kM0).2.2.2 dX10_look_129 ?_
                        have e := Option.some.inj h
                        subst e
                        exact hret _ _ dX10_look_132
                    · replace h := am_ip h c_11
                      refine am_aload_n C0 dX10_look_117 0 rfl ?_
                      refine am_getI C0 ff_RX10_297 (loM_7_36 kM0).1 (loM_7_36 kM0).2.1 (loM_7_36 kM0).2.2.1 (loM_7_36 kM0).2.2.2 dX10_look_118 ?_
                      have e := Option.some.inj h
                      subst e
                      exact hret _ _ dX10_look_121
                  · replace h := am_ip h c_10
                    refine am_aload_n C0 dX10_look_104 0 rfl ?_
                    refine am_getR C0 (j := 11) ff_RX10_40 (loM_7_20 kM0).1 (loM_7_20 kM0).2.1 (loM_7_20 kM0).2.2.1 (loM_7_20 kM0).2.2.2 dX10_look_105 ?_
                    refine am_iconst C0 dX10_look_108 ci_0 ?_
                    obtain ⟨t_15, h_t_15, h⟩ := am_bind h
                    refine am_iald C0 (ltM (tgM_7_20 kM0)) (tgM_7_20 kM0) (lnM_7_20 kM0) h_t_15 dX10_look_109 ?_
                    have e := Option.some.inj h
                    subst e
                    exact hret _ _ dX10_look_110
                · replace h := am_ip h c_9
                  refine am_aload_n C0 dX10_look_91 0 rfl ?_
                  refine am_getR C0 (j := 1) ff_RX10_7 (loM_7_1 kM0).1 (loM_7_1 kM0).2.1 (loM_7_1 kM0).2.2.1 (loM_7_1 kM0).2.2.2 dX10_look_92 ?_
                  refine am_iconst C0 dX10_look_95 ci_1 ?_
                  obtain ⟨t_16, h_t_16, h⟩ := am_bind h
                  refine am_iald C0 (ltM (tgM_7_1 kM0)) (tgM_7_1 kM0) (lnM_7_1 kM0) h_t_16 dX10_look_96 ?_
                  have e := Option.some.inj h
                  subst e
                  exact hret _ _ dX10_look_97
              · replace h := am_ip h c_8
                refine am_aload_n C0 dX10_look_78 0 rfl ?_
                refine am_getR C0 (j := 1) ff_RX10_7 (loM_7_1 kM0).1 (loM_7_1 kM0).2.1 (loM_7_1 kM0).2.2.1 (loM_7_1 kM0).2.2.2 dX10_look_79 ?_
                refine am_iconst C0 dX10_look_82 ci_2 ?_
                obtain ⟨t_17, h_t_17, h⟩ := am_bind h
                refine am_iald C0 (ltM (tgM_7_1 kM0)) (tgM_7_1 kM0) (lnM_7_1 kM0) h_t_17 dX10_look_83 ?_
                have e := Option.some.inj h
                subst e
                exact hret _ _ dX10_look_84
            · replace h := am_ip h c_7
              refine am_aload_n C0 dX10_look_65 0 rfl ?_
              refine am_getR C0 (j := 1) ff_RX10_7 (loM_7_1 kM0).1 (loM_7_1 kM0).2.1 (loM_7_1 kM0).2.2.1 (loM_7_1 kM0).2.2.2 dX10_look_66 ?_
              refine am_iconst C0 dX10_look_69 ci_0 ?_
              obtain ⟨t_18, h_t_18, h⟩ := am_bind h
              refine am_iald C0 (ltM (tgM_7_1 kM0)) (tgM_7_1 kM0) (lnM_7_1 kM0) h_t_18 dX10_look_70 ?_
              have e := Option.some.inj h
              subst e
              exact hret _ _ dX10_look_71
          · replace h := am_ip h c_6
            refine am_aload_n C0 dX10_look_55 0 rfl ?_
            obtain ⟨q_19, h_q_19, h⟩ := am_bind h
            refine am_callV C0 (m_M_readSet (σ := σ_1) (Nat.le_refl _) F   h_q_19) mm_yX10_readSet ln_RX10_495 (As := fun b => []) (fun _ => rfl) (fun _ => rfl) (loM_7_0 kM0).1 (loM_7_0 kM0).2.1 rfl (Nat.le_trans (by decide) hd) rfl (Nat.le_of_ble_eq_true rfl) dX10_look_56 ?_
            have e := Option.some.inj h
            subst e
            exact hret _ _ dX10_look_59
        · replace h := am_ip h c_5
          refine am_aload_n C0 dX10_look_41 0 rfl ?_
          refine am_getR C0 (j := 1) ff_RX10_7 (loM_7_1 kM0).1 (loM_7_1 kM0).2.1 (loM_7_1 kM0).2.2.1 (loM_7_1 kM0).2.2.2 dX10_look_42 ?_
          refine am_iconst C0 dX10_look_45 ci_4 ?_
          obtain ⟨t_20, h_t_20, h⟩ := am_bind h
          refine am_iald C0 (ltM (tgM_7_1 kM0)) (tgM_7_1 kM0) (lnM_7_1 kM0) h_t_20 dX10_look_46 ?_
          refine am_iconst C0 dX10_look_47 ci_1 ?_
          refine am_isub C0 dX10_look_48 ?_
          have e := Option.some.inj h
          subst e
          exact hret _ _ dX10_look_49
      · replace h := am_ip h c_4
        refine am_aload_n C0 dX10_look_29 0 rfl ?_
        refine am_getR C0 (j := 1) ff_RX10_7 (loM_7_1 kM0).1 (loM_7_1 kM0).2.1 (loM_7_1 kM0).2.2.1 (loM_7_1 kM0).2.2.2 dX10_look_30 ?_
        refine am_iconst C0 dX10_look_33 ci_3 ?_
        obtain ⟨t_21, h_t_21, h⟩ := am_bind h
        refine am_iald C0 (ltM (tgM_7_1 kM0)) (tgM_7_1 kM0) (lnM_7_1 kM0) h_t_21 dX10_look_34 ?_
        have e := Option.some.inj h
        subst e
        exact hret _ _ dX10_look_35
    · replace h := am_ip h c_3
      refine am_aload_n C0 dX10_look_19 0 rfl ?_
      refine am_getI C0 ff_RX10_146 (loM_7_7 kM0).1 (loM_7_7 kM0).2.1 (loM_7_7 kM0).2.2.1 (loM_7_7 kM0).2.2.2 dX10_look_20 ?_
      have e := Option.some.inj h
      subst e
      exact hret _ _ dX10_look_23
  · replace h := am_ip h c_2
    refine am_aload_n C0 dX10_look_9 0 rfl ?_
    refine am_getI C0 ff_RX10_143 (loM_7_6 kM0).1 (loM_7_6 kM0).2.1 (loM_7_6 kM0).2.2.1 (loM_7_6 kM0).2.2.2 dX10_look_10 ?_
    have e := Option.some.inj h
    subst e
    exact hret _ _ dX10_look_13
set_option maxRecDepth 100000 in
set_option maxHeartbeats 4000000 in
theorem m_M_look {l : Launch} {d : Nat} {σ : am_SS} {q : Int32 × am_SS} (hd : 2 ≤ d) (F : Nat) (x1 : Int32) (h : M_look F x1 σ = some q) : am_Met l yX10_look cX10_look 2 (some .int) d 0 0 LM (fun b => [.ref (b 0), .int x1]) σ (some (.int q.1)) q.2 :=
  am_metI (plainFor_of_name (by decide)) rfl (lv := fun b => [(0, .ref (b 0)), (1, .int x1)]) (fun _ => rfl) (fun _ => Nat.le_of_ble_eq_true rfl) (fun G C0 _ hret => k_M_look C0 hd F hret x1 σ  h)
