set_option maxRecDepth 100000 in
set_option maxHeartbeats 4000000 in
theorem k_M_readSum_p42 {G : am_T} {d0 : Nat} (C0 : am_C G cX10_readSum 2 RX10 LM d0) (hd : 6 ≤ d0) (rec10 : am_SS → Option (Int32 × am_SS)) (F : Nat) {q : Int32 × am_SS} (hret : am_retI G cX10_readSum 2 q.1 q.2) (hrec10 : ∀ (σ : am_SS), rec10  σ = some q → am_K G 2 10 [(0, .ref (am_b G 0))] [] σ) (s0 : Int32) (σ : am_SS) (h : M_readSum_p42 rec10 F s0 σ = some q) : am_K G 2 42 [(0, .ref (am_b G 0))] [.int s0] σ := by
  unfold M_readSum_p42 at h
  refine am_istore_n C0 dX10_readSum_42 rfl (by decide) rfl (lv' := [(0, .ref (am_b G 0)), (1, .int s0)]) rfl ?_
  refine am_aload_n C0 dX10_readSum_43 0 rfl ?_
  obtain ⟨q_1, h_q_1, h⟩ := am_bind h
  refine am_callV C0 (m_M_reads (σ := σ) (Nat.le_refl _) F   h_q_1) mm_yX10_reads ln_RX10_222 (As := fun b => []) (fun _ => rfl) (fun _ => rfl) (loM_7_0 kM0).1 (loM_7_0 kM0).2.1 rfl (Nat.le_trans (by decide) hd) rfl (Nat.le_of_ble_eq_true rfl) dX10_readSum_44 ?_
  refine am_aload_n C0 dX10_readSum_47 0 rfl ?_
  obtain ⟨q_2, h_q_2, h⟩ := am_bind h
  refine am_callV C0 (m_M_readProduct (σ := q_1) (Nat.le_refl _) F   h_q_2) mm_yX10_readProduct ln_RX10_232 (As := fun b => []) (fun _ => rfl) (fun _ => rfl) (loM_7_0 kM0).1 (loM_7_0 kM0).2.1 rfl (Nat.le_trans (by decide) hd) rfl (Nat.le_of_ble_eq_true rfl) dX10_readSum_48 ?_
  refine am_iconst C0 dX10_readSum_51 ci_m1 ?_
  refine am_icmp_ne C0 dX10_readSum_52 (tgt := 57) (by decide) (fun c_3 => ?_) (fun c_3 => ?_)
  · replace h := am_in h c_3
    refine am_aload_n C0 dX10_readSum_57 0 rfl ?_
    refine am_iload_n C0 dX10_readSum_58 1 rfl ?_
    refine am_iconst C0 dX10_readSum_59 ci_0 ?_
    obtain ⟨q_4, h_q_4, h⟩ := am_bind h
    refine am_callV C0 (m_M_emits (σ := q_2.2) (Nat.le_refl _) s0 0  h_q_4) mm_yX10_emits ln_RX10_218 (As := fun b => [.int s0, .int 0]) (fun _ => rfl) (fun _ => rfl) (loM_7_0 kM0).1 (loM_7_0 kM0).2.1 rfl (Nat.le_trans (by decide) hd) rfl (Nat.le_of_ble_eq_true rfl) dX10_readSum_60 ?_
    refine am_goto C0 dX10_readSum_63 (tgt := 10) (by decide) ?_
    exact am_sub [0] rfl (hrec10  q_4  h)
  · replace h := am_ip h c_3
    refine am_iconst C0 dX10_readSum_55 ci_m1 ?_
    have e := Option.some.inj h
    subst e
    exact hret _ _ dX10_readSum_56
set_option maxRecDepth 100000 in
set_option maxHeartbeats 4000000 in
theorem k_M_readSum_p28 {G : am_T} {d0 : Nat} (C0 : am_C G cX10_readSum 2 RX10 LM d0) (hd : 6 ≤ d0) (rec10 : am_SS → Option (Int32 × am_SS)) (F : Nat) {q : Int32 × am_SS} (hret : am_retI G cX10_readSum 2 q.1 q.2) (hrec10 : ∀ (σ : am_SS), rec10  σ = some q → am_K G 2 10 [(0, .ref (am_b G 0))] [] σ) (σ : am_SS) (h : M_readSum_p28 rec10 F  σ = some q) : am_K G 2 28 [(0, .ref (am_b G 0))] [] σ := by
  unfold M_readSum_p28 at h
  refine am_aload_n C0 dX10_readSum_28 0 rfl ?_
  refine am_getI C0 ff_RX10_187 (loM_7_18 kM0).1 (loM_7_18 kM0).2.1 (loM_7_18 kM0).2.2.1 (loM_7_18 kM0).2.2.2 dX10_readSum_29 ?_
  refine am_bipush C0 dX10_readSum_32 kb_43 ?_
  refine am_icmp_ne C0 dX10_readSum_34 (tgt := 41) (by decide) (fun c_1 => ?_) (fun c_1 => ?_)
  · replace h := am_in h c_1
    refine am_iconst C0 dX10_readSum_41 ci_3 ?_
    exact am_sub [0] rfl (k_M_readSum_p42 C0 hd rec10 F hret hrec10 3 σ  h)
  · replace h := am_ip h c_1
    refine am_iconst C0 dX10_readSum_37 ci_2 ?_
    refine am_goto C0 dX10_readSum_38 (tgt := 42) (by decide) ?_
    exact am_sub [0] rfl (k_M_readSum_p42 C0 hd rec10 F hret hrec10 2 σ  h)
set_option maxRecDepth 100000 in
set_option maxHeartbeats 4000000 in
theorem k_M_readSum_l10 {G : am_T} {d0 : Nat} (C0 : am_C G cX10_readSum 2 RX10 LM d0) (hd : 6 ≤ d0) (F : Nat) {q : Int32 × am_SS} (hret : am_retI G cX10_readSum 2 q.1 q.2) : ∀ (n : Nat) (σ : am_SS) (h : M_readSum_l10 F n  σ = some q), am_K G 2 10 [(0, .ref (am_b G 0))] [] σ := by
  intro n
  induction n with
  | zero =>
    intro σ h
    rw [M_readSum_l10] at h
    cases h
  | succ n ih =>
    intro σ h
    rw [M_readSum_l10] at h
    refine am_aload_n C0 dX10_readSum_10 0 rfl ?_
    refine am_bipush C0 dX10_readSum_11 kb_43 ?_
    refine am_callV C0 (m_M_isSign (σ := σ) (Nat.le_refl _) 43  rfl) mm_yX10_isSign ln_RX10_229 (As := fun b => [.int 43]) (fun _ => rfl) (fun _ => rfl) (loM_7_0 kM0).1 (loM_7_0 kM0).2.1 rfl (Nat.le_trans (by decide) hd) rfl (Nat.le_of_ble_eq_true rfl) dX10_readSum_13 ?_
    refine am_ifB_ne C0 dX10_readSum_16 (tgt := 28) (by decide) (fun c_2 => ?_) (fun c_2 => ?_)
    · replace h := am_ip h c_2
      exact am_sub [0] rfl (k_M_readSum_p28 C0 hd _ F hret (fun zs z => ih zs z)  σ  h)
    · replace h := am_in h c_2
      refine am_aload_n C0 dX10_readSum_19 0 rfl ?_
      refine am_bipush C0 dX10_readSum_20 kb_45 ?_
      refine am_callV C0 (m_M_isSign (σ := σ) (Nat.le_refl _) 45  rfl) mm_yX10_isSign ln_RX10_229 (As := fun b => [.int 45]) (fun _ => rfl) (fun _ => rfl) (loM_7_0 kM0).1 (loM_7_0 kM0).2.1 rfl (Nat.le_trans (by decide) hd) rfl (Nat.le_of_ble_eq_true rfl) dX10_readSum_22 ?_
      refine am_ifB_eq C0 dX10_readSum_25 (tgt := 66) (by decide) (fun c_4 => ?_) (fun c_4 => ?_)
      · replace h := am_in h c_4
        refine am_iconst C0 dX10_readSum_66 ci_0 ?_
        have e := Option.some.inj h
        subst e
        exact hret _ _ dX10_readSum_67
      · replace h := am_ip h c_4
        exact am_sub [0] rfl (k_M_readSum_p28 C0 hd _ F hret (fun zs z => ih zs z)  σ  h)
set_option maxRecDepth 100000 in
set_option maxHeartbeats 4000000 in
theorem k_M_readSum {G : am_T} {d0 : Nat} (C0 : am_C G cX10_readSum 2 RX10 LM d0) (hd : 6 ≤ d0) (F : Nat) {q : Int32 × am_SS} (hret : am_retI G cX10_readSum 2 q.1 q.2) (σ : am_SS) (h : M_readSum F  σ = some q) : am_K G 2 0 [(0, .ref (am_b G 0))] [] σ := by
  unfold M_readSum at h
  refine am_aload_n C0 dX10_readSum_0 0 rfl ?_
  obtain ⟨q_1, h_q_1, h⟩ := am_bind h
  refine am_callV C0 (m_M_readProduct (σ := σ) (Nat.le_refl _) F   h_q_1) mm_yX10_readProduct ln_RX10_232 (As := fun b => []) (fun _ => rfl) (fun _ => rfl) (loM_7_0 kM0).1 (loM_7_0 kM0).2.1 rfl (Nat.le_trans (by decide) hd) rfl (Nat.le_of_ble_eq_true rfl) dX10_readSum_1 ?_
  refine am_iconst C0 dX10_readSum_4 ci_m1 ?_
  refine am_icmp_ne C0 dX10_readSum_5 (tgt := 10) (by decide) (fun c_2 => ?_) (fun c_2 => ?_)
  · replace h := am_in h c_2
    exact am_sub [0] rfl (k_M_readSum_l10 C0 hd F hret F  q_1.2  h)
  · replace h := am_ip h c_2
    refine am_iconst C0 dX10_readSum_8 ci_m1 ?_
    have e := Option.some.inj h
    subst e
    exact hret _ _ dX10_readSum_9
set_option maxRecDepth 100000 in
set_option maxHeartbeats 4000000 in
theorem m_M_readSum {l : Launch} {d : Nat} {σ : am_SS} {q : Int32 × am_SS} (hd : 6 ≤ d) (F : Nat) (h : M_readSum F  σ = some q) : am_Met l yX10_readSum cX10_readSum 2 (some .int) d 0 0 LM (fun b => [.ref (b 0)]) σ (some (.int q.1)) q.2 :=
  am_metI (plainFor_of_name (by decide)) rfl (lv := fun b => [(0, .ref (b 0))]) (fun _ => rfl) (fun _ => Nat.le_of_ble_eq_true rfl) (fun G C0 _ hret => k_M_readSum C0 hd F hret  σ  h)
set_option maxRecDepth 100000 in
set_option maxHeartbeats 4000000 in
theorem k_M_readCompared_p73 {G : am_T} {d0 : Nat} (C0 : am_C G cX10_readCompared 2 RX10 LM d0) (hd : 7 ≤ d0) (F : Nat) {q : Int32 × am_SS} (hret : am_retI G cX10_readCompared 2 q.1 q.2) (s0 : Int32) (σ : am_SS) (h : M_readCompared_p73 F s0 σ = some q) : am_K G 2 73 [(0, .ref (am_b G 0))] [.int s0] σ := by
  unfold M_readCompared_p73 at h
  refine am_istore_n C0 dX10_readCompared_73 rfl (by decide) rfl (lv' := [(0, .ref (am_b G 0)), (1, .int s0)]) rfl ?_
  refine am_aload_n C0 dX10_readCompared_74 0 rfl ?_
  obtain ⟨q_1, h_q_1, h⟩ := am_bind h
  refine am_callV C0 (m_M_reads (σ := σ) (Nat.le_refl _) F   h_q_1) mm_yX10_reads ln_RX10_222 (As := fun b => []) (fun _ => rfl) (fun _ => rfl) (loM_7_0 kM0).1 (loM_7_0 kM0).2.1 rfl (Nat.le_trans (by decide) hd) rfl (Nat.le_of_ble_eq_true rfl) dX10_readCompared_75 ?_
  refine am_aload_n C0 dX10_readCompared_78 0 rfl ?_
  obtain ⟨q_2, h_q_2, h⟩ := am_bind h
  refine am_callV C0 (m_M_readSum (σ := q_1) (Nat.le_refl _) F   h_q_2) mm_yX10_readSum ln_RX10_235 (As := fun b => []) (fun _ => rfl) (fun _ => rfl) (loM_7_0 kM0).1 (loM_7_0 kM0).2.1 rfl (Nat.le_trans (by decide) hd) rfl (Nat.le_of_ble_eq_true rfl) dX10_readCompared_79 ?_
  refine am_iconst C0 dX10_readCompared_82 ci_m1 ?_
  refine am_icmp_ne C0 dX10_readCompared_83 (tgt := 88) (by decide) (fun c_3 => ?_) (fun c_3 => ?_)
  · replace h := am_in h c_3
    refine am_aload_n C0 dX10_readCompared_88 0 rfl ?_
    refine am_iload_n C0 dX10_readCompared_89 1 rfl ?_
    refine am_iconst C0 dX10_readCompared_90 ci_0 ?_
    obtain ⟨q_4, h_q_4, h⟩ := am_bind h
    refine am_callV C0 (m_M_emits (σ := q_2.2) (Nat.le_refl _) s0 0  h_q_4) mm_yX10_emits ln_RX10_218 (As := fun b => [.int s0, .int 0]) (fun _ => rfl) (fun _ => rfl) (loM_7_0 kM0).1 (loM_7_0 kM0).2.1 rfl (Nat.le_trans (by decide) hd) rfl (Nat.le_of_ble_eq_true rfl) dX10_readCompared_91 ?_
    refine am_iconst C0 dX10_readCompared_94 ci_0 ?_
    have e := Option.some.inj h
    subst e
    exact hret _ _ dX10_readCompared_95
  · replace h := am_ip h c_3
    refine am_iconst C0 dX10_readCompared_86 ci_m1 ?_
    have e := Option.some.inj h
    subst e
    exact hret _ _ dX10_readCompared_87
set_option maxRecDepth 100000 in
set_option maxHeartbeats 4000000 in
theorem k_M_readCompared_p43 {G : am_T} {d0 : Nat} (C0 : am_C G cX10_readCompared 2 RX10 LM d0) (hd : 7 ≤ d0) (F : Nat) {q : Int32 × am_SS} (hret : am_retI G cX10_readCompared 2 q.1 q.2) (σ : am_SS) (h : M_readCompared_p43 F  σ = some q) : am_K G 2 43 [(0, .ref (am_b G 0))] [] σ := by
  unfold M_readCompared_p43 at h
  refine am_aload_n C0 dX10_readCompared_43 0 rfl ?_
  refine am_getI C0 ff_RX10_187 (loM_7_18 kM0).1 (loM_7_18 kM0).2.1 (loM_7_18 kM0).2.2.1 (loM_7_18 kM0).2.2.2 dX10_readCompared_44 ?_
  refine am_bipush C0 dX10_readCompared_47 kb_60 ?_
  refine am_icmp_ne C0 dX10_readCompared_49 (tgt := 57) (by decide) (fun c_1 => ?_) (fun c_1 => ?_)
  · replace h := am_in h c_1
    refine am_aload_n C0 dX10_readCompared_57 0 rfl ?_
    refine am_getI C0 ff_RX10_187 (loM_7_18 kM0).1 (loM_7_18 kM0).2.1 (loM_7_18 kM0).2.2.1 (loM_7_18 kM0).2.2.2 dX10_readCompared_58 ?_
    refine am_bipush C0 dX10_readCompared_61 kb_61 ?_
    refine am_icmp_ne C0 dX10_readCompared_63 (tgt := 71) (by decide) (fun c_2 => ?_) (fun c_2 => ?_)
    · replace h := am_in h c_2
      refine am_bipush C0 dX10_readCompared_71 kb_8 ?_
      exact am_sub [0] rfl (k_M_readCompared_p73 C0 hd F hret 8 σ  h)
    · replace h := am_ip h c_2
      refine am_bipush C0 dX10_readCompared_66 kb_7 ?_
      refine am_goto C0 dX10_readCompared_68 (tgt := 73) (by decide) ?_
      exact am_sub [0] rfl (k_M_readCompared_p73 C0 hd F hret 7 σ  h)
  · replace h := am_ip h c_1
    refine am_bipush C0 dX10_readCompared_52 kb_6 ?_
    refine am_goto C0 dX10_readCompared_54 (tgt := 73) (by decide) ?_
    exact am_sub [0] rfl (k_M_readCompared_p73 C0 hd F hret 6 σ  h)
set_option maxRecDepth 100000 in
set_option maxHeartbeats 4000000 in
theorem k_M_readCompared {G : am_T} {d0 : Nat} (C0 : am_C G cX10_readCompared 2 RX10 LM d0) (hd : 7 ≤ d0) (F : Nat) {q : Int32 × am_SS} (hret : am_retI G cX10_readCompared 2 q.1 q.2) (σ : am_SS) (h : M_readCompared F  σ = some q) : am_K G 2 0 [(0, .ref (am_b G 0))] [] σ := by
  unfold M_readCompared at h
  refine am_aload_n C0 dX10_readCompared_0 0 rfl ?_
  obtain ⟨q_1, h_q_1, h⟩ := am_bind h
  refine am_callV C0 (m_M_readSum (σ := σ) (Nat.le_refl _) F   h_q_1) mm_yX10_readSum ln_RX10_235 (As := fun b => []) (fun _ => rfl) (fun _ => rfl) (loM_7_0 kM0).1 (loM_7_0 kM0).2.1 rfl (Nat.le_trans (by decide) hd) rfl (Nat.le_of_ble_eq_true rfl) dX10_readCompared_1 ?_
  refine am_iconst C0 dX10_readCompared_4 ci_m1 ?_
  refine am_icmp_ne C0 dX10_readCompared_5 (tgt := 10) (by decide) (fun c_2 => ?_) (fun c_2 => ?_)
  · replace h := am_in h c_2
    refine am_aload_n C0 dX10_readCompared_10 0 rfl ?_
    refine am_bipush C0 dX10_readCompared_11 kb_60 ?_
    refine am_callV C0 (m_M_isSign (σ := q_1.2) (Nat.le_refl _) 60  rfl) mm_yX10_isSign ln_RX10_229 (As := fun b => [.int 60]) (fun _ => rfl) (fun _ => rfl) (loM_7_0 kM0).1 (loM_7_0 kM0).2.1 rfl (Nat.le_trans (by decide) hd) rfl (Nat.le_of_ble_eq_true rfl) dX10_readCompared_13 ?_
    refine am_ifB_ne C0 dX10_readCompared_16 (tgt := 43) (by decide) (fun c_4 => ?_) (fun c_4 => ?_)
    · replace h := am_ip h c_4
      exact am_sub [0] rfl (k_M_readCompared_p43 C0 hd F hret  q_1.2  h)
    · replace h := am_in h c_4
      refine am_aload_n C0 dX10_readCompared_19 0 rfl ?_
      refine am_bipush C0 dX10_readCompared_20 kb_61 ?_
      refine am_callV C0 (m_M_isSign (σ := q_1.2) (Nat.le_refl _) 61  rfl) mm_yX10_isSign ln_RX10_229 (As := fun b => [.int 61]) (fun _ => rfl) (fun _ => rfl) (loM_7_0 kM0).1 (loM_7_0 kM0).2.1 rfl (Nat.le_trans (by decide) hd) rfl (Nat.le_of_ble_eq_true rfl) dX10_readCompared_22 ?_
      refine am_ifB_ne C0 dX10_readCompared_25 (tgt := 43) (by decide) (fun c_6 => ?_) (fun c_6 => ?_)
      · replace h := am_ip h c_6
        exact am_sub [0] rfl (k_M_readCompared_p43 C0 hd F hret  q_1.2  h)
      · replace h := am_in h c_6
        refine am_aload_n C0 dX10_readCompared_28 0 rfl ?_
        refine am_bipush C0 dX10_readCompared_29 kb_62 ?_
        refine am_callV C0 (m_M_isSign (σ := q_1.2) (Nat.le_refl _) 62  rfl) mm_yX10_isSign ln_RX10_229 (As := fun b => [.int 62]) (fun _ => rfl) (fun _ => rfl) (loM_7_0 kM0).1 (loM_7_0 kM0).2.1 rfl (Nat.le_trans (by decide) hd) rfl (Nat.le_of_ble_eq_true rfl) dX10_readCompared_31 ?_
        refine am_ifB_ne C0 dX10_readCompared_34 (tgt := 43) (by decide) (fun c_8 => ?_) (fun c_8 => ?_)
        · replace h := am_ip h c_8
          exact am_sub [0] rfl (k_M_readCompared_p43 C0 hd F hret  q_1.2  h)
        · replace h := am_in h c_8
          refine am_aload_n C0 dX10_readCompared_37 0 rfl ?_
          refine am_iconst C0 dX10_readCompared_38 ci_1 ?_
          obtain ⟨q_9, h_q_9, h⟩ := am_lt h
          refine am_callV C0 (m_M_errs (σ := q_1.2) (Nat.le_refl _) 1  h_q_9) mm_yX10_errs ln_RX10_215 (As := fun b => [.int 1]) (fun _ => rfl) (fun _ => rfl) (loM_7_0 kM0).1 (loM_7_0 kM0).2.1 rfl (Nat.le_trans (by decide) hd) rfl (Nat.le_of_ble_eq_true rfl) dX10_readCompared_39 ?_
          have e := Option.some.inj h
          subst e
          exact hret _ _ dX10_readCompared_42
  · replace h := am_ip h c_2
    refine am_iconst C0 dX10_readCompared_8 ci_m1 ?_
    have e := Option.some.inj h
    subst e
    exact hret _ _ dX10_readCompared_9
set_option maxRecDepth 100000 in
set_option maxHeartbeats 4000000 in
theorem m_M_readCompared {l : Launch} {d : Nat} {σ : am_SS} {q : Int32 × am_SS} (hd : 7 ≤ d) (F : Nat) (h : M_readCompared F  σ = some q) : am_Met l yX10_readCompared cX10_readCompared 2 (some .int) d 0 0 LM (fun b => [.ref (b 0)]) σ (some (.int q.1)) q.2 :=
  am_metI (plainFor_of_name (by decide)) rfl (lv := fun b => [(0, .ref (b 0))]) (fun _ => rfl) (fun _ => Nat.le_of_ble_eq_true rfl) (fun G C0 _ hret => k_M_readCompared C0 hd F hret  σ  h)
set_option maxRecDepth 100000 in
set_option maxHeartbeats 4000000 in
theorem k_M_waits {G : am_T} {d0 : Nat} (C0 : am_C G cX10_waits 2 RX10 LM d0) (hd : 1 ≤ d0) {q : am_SS} (hret : am_retV G cX10_waits 2 q) (x1 : Int32) (σ : am_SS) (h : M_waits x1 σ = some q) : am_K G 2 0 [(0, .ref (am_b G 0)), (1, .int x1)] [] σ := by
  unfold M_waits at h
  refine am_aload_n C0 dX10_waits_0 0 rfl ?_
  refine am_getR C0 (j := 18) ff_RX10_61 (loM_7_30 kM0).1 (loM_7_30 kM0).2.1 (loM_7_30 kM0).2.2.1 (loM_7_30 kM0).2.2.2 dX10_waits_1 ?_
  refine am_aload_n C0 dX10_waits_4 0 rfl ?_
  refine am_getI C0 ff_RX10_238 (loM_7_31 kM0).1 (loM_7_31 kM0).2.1 (loM_7_31 kM0).2.2.1 (loM_7_31 kM0).2.2.2 dX10_waits_5 ?_
  refine am_iload_n C0 dX10_waits_8 1 rfl ?_
  obtain ⟨σ_1, h_σ_1, h⟩ := am_bind h
  refine am_iast C0 (ltM (tgM_7_30 kM0)) (tgM_7_30 kM0) (lnM_7_30 kM0) h_σ_1 dX10_waits_9 ?_
  refine am_aload_n C0 dX10_waits_10 0 rfl ?_
  refine am_aload_n C0 dX10_waits_11 0 rfl ?_
  refine am_getI C0 ff_RX10_238 (loM_7_31 kM0).1 (loM_7_31 kM0).2.1 (loM_7_31 kM0).2.2.1 (loM_7_31 kM0).2.2.2 dX10_waits_12 ?_
  refine am_iconst C0 dX10_waits_15 ci_1 ?_
  refine am_iadd C0 dX10_waits_16 ?_
  obtain ⟨σ_2, e_σ_2, h⟩ := am_lt h
  refine am_putI C0 e_σ_2 fp_RX10_238 (loM_7_31 kM0).1 (loM_7_31 kM0).2.1 (loM_7_31 kM0).2.2.1 (loM_7_31 kM0).2.2.2 rfl rfl dX10_waits_17 ?_
  have e := Option.some.inj h
  subst e
  exact hret _ _ dX10_waits_20
set_option maxRecDepth 100000 in
set_option maxHeartbeats 4000000 in
theorem m_M_waits {l : Launch} {d : Nat} {σ : am_SS} {q : am_SS} (hd : 1 ≤ d) (x1 : Int32) (h : M_waits x1 σ = some q) : am_Met l yX10_waits cX10_waits 2 none d 0 0 LM (fun b => [.ref (b 0), .int x1]) σ none q :=
  am_metV (plainFor_of_name (by decide)) (lv := fun b => [(0, .ref (b 0)), (1, .int x1)]) (fun _ => rfl) (fun _ => Nat.le_of_ble_eq_true rfl) (fun G C0 _ hret => k_M_waits C0 hd hret x1 σ  h)
set_option maxRecDepth 100000 in
set_option maxHeartbeats 4000000 in
theorem k_M_settles_l0 {G : am_T} {d0 : Nat} (C0 : am_C G cX10_settles 2 RX10 LM d0) (hd : 2 ≤ d0) (F : Nat) {q : am_SS} (hret : am_retV G cX10_settles 2 q) : ∀ (n : Nat) (x1 : Int32) (σ : am_SS) (h : M_settles_l0 F n x1 σ = some q), am_K G 2 0 [(0, .ref (am_b G 0)), (1, .int x1)] [] σ := by
  intro n
  induction n with
  | zero =>
    intro x1 σ h
    rw [M_settles_l0] at h
    cases h
  | succ n ih =>
    intro x1 σ h
    rw [M_settles_l0] at h
    refine am_aload_n C0 dX10_settles_0 0 rfl ?_
    refine am_getI C0 ff_RX10_238 (loM_7_31 kM0).1 (loM_7_31 kM0).2.1 (loM_7_31 kM0).2.2.1 (loM_7_31 kM0).2.2.2 dX10_settles_1 ?_
    refine am_if_le C0 dX10_settles_4 (tgt := 57) (by decide) (fun c_1 => ?_) (fun c_1 => ?_)
    · replace h := am_in h c_1
      have e := Option.some.inj h
      subst e
      exact hret _ _ dX10_settles_57
    · replace h := am_ip h c_1
      refine am_aload_n C0 dX10_settles_7 0 rfl ?_
      refine am_getR C0 (j := 18) ff_RX10_61 (loM_7_30 kM0).1 (loM_7_30 kM0).2.1 (loM_7_30 kM0).2.2.1 (loM_7_30 kM0).2.2.2 dX10_settles_8 ?_
      refine am_aload_n C0 dX10_settles_11 0 rfl ?_
      refine am_getI C0 ff_RX10_238 (loM_7_31 kM0).1 (loM_7_31 kM0).2.1 (loM_7_31 kM0).2.2.1 (loM_7_31 kM0).2.2.2 dX10_settles_12 ?_
      refine am_iconst C0 dX10_settles_15 ci_1 ?_
      refine am_isub C0 dX10_settles_16 ?_
      obtain ⟨t_2, h_t_2, h⟩ := am_bind h
      refine am_iald C0 (ltM (tgM_7_30 kM0)) (tgM_7_30 kM0) (lnM_7_30 kM0) h_t_2 dX10_settles_17 ?_
      refine am_iload_n C0 dX10_settles_18 1 rfl ?_
      refine am_icmp_ne C0 dX10_settles_19 (tgt := 57) (by decide) (fun c_3 => ?_) (fun c_3 => ?_)
      · replace h := am_in h c_3
        have e := Option.some.inj h
        subst e
        exact hret _ _ dX10_settles_57
      · replace h := am_ip h c_3
        refine am_aload_n C0 dX10_settles_22 0 rfl ?_
        refine am_aload_n C0 dX10_settles_23 0 rfl ?_
        refine am_getI C0 ff_RX10_238 (loM_7_31 kM0).1 (loM_7_31 kM0).2.1 (loM_7_31 kM0).2.2.1 (loM_7_31 kM0).2.2.2 dX10_settles_24 ?_
        refine am_iconst C0 dX10_settles_27 ci_1 ?_
        refine am_isub C0 dX10_settles_28 ?_
        obtain ⟨σ_4, e_σ_4, h⟩ := am_lt h
        refine am_putI C0 e_σ_4 fp_RX10_238 (loM_7_31 kM0).1 (loM_7_31 kM0).2.1 (loM_7_31 kM0).2.2.1 (loM_7_31 kM0).2.2.2 rfl rfl dX10_settles_29 ?_
        refine am_aload_n C0 dX10_settles_32 0 rfl ?_
        refine am_iload_n C0 dX10_settles_33 1 rfl ?_
        refine am_iconst C0 dX10_settles_34 ci_0 ?_
        obtain ⟨q_5, h_q_5, h⟩ := am_bind h
        refine am_callV C0 (m_M_emits (σ := σ_4) (Nat.le_refl _) x1 0  h_q_5) mm_yX10_emits ln_RX10_218 (As := fun b => [.int x1, .int 0]) (fun _ => rfl) (fun _ => rfl) (loM_7_0 kM0).1 (loM_7_0 kM0).2.1 rfl (Nat.le_trans (by decide) hd) rfl (Nat.le_of_ble_eq_true rfl) dX10_settles_35 ?_
        refine am_iload_n C0 dX10_settles_38 1 rfl ?_
        refine am_bipush C0 dX10_settles_39 kb_9 ?_
        refine am_icmp_ne C0 dX10_settles_41 (tgt := 0) (by decide) (fun c_6 => ?_) (fun c_6 => ?_)
        · replace h := am_in h c_6
          exact am_sub [0, 1] rfl (ih x1 q_5  h)
        · replace h := am_ip h c_6
          refine am_aload_n C0 dX10_settles_44 0 rfl ?_
          refine am_aload_n C0 dX10_settles_45 0 rfl ?_
          refine am_getI C0 ff_RX10_241 (loM_7_29 kM0).1 (loM_7_29 kM0).2.1 (loM_7_29 kM0).2.2.1 (loM_7_29 kM0).2.2.2 dX10_settles_46 ?_
          refine am_iconst C0 dX10_settles_49 ci_1 ?_
          refine am_isub C0 dX10_settles_50 ?_
          obtain ⟨σ_7, e_σ_7, h⟩ := am_lt h
          refine am_putI C0 e_σ_7 fp_RX10_241 (loM_7_29 kM0).1 (loM_7_29 kM0).2.1 (loM_7_29 kM0).2.2.1 (loM_7_29 kM0).2.2.2 rfl rfl dX10_settles_51 ?_
          refine am_goto C0 dX10_settles_54 (tgt := 0) (by decide) ?_
          exact am_sub [0, 1] rfl (ih x1 σ_7  h)
set_option maxRecDepth 100000 in
set_option maxHeartbeats 4000000 in
theorem m_M_settles {l : Launch} {d : Nat} {σ : am_SS} {q : am_SS} (hd : 2 ≤ d) (F : Nat) (x1 : Int32) (h : M_settles F x1 σ = some q) : am_Met l yX10_settles cX10_settles 2 none d 0 0 LM (fun b => [.ref (b 0), .int x1]) σ none q :=
  am_metV (plainFor_of_name (by decide)) (lv := fun b => [(0, .ref (b 0)), (1, .int x1)]) (fun _ => rfl) (fun _ => Nat.le_of_ble_eq_true rfl) (fun G C0 _ hret => am_sub [0, 1] rfl (k_M_settles_l0 C0 hd F hret F x1 σ  h))
set_option maxRecDepth 100000 in
set_option maxHeartbeats 4000000 in
theorem k_M_readAny_p78 {G : am_T} {d0 : Nat} (C0 : am_C G cX10_readAny 4 RX10 LM d0) (hd : 8 ≤ d0) (rec9 : Int32 → Bool → am_SS → Option (Int32 × am_SS)) (F : Nat) {q : Int32 × am_SS} (hret : am_retI G cX10_readAny 4 q.1 q.2) (hrec9 : ∀ (x1 : Int32) (x2 : Bool) (σ : am_SS), rec9 x1 x2 σ = some q → am_K G 4 9 [(0, .ref (am_b G 0)), (1, .int x1), (2, .int (am_bI x2))] [] σ) (x1 : Int32) (x2 : Bool) (s1 : Int32) (σ : am_SS) (h : M_readAny_p78 rec9 F x1 x2 s1 σ = some q) : am_K G 4 78 [(0, .ref (am_b G 0)), (1, .int x1), (2, .int (am_bI x2))] [.int s1, .ref (am_b G 0)] σ := by
  unfold M_readAny_p78 at h
  obtain ⟨q_1, h_q_1, h⟩ := am_bind h
  refine am_callV C0 (m_M_waits (σ := σ) (Nat.le_refl _) s1  h_q_1) mm_yX10_waits ln_RX10_247 (As := fun b => [.int s1]) (fun _ => rfl) (fun _ => rfl) (loM_7_0 kM0).1 (loM_7_0 kM0).2.1 rfl (Nat.le_trans (by decide) hd) rfl (Nat.le_of_ble_eq_true rfl) dX10_readAny_78 ?_
  refine am_aload_n C0 dX10_readAny_81 0 rfl ?_
  obtain ⟨q_2, h_q_2, h⟩ := am_bind h
  refine am_callV C0 (m_M_reads (σ := q_1) (Nat.le_refl _) F   h_q_2) mm_yX10_reads ln_RX10_222 (As := fun b => []) (fun _ => rfl) (fun _ => rfl) (loM_7_0 kM0).1 (loM_7_0 kM0).2.1 rfl (Nat.le_trans (by decide) hd) rfl (Nat.le_of_ble_eq_true rfl) dX10_readAny_82 ?_
  refine am_goto C0 dX10_readAny_85 (tgt := 9) (by decide) ?_
  exact am_sub [0, 1, 2] rfl (hrec9 x1 x2 q_2  h)
set_option maxRecDepth 100000 in
set_option maxHeartbeats 4000000 in
theorem k_M_readAny_p66 {G : am_T} {d0 : Nat} (C0 : am_C G cX10_readAny 4 RX10 LM d0) (hd : 8 ≤ d0) (rec9 : Int32 → Bool → am_SS → Option (Int32 × am_SS)) (F : Nat) {q : Int32 × am_SS} (hret : am_retI G cX10_readAny 4 q.1 q.2) (hrec9 : ∀ (x1 : Int32) (x2 : Bool) (σ : am_SS), rec9 x1 x2 σ = some q → am_K G 4 9 [(0, .ref (am_b G 0)), (1, .int x1), (2, .int (am_bI x2))] [] σ) (x1 : Int32) (x2 : Bool) (x3 : Bool) (σ : am_SS) (h : M_readAny_p66 rec9 F x1 x2 x3 σ = some q) : am_K G 4 66 [(0, .ref (am_b G 0)), (1, .int x1), (2, .int (am_bI x2)), (3, .int (am_bI x3))] [] σ := by
  unfold M_readAny_p66 at h
  refine am_aload_n C0 dX10_readAny_66 0 rfl ?_
  refine am_iload_n C0 dX10_readAny_67 3 rfl ?_
  refine am_ifB_eq C0 dX10_readAny_68 (tgt := 76) (by decide) (fun c_1 => ?_) (fun c_1 => ?_)
  · replace h := am_in h c_1
    refine am_bipush C0 dX10_readAny_76 kb_12 ?_
    exact am_sub [0, 1, 2] rfl (k_M_readAny_p78 C0 hd rec9 F hret hrec9 x1 x2 12 σ  h)
  · replace h := am_ip h c_1
    refine am_bipush C0 dX10_readAny_71 kb_9 ?_
    refine am_goto C0 dX10_readAny_73 (tgt := 78) (by decide) ?_
    exact am_sub [0, 1, 2] rfl (k_M_readAny_p78 C0 hd rec9 F hret hrec9 x1 x2 9 σ  h)
set_option maxRecDepth 100000 in
set_option maxHeartbeats 4000000 in
theorem k_M_readAny_p33 {G : am_T} {d0 : Nat} (C0 : am_C G cX10_readAny 4 RX10 LM d0) (hd : 8 ≤ d0) (rec9 : Int32 → Bool → am_SS → Option (Int32 × am_SS)) (F : Nat) {q : Int32 × am_SS} (hret : am_retI G cX10_readAny 4 q.1 q.2) (hrec9 : ∀ (x1 : Int32) (x2 : Bool) (σ : am_SS), rec9 x1 x2 σ = some q → am_K G 4 9 [(0, .ref (am_b G 0)), (1, .int x1), (2, .int (am_bI x2))] [] σ) (x1 : Int32) (x2 : Bool) (x3 : Bool) (σ : am_SS) (h : M_readAny_p33 rec9 F x1 x2 x3 σ = some q) : am_K G 4 33 [(0, .ref (am_b G 0)), (1, .int x1), (2, .int (am_bI x2)), (3, .int (am_bI x3))] [] σ := by
  unfold M_readAny_p33 at h
  refine am_aload_n C0 dX10_readAny_33 0 rfl ?_
  refine am_getI C0 ff_RX10_241 (loM_7_29 kM0).1 (loM_7_29 kM0).2.1 (loM_7_29 kM0).2.2.1 (loM_7_29 kM0).2.2.2 dX10_readAny_34 ?_
  refine am_bipush C0 dX10_readAny_37 kb_8 ?_
  refine am_icmp_ne C0 dX10_readAny_39 (tgt := 48) (by decide) (fun c_1 => ?_) (fun c_1 => ?_)
  · replace h := am_in h c_1
    refine am_aload_n C0 dX10_readAny_48 0 rfl ?_
    refine am_aload_n C0 dX10_readAny_49 0 rfl ?_
    refine am_getI C0 ff_RX10_241 (loM_7_29 kM0).1 (loM_7_29 kM0).2.1 (loM_7_29 kM0).2.2.1 (loM_7_29 kM0).2.2.2 dX10_readAny_50 ?_
    refine am_iconst C0 dX10_readAny_53 ci_1 ?_
    refine am_iadd C0 dX10_readAny_54 ?_
    obtain ⟨σ_2, e_σ_2, h⟩ := am_lt h
    refine am_putI C0 e_σ_2 fp_RX10_241 (loM_7_29 kM0).1 (loM_7_29 kM0).2.1 (loM_7_29 kM0).2.2.1 (loM_7_29 kM0).2.2.2 rfl rfl dX10_readAny_55 ?_
    refine am_iload_n C0 dX10_readAny_58 3 rfl ?_
    refine am_ifB_ne C0 dX10_readAny_59 (tgt := 66) (by decide) (fun c_3 => ?_) (fun c_3 => ?_)
    · replace h := am_ip h c_3
      exact am_sub [0, 1, 2, 3] rfl (k_M_readAny_p66 C0 hd rec9 F hret hrec9 x1 x2 x3 σ_2  h)
    · replace h := am_in h c_3
      refine am_iload_n C0 dX10_readAny_62 1 rfl ?_
      refine am_iconst C0 dX10_readAny_63 ci_1 ?_
      refine am_iadd C0 dX10_readAny_64 ?_
      obtain ⟨x1_4, e_x1_4, h⟩ := am_lt h
      refine am_top e_x1_4 ?_
      refine am_istore_n C0 dX10_readAny_65 rfl (by decide) rfl (lv' := [(0, .ref (am_b G 0)), (1, .int x1_4), (2, .int (am_bI x2)), (3, .int (am_bI x3))]) rfl ?_
      exact am_sub [0, 1, 2, 3] rfl (k_M_readAny_p66 C0 hd rec9 F hret hrec9 x1_4 x2 x3 σ_2  h)
  · replace h := am_ip h c_1
    refine am_aload_n C0 dX10_readAny_42 0 rfl ?_
    refine am_iconst C0 dX10_readAny_43 ci_3 ?_
    obtain ⟨q_5, h_q_5, h⟩ := am_lt h
    refine am_callV C0 (m_M_errs (σ := σ) (Nat.le_refl _) 3  h_q_5) mm_yX10_errs ln_RX10_215 (As := fun b => [.int 3]) (fun _ => rfl) (fun _ => rfl) (loM_7_0 kM0).1 (loM_7_0 kM0).2.1 rfl (Nat.le_trans (by decide) hd) rfl (Nat.le_of_ble_eq_true rfl) dX10_readAny_44 ?_
    have e := Option.some.inj h
    subst e
    exact hret _ _ dX10_readAny_47
set_option maxRecDepth 100000 in
set_option maxHeartbeats 4000000 in
theorem k_M_readAny_l9 {G : am_T} {d0 : Nat} (C0 : am_C G cX10_readAny 4 RX10 LM d0) (hd : 8 ≤ d0) (F : Nat) {q : Int32 × am_SS} (hret : am_retI G cX10_readAny 4 q.1 q.2) : ∀ (n : Nat) (x1 : Int32) (x2 : Bool) (σ : am_SS) (h : M_readAny_l9 F n x1 x2 σ = some q), am_K G 4 9 [(0, .ref (am_b G 0)), (1, .int x1), (2, .int (am_bI x2))] [] σ := by
  intro n
  induction n with
  | zero =>
    intro x1 x2 σ h
    rw [M_readAny_l9] at h
    cases h
  | succ n ih =>
    intro x1 x2 σ h
    rw [M_readAny_l9] at h
    refine am_iload_n C0 dX10_readAny_9 2 rfl ?_
    refine am_ifB_eq C0 dX10_readAny_10 (tgt := 109) (by decide) (fun c_1 => ?_) (fun c_1 => ?_)
    · replace h := am_in h c_1
      refine am_aload_n C0 dX10_readAny_109 0 rfl ?_
      refine am_iconst C0 dX10_readAny_110 ci_5 ?_
      refine am_callV C0 (m_M_isWord (σ := σ) (Nat.le_refl _) 5  rfl) mm_yX10_isWord ln_RX10_244 (As := fun b => [.int 5]) (fun _ => rfl) (fun _ => rfl) (loM_7_0 kM0).1 (loM_7_0 kM0).2.1 rfl (Nat.le_trans (by decide) hd) rfl (Nat.le_of_ble_eq_true rfl) dX10_readAny_111 ?_
      refine am_ifB_eq C0 dX10_readAny_114 (tgt := 138) (by decide) (fun c_3 => ?_) (fun c_3 => ?_)
      · replace h := am_in h c_3
        refine am_aload_n C0 dX10_readAny_138 0 rfl ?_
        refine am_iconst C0 dX10_readAny_139 ci_4 ?_
        refine am_callV C0 (m_M_isWord (σ := σ) (Nat.le_refl _) 4  rfl) mm_yX10_isWord ln_RX10_244 (As := fun b => [.int 4]) (fun _ => rfl) (fun _ => rfl) (loM_7_0 kM0).1 (loM_7_0 kM0).2.1 rfl (Nat.le_trans (by decide) hd) rfl (Nat.le_of_ble_eq_true rfl) dX10_readAny_140 ?_
        refine am_ifB_eq C0 dX10_readAny_143 (tgt := 173) (by decide) (fun c_5 => ?_) (fun c_5 => ?_)
        · replace h := am_in h c_5
          refine am_aload_n C0 dX10_readAny_173 0 rfl ?_
          refine am_bipush C0 dX10_readAny_174 kb_10 ?_
          obtain ⟨q_6, h_q_6, h⟩ := am_bind h
          refine am_callV C0 (m_M_settles (σ := σ) (Nat.le_refl _) F 10  h_q_6) mm_yX10_settles ln_RX10_253 (As := fun b => [.int 10]) (fun _ => rfl) (fun _ => rfl) (loM_7_0 kM0).1 (loM_7_0 kM0).2.1 rfl (Nat.le_trans (by decide) hd) rfl (Nat.le_of_ble_eq_true rfl) dX10_readAny_176 ?_
          refine am_aload_n C0 dX10_readAny_179 0 rfl ?_
          refine am_bipush C0 dX10_readAny_180 kb_11 ?_
          obtain ⟨q_7, h_q_7, h⟩ := am_bind h
          refine am_callV C0 (m_M_settles (σ := q_6) (Nat.le_refl _) F 11  h_q_7) mm_yX10_settles ln_RX10_253 (As := fun b => [.int 11]) (fun _ => rfl) (fun _ => rfl) (loM_7_0 kM0).1 (loM_7_0 kM0).2.1 rfl (Nat.le_trans (by decide) hd) rfl (Nat.le_of_ble_eq_true rfl) dX10_readAny_182 ?_
          refine am_iload_n C0 dX10_readAny_185 1 rfl ?_
          refine am_if_ne C0 dX10_readAny_186 (tgt := 191) (by decide) (fun c_8 => ?_) (fun c_8 => ?_)
          · replace h := am_in h c_8
            refine am_aload_n C0 dX10_readAny_191 0 rfl ?_
            refine am_bipush C0 dX10_readAny_192 kb_41 ?_
            refine am_callV C0 (m_M_isSign (σ := q_7) (Nat.le_refl _) 41  rfl) mm_yX10_isSign ln_RX10_229 (As := fun b => [.int 41]) (fun _ => rfl) (fun _ => rfl) (loM_7_0 kM0).1 (loM_7_0 kM0).2.1 rfl (Nat.le_trans (by decide) hd) rfl (Nat.le_of_ble_eq_true rfl) dX10_readAny_194 ?_
            refine am_ifB_ne C0 dX10_readAny_197 (tgt := 206) (by decide) (fun c_10 => ?_) (fun c_10 => ?_)
            · replace h := am_ip h c_10
              refine am_aload_n C0 dX10_readAny_206 0 rfl ?_
              refine am_aload_n C0 dX10_readAny_207 0 rfl ?_
              refine am_getI C0 ff_RX10_238 (loM_7_31 kM0).1 (loM_7_31 kM0).2.1 (loM_7_31 kM0).2.2.1 (loM_7_31 kM0).2.2.2 dX10_readAny_208 ?_
              refine am_iconst C0 dX10_readAny_211 ci_1 ?_
              refine am_isub C0 dX10_readAny_212 ?_
              obtain ⟨σ_11, e_σ_11, h⟩ := am_lt h
              refine am_putI C0 e_σ_11 fp_RX10_238 (loM_7_31 kM0).1 (loM_7_31 kM0).2.1 (loM_7_31 kM0).2.2.1 (loM_7_31 kM0).2.2.2 rfl rfl dX10_readAny_213 ?_
              refine am_iload_n C0 dX10_readAny_216 1 rfl ?_
              refine am_iconst C0 dX10_readAny_217 ci_1 ?_
              refine am_isub C0 dX10_readAny_218 ?_
              obtain ⟨x1_12, e_x1_12, h⟩ := am_lt h
              refine am_top e_x1_12 ?_
              refine am_istore_n C0 dX10_readAny_219 rfl (by decide) rfl (lv' := [(0, .ref (am_b G 0)), (1, .int x1_12), (2, .int (am_bI x2))]) rfl ?_
              refine am_aload_n C0 dX10_readAny_220 0 rfl ?_
              refine am_aload_n C0 dX10_readAny_221 0 rfl ?_
              refine am_getI C0 ff_RX10_241 (loM_7_29 kM0).1 (loM_7_29 kM0).2.1 (loM_7_29 kM0).2.2.1 (loM_7_29 kM0).2.2.2 dX10_readAny_222 ?_
              refine am_iconst C0 dX10_readAny_225 ci_1 ?_
              refine am_isub C0 dX10_readAny_226 ?_
              obtain ⟨σ_13, e_σ_13, h⟩ := am_lt h
              refine am_putI C0 e_σ_13 fp_RX10_241 (loM_7_29 kM0).1 (loM_7_29 kM0).2.1 (loM_7_29 kM0).2.2.1 (loM_7_29 kM0).2.2.2 rfl rfl dX10_readAny_227 ?_
              refine am_aload_n C0 dX10_readAny_230 0 rfl ?_
              refine am_bipush C0 dX10_readAny_231 kb_9 ?_
              obtain ⟨q_14, h_q_14, h⟩ := am_bind h
              refine am_callV C0 (m_M_settles (σ := σ_13) (Nat.le_refl _) F 9  h_q_14) mm_yX10_settles ln_RX10_253 (As := fun b => [.int 9]) (fun _ => rfl) (fun _ => rfl) (loM_7_0 kM0).1 (loM_7_0 kM0).2.1 rfl (Nat.le_trans (by decide) hd) rfl (Nat.le_of_ble_eq_true rfl) dX10_readAny_233 ?_
              refine am_aload_n C0 dX10_readAny_236 0 rfl ?_
              obtain ⟨q_15, h_q_15, h⟩ := am_bind h
              refine am_callV C0 (m_M_reads (σ := q_14) (Nat.le_refl _) F   h_q_15) mm_yX10_reads ln_RX10_222 (As := fun b => []) (fun _ => rfl) (fun _ => rfl) (loM_7_0 kM0).1 (loM_7_0 kM0).2.1 rfl (Nat.le_trans (by decide) hd) rfl (Nat.le_of_ble_eq_true rfl) dX10_readAny_237 ?_
              refine am_goto C0 dX10_readAny_240 (tgt := 9) (by decide) ?_
              exact am_sub [0, 1, 2] rfl (ih x1_12 x2 q_15  h)
            · replace h := am_in h c_10
              refine am_aload_n C0 dX10_readAny_200 0 rfl ?_
              refine am_iconst C0 dX10_readAny_201 ci_1 ?_
              obtain ⟨q_16, h_q_16, h⟩ := am_lt h
              refine am_callV C0 (m_M_errs (σ := q_7) (Nat.le_refl _) 1  h_q_16) mm_yX10_errs ln_RX10_215 (As := fun b => [.int 1]) (fun _ => rfl) (fun _ => rfl) (loM_7_0 kM0).1 (loM_7_0 kM0).2.1 rfl (Nat.le_trans (by decide) hd) rfl (Nat.le_of_ble_eq_true rfl) dX10_readAny_202 ?_
              have e := Option.some.inj h
              subst e
              exact hret _ _ dX10_readAny_205
          · replace h := am_ip h c_8
            refine am_iconst C0 dX10_readAny_189 ci_0 ?_
            have e := Option.some.inj h
            subst e
            exact hret _ _ dX10_readAny_190
        · replace h := am_ip h c_5
          refine am_aload_n C0 dX10_readAny_146 0 rfl ?_
          refine am_bipush C0 dX10_readAny_147 kb_10 ?_
          obtain ⟨q_17, h_q_17, h⟩ := am_bind h
          refine am_callV C0 (m_M_settles (σ := σ) (Nat.le_refl _) F 10  h_q_17) mm_yX10_settles ln_RX10_253 (As := fun b => [.int 10]) (fun _ => rfl) (fun _ => rfl) (loM_7_0 kM0).1 (loM_7_0 kM0).2.1 rfl (Nat.le_trans (by decide) hd) rfl (Nat.le_of_ble_eq_true rfl) dX10_readAny_149 ?_
          refine am_aload_n C0 dX10_readAny_152 0 rfl ?_
          refine am_bipush C0 dX10_readAny_153 kb_11 ?_
          obtain ⟨q_18, h_q_18, h⟩ := am_bind h
          refine am_callV C0 (m_M_settles (σ := q_17) (Nat.le_refl _) F 11  h_q_18) mm_yX10_settles ln_RX10_253 (As := fun b => [.int 11]) (fun _ => rfl) (fun _ => rfl) (loM_7_0 kM0).1 (loM_7_0 kM0).2.1 rfl (Nat.le_trans (by decide) hd) rfl (Nat.le_of_ble_eq_true rfl) dX10_readAny_155 ?_
          refine am_aload_n C0 dX10_readAny_158 0 rfl ?_
          refine am_bipush C0 dX10_readAny_159 kb_11 ?_
          obtain ⟨q_19, h_q_19, h⟩ := am_bind h
          refine am_callV C0 (m_M_waits (σ := q_18) (Nat.le_refl _) 11  h_q_19) mm_yX10_waits ln_RX10_247 (As := fun b => [.int 11]) (fun _ => rfl) (fun _ => rfl) (loM_7_0 kM0).1 (loM_7_0 kM0).2.1 rfl (Nat.le_trans (by decide) hd) rfl (Nat.le_of_ble_eq_true rfl) dX10_readAny_161 ?_
          refine am_aload_n C0 dX10_readAny_164 0 rfl ?_
          obtain ⟨q_20, h_q_20, h⟩ := am_bind h
          refine am_callV C0 (m_M_reads (σ := q_19) (Nat.le_refl _) F   h_q_20) mm_yX10_reads ln_RX10_222 (As := fun b => []) (fun _ => rfl) (fun _ => rfl) (loM_7_0 kM0).1 (loM_7_0 kM0).2.1 rfl (Nat.le_trans (by decide) hd) rfl (Nat.le_of_ble_eq_true rfl) dX10_readAny_165 ?_
          refine am_iconst C0 dX10_readAny_168 ci_1 ?_
          refine am_istore_n C0 dX10_readAny_169 rfl (by decide) rfl (lv' := [(0, .ref (am_b G 0)), (1, .int x1), (2, .int 1)]) rfl ?_
          refine am_goto C0 dX10_readAny_170 (tgt := 9) (by decide) ?_
          exact am_sub [0, 1, 2] rfl (ih x1 true q_20  h)
      · replace h := am_ip h c_3
        refine am_aload_n C0 dX10_readAny_117 0 rfl ?_
        refine am_bipush C0 dX10_readAny_118 kb_10 ?_
        obtain ⟨q_21, h_q_21, h⟩ := am_bind h
        refine am_callV C0 (m_M_settles (σ := σ) (Nat.le_refl _) F 10  h_q_21) mm_yX10_settles ln_RX10_253 (As := fun b => [.int 10]) (fun _ => rfl) (fun _ => rfl) (loM_7_0 kM0).1 (loM_7_0 kM0).2.1 rfl (Nat.le_trans (by decide) hd) rfl (Nat.le_of_ble_eq_true rfl) dX10_readAny_120 ?_
        refine am_aload_n C0 dX10_readAny_123 0 rfl ?_
        refine am_bipush C0 dX10_readAny_124 kb_10 ?_
        obtain ⟨q_22, h_q_22, h⟩ := am_bind h
        refine am_callV C0 (m_M_waits (σ := q_21) (Nat.le_refl _) 10  h_q_22) mm_yX10_waits ln_RX10_247 (As := fun b => [.int 10]) (fun _ => rfl) (fun _ => rfl) (loM_7_0 kM0).1 (loM_7_0 kM0).2.1 rfl (Nat.le_trans (by decide) hd) rfl (Nat.le_of_ble_eq_true rfl) dX10_readAny_126 ?_
        refine am_aload_n C0 dX10_readAny_129 0 rfl ?_
        obtain ⟨q_23, h_q_23, h⟩ := am_bind h
        refine am_callV C0 (m_M_reads (σ := q_22) (Nat.le_refl _) F   h_q_23) mm_yX10_reads ln_RX10_222 (As := fun b => []) (fun _ => rfl) (fun _ => rfl) (loM_7_0 kM0).1 (loM_7_0 kM0).2.1 rfl (Nat.le_trans (by decide) hd) rfl (Nat.le_of_ble_eq_true rfl) dX10_readAny_130 ?_
        refine am_iconst C0 dX10_readAny_133 ci_1 ?_
        refine am_istore_n C0 dX10_readAny_134 rfl (by decide) rfl (lv' := [(0, .ref (am_b G 0)), (1, .int x1), (2, .int 1)]) rfl ?_
        refine am_goto C0 dX10_readAny_135 (tgt := 9) (by decide) ?_
        exact am_sub [0, 1, 2] rfl (ih x1 true q_23  h)
    · replace h := am_ip h c_1
      refine am_aload_n C0 dX10_readAny_13 0 rfl ?_
      refine am_bipush C0 dX10_readAny_14 kb_6 ?_
      refine am_callV C0 (m_M_isWord (σ := σ) (Nat.le_refl _) 6  rfl) mm_yX10_isWord ln_RX10_244 (As := fun b => [.int 6]) (fun _ => rfl) (fun _ => rfl) (loM_7_0 kM0).1 (loM_7_0 kM0).2.1 rfl (Nat.le_trans (by decide) hd) rfl (Nat.le_of_ble_eq_true rfl) dX10_readAny_16 ?_
      refine am_istore_n C0 dX10_readAny_19 rfl (by decide) rfl (lv' := [(0, .ref (am_b G 0)), (1, .int x1), (2, .int (am_bI x2)), (3, .int (am_bI (M_isWord 6 σ)))]) rfl ?_
      refine am_iload_n C0 dX10_readAny_20 3 rfl ?_
      refine am_ifB_ne C0 dX10_readAny_21 (tgt := 33) (by decide) (fun c_25 => ?_) (fun c_25 => ?_)
      · replace h := am_ip h c_25
        exact am_sub [0, 1, 2, 3] rfl (k_M_readAny_p33 C0 hd _ F hret (fun z1 z2 zs z => ih z1 z2 zs z) x1 x2 (M_isWord 6 σ) σ  h)
      · replace h := am_in h c_25
        refine am_aload_n C0 dX10_readAny_24 0 rfl ?_
        refine am_bipush C0 dX10_readAny_25 kb_40 ?_
        refine am_callV C0 (m_M_isSign (σ := σ) (Nat.le_refl _) 40  rfl) mm_yX10_isSign ln_RX10_229 (As := fun b => [.int 40]) (fun _ => rfl) (fun _ => rfl) (loM_7_0 kM0).1 (loM_7_0 kM0).2.1 rfl (Nat.le_trans (by decide) hd) rfl (Nat.le_of_ble_eq_true rfl) dX10_readAny_27 ?_
        refine am_ifB_eq C0 dX10_readAny_30 (tgt := 88) (by decide) (fun c_27 => ?_) (fun c_27 => ?_)
        · replace h := am_in h c_27
          refine am_aload_n C0 dX10_readAny_88 0 rfl ?_
          obtain ⟨q_28, h_q_28, h⟩ := am_bind h
          refine am_callV C0 (m_M_readCompared (σ := σ) (Nat.le_refl _) F   h_q_28) mm_yX10_readCompared ln_RX10_250 (As := fun b => []) (fun _ => rfl) (fun _ => rfl) (loM_7_0 kM0).1 (loM_7_0 kM0).2.1 rfl (Nat.le_trans (by decide) hd) rfl (Nat.le_of_ble_eq_true rfl) dX10_readAny_89 ?_
          refine am_iconst C0 dX10_readAny_92 ci_m1 ?_
          refine am_icmp_ne C0 dX10_readAny_93 (tgt := 98) (by decide) (fun c_29 => ?_) (fun c_29 => ?_)
          · replace h := am_in h c_29
            refine am_aload_n C0 dX10_readAny_98 0 rfl ?_
            refine am_bipush C0 dX10_readAny_99 kb_9 ?_
            obtain ⟨q_30, h_q_30, h⟩ := am_bind h
            refine am_callV C0 (m_M_settles (σ := q_28.2) (Nat.le_refl _) F 9  h_q_30) mm_yX10_settles ln_RX10_253 (As := fun b => [.int 9]) (fun _ => rfl) (fun _ => rfl) (loM_7_0 kM0).1 (loM_7_0 kM0).2.1 rfl (Nat.le_trans (by decide) hd) rfl (Nat.le_of_ble_eq_true rfl) dX10_readAny_101 ?_
            refine am_iconst C0 dX10_readAny_104 ci_0 ?_
            refine am_istore_n C0 dX10_readAny_105 rfl (by decide) rfl (lv' := [(0, .ref (am_b G 0)), (1, .int x1), (2, .int 0), (3, .int (am_bI (M_isWord 6 σ)))]) rfl ?_
            refine am_goto C0 dX10_readAny_106 (tgt := 9) (by decide) ?_
            exact am_sub [0, 1, 2] rfl (ih x1 false q_30  h)
          · replace h := am_ip h c_29
            refine am_iconst C0 dX10_readAny_96 ci_m1 ?_
            have e := Option.some.inj h
            subst e
            exact hret _ _ dX10_readAny_97
        · replace h := am_ip h c_27
          exact am_sub [0, 1, 2, 3] rfl (k_M_readAny_p33 C0 hd _ F hret (fun z1 z2 zs z => ih z1 z2 zs z) x1 x2 (M_isWord 6 σ) σ  h)
set_option maxRecDepth 100000 in
set_option maxHeartbeats 4000000 in
theorem k_M_readAny {G : am_T} {d0 : Nat} (C0 : am_C G cX10_readAny 4 RX10 LM d0) (hd : 8 ≤ d0) (F : Nat) {q : Int32 × am_SS} (hret : am_retI G cX10_readAny 4 q.1 q.2) (σ : am_SS) (h : M_readAny F  σ = some q) : am_K G 4 0 [(0, .ref (am_b G 0))] [] σ := by
  unfold M_readAny at h
  refine am_iconst C0 dX10_readAny_0 ci_0 ?_
  refine am_istore_n C0 dX10_readAny_1 rfl (by decide) rfl (lv' := [(0, .ref (am_b G 0)), (1, .int 0)]) rfl ?_
  refine am_aload_n C0 dX10_readAny_2 0 rfl ?_
  refine am_iconst C0 dX10_readAny_3 ci_0 ?_
  obtain ⟨σ_1, e_σ_1, h⟩ := am_lt h
  refine am_putI C0 e_σ_1 fp_RX10_238 (loM_7_31 kM0).1 (loM_7_31 kM0).2.1 (loM_7_31 kM0).2.2.1 (loM_7_31 kM0).2.2.2 rfl rfl dX10_readAny_4 ?_
  refine am_iconst C0 dX10_readAny_7 ci_1 ?_
  refine am_istore_n C0 dX10_readAny_8 rfl (by decide) rfl (lv' := [(0, .ref (am_b G 0)), (1, .int 0), (2, .int 1)]) rfl ?_
  exact am_sub [0, 1, 2] rfl (k_M_readAny_l9 C0 hd F hret F 0 true σ_1  h)
set_option maxRecDepth 100000 in
set_option maxHeartbeats 4000000 in
theorem m_M_readAny {l : Launch} {d : Nat} {σ : am_SS} {q : Int32 × am_SS} (hd : 8 ≤ d) (F : Nat) (h : M_readAny F  σ = some q) : am_Met l yX10_readAny cX10_readAny 4 (some .int) d 0 0 LM (fun b => [.ref (b 0)]) σ (some (.int q.1)) q.2 :=
  am_metI (plainFor_of_name (by decide)) rfl (lv := fun b => [(0, .ref (b 0))]) (fun _ => rfl) (fun _ => Nat.le_of_ble_eq_true rfl) (fun G C0 _ hret => k_M_readAny C0 hd F hret  σ  h)
set_option maxRecDepth 100000 in
set_option maxHeartbeats 4000000 in
theorem k_M_isLineWord {G : am_T} {d0 : Nat} (C0 : am_C G cX10_isLineWord 1 RX10 LM d0) (hd : 2 ≤ d0) {σ : am_SS} {q : Bool} (hret : am_retI G cX10_isLineWord 1 (am_bI q) σ) (h : M_isLineWord  σ = q) : am_K G 1 0 [(0, .ref (am_b G 0))] [] σ := by
  unfold M_isLineWord at h
  refine am_aload_n C0 dX10_isLineWord_0 0 rfl ?_
  refine am_getI C0 ff_RX10_184 (loM_7_17 kM0).1 (loM_7_17 kM0).2.1 (loM_7_17 kM0).2.2.1 (loM_7_17 kM0).2.2.2 dX10_isLineWord_1 ?_
  refine am_iconst C0 dX10_isLineWord_4 ci_2 ?_
  refine am_icmp_ne C0 dX10_isLineWord_5 (tgt := 25) (by decide) (fun c_1 => ?_) (fun c_1 => ?_)
  · replace h := am_in h c_1
    refine am_iconst C0 dX10_isLineWord_25 ci_0 ?_
    have e := h
    subst e
    exact hret _ _ dX10_isLineWord_26
  · replace h := am_ip h c_1
    refine am_aload_n C0 dX10_isLineWord_8 0 rfl ?_
    refine am_aload_n C0 dX10_isLineWord_9 0 rfl ?_
    refine am_getI C0 ff_RX10_187 (loM_7_18 kM0).1 (loM_7_18 kM0).2.1 (loM_7_18 kM0).2.2.1 (loM_7_18 kM0).2.2.2 dX10_isLineWord_10 ?_
    refine am_iconst C0 dX10_isLineWord_13 ci_0 ?_
    refine am_iconst C0 dX10_isLineWord_14 ci_2 ?_
    refine am_callV C0 (m_M_isIn (σ := σ) (Nat.le_refl _) (σ 0 18) 0 2  rfl) mm_yX10_isIn ln_RX10_149 (As := fun b => [.int (σ 0 18), .int 0, .int 2]) (fun _ => rfl) (fun _ => rfl) (loM_7_0 kM0).1 (loM_7_0 kM0).2.1 rfl (Nat.le_trans (by decide) hd) rfl (Nat.le_of_ble_eq_true rfl) dX10_isLineWord_15 ?_
    refine am_ifB_eq C0 dX10_isLineWord_18 (tgt := 25) (by decide) (fun c_3 => ?_) (fun c_3 => ?_)
    · replace h := am_in h c_3
      refine am_iconst C0 dX10_isLineWord_25 ci_0 ?_
      have e := h
      subst e
      exact hret _ _ dX10_isLineWord_26
    · replace h := am_ip h c_3
      refine am_iconst C0 dX10_isLineWord_21 ci_1 ?_
      refine am_goto C0 dX10_isLineWord_22 (tgt := 26) (by decide) ?_
      have e := h
      subst e
      exact hret _ _ dX10_isLineWord_26
set_option maxRecDepth 100000 in
set_option maxHeartbeats 4000000 in
theorem m_M_isLineWord {l : Launch} {d : Nat} {σ : am_SS} {q : Bool} (hd : 2 ≤ d) (h : M_isLineWord  σ = q) : am_Met l yX10_isLineWord cX10_isLineWord 1 (some .boolean) d 0 0 LM (fun b => [.ref (b 0)]) σ (some (.int (am_bI q))) σ :=
  am_metI (plainFor_of_name (by decide)) (am_bI_nr _) (lv := fun b => [(0, .ref (b 0))]) (fun _ => rfl) (fun _ => Nat.le_of_ble_eq_true rfl) (fun G C0 _ hret => k_M_isLineWord C0 hd hret   h)
set_option maxRecDepth 100000 in
set_option maxHeartbeats 4000000 in
theorem k_M_readLaw_p92 {G : am_T} {d0 : Nat} (C0 : am_C G cX10_readLaw 3 RX10 LM d0) (hd : 9 ≤ d0) (rec2 : Int32 → am_SS → Option (Int32 × am_SS)) (F : Nat) {q : Int32 × am_SS} (hret : am_retI G cX10_readLaw 3 q.1 q.2) (hrec2 : ∀ (x1 : Int32) (σ : am_SS), rec2 x1 σ = some q → am_K G 3 2 [(0, .ref (am_b G 0)), (1, .int x1)] [] σ) (x1 : Int32) (x2 : Int32) (σ : am_SS) (h : M_readLaw_p92 rec2 F x1 x2 σ = some q) : am_K G 3 92 [(0, .ref (am_b G 0)), (1, .int x1), (2, .int x2)] [] σ := by
  unfold M_readLaw_p92 at h
  refine am_aload_n C0 dX10_readLaw_92 0 rfl ?_
  refine am_getR C0 (j := 15) ff_RX10_52 (loM_7_24 kM0).1 (loM_7_24 kM0).2.1 (loM_7_24 kM0).2.2.1 (loM_7_24 kM0).2.2.2 dX10_readLaw_93 ?_
  refine am_iload_n C0 dX10_readLaw_96 2 rfl ?_
  refine am_aload_n C0 dX10_readLaw_97 0 rfl ?_
  refine am_getI C0 ff_RX10_209 (loM_7_28 kM0).1 (loM_7_28 kM0).2.1 (loM_7_28 kM0).2.2.1 (loM_7_28 kM0).2.2.2 dX10_readLaw_98 ?_
  obtain ⟨σ_1, h_σ_1, h⟩ := am_bind h
  refine am_iast C0 (ltM (tgM_7_24 kM0)) (tgM_7_24 kM0) (lnM_7_24 kM0) h_σ_1 dX10_readLaw_101 ?_
  refine am_aload_n C0 dX10_readLaw_102 0 rfl ?_
  refine am_bipush C0 dX10_readLaw_103 kb_59 ?_
  refine am_callV C0 (m_M_isSign (σ := σ_1) (Nat.le_refl _) 59  rfl) mm_yX10_isSign ln_RX10_229 (As := fun b => [.int 59]) (fun _ => rfl) (fun _ => rfl) (loM_7_0 kM0).1 (loM_7_0 kM0).2.1 rfl (Nat.le_trans (by decide) hd) rfl (Nat.le_of_ble_eq_true rfl) dX10_readLaw_105 ?_
  refine am_ifB_ne C0 dX10_readLaw_108 (tgt := 117) (by decide) (fun c_3 => ?_) (fun c_3 => ?_)
  · replace h := am_ip h c_3
    refine am_aload_n C0 dX10_readLaw_117 0 rfl ?_
    obtain ⟨q_4, h_q_4, h⟩ := am_bind h
    refine am_callV C0 (m_M_reads (σ := σ_1) (Nat.le_refl _) F   h_q_4) mm_yX10_reads ln_RX10_222 (As := fun b => []) (fun _ => rfl) (fun _ => rfl) (loM_7_0 kM0).1 (loM_7_0 kM0).2.1 rfl (Nat.le_trans (by decide) hd) rfl (Nat.le_of_ble_eq_true rfl) dX10_readLaw_118 ?_
    refine am_iload_n C0 dX10_readLaw_121 1 rfl ?_
    refine am_iconst C0 dX10_readLaw_122 ci_1 ?_
    refine am_iadd C0 dX10_readLaw_123 ?_
    obtain ⟨x1_5, e_x1_5, h⟩ := am_lt h
    refine am_top e_x1_5 ?_
    refine am_istore_n C0 dX10_readLaw_124 rfl (by decide) rfl (lv' := [(0, .ref (am_b G 0)), (1, .int x1_5), (2, .int x2)]) rfl ?_
    refine am_goto C0 dX10_readLaw_125 (tgt := 2) (by decide) ?_
    exact am_sub [0, 1] rfl (hrec2 x1_5 q_4  h)
  · replace h := am_in h c_3
    refine am_aload_n C0 dX10_readLaw_111 0 rfl ?_
    refine am_iconst C0 dX10_readLaw_112 ci_1 ?_
    obtain ⟨q_6, h_q_6, h⟩ := am_lt h
    refine am_callV C0 (m_M_errs (σ := σ_1) (Nat.le_refl _) 1  h_q_6) mm_yX10_errs ln_RX10_215 (As := fun b => [.int 1]) (fun _ => rfl) (fun _ => rfl) (loM_7_0 kM0).1 (loM_7_0 kM0).2.1 rfl (Nat.le_trans (by decide) hd) rfl (Nat.le_of_ble_eq_true rfl) dX10_readLaw_113 ?_
    have e := Option.some.inj h
    subst e
    exact hret _ _ dX10_readLaw_116
set_option maxRecDepth 100000 in
set_option maxHeartbeats 4000000 in
theorem k_M_readLaw_l2 {G : am_T} {d0 : Nat} (C0 : am_C G cX10_readLaw 3 RX10 LM d0) (hd : 9 ≤ d0) (F : Nat) {q : Int32 × am_SS} (hret : am_retI G cX10_readLaw 3 q.1 q.2) : ∀ (n : Nat) (x1 : Int32) (σ : am_SS) (h : M_readLaw_l2 F n x1 σ = some q), am_K G 3 2 [(0, .ref (am_b G 0)), (1, .int x1)] [] σ := by
  intro n
  induction n with
  | zero =>
    intro x1 σ h
    rw [M_readLaw_l2] at h
    cases h
  | succ n ih =>
    intro x1 σ h
    rw [M_readLaw_l2] at h
    refine am_aload_n C0 dX10_readLaw_2 0 rfl ?_
    refine am_callV C0 (m_M_isLineWord (σ := σ) (Nat.le_refl _)   rfl) mm_yX10_isLineWord ln_RX10_256 (As := fun b => []) (fun _ => rfl) (fun _ => rfl) (loM_7_0 kM0).1 (loM_7_0 kM0).2.1 rfl (Nat.le_trans (by decide) hd) rfl (Nat.le_of_ble_eq_true rfl) dX10_readLaw_3 ?_
    refine am_ifB_eq C0 dX10_readLaw_6 (tgt := 128) (by decide) (fun c_2 => ?_) (fun c_2 => ?_)
    · replace h := am_in h c_2
      refine am_aload_n C0 dX10_readLaw_128 0 rfl ?_
      refine am_getI C0 ff_RX10_184 (loM_7_17 kM0).1 (loM_7_17 kM0).2.1 (loM_7_17 kM0).2.2.1 (loM_7_17 kM0).2.2.2 dX10_readLaw_129 ?_
      refine am_if_ne C0 dX10_readLaw_132 (tgt := 139) (by decide) (fun c_3 => ?_) (fun c_3 => ?_)
      · replace h := am_in h c_3
        refine am_aload_n C0 dX10_readLaw_139 0 rfl ?_
        refine am_iconst C0 dX10_readLaw_140 ci_1 ?_
        obtain ⟨q_4, h_q_4, h⟩ := am_lt h
        refine am_callV C0 (m_M_errs (σ := σ) (Nat.le_refl _) 1  h_q_4) mm_yX10_errs ln_RX10_215 (As := fun b => [.int 1]) (fun _ => rfl) (fun _ => rfl) (loM_7_0 kM0).1 (loM_7_0 kM0).2.1 rfl (Nat.le_trans (by decide) hd) rfl (Nat.le_of_ble_eq_true rfl) dX10_readLaw_141 ?_
        have e := Option.some.inj h
        subst e
        exact hret _ _ dX10_readLaw_144
      · replace h := am_ip h c_3
        refine am_iload_n C0 dX10_readLaw_135 1 rfl ?_
        refine am_goto C0 dX10_readLaw_136 (tgt := 144) (by decide) ?_
        have e := Option.some.inj h
        subst e
        exact hret _ _ dX10_readLaw_144
    · replace h := am_ip h c_2
      refine am_iload_n C0 dX10_readLaw_9 1 rfl ?_
      refine am_bipush C0 dX10_readLaw_10 kb_16 ?_
      refine am_icmp_ne C0 dX10_readLaw_12 (tgt := 21) (by decide) (fun c_5 => ?_) (fun c_5 => ?_)
      · replace h := am_in h c_5
        refine am_bipush C0 dX10_readLaw_21 kb_32 ?_
        refine am_iload_n C0 dX10_readLaw_23 1 rfl ?_
        refine am_iadd C0 dX10_readLaw_24 ?_
        obtain ⟨x2_6, e_x2_6, h⟩ := am_lt h
        refine am_top e_x2_6 ?_
        refine am_istore_n C0 dX10_readLaw_25 rfl (by decide) rfl (lv' := [(0, .ref (am_b G 0)), (1, .int x1), (2, .int x2_6)]) rfl ?_
        refine am_aload_n C0 dX10_readLaw_26 0 rfl ?_
        refine am_getR C0 (j := 12) ff_RX10_43 (loM_7_21 kM0).1 (loM_7_21 kM0).2.1 (loM_7_21 kM0).2.2.1 (loM_7_21 kM0).2.2.2 dX10_readLaw_27 ?_
        refine am_iload_n C0 dX10_readLaw_30 2 rfl ?_
        refine am_aload_n C0 dX10_readLaw_31 0 rfl ?_
        refine am_getI C0 ff_RX10_187 (loM_7_18 kM0).1 (loM_7_18 kM0).2.1 (loM_7_18 kM0).2.2.1 (loM_7_18 kM0).2.2.2 dX10_readLaw_32 ?_
        obtain ⟨σ_7, h_σ_7, h⟩ := am_bind h
        refine am_iast C0 (ltM (tgM_7_21 kM0)) (tgM_7_21 kM0) (lnM_7_21 kM0) h_σ_7 dX10_readLaw_35 ?_
        refine am_aload_n C0 dX10_readLaw_36 0 rfl ?_
        obtain ⟨q_8, h_q_8, h⟩ := am_bind h
        refine am_callV C0 (m_M_reads (σ := σ_7) (Nat.le_refl _) F   h_q_8) mm_yX10_reads ln_RX10_222 (As := fun b => []) (fun _ => rfl) (fun _ => rfl) (loM_7_0 kM0).1 (loM_7_0 kM0).2.1 rfl (Nat.le_trans (by decide) hd) rfl (Nat.le_of_ble_eq_true rfl) dX10_readLaw_37 ?_
        refine am_aload_n C0 dX10_readLaw_40 0 rfl ?_
        refine am_getR C0 (j := 13) ff_RX10_46 (loM_7_22 kM0).1 (loM_7_22 kM0).2.1 (loM_7_22 kM0).2.2.1 (loM_7_22 kM0).2.2.2 dX10_readLaw_41 ?_
        refine am_iload_n C0 dX10_readLaw_44 2 rfl ?_
        refine am_aload_n C0 dX10_readLaw_45 0 rfl ?_
        refine am_getI C0 ff_RX10_209 (loM_7_28 kM0).1 (loM_7_28 kM0).2.1 (loM_7_28 kM0).2.2.1 (loM_7_28 kM0).2.2.2 dX10_readLaw_46 ?_
        obtain ⟨σ_9, h_σ_9, h⟩ := am_bind h
        refine am_iast C0 (ltM (tgM_7_22 kM0)) (tgM_7_22 kM0) (lnM_7_22 kM0) h_σ_9 dX10_readLaw_49 ?_
        refine am_aload_n C0 dX10_readLaw_50 0 rfl ?_
        obtain ⟨q_10, h_q_10, h⟩ := am_bind h
        refine am_callV C0 (m_M_readSum (σ := σ_9) (Nat.le_refl _) F   h_q_10) mm_yX10_readSum ln_RX10_235 (As := fun b => []) (fun _ => rfl) (fun _ => rfl) (loM_7_0 kM0).1 (loM_7_0 kM0).2.1 rfl (Nat.le_trans (by decide) hd) rfl (Nat.le_of_ble_eq_true rfl) dX10_readLaw_51 ?_
        refine am_iconst C0 dX10_readLaw_54 ci_m1 ?_
        refine am_icmp_ne C0 dX10_readLaw_55 (tgt := 60) (by decide) (fun c_11 => ?_) (fun c_11 => ?_)
        · replace h := am_in h c_11
          refine am_aload_n C0 dX10_readLaw_60 0 rfl ?_
          refine am_getR C0 (j := 14) ff_RX10_49 (loM_7_23 kM0).1 (loM_7_23 kM0).2.1 (loM_7_23 kM0).2.2.1 (loM_7_23 kM0).2.2.2 dX10_readLaw_61 ?_
          refine am_iload_n C0 dX10_readLaw_64 2 rfl ?_
          refine am_aload_n C0 dX10_readLaw_65 0 rfl ?_
          refine am_getI C0 ff_RX10_209 (loM_7_28 kM0).1 (loM_7_28 kM0).2.1 (loM_7_28 kM0).2.2.1 (loM_7_28 kM0).2.2.2 dX10_readLaw_66 ?_
          obtain ⟨σ_12, h_σ_12, h⟩ := am_bind h
          refine am_iast C0 (ltM (tgM_7_23 kM0)) (tgM_7_23 kM0) (lnM_7_23 kM0) h_σ_12 dX10_readLaw_69 ?_
          refine am_aload_n C0 dX10_readLaw_70 0 rfl ?_
          refine am_iconst C0 dX10_readLaw_71 ci_3 ?_
          refine am_callV C0 (m_M_isWord (σ := σ_12) (Nat.le_refl _) 3  rfl) mm_yX10_isWord ln_RX10_244 (As := fun b => [.int 3]) (fun _ => rfl) (fun _ => rfl) (loM_7_0 kM0).1 (loM_7_0 kM0).2.1 rfl (Nat.le_trans (by decide) hd) rfl (Nat.le_of_ble_eq_true rfl) dX10_readLaw_72 ?_
          refine am_ifB_eq C0 dX10_readLaw_75 (tgt := 92) (by decide) (fun c_14 => ?_) (fun c_14 => ?_)
          · replace h := am_in h c_14
            exact am_sub [0, 1, 2] rfl (k_M_readLaw_p92 C0 hd _ F hret (fun z1 zs z => ih z1 zs z) x1 x2_6 σ_12  h)
          · replace h := am_ip h c_14
            refine am_aload_n C0 dX10_readLaw_78 0 rfl ?_
            obtain ⟨q_15, h_q_15, h⟩ := am_bind h
            refine am_callV C0 (m_M_reads (σ := σ_12) (Nat.le_refl _) F   h_q_15) mm_yX10_reads ln_RX10_222 (As := fun b => []) (fun _ => rfl) (fun _ => rfl) (loM_7_0 kM0).1 (loM_7_0 kM0).2.1 rfl (Nat.le_trans (by decide) hd) rfl (Nat.le_of_ble_eq_true rfl) dX10_readLaw_79 ?_
            refine am_aload_n C0 dX10_readLaw_82 0 rfl ?_
            obtain ⟨q_16, h_q_16, h⟩ := am_bind h
            refine am_callV C0 (m_M_readAny (σ := q_15) (Nat.le_refl _) F   h_q_16) mm_yX10_readAny ln_RX10_259 (As := fun b => []) (fun _ => rfl) (fun _ => rfl) (loM_7_0 kM0).1 (loM_7_0 kM0).2.1 rfl (Nat.le_trans (by decide) hd) rfl (Nat.le_of_ble_eq_true rfl) dX10_readLaw_83 ?_
            refine am_iconst C0 dX10_readLaw_86 ci_m1 ?_
            refine am_icmp_ne C0 dX10_readLaw_87 (tgt := 92) (by decide) (fun c_17 => ?_) (fun c_17 => ?_)
            · replace h := am_in h c_17
              exact am_sub [0, 1, 2] rfl (k_M_readLaw_p92 C0 hd _ F hret (fun z1 zs z => ih z1 zs z) x1 x2_6 q_16.2  h)
            · replace h := am_ip h c_17
              refine am_iconst C0 dX10_readLaw_90 ci_m1 ?_
              have e := Option.some.inj h
              subst e
              exact hret _ _ dX10_readLaw_91
        · replace h := am_ip h c_11
          refine am_iconst C0 dX10_readLaw_58 ci_m1 ?_
          have e := Option.some.inj h
          subst e
          exact hret _ _ dX10_readLaw_59
      · replace h := am_ip h c_5
        refine am_aload_n C0 dX10_readLaw_15 0 rfl ?_
        refine am_iconst C0 dX10_readLaw_16 ci_3 ?_
        obtain ⟨q_18, h_q_18, h⟩ := am_lt h
        refine am_callV C0 (m_M_errs (σ := σ) (Nat.le_refl _) 3  h_q_18) mm_yX10_errs ln_RX10_215 (As := fun b => [.int 3]) (fun _ => rfl) (fun _ => rfl) (loM_7_0 kM0).1 (loM_7_0 kM0).2.1 rfl (Nat.le_trans (by decide) hd) rfl (Nat.le_of_ble_eq_true rfl) dX10_readLaw_17 ?_
        have e := Option.some.inj h
        subst e
        exact hret _ _ dX10_readLaw_20
set_option maxRecDepth 100000 in
set_option maxHeartbeats 4000000 in
theorem k_M_readLaw {G : am_T} {d0 : Nat} (C0 : am_C G cX10_readLaw 3 RX10 LM d0) (hd : 9 ≤ d0) (F : Nat) {q : Int32 × am_SS} (hret : am_retI G cX10_readLaw 3 q.1 q.2) (σ : am_SS) (h : M_readLaw F  σ = some q) : am_K G 3 0 [(0, .ref (am_b G 0))] [] σ := by
  unfold M_readLaw at h
  refine am_iconst C0 dX10_readLaw_0 ci_0 ?_
  refine am_istore_n C0 dX10_readLaw_1 rfl (by decide) rfl (lv' := [(0, .ref (am_b G 0)), (1, .int 0)]) rfl ?_
  exact am_sub [0, 1] rfl (k_M_readLaw_l2 C0 hd F hret F 0 σ  h)
set_option maxRecDepth 100000 in
set_option maxHeartbeats 4000000 in
theorem m_M_readLaw {l : Launch} {d : Nat} {σ : am_SS} {q : Int32 × am_SS} (hd : 9 ≤ d) (F : Nat) (h : M_readLaw F  σ = some q) : am_Met l yX10_readLaw cX10_readLaw 3 (some .int) d 0 0 LM (fun b => [.ref (b 0)]) σ (some (.int q.1)) q.2 :=
  am_metI (plainFor_of_name (by decide)) rfl (lv := fun b => [(0, .ref (b 0))]) (fun _ => rfl) (fun _ => Nat.le_of_ble_eq_true rfl) (fun G C0 _ hret => k_M_readLaw C0 hd F hret  σ  h)
set_option maxRecDepth 100000 in
set_option maxHeartbeats 4000000 in
theorem k_M_takesLaw_l107 {G : am_T} {d0 : Nat} (C0 : am_C G cX10_takesLaw 3 RX10 LM d0) (hd : 1 ≤ d0) (F : Nat) {q : am_SS} (hret : am_retV G cX10_takesLaw 3 q) : ∀ (n : Nat) (x1 : Int32) (x2 : Int32) (σ : am_SS) (h : M_takesLaw_l107 F n x1 x2 σ = some q), am_K G 3 107 [(0, .ref (am_b G 0)), (1, .int x1), (2, .int x2)] [] σ := by
  intro n
  induction n with
  | zero =>
    intro x1 x2 σ h
    rw [M_takesLaw_l107] at h
    cases h
  | succ n ih =>
    intro x1 x2 σ h
    rw [M_takesLaw_l107] at h
    refine am_iload_n C0 dX10_takesLaw_107 2 rfl ?_
    refine am_aload_n C0 dX10_takesLaw_108 0 rfl ?_
    refine am_getI C0 ff_RX10_209 (loM_7_28 kM0).1 (loM_7_28 kM0).2.1 (loM_7_28 kM0).2.2.1 (loM_7_28 kM0).2.2.2 dX10_takesLaw_109 ?_
    refine am_icmp_ge C0 dX10_takesLaw_112 (tgt := 171) (by decide) (fun c_1 => ?_) (fun c_1 => ?_)
    · replace h := am_in h c_1
      refine am_aload_n C0 dX10_takesLaw_171 0 rfl ?_
      refine am_getR C0 (j := 11) ff_RX10_40 (loM_7_20 kM0).1 (loM_7_20 kM0).2.1 (loM_7_20 kM0).2.2.1 (loM_7_20 kM0).2.2.2 dX10_takesLaw_172 ?_
      refine am_aload_n C0 dX10_takesLaw_175 0 rfl ?_
      refine am_getI C0 ff_RX10_262 (loM_7_27 kM0).1 (loM_7_27 kM0).2.1 (loM_7_27 kM0).2.2.1 (loM_7_27 kM0).2.2.2 dX10_takesLaw_176 ?_
      refine am_iload_n C0 dX10_takesLaw_179 1 rfl ?_
      obtain ⟨σ_2, h_σ_2, h⟩ := am_bind h
      refine am_iast C0 (ltM (tgM_7_20 kM0)) (tgM_7_20 kM0) (lnM_7_20 kM0) h_σ_2 dX10_takesLaw_180 ?_
      have e := Option.some.inj h
      subst e
      exact hret _ _ dX10_takesLaw_181
    · replace h := am_ip h c_1
      refine am_aload_n C0 dX10_takesLaw_115 0 rfl ?_
      refine am_getR C0 (j := 16) ff_RX10_55 (loM_7_25 kM0).1 (loM_7_25 kM0).2.1 (loM_7_25 kM0).2.2.1 (loM_7_25 kM0).2.2.2 dX10_takesLaw_116 ?_
      refine am_sipush C0 dX10_takesLaw_119 cs_400 ?_
      refine am_aload_n C0 dX10_takesLaw_122 0 rfl ?_
      refine am_getI C0 ff_RX10_262 (loM_7_27 kM0).1 (loM_7_27 kM0).2.1 (loM_7_27 kM0).2.2.1 (loM_7_27 kM0).2.2.2 dX10_takesLaw_123 ?_
      refine am_imul C0 dX10_takesLaw_126 ?_
      refine am_iload_n C0 dX10_takesLaw_127 2 rfl ?_
      refine am_iadd C0 dX10_takesLaw_128 ?_
      refine am_aload_n C0 dX10_takesLaw_129 0 rfl ?_
      refine am_getR C0 (j := 16) ff_RX10_55 (loM_7_25 kM0).1 (loM_7_25 kM0).2.1 (loM_7_25 kM0).2.2.1 (loM_7_25 kM0).2.2.2 dX10_takesLaw_130 ?_
      refine am_sipush C0 dX10_takesLaw_133 cs_800 ?_
      refine am_iload_n C0 dX10_takesLaw_136 2 rfl ?_
      refine am_iadd C0 dX10_takesLaw_137 ?_
      obtain ⟨t_3, h_t_3, h⟩ := am_bind h
      refine am_iald C0 (ltM (tgM_7_25 kM0)) (tgM_7_25 kM0) (lnM_7_25 kM0) h_t_3 dX10_takesLaw_138 ?_
      obtain ⟨σ_4, h_σ_4, h⟩ := am_bind h
      refine am_iast C0 (ltM (tgM_7_25 kM0)) (tgM_7_25 kM0) (lnM_7_25 kM0) h_σ_4 dX10_takesLaw_139 ?_
      refine am_aload_n C0 dX10_takesLaw_140 0 rfl ?_
      refine am_getR C0 (j := 17) ff_RX10_58 (loM_7_26 kM0).1 (loM_7_26 kM0).2.1 (loM_7_26 kM0).2.2.1 (loM_7_26 kM0).2.2.2 dX10_takesLaw_141 ?_
      refine am_sipush C0 dX10_takesLaw_144 cs_400 ?_
      refine am_aload_n C0 dX10_takesLaw_147 0 rfl ?_
      refine am_getI C0 ff_RX10_262 (loM_7_27 kM0).1 (loM_7_27 kM0).2.1 (loM_7_27 kM0).2.2.1 (loM_7_27 kM0).2.2.2 dX10_takesLaw_148 ?_
      refine am_imul C0 dX10_takesLaw_151 ?_
      refine am_iload_n C0 dX10_takesLaw_152 2 rfl ?_
      refine am_iadd C0 dX10_takesLaw_153 ?_
      refine am_aload_n C0 dX10_takesLaw_154 0 rfl ?_
      refine am_getR C0 (j := 17) ff_RX10_58 (loM_7_26 kM0).1 (loM_7_26 kM0).2.1 (loM_7_26 kM0).2.2.1 (loM_7_26 kM0).2.2.2 dX10_takesLaw_155 ?_
      refine am_sipush C0 dX10_takesLaw_158 cs_800 ?_
      refine am_iload_n C0 dX10_takesLaw_161 2 rfl ?_
      refine am_iadd C0 dX10_takesLaw_162 ?_
      obtain ⟨t_5, h_t_5, h⟩ := am_bind h
      refine am_iald C0 (ltM (tgM_7_26 kM0)) (tgM_7_26 kM0) (lnM_7_26 kM0) h_t_5 dX10_takesLaw_163 ?_
      obtain ⟨σ_6, h_σ_6, h⟩ := am_bind h
      refine am_iast C0 (ltM (tgM_7_26 kM0)) (tgM_7_26 kM0) (lnM_7_26 kM0) h_σ_6 dX10_takesLaw_164 ?_
      obtain ⟨x2_7, e_x2_7, h⟩ := am_lt h
      refine am_iinc C0 dX10_takesLaw_165 2 rfl (by rw [ci_1]; exact e_x2_7) (by decide) rfl (lv' := [(0, .ref (am_b G 0)), (1, .int x1), (2, .int x2_7)]) rfl ?_
      refine am_goto C0 dX10_takesLaw_168 (tgt := 107) (by decide) ?_
      exact am_sub [0, 1, 2] rfl (ih x1 x2_7 σ_6  h)
set_option maxRecDepth 100000 in
set_option maxHeartbeats 4000000 in
theorem k_M_takesLaw_l2 {G : am_T} {d0 : Nat} (C0 : am_C G cX10_takesLaw 3 RX10 LM d0) (hd : 1 ≤ d0) (F : Nat) {q : am_SS} (hret : am_retV G cX10_takesLaw 3 q) : ∀ (n : Nat) (x1 : Int32) (x2 : Int32) (σ : am_SS) (h : M_takesLaw_l2 F n x1 x2 σ = some q), am_K G 3 2 [(0, .ref (am_b G 0)), (1, .int x1), (2, .int x2)] [] σ := by
  intro n
  induction n with
  | zero =>
    intro x1 x2 σ h
    rw [M_takesLaw_l2] at h
    cases h
  | succ n ih =>
    intro x1 x2 σ h
    rw [M_takesLaw_l2] at h
    refine am_iload_n C0 dX10_takesLaw_2 2 rfl ?_
    refine am_iload_n C0 dX10_takesLaw_3 1 rfl ?_
    refine am_icmp_ge C0 dX10_takesLaw_4 (tgt := 105) (by decide) (fun c_1 => ?_) (fun c_1 => ?_)
    · replace h := am_in h c_1
      refine am_iconst C0 dX10_takesLaw_105 ci_0 ?_
      refine am_istore_n C0 dX10_takesLaw_106 rfl (by decide) rfl (lv' := [(0, .ref (am_b G 0)), (1, .int x1), (2, .int 0)]) rfl ?_
      exact am_sub [0, 1, 2] rfl (k_M_takesLaw_l107 C0 hd F hret F x1 0 σ  h)
    · replace h := am_ip h c_1
      refine am_aload_n C0 dX10_takesLaw_7 0 rfl ?_
      refine am_getR C0 (j := 12) ff_RX10_43 (loM_7_21 kM0).1 (loM_7_21 kM0).2.1 (loM_7_21 kM0).2.2.1 (loM_7_21 kM0).2.2.2 dX10_takesLaw_8 ?_
      refine am_bipush C0 dX10_takesLaw_11 kb_16 ?_
      refine am_aload_n C0 dX10_takesLaw_13 0 rfl ?_
      refine am_getI C0 ff_RX10_262 (loM_7_27 kM0).1 (loM_7_27 kM0).2.1 (loM_7_27 kM0).2.2.1 (loM_7_27 kM0).2.2.2 dX10_takesLaw_14 ?_
      refine am_imul C0 dX10_takesLaw_17 ?_
      refine am_iload_n C0 dX10_takesLaw_18 2 rfl ?_
      refine am_iadd C0 dX10_takesLaw_19 ?_
      refine am_aload_n C0 dX10_takesLaw_20 0 rfl ?_
      refine am_getR C0 (j := 12) ff_RX10_43 (loM_7_21 kM0).1 (loM_7_21 kM0).2.1 (loM_7_21 kM0).2.2.1 (loM_7_21 kM0).2.2.2 dX10_takesLaw_21 ?_
      refine am_bipush C0 dX10_takesLaw_24 kb_32 ?_
      refine am_iload_n C0 dX10_takesLaw_26 2 rfl ?_
      refine am_iadd C0 dX10_takesLaw_27 ?_
      obtain ⟨t_2, h_t_2, h⟩ := am_bind h
      refine am_iald C0 (ltM (tgM_7_21 kM0)) (tgM_7_21 kM0) (lnM_7_21 kM0) h_t_2 dX10_takesLaw_28 ?_
      obtain ⟨σ_3, h_σ_3, h⟩ := am_bind h
      refine am_iast C0 (ltM (tgM_7_21 kM0)) (tgM_7_21 kM0) (lnM_7_21 kM0) h_σ_3 dX10_takesLaw_29 ?_
      refine am_aload_n C0 dX10_takesLaw_30 0 rfl ?_
      refine am_getR C0 (j := 13) ff_RX10_46 (loM_7_22 kM0).1 (loM_7_22 kM0).2.1 (loM_7_22 kM0).2.2.1 (loM_7_22 kM0).2.2.2 dX10_takesLaw_31 ?_
      refine am_bipush C0 dX10_takesLaw_34 kb_16 ?_
      refine am_aload_n C0 dX10_takesLaw_36 0 rfl ?_
      refine am_getI C0 ff_RX10_262 (loM_7_27 kM0).1 (loM_7_27 kM0).2.1 (loM_7_27 kM0).2.2.1 (loM_7_27 kM0).2.2.2 dX10_takesLaw_37 ?_
      refine am_imul C0 dX10_takesLaw_40 ?_
      refine am_iload_n C0 dX10_takesLaw_41 2 rfl ?_
      refine am_iadd C0 dX10_takesLaw_42 ?_
      refine am_aload_n C0 dX10_takesLaw_43 0 rfl ?_
      refine am_getR C0 (j := 13) ff_RX10_46 (loM_7_22 kM0).1 (loM_7_22 kM0).2.1 (loM_7_22 kM0).2.2.1 (loM_7_22 kM0).2.2.2 dX10_takesLaw_44 ?_
      refine am_bipush C0 dX10_takesLaw_47 kb_32 ?_
      refine am_iload_n C0 dX10_takesLaw_49 2 rfl ?_
      refine am_iadd C0 dX10_takesLaw_50 ?_
      obtain ⟨t_4, h_t_4, h⟩ := am_bind h
      refine am_iald C0 (ltM (tgM_7_22 kM0)) (tgM_7_22 kM0) (lnM_7_22 kM0) h_t_4 dX10_takesLaw_51 ?_
      obtain ⟨σ_5, h_σ_5, h⟩ := am_bind h
      refine am_iast C0 (ltM (tgM_7_22 kM0)) (tgM_7_22 kM0) (lnM_7_22 kM0) h_σ_5 dX10_takesLaw_52 ?_
      refine am_aload_n C0 dX10_takesLaw_53 0 rfl ?_
      refine am_getR C0 (j := 14) ff_RX10_49 (loM_7_23 kM0).1 (loM_7_23 kM0).2.1 (loM_7_23 kM0).2.2.1 (loM_7_23 kM0).2.2.2 dX10_takesLaw_54 ?_
      refine am_bipush C0 dX10_takesLaw_57 kb_16 ?_
      refine am_aload_n C0 dX10_takesLaw_59 0 rfl ?_
      refine am_getI C0 ff_RX10_262 (loM_7_27 kM0).1 (loM_7_27 kM0).2.1 (loM_7_27 kM0).2.2.1 (loM_7_27 kM0).2.2.2 dX10_takesLaw_60 ?_
      refine am_imul C0 dX10_takesLaw_63 ?_
      refine am_iload_n C0 dX10_takesLaw_64 2 rfl ?_
      refine am_iadd C0 dX10_takesLaw_65 ?_
      refine am_aload_n C0 dX10_takesLaw_66 0 rfl ?_
      refine am_getR C0 (j := 14) ff_RX10_49 (loM_7_23 kM0).1 (loM_7_23 kM0).2.1 (loM_7_23 kM0).2.2.1 (loM_7_23 kM0).2.2.2 dX10_takesLaw_67 ?_
      refine am_bipush C0 dX10_takesLaw_70 kb_32 ?_
      refine am_iload_n C0 dX10_takesLaw_72 2 rfl ?_
      refine am_iadd C0 dX10_takesLaw_73 ?_
      obtain ⟨t_6, h_t_6, h⟩ := am_bind h
      refine am_iald C0 (ltM (tgM_7_23 kM0)) (tgM_7_23 kM0) (lnM_7_23 kM0) h_t_6 dX10_takesLaw_74 ?_
      obtain ⟨σ_7, h_σ_7, h⟩ := am_bind h
      refine am_iast C0 (ltM (tgM_7_23 kM0)) (tgM_7_23 kM0) (lnM_7_23 kM0) h_σ_7 dX10_takesLaw_75 ?_
      refine am_aload_n C0 dX10_takesLaw_76 0 rfl ?_
      refine am_getR C0 (j := 15) ff_RX10_52 (loM_7_24 kM0).1 (loM_7_24 kM0).2.1 (loM_7_24 kM0).2.2.1 (loM_7_24 kM0).2.2.2 dX10_takesLaw_77 ?_
      refine am_bipush C0 dX10_takesLaw_80 kb_16 ?_
      refine am_aload_n C0 dX10_takesLaw_82 0 rfl ?_
      refine am_getI C0 ff_RX10_262 (loM_7_27 kM0).1 (loM_7_27 kM0).2.1 (loM_7_27 kM0).2.2.1 (loM_7_27 kM0).2.2.2 dX10_takesLaw_83 ?_
      refine am_imul C0 dX10_takesLaw_86 ?_
      refine am_iload_n C0 dX10_takesLaw_87 2 rfl ?_
      refine am_iadd C0 dX10_takesLaw_88 ?_
      refine am_aload_n C0 dX10_takesLaw_89 0 rfl ?_
      refine am_getR C0 (j := 15) ff_RX10_52 (loM_7_24 kM0).1 (loM_7_24 kM0).2.1 (loM_7_24 kM0).2.2.1 (loM_7_24 kM0).2.2.2 dX10_takesLaw_90 ?_
      refine am_bipush C0 dX10_takesLaw_93 kb_32 ?_
      refine am_iload_n C0 dX10_takesLaw_95 2 rfl ?_
      refine am_iadd C0 dX10_takesLaw_96 ?_
      obtain ⟨t_8, h_t_8, h⟩ := am_bind h
      refine am_iald C0 (ltM (tgM_7_24 kM0)) (tgM_7_24 kM0) (lnM_7_24 kM0) h_t_8 dX10_takesLaw_97 ?_
      obtain ⟨σ_9, h_σ_9, h⟩ := am_bind h
      refine am_iast C0 (ltM (tgM_7_24 kM0)) (tgM_7_24 kM0) (lnM_7_24 kM0) h_σ_9 dX10_takesLaw_98 ?_
      obtain ⟨x2_10, e_x2_10, h⟩ := am_lt h
      refine am_iinc C0 dX10_takesLaw_99 2 rfl (by rw [ci_1]; exact e_x2_10) (by decide) rfl (lv' := [(0, .ref (am_b G 0)), (1, .int x1), (2, .int x2_10)]) rfl ?_
      refine am_goto C0 dX10_takesLaw_102 (tgt := 2) (by decide) ?_
      exact am_sub [0, 1, 2] rfl (ih x1 x2_10 σ_9  h)
set_option maxRecDepth 100000 in
set_option maxHeartbeats 4000000 in
theorem k_M_takesLaw {G : am_T} {d0 : Nat} (C0 : am_C G cX10_takesLaw 3 RX10 LM d0) (hd : 1 ≤ d0) (F : Nat) {q : am_SS} (hret : am_retV G cX10_takesLaw 3 q) (x1 : Int32) (σ : am_SS) (h : M_takesLaw F x1 σ = some q) : am_K G 3 0 [(0, .ref (am_b G 0)), (1, .int x1)] [] σ := by
  unfold M_takesLaw at h
  refine am_iconst C0 dX10_takesLaw_0 ci_0 ?_
  refine am_istore_n C0 dX10_takesLaw_1 rfl (by decide) rfl (lv' := [(0, .ref (am_b G 0)), (1, .int x1), (2, .int 0)]) rfl ?_
  exact am_sub [0, 1, 2] rfl (k_M_takesLaw_l2 C0 hd F hret F x1 0 σ  h)
set_option maxRecDepth 100000 in
set_option maxHeartbeats 4000000 in
theorem m_M_takesLaw {l : Launch} {d : Nat} {σ : am_SS} {q : am_SS} (hd : 1 ≤ d) (F : Nat) (x1 : Int32) (h : M_takesLaw F x1 σ = some q) : am_Met l yX10_takesLaw cX10_takesLaw 3 none d 0 0 LM (fun b => [.ref (b 0), .int x1]) σ none q :=
  am_metV (plainFor_of_name (by decide)) (lv := fun b => [(0, .ref (b 0)), (1, .int x1)]) (fun _ => rfl) (fun _ => Nat.le_of_ble_eq_true rfl) (fun G C0 _ hret => k_M_takesLaw C0 hd F hret x1 σ  h)
set_option maxRecDepth 100000 in
set_option maxHeartbeats 4000000 in
theorem k_M_readNumber {G : am_T} {d0 : Nat} (C0 : am_C G cX10_readNumber 4 RX10 LM d0) (hd : 4 ≤ d0) (F : Nat) {q : Int32 × am_SS} (hret : am_retI G cX10_readNumber 4 q.1 q.2) (x1 : Int32) (x2 : Int32) (σ : am_SS) (h : M_readNumber F x1 x2 σ = some q) : am_K G 4 0 [(0, .ref (am_b G 0)), (1, .int x1), (2, .int x2)] [] σ := by
  unfold M_readNumber at h
  refine am_aload_n C0 dX10_readNumber_0 0 rfl ?_
  refine am_getI C0 ff_RX10_184 (loM_7_17 kM0).1 (loM_7_17 kM0).2.1 (loM_7_17 kM0).2.2.1 (loM_7_17 kM0).2.2.2 dX10_readNumber_1 ?_
  refine am_iconst C0 dX10_readNumber_4 ci_3 ?_
  refine am_icmp_eq C0 dX10_readNumber_5 (tgt := 14) (by decide) (fun c_1 => ?_) (fun c_1 => ?_)
  · replace h := am_ip h c_1
    refine am_aload_n C0 dX10_readNumber_14 0 rfl ?_
    refine am_aload_n C0 dX10_readNumber_15 0 rfl ?_
    refine am_getI C0 ff_RX10_187 (loM_7_18 kM0).1 (loM_7_18 kM0).2.1 (loM_7_18 kM0).2.2.1 (loM_7_18 kM0).2.2.2 dX10_readNumber_16 ?_
    refine am_iload_n C0 dX10_readNumber_19 1 rfl ?_
    refine am_iload_n C0 dX10_readNumber_20 2 rfl ?_
    refine am_callV C0 (m_M_isIn (σ := σ) (Nat.le_refl _) (σ 0 18) x1 x2  rfl) mm_yX10_isIn ln_RX10_149 (As := fun b => [.int (σ 0 18), .int x1, .int x2]) (fun _ => rfl) (fun _ => rfl) (loM_7_0 kM0).1 (loM_7_0 kM0).2.1 rfl (Nat.le_trans (by decide) hd) rfl (Nat.le_of_ble_eq_true rfl) dX10_readNumber_21 ?_
    refine am_ifB_ne C0 dX10_readNumber_24 (tgt := 33) (by decide) (fun c_3 => ?_) (fun c_3 => ?_)
    · replace h := am_ip h c_3
      refine am_aload_n C0 dX10_readNumber_33 0 rfl ?_
      refine am_getI C0 ff_RX10_187 (loM_7_18 kM0).1 (loM_7_18 kM0).2.1 (loM_7_18 kM0).2.2.1 (loM_7_18 kM0).2.2.2 dX10_readNumber_34 ?_
      obtain ⟨x3_4, e_x3_4, h⟩ := am_lt h
      refine am_top e_x3_4 ?_
      refine am_istore_n C0 dX10_readNumber_37 rfl (by decide) rfl (lv' := [(0, .ref (am_b G 0)), (1, .int x1), (2, .int x2), (3, .int x3_4)]) rfl ?_
      refine am_aload_n C0 dX10_readNumber_38 0 rfl ?_
      obtain ⟨q_5, h_q_5, h⟩ := am_bind h
      refine am_callV C0 (m_M_reads (σ := σ) (Nat.le_refl _) F   h_q_5) mm_yX10_reads ln_RX10_222 (As := fun b => []) (fun _ => rfl) (fun _ => rfl) (loM_7_0 kM0).1 (loM_7_0 kM0).2.1 rfl (Nat.le_trans (by decide) hd) rfl (Nat.le_of_ble_eq_true rfl) dX10_readNumber_39 ?_
      refine am_iload_n C0 dX10_readNumber_42 3 rfl ?_
      have e := Option.some.inj h
      subst e
      exact hret _ _ dX10_readNumber_43
    · replace h := am_in h c_3
      refine am_aload_n C0 dX10_readNumber_27 0 rfl ?_
      refine am_iconst C0 dX10_readNumber_28 ci_2 ?_
      obtain ⟨q_6, h_q_6, h⟩ := am_lt h
      refine am_callV C0 (m_M_errs (σ := σ) (Nat.le_refl _) 2  h_q_6) mm_yX10_errs ln_RX10_215 (As := fun b => [.int 2]) (fun _ => rfl) (fun _ => rfl) (loM_7_0 kM0).1 (loM_7_0 kM0).2.1 rfl (Nat.le_trans (by decide) hd) rfl (Nat.le_of_ble_eq_true rfl) dX10_readNumber_29 ?_
      have e := Option.some.inj h
      subst e
      exact hret _ _ dX10_readNumber_32
  · replace h := am_in h c_1
    refine am_aload_n C0 dX10_readNumber_8 0 rfl ?_
    refine am_iconst C0 dX10_readNumber_9 ci_1 ?_
    obtain ⟨q_7, h_q_7, h⟩ := am_lt h
    refine am_callV C0 (m_M_errs (σ := σ) (Nat.le_refl _) 1  h_q_7) mm_yX10_errs ln_RX10_215 (As := fun b => [.int 1]) (fun _ => rfl) (fun _ => rfl) (loM_7_0 kM0).1 (loM_7_0 kM0).2.1 rfl (Nat.le_trans (by decide) hd) rfl (Nat.le_of_ble_eq_true rfl) dX10_readNumber_10 ?_
    have e := Option.some.inj h
    subst e
    exact hret _ _ dX10_readNumber_13
set_option maxRecDepth 100000 in
set_option maxHeartbeats 4000000 in
theorem m_M_readNumber {l : Launch} {d : Nat} {σ : am_SS} {q : Int32 × am_SS} (hd : 4 ≤ d) (F : Nat) (x1 : Int32) (x2 : Int32) (h : M_readNumber F x1 x2 σ = some q) : am_Met l yX10_readNumber cX10_readNumber 4 (some .int) d 0 0 LM (fun b => [.ref (b 0), .int x1, .int x2]) σ (some (.int q.1)) q.2 :=
  am_metI (plainFor_of_name (by decide)) rfl (lv := fun b => [(0, .ref (b 0)), (1, .int x1), (2, .int x2)]) (fun _ => rfl) (fun _ => Nat.le_of_ble_eq_true rfl) (fun G C0 _ hret => k_M_readNumber C0 hd F hret x1 x2 σ  h)
set_option maxRecDepth 100000 in
set_option maxHeartbeats 4000000 in
theorem k_M_readMark {G : am_T} {d0 : Nat} (C0 : am_C G cX10_readMark 2 RX10 LM d0) (hd : 4 ≤ d0) (F : Nat) {q : Int32 × am_SS} (hret : am_retI G cX10_readMark 2 q.1 q.2) (x1 : Int32) (σ : am_SS) (h : M_readMark F x1 σ = some q) : am_K G 2 0 [(0, .ref (am_b G 0)), (1, .int x1)] [] σ := by
  unfold M_readMark at h
  refine am_aload_n C0 dX10_readMark_0 0 rfl ?_
  refine am_iload_n C0 dX10_readMark_1 1 rfl ?_
  refine am_callV C0 (m_M_isSign (σ := σ) (Nat.le_refl _) x1  rfl) mm_yX10_isSign ln_RX10_229 (As := fun b => [.int x1]) (fun _ => rfl) (fun _ => rfl) (loM_7_0 kM0).1 (loM_7_0 kM0).2.1 rfl (Nat.le_trans (by decide) hd) rfl (Nat.le_of_ble_eq_true rfl) dX10_readMark_2 ?_
  refine am_ifB_ne C0 dX10_readMark_5 (tgt := 14) (by decide) (fun c_2 => ?_) (fun c_2 => ?_)
  · replace h := am_ip h c_2
    refine am_aload_n C0 dX10_readMark_14 0 rfl ?_
    obtain ⟨q_3, h_q_3, h⟩ := am_bind h
    refine am_callV C0 (m_M_reads (σ := σ) (Nat.le_refl _) F   h_q_3) mm_yX10_reads ln_RX10_222 (As := fun b => []) (fun _ => rfl) (fun _ => rfl) (loM_7_0 kM0).1 (loM_7_0 kM0).2.1 rfl (Nat.le_trans (by decide) hd) rfl (Nat.le_of_ble_eq_true rfl) dX10_readMark_15 ?_
    refine am_iconst C0 dX10_readMark_18 ci_0 ?_
    have e := Option.some.inj h
    subst e
    exact hret _ _ dX10_readMark_19
  · replace h := am_in h c_2
    refine am_aload_n C0 dX10_readMark_8 0 rfl ?_
    refine am_iconst C0 dX10_readMark_9 ci_1 ?_
    obtain ⟨q_4, h_q_4, h⟩ := am_lt h
    refine am_callV C0 (m_M_errs (σ := σ) (Nat.le_refl _) 1  h_q_4) mm_yX10_errs ln_RX10_215 (As := fun b => [.int 1]) (fun _ => rfl) (fun _ => rfl) (loM_7_0 kM0).1 (loM_7_0 kM0).2.1 rfl (Nat.le_trans (by decide) hd) rfl (Nat.le_of_ble_eq_true rfl) dX10_readMark_10 ?_
    have e := Option.some.inj h
    subst e
    exact hret _ _ dX10_readMark_13
set_option maxRecDepth 100000 in
set_option maxHeartbeats 4000000 in
theorem m_M_readMark {l : Launch} {d : Nat} {σ : am_SS} {q : Int32 × am_SS} (hd : 4 ≤ d) (F : Nat) (x1 : Int32) (h : M_readMark F x1 σ = some q) : am_Met l yX10_readMark cX10_readMark 2 (some .int) d 0 0 LM (fun b => [.ref (b 0), .int x1]) σ (some (.int q.1)) q.2 :=
  am_metI (plainFor_of_name (by decide)) rfl (lv := fun b => [(0, .ref (b 0)), (1, .int x1)]) (fun _ => rfl) (fun _ => Nat.le_of_ble_eq_true rfl) (fun G C0 _ hret => k_M_readMark C0 hd F hret x1 σ  h)
set_option maxRecDepth 100000 in
set_option maxHeartbeats 4000000 in
theorem k_M_readTold {G : am_T} {d0 : Nat} (C0 : am_C G cX10_readTold 4 RX10 LM d0) (hd : 5 ≤ d0) (F : Nat) {q : Int32 × am_SS} (hret : am_retI G cX10_readTold 4 q.1 q.2) (x1 : Int32) (x2 : Int32) (x3 : Int32) (σ : am_SS) (h : M_readTold F x1 x2 x3 σ = some q) : am_K G 4 0 [(0, .ref (am_b G 0)), (1, .int x1), (2, .int x2), (3, .int x3)] [] σ := by
  unfold M_readTold at h
  refine am_aload_n C0 dX10_readTold_0 0 rfl ?_
  refine am_iload_n C0 dX10_readTold_1 1 rfl ?_
  refine am_callV C0 (m_M_isWord (σ := σ) (Nat.le_refl _) x1  rfl) mm_yX10_isWord ln_RX10_244 (As := fun b => [.int x1]) (fun _ => rfl) (fun _ => rfl) (loM_7_0 kM0).1 (loM_7_0 kM0).2.1 rfl (Nat.le_trans (by decide) hd) rfl (Nat.le_of_ble_eq_true rfl) dX10_readTold_2 ?_
  refine am_ifB_ne C0 dX10_readTold_5 (tgt := 14) (by decide) (fun c_2 => ?_) (fun c_2 => ?_)
  · replace h := am_ip h c_2
    refine am_aload_n C0 dX10_readTold_14 0 rfl ?_
    obtain ⟨q_3, h_q_3, h⟩ := am_bind h
    refine am_callV C0 (m_M_reads (σ := σ) (Nat.le_refl _) F   h_q_3) mm_yX10_reads ln_RX10_222 (As := fun b => []) (fun _ => rfl) (fun _ => rfl) (loM_7_0 kM0).1 (loM_7_0 kM0).2.1 rfl (Nat.le_trans (by decide) hd) rfl (Nat.le_of_ble_eq_true rfl) dX10_readTold_15 ?_
    refine am_aload_n C0 dX10_readTold_18 0 rfl ?_
    refine am_iload_n C0 dX10_readTold_19 2 rfl ?_
    refine am_iload_n C0 dX10_readTold_20 3 rfl ?_
    obtain ⟨q_4, h_q_4, h⟩ := am_bind h
    refine am_callV C0 (m_M_readNumber (σ := q_3) (Nat.le_refl _) F x2 x3  h_q_4) mm_yX10_readNumber ln_RX10_265 (As := fun b => [.int x2, .int x3]) (fun _ => rfl) (fun _ => rfl) (loM_7_0 kM0).1 (loM_7_0 kM0).2.1 rfl (Nat.le_trans (by decide) hd) rfl (Nat.le_of_ble_eq_true rfl) dX10_readTold_21 ?_
    have e := Option.some.inj h
    subst e
    exact hret _ _ dX10_readTold_24
  · replace h := am_in h c_2
    refine am_aload_n C0 dX10_readTold_8 0 rfl ?_
    refine am_iconst C0 dX10_readTold_9 ci_1 ?_
    obtain ⟨q_5, h_q_5, h⟩ := am_lt h
    refine am_callV C0 (m_M_errs (σ := σ) (Nat.le_refl _) 1  h_q_5) mm_yX10_errs ln_RX10_215 (As := fun b => [.int 1]) (fun _ => rfl) (fun _ => rfl) (loM_7_0 kM0).1 (loM_7_0 kM0).2.1 rfl (Nat.le_trans (by decide) hd) rfl (Nat.le_of_ble_eq_true rfl) dX10_readTold_10 ?_
    have e := Option.some.inj h
    subst e
    exact hret _ _ dX10_readTold_13
set_option maxRecDepth 100000 in
set_option maxHeartbeats 4000000 in
theorem m_M_readTold {l : Launch} {d : Nat} {σ : am_SS} {q : Int32 × am_SS} (hd : 5 ≤ d) (F : Nat) (x1 : Int32) (x2 : Int32) (x3 : Int32) (h : M_readTold F x1 x2 x3 σ = some q) : am_Met l yX10_readTold cX10_readTold 4 (some .int) d 0 0 LM (fun b => [.ref (b 0), .int x1, .int x2, .int x3]) σ (some (.int q.1)) q.2 :=
  am_metI (plainFor_of_name (by decide)) rfl (lv := fun b => [(0, .ref (b 0)), (1, .int x1), (2, .int x2), (3, .int x3)]) (fun _ => rfl) (fun _ => Nat.le_of_ble_eq_true rfl) (fun G C0 _ hret => k_M_readTold C0 hd F hret x1 x2 x3 σ  h)
set_option maxRecDepth 100000 in
set_option maxHeartbeats 4000000 in
theorem k_M_kindOfOrder {G : am_T} {d0 : Nat} (C0 : am_C G cX10_kindOfOrder 1 RX10 LM d0) (hd : 2 ≤ d0) {σ : am_SS} {q : Int32} (hret : am_retI G cX10_kindOfOrder 1 q σ) (h : M_kindOfOrder  σ = q) : am_K G 1 0 [(0, .ref (am_b G 0))] [] σ := by
  unfold M_kindOfOrder at h
  refine am_aload_n C0 dX10_kindOfOrder_0 0 rfl ?_
  refine am_bipush C0 dX10_kindOfOrder_1 kb_10 ?_
  refine am_callV C0 (m_M_isWord (σ := σ) (Nat.le_refl _) 10  rfl) mm_yX10_isWord ln_RX10_244 (As := fun b => [.int 10]) (fun _ => rfl) (fun _ => rfl) (loM_7_0 kM0).1 (loM_7_0 kM0).2.1 rfl (Nat.le_trans (by decide) hd) rfl (Nat.le_of_ble_eq_true rfl) dX10_kindOfOrder_3 ?_
  refine am_ifB_eq C0 dX10_kindOfOrder_6 (tgt := 11) (by decide) (fun c_2 => ?_) (fun c_2 => ?_)
  · replace h := am_in h c_2
    refine am_aload_n C0 dX10_kindOfOrder_11 0 rfl ?_
    refine am_bipush C0 dX10_kindOfOrder_12 kb_18 ?_
    refine am_callV C0 (m_M_isWord (σ := σ) (Nat.le_refl _) 18  rfl) mm_yX10_isWord ln_RX10_244 (As := fun b => [.int 18]) (fun _ => rfl) (fun _ => rfl) (loM_7_0 kM0).1 (loM_7_0 kM0).2.1 rfl (Nat.le_trans (by decide) hd) rfl (Nat.le_of_ble_eq_true rfl) dX10_kindOfOrder_14 ?_
    refine am_ifB_eq C0 dX10_kindOfOrder_17 (tgt := 22) (by decide) (fun c_4 => ?_) (fun c_4 => ?_)
    · replace h := am_in h c_4
      refine am_aload_n C0 dX10_kindOfOrder_22 0 rfl ?_
      refine am_getI C0 ff_RX10_184 (loM_7_17 kM0).1 (loM_7_17 kM0).2.1 (loM_7_17 kM0).2.2.1 (loM_7_17 kM0).2.2.2 dX10_kindOfOrder_23 ?_
      refine am_iconst C0 dX10_kindOfOrder_26 ci_2 ?_
      refine am_icmp_ne C0 dX10_kindOfOrder_27 (tgt := 57) (by decide) (fun c_5 => ?_) (fun c_5 => ?_)
      · replace h := am_in h c_5
        refine am_iconst C0 dX10_kindOfOrder_57 ci_m1 ?_
        have e := h
        subst e
        exact hret _ _ dX10_kindOfOrder_58
      · replace h := am_ip h c_5
        refine am_aload_n C0 dX10_kindOfOrder_30 0 rfl ?_
        refine am_aload_n C0 dX10_kindOfOrder_31 0 rfl ?_
        refine am_getI C0 ff_RX10_187 (loM_7_18 kM0).1 (loM_7_18 kM0).2.1 (loM_7_18 kM0).2.2.1 (loM_7_18 kM0).2.2.2 dX10_kindOfOrder_32 ?_
        refine am_bipush C0 dX10_kindOfOrder_35 kb_19 ?_
        refine am_bipush C0 dX10_kindOfOrder_37 kb_21 ?_
        refine am_callV C0 (m_M_isIn (σ := σ) (Nat.le_refl _) (σ 0 18) 19 21  rfl) mm_yX10_isIn ln_RX10_149 (As := fun b => [.int (σ 0 18), .int 19, .int 21]) (fun _ => rfl) (fun _ => rfl) (loM_7_0 kM0).1 (loM_7_0 kM0).2.1 rfl (Nat.le_trans (by decide) hd) rfl (Nat.le_of_ble_eq_true rfl) dX10_kindOfOrder_39 ?_
        refine am_ifB_eq C0 dX10_kindOfOrder_42 (tgt := 57) (by decide) (fun c_7 => ?_) (fun c_7 => ?_)
        · replace h := am_in h c_7
          refine am_iconst C0 dX10_kindOfOrder_57 ci_m1 ?_
          have e := h
          subst e
          exact hret _ _ dX10_kindOfOrder_58
        · replace h := am_ip h c_7
          refine am_iconst C0 dX10_kindOfOrder_45 ci_2 ?_
          refine am_aload_n C0 dX10_kindOfOrder_46 0 rfl ?_
          refine am_getI C0 ff_RX10_187 (loM_7_18 kM0).1 (loM_7_18 kM0).2.1 (loM_7_18 kM0).2.2.1 (loM_7_18 kM0).2.2.2 dX10_kindOfOrder_47 ?_
          refine am_iadd C0 dX10_kindOfOrder_50 ?_
          refine am_bipush C0 dX10_kindOfOrder_51 kb_19 ?_
          refine am_isub C0 dX10_kindOfOrder_53 ?_
          refine am_goto C0 dX10_kindOfOrder_54 (tgt := 58) (by decide) ?_
          have e := h
          subst e
          exact hret _ _ dX10_kindOfOrder_58
    · replace h := am_ip h c_4
      refine am_iconst C0 dX10_kindOfOrder_20 ci_0 ?_
      have e := h
      subst e
      exact hret _ _ dX10_kindOfOrder_21
  · replace h := am_ip h c_2
    refine am_iconst C0 dX10_kindOfOrder_9 ci_1 ?_
    have e := h
    subst e
    exact hret _ _ dX10_kindOfOrder_10
set_option maxRecDepth 100000 in
set_option maxHeartbeats 4000000 in
theorem m_M_kindOfOrder {l : Launch} {d : Nat} {σ : am_SS} {q : Int32} (hd : 2 ≤ d) (h : M_kindOfOrder  σ = q) : am_Met l yX10_kindOfOrder cX10_kindOfOrder 1 (some .int) d 0 0 LM (fun b => [.ref (b 0)]) σ (some (.int q)) σ :=
  am_metI (plainFor_of_name (by decide)) rfl (lv := fun b => [(0, .ref (b 0))]) (fun _ => rfl) (fun _ => Nat.le_of_ble_eq_true rfl) (fun G C0 _ hret => k_M_kindOfOrder C0 hd hret   h)
set_option maxRecDepth 100000 in
set_option maxHeartbeats 4000000 in
theorem k_M_readOrder_p133 {G : am_T} {d0 : Nat} (C0 : am_C G cX10_readOrder 3 RX10 LM d0) (hd : 6 ≤ d0) (F : Nat) {q : Int32 × am_SS} (hret : am_retI G cX10_readOrder 3 q.1 q.2) (x1 : Int32) (s1 : Int32) (s2 : Int32) (σ : am_SS) (h : M_readOrder_p133 F x1 s1 s2 σ = some q) : am_K G 3 133 [(0, .ref (am_b G 0)), (1, .int x1)] [.int s2, .int s1, .ref (am_b G 19)] σ := by
  unfold M_readOrder_p133 at h
  obtain ⟨σ_1, h_σ_1, h⟩ := am_bind h
  refine am_iast C0 (ltM (tgM_7_37 kM0)) (tgM_7_37 kM0) (lnM_7_37 kM0) h_σ_1 dX10_readOrder_133 ?_
  refine am_aload_n C0 dX10_readOrder_134 0 rfl ?_
  refine am_getR C0 (j := 19) ff_RX10_68 (loM_7_37 kM0).1 (loM_7_37 kM0).2.1 (loM_7_37 kM0).2.2.1 (loM_7_37 kM0).2.2.2 dX10_readOrder_135 ?_
  refine am_iload_n C0 dX10_readOrder_138 1 rfl ?_
  refine am_iconst C0 dX10_readOrder_139 ci_3 ?_
  refine am_iadd C0 dX10_readOrder_140 ?_
  obtain ⟨t_2, h_t_2, h⟩ := am_bind h
  refine am_iald C0 (ltM (tgM_7_37 kM0)) (tgM_7_37 kM0) (lnM_7_37 kM0) h_t_2 dX10_readOrder_141 ?_
  refine am_iconst C0 dX10_readOrder_142 ci_m1 ?_
  refine am_icmp_ne C0 dX10_readOrder_143 (tgt := 150) (by decide) (fun c_3 => ?_) (fun c_3 => ?_)
  · replace h := am_in h c_3
    refine am_aload_n C0 dX10_readOrder_150 0 rfl ?_
    refine am_bipush C0 dX10_readOrder_151 kb_59 ?_
    obtain ⟨q_4, h_q_4, h⟩ := am_bind h
    refine am_callV C0 (m_M_readMark (σ := σ_1) (Nat.le_refl _) F 59  h_q_4) mm_yX10_readMark ln_RX10_275 (As := fun b => [.int 59]) (fun _ => rfl) (fun _ => rfl) (loM_7_0 kM0).1 (loM_7_0 kM0).2.1 rfl (Nat.le_trans (by decide) hd) rfl (Nat.le_of_ble_eq_true rfl) dX10_readOrder_153 ?_
    have e := Option.some.inj h
    subst e
    exact hret _ _ dX10_readOrder_156
  · replace h := am_ip h c_3
    refine am_iconst C0 dX10_readOrder_146 ci_m1 ?_
    refine am_goto C0 dX10_readOrder_147 (tgt := 156) (by decide) ?_
    have e := Option.some.inj h
    subst e
    exact hret _ _ dX10_readOrder_156
set_option maxRecDepth 100000 in
set_option maxHeartbeats 4000000 in
theorem k_M_readOrder_p96 {G : am_T} {d0 : Nat} (C0 : am_C G cX10_readOrder 3 RX10 LM d0) (hd : 6 ≤ d0) (F : Nat) {q : Int32 × am_SS} (hret : am_retI G cX10_readOrder 3 q.1 q.2) (x1 : Int32) (x2 : Int32) (s1 : Int32) (s2 : Int32) (σ : am_SS) (h : M_readOrder_p96 F x1 x2 s1 s2 σ = some q) : am_K G 3 96 [(0, .ref (am_b G 0)), (1, .int x1), (2, .int x2)] [.int s2, .int s1, .ref (am_b G 19)] σ := by
  unfold M_readOrder_p96 at h
  obtain ⟨σ_1, h_σ_1, h⟩ := am_bind h
  refine am_iast C0 (ltM (tgM_7_37 kM0)) (tgM_7_37 kM0) (lnM_7_37 kM0) h_σ_1 dX10_readOrder_96 ?_
  refine am_aload_n C0 dX10_readOrder_97 0 rfl ?_
  refine am_getR C0 (j := 19) ff_RX10_68 (loM_7_37 kM0).1 (loM_7_37 kM0).2.1 (loM_7_37 kM0).2.2.1 (loM_7_37 kM0).2.2.2 dX10_readOrder_98 ?_
  refine am_iload_n C0 dX10_readOrder_101 1 rfl ?_
  refine am_iconst C0 dX10_readOrder_102 ci_2 ?_
  refine am_iadd C0 dX10_readOrder_103 ?_
  obtain ⟨t_2, h_t_2, h⟩ := am_bind h
  refine am_iald C0 (ltM (tgM_7_37 kM0)) (tgM_7_37 kM0) (lnM_7_37 kM0) h_t_2 dX10_readOrder_104 ?_
  refine am_iconst C0 dX10_readOrder_105 ci_m1 ?_
  refine am_icmp_ne C0 dX10_readOrder_106 (tgt := 111) (by decide) (fun c_3 => ?_) (fun c_3 => ?_)
  · replace h := am_in h c_3
    refine am_aload_n C0 dX10_readOrder_111 0 rfl ?_
    refine am_getR C0 (j := 19) ff_RX10_68 (loM_7_37 kM0).1 (loM_7_37 kM0).2.1 (loM_7_37 kM0).2.2.1 (loM_7_37 kM0).2.2.2 dX10_readOrder_112 ?_
    refine am_iload_n C0 dX10_readOrder_115 1 rfl ?_
    refine am_iconst C0 dX10_readOrder_116 ci_3 ?_
    refine am_iadd C0 dX10_readOrder_117 ?_
    refine am_iload_n C0 dX10_readOrder_118 2 rfl ?_
    refine am_if_ne C0 dX10_readOrder_119 (tgt := 132) (by decide) (fun c_4 => ?_) (fun c_4 => ?_)
    · replace h := am_in h c_4
      refine am_iconst C0 dX10_readOrder_132 ci_0 ?_
      exact am_sub [0, 1] rfl (k_M_readOrder_p133 C0 hd F hret x1 (x1 + 3) 0 σ_1  h)
    · replace h := am_ip h c_4
      refine am_aload_n C0 dX10_readOrder_122 0 rfl ?_
      refine am_iconst C0 dX10_readOrder_123 ci_1 ?_
      refine am_bipush C0 dX10_readOrder_124 kb_99 ?_
      obtain ⟨q_5, h_q_5, h⟩ := am_bind h
      refine am_callV C0 (m_M_readNumber (σ := σ_1) (Nat.le_refl _) F 1 99  h_q_5) mm_yX10_readNumber ln_RX10_265 (As := fun b => [.int 1, .int 99]) (fun _ => rfl) (fun _ => rfl) (loM_7_0 kM0).1 (loM_7_0 kM0).2.1 rfl (Nat.le_trans (by decide) hd) rfl (Nat.le_of_ble_eq_true rfl) dX10_readOrder_126 ?_
      refine am_goto C0 dX10_readOrder_129 (tgt := 133) (by decide) ?_
      exact am_sub [0, 1] rfl (k_M_readOrder_p133 C0 hd F hret x1 (x1 + 3) q_5.1 q_5.2  h)
  · replace h := am_ip h c_3
    refine am_iconst C0 dX10_readOrder_109 ci_m1 ?_
    have e := Option.some.inj h
    subst e
    exact hret _ _ dX10_readOrder_110
set_option maxRecDepth 100000 in
set_option maxHeartbeats 4000000 in
theorem k_M_readOrder_p91 {G : am_T} {d0 : Nat} (C0 : am_C G cX10_readOrder 3 RX10 LM d0) (hd : 6 ≤ d0) (F : Nat) {q : Int32 × am_SS} (hret : am_retI G cX10_readOrder 3 q.1 q.2) (x1 : Int32) (x2 : Int32) (s1 : Int32) (s3 : Bool) (s4 : Int32) (σ : am_SS) (h : M_readOrder_p91 F x1 x2 s1 s3 s4 σ = some q) : am_K G 3 91 [(0, .ref (am_b G 0)), (1, .int x1), (2, .int x2)] [.int s4, .int (am_bI s3), .ref (am_b G 0), .int s1, .ref (am_b G 19)] σ := by
  unfold M_readOrder_p91 at h
  refine am_iconst C0 dX10_readOrder_91 ci_1 ?_
  refine am_isub C0 dX10_readOrder_92 ?_
  obtain ⟨q_1, h_q_1, h⟩ := am_bind h
  refine am_callV C0 (m_M_readNumber (σ := σ) (Nat.le_refl _) F (am_bI s3) (s4 - 1)  h_q_1) mm_yX10_readNumber ln_RX10_265 (As := fun b => [.int (am_bI s3), .int (s4 - 1)]) (fun _ => rfl) (fun _ => rfl) (loM_7_0 kM0).1 (loM_7_0 kM0).2.1 rfl (Nat.le_trans (by decide) hd) rfl (Nat.le_of_ble_eq_true rfl) dX10_readOrder_93 ?_
  exact am_sub [0, 1, 2] rfl (k_M_readOrder_p96 C0 hd F hret x1 x2 s1 q_1.1 q_1.2  h)
set_option maxRecDepth 100000 in
set_option maxHeartbeats 4000000 in
theorem k_M_readOrder {G : am_T} {d0 : Nat} (C0 : am_C G cX10_readOrder 3 RX10 LM d0) (hd : 6 ≤ d0) (F : Nat) {q : Int32 × am_SS} (hret : am_retI G cX10_readOrder 3 q.1 q.2) (x1 : Int32) (σ : am_SS) (h : M_readOrder F x1 σ = some q) : am_K G 3 0 [(0, .ref (am_b G 0)), (1, .int x1)] [] σ := by
  unfold M_readOrder at h
  refine am_aload_n C0 dX10_readOrder_0 0 rfl ?_
  refine am_getR C0 (j := 19) ff_RX10_68 (loM_7_37 kM0).1 (loM_7_37 kM0).2.1 (loM_7_37 kM0).2.2.1 (loM_7_37 kM0).2.2.2 dX10_readOrder_1 ?_
  refine am_iload_n C0 dX10_readOrder_4 1 rfl ?_
  refine am_aload_n C0 dX10_readOrder_5 0 rfl ?_
  refine am_bipush C0 dX10_readOrder_6 kb_17 ?_
  refine am_iconst C0 dX10_readOrder_8 ci_0 ?_
  refine am_sipush C0 dX10_readOrder_9 cs_999 ?_
  obtain ⟨q_1, h_q_1, h⟩ := am_bind h
  refine am_callV C0 (m_M_readTold (σ := σ) (Nat.le_refl _) F 17 0 999  h_q_1) mm_yX10_readTold ln_RX10_268 (As := fun b => [.int 17, .int 0, .int 999]) (fun _ => rfl) (fun _ => rfl) (loM_7_0 kM0).1 (loM_7_0 kM0).2.1 rfl (Nat.le_trans (by decide) hd) rfl (Nat.le_of_ble_eq_true rfl) dX10_readOrder_12 ?_
  obtain ⟨σ_2, h_σ_2, h⟩ := am_bind h
  refine am_iast C0 (ltM (tgM_7_37 kM0)) (tgM_7_37 kM0) (lnM_7_37 kM0) h_σ_2 dX10_readOrder_15 ?_
  refine am_aload_n C0 dX10_readOrder_16 0 rfl ?_
  refine am_getR C0 (j := 19) ff_RX10_68 (loM_7_37 kM0).1 (loM_7_37 kM0).2.1 (loM_7_37 kM0).2.2.1 (loM_7_37 kM0).2.2.2 dX10_readOrder_17 ?_
  refine am_iload_n C0 dX10_readOrder_20 1 rfl ?_
  obtain ⟨t_3, h_t_3, h⟩ := am_bind h
  refine am_iald C0 (ltM (tgM_7_37 kM0)) (tgM_7_37 kM0) (lnM_7_37 kM0) h_t_3 dX10_readOrder_21 ?_
  refine am_iconst C0 dX10_readOrder_22 ci_m1 ?_
  refine am_icmp_ne C0 dX10_readOrder_23 (tgt := 28) (by decide) (fun c_4 => ?_) (fun c_4 => ?_)
  · replace h := am_in h c_4
    refine am_aload_n C0 dX10_readOrder_28 0 rfl ?_
    refine am_callV C0 (m_M_kindOfOrder (σ := σ_2) (Nat.le_refl _)   rfl) mm_yX10_kindOfOrder ln_RX10_272 (As := fun b => []) (fun _ => rfl) (fun _ => rfl) (loM_7_0 kM0).1 (loM_7_0 kM0).2.1 rfl (Nat.le_trans (by decide) hd) rfl (Nat.le_of_ble_eq_true rfl) dX10_readOrder_29 ?_
    obtain ⟨x2_6, e_x2_6, h⟩ := am_lt h
    refine am_top e_x2_6 ?_
    refine am_istore_n C0 dX10_readOrder_32 rfl (by decide) rfl (lv' := [(0, .ref (am_b G 0)), (1, .int x1), (2, .int x2_6)]) rfl ?_
    refine am_iload_n C0 dX10_readOrder_33 2 rfl ?_
    refine am_iconst C0 dX10_readOrder_34 ci_m1 ?_
    refine am_icmp_ne C0 dX10_readOrder_35 (tgt := 44) (by decide) (fun c_7 => ?_) (fun c_7 => ?_)
    · replace h := am_in h c_7
      refine am_aload_n C0 dX10_readOrder_44 0 rfl ?_
      obtain ⟨q_8, h_q_8, h⟩ := am_bind h
      refine am_callV C0 (m_M_reads (σ := σ_2) (Nat.le_refl _) F   h_q_8) mm_yX10_reads ln_RX10_222 (As := fun b => []) (fun _ => rfl) (fun _ => rfl) (loM_7_0 kM0).1 (loM_7_0 kM0).2.1 rfl (Nat.le_trans (by decide) hd) rfl (Nat.le_of_ble_eq_true rfl) dX10_readOrder_45 ?_
      refine am_aload_n C0 dX10_readOrder_48 0 rfl ?_
      refine am_getR C0 (j := 19) ff_RX10_68 (loM_7_37 kM0).1 (loM_7_37 kM0).2.1 (loM_7_37 kM0).2.2.1 (loM_7_37 kM0).2.2.2 dX10_readOrder_49 ?_
      refine am_iload_n C0 dX10_readOrder_52 1 rfl ?_
      refine am_iconst C0 dX10_readOrder_53 ci_1 ?_
      refine am_iadd C0 dX10_readOrder_54 ?_
      refine am_iload_n C0 dX10_readOrder_55 2 rfl ?_
      obtain ⟨σ_9, h_σ_9, h⟩ := am_bind h
      refine am_iast C0 (ltM (tgM_7_37 kM0)) (tgM_7_37 kM0) (lnM_7_37 kM0) h_σ_9 dX10_readOrder_56 ?_
      refine am_aload_n C0 dX10_readOrder_57 0 rfl ?_
      refine am_getR C0 (j := 19) ff_RX10_68 (loM_7_37 kM0).1 (loM_7_37 kM0).2.1 (loM_7_37 kM0).2.2.1 (loM_7_37 kM0).2.2.2 dX10_readOrder_58 ?_
      refine am_iload_n C0 dX10_readOrder_61 1 rfl ?_
      refine am_iconst C0 dX10_readOrder_62 ci_2 ?_
      refine am_iadd C0 dX10_readOrder_63 ?_
      refine am_iload_n C0 dX10_readOrder_64 2 rfl ?_
      refine am_iconst C0 dX10_readOrder_65 ci_4 ?_
      refine am_icmp_ne C0 dX10_readOrder_66 (tgt := 73) (by decide) (fun c_10 => ?_) (fun c_10 => ?_)
      · replace h := am_in h c_10
        refine am_aload_n C0 dX10_readOrder_73 0 rfl ?_
        refine am_iconst C0 dX10_readOrder_74 ci_0 ?_
        refine am_iload_n C0 dX10_readOrder_75 2 rfl ?_
        refine am_iconst C0 dX10_readOrder_76 ci_3 ?_
        refine am_icmp_ne C0 dX10_readOrder_77 (tgt := 87) (by decide) (fun c_11 => ?_) (fun c_11 => ?_)
        · replace h := am_in h c_11
          refine am_aload_n C0 dX10_readOrder_87 0 rfl ?_
          refine am_getI C0 ff_RX10_143 (loM_7_6 kM0).1 (loM_7_6 kM0).2.1 (loM_7_6 kM0).2.2.1 (loM_7_6 kM0).2.2.2 dX10_readOrder_88 ?_
          exact am_sub [0, 1, 2] rfl (k_M_readOrder_p91 C0 hd F hret x1 x2_6 (x1 + 2) false (σ_9 0 6) σ_9  h)
        · replace h := am_ip h c_11
          refine am_aload_n C0 dX10_readOrder_80 0 rfl ?_
          refine am_getI C0 ff_RX10_146 (loM_7_7 kM0).1 (loM_7_7 kM0).2.1 (loM_7_7 kM0).2.2.1 (loM_7_7 kM0).2.2.2 dX10_readOrder_81 ?_
          refine am_goto C0 dX10_readOrder_84 (tgt := 91) (by decide) ?_
          exact am_sub [0, 1, 2] rfl (k_M_readOrder_p91 C0 hd F hret x1 x2_6 (x1 + 2) false (σ_9 0 7) σ_9  h)
      · replace h := am_ip h c_10
        refine am_iconst C0 dX10_readOrder_69 ci_0 ?_
        refine am_goto C0 dX10_readOrder_70 (tgt := 96) (by decide) ?_
        exact am_sub [0, 1, 2] rfl (k_M_readOrder_p96 C0 hd F hret x1 x2_6 (x1 + 2) 0 σ_9  h)
    · replace h := am_ip h c_7
      refine am_aload_n C0 dX10_readOrder_38 0 rfl ?_
      refine am_iconst C0 dX10_readOrder_39 ci_1 ?_
      obtain ⟨q_12, h_q_12, h⟩ := am_lt h
      refine am_callV C0 (m_M_errs (σ := σ_2) (Nat.le_refl _) 1  h_q_12) mm_yX10_errs ln_RX10_215 (As := fun b => [.int 1]) (fun _ => rfl) (fun _ => rfl) (loM_7_0 kM0).1 (loM_7_0 kM0).2.1 rfl (Nat.le_trans (by decide) hd) rfl (Nat.le_of_ble_eq_true rfl) dX10_readOrder_40 ?_
      have e := Option.some.inj h
      subst e
      exact hret _ _ dX10_readOrder_43
  · replace h := am_ip h c_4
    refine am_iconst C0 dX10_readOrder_26 ci_m1 ?_
    have e := Option.some.inj h
    subst e
    exact hret _ _ dX10_readOrder_27
set_option maxRecDepth 100000 in
set_option maxHeartbeats 4000000 in
theorem m_M_readOrder {l : Launch} {d : Nat} {σ : am_SS} {q : Int32 × am_SS} (hd : 6 ≤ d) (F : Nat) (x1 : Int32) (h : M_readOrder F x1 σ = some q) : am_Met l yX10_readOrder cX10_readOrder 3 (some .int) d 0 0 LM (fun b => [.ref (b 0), .int x1]) σ (some (.int q.1)) q.2 :=
  am_metI (plainFor_of_name (by decide)) rfl (lv := fun b => [(0, .ref (b 0)), (1, .int x1)]) (fun _ => rfl) (fun _ => Nat.le_of_ble_eq_true rfl) (fun G C0 _ hret => k_M_readOrder C0 hd F hret x1 σ  h)
set_option maxRecDepth 100000 in
set_option maxHeartbeats 4000000 in
theorem k_M_readOrders_l2 {G : am_T} {d0 : Nat} (C0 : am_C G cX10_readOrders 2 RX10 LM d0) (hd : 7 ≤ d0) (F : Nat) {q : Int32 × am_SS} (hret : am_retI G cX10_readOrders 2 q.1 q.2) : ∀ (n : Nat) (x1 : Int32) (σ : am_SS) (h : M_readOrders_l2 F n x1 σ = some q), am_K G 2 2 [(0, .ref (am_b G 0)), (1, .int x1)] [] σ := by
  intro n
  induction n with
  | zero =>
    intro x1 σ h
    rw [M_readOrders_l2] at h
    cases h
  | succ n ih =>
    intro x1 σ h
    rw [M_readOrders_l2] at h
    refine am_aload_n C0 dX10_readOrders_2 0 rfl ?_
    refine am_bipush C0 dX10_readOrders_3 kb_17 ?_
    refine am_callV C0 (m_M_isWord (σ := σ) (Nat.le_refl _) 17  rfl) mm_yX10_isWord ln_RX10_244 (As := fun b => [.int 17]) (fun _ => rfl) (fun _ => rfl) (loM_7_0 kM0).1 (loM_7_0 kM0).2.1 rfl (Nat.le_trans (by decide) hd) rfl (Nat.le_of_ble_eq_true rfl) dX10_readOrders_5 ?_
    refine am_ifB_eq C0 dX10_readOrders_8 (tgt := 46) (by decide) (fun c_2 => ?_) (fun c_2 => ?_)
    · replace h := am_in h c_2
      refine am_aload_n C0 dX10_readOrders_46 0 rfl ?_
      refine am_getI C0 ff_RX10_184 (loM_7_17 kM0).1 (loM_7_17 kM0).2.1 (loM_7_17 kM0).2.2.1 (loM_7_17 kM0).2.2.2 dX10_readOrders_47 ?_
      refine am_if_ne C0 dX10_readOrders_50 (tgt := 57) (by decide) (fun c_3 => ?_) (fun c_3 => ?_)
      · replace h := am_in h c_3
        refine am_aload_n C0 dX10_readOrders_57 0 rfl ?_
        refine am_iconst C0 dX10_readOrders_58 ci_1 ?_
        obtain ⟨q_4, h_q_4, h⟩ := am_lt h
        refine am_callV C0 (m_M_errs (σ := σ) (Nat.le_refl _) 1  h_q_4) mm_yX10_errs ln_RX10_215 (As := fun b => [.int 1]) (fun _ => rfl) (fun _ => rfl) (loM_7_0 kM0).1 (loM_7_0 kM0).2.1 rfl (Nat.le_trans (by decide) hd) rfl (Nat.le_of_ble_eq_true rfl) dX10_readOrders_59 ?_
        have e := Option.some.inj h
        subst e
        exact hret _ _ dX10_readOrders_62
      · replace h := am_ip h c_3
        refine am_iload_n C0 dX10_readOrders_53 1 rfl ?_
        refine am_goto C0 dX10_readOrders_54 (tgt := 62) (by decide) ?_
        have e := Option.some.inj h
        subst e
        exact hret _ _ dX10_readOrders_62
    · replace h := am_ip h c_2
      refine am_iload_n C0 dX10_readOrders_11 1 rfl ?_
      refine am_bipush C0 dX10_readOrders_12 kb_16 ?_
      refine am_icmp_ne C0 dX10_readOrders_14 (tgt := 23) (by decide) (fun c_5 => ?_) (fun c_5 => ?_)
      · replace h := am_in h c_5
        refine am_aload_n C0 dX10_readOrders_23 0 rfl ?_
        refine am_bipush C0 dX10_readOrders_24 kb_64 ?_
        refine am_iconst C0 dX10_readOrders_26 ci_4 ?_
        refine am_iload_n C0 dX10_readOrders_27 1 rfl ?_
        refine am_imul C0 dX10_readOrders_28 ?_
        refine am_iadd C0 dX10_readOrders_29 ?_
        obtain ⟨q_6, h_q_6, h⟩ := am_bind h
        refine am_callV C0 (m_M_readOrder (σ := σ) (Nat.le_refl _) F (64 + (4 * x1))  h_q_6) mm_yX10_readOrder ln_RX10_278 (As := fun b => [.int (64 + (4 * x1))]) (fun _ => rfl) (fun _ => rfl) (loM_7_0 kM0).1 (loM_7_0 kM0).2.1 rfl (Nat.le_trans (by decide) hd) rfl (Nat.le_of_ble_eq_true rfl) dX10_readOrders_30 ?_
        refine am_iconst C0 dX10_readOrders_33 ci_m1 ?_
        refine am_icmp_ne C0 dX10_readOrders_34 (tgt := 39) (by decide) (fun c_7 => ?_) (fun c_7 => ?_)
        · replace h := am_in h c_7
          refine am_iload_n C0 dX10_readOrders_39 1 rfl ?_
          refine am_iconst C0 dX10_readOrders_40 ci_1 ?_
          refine am_iadd C0 dX10_readOrders_41 ?_
          obtain ⟨x1_8, e_x1_8, h⟩ := am_lt h
          refine am_top e_x1_8 ?_
          refine am_istore_n C0 dX10_readOrders_42 rfl (by decide) rfl (lv' := [(0, .ref (am_b G 0)), (1, .int x1_8)]) rfl ?_
          refine am_goto C0 dX10_readOrders_43 (tgt := 2) (by decide) ?_
          exact am_sub [0, 1] rfl (ih x1_8 q_6.2  h)
        · replace h := am_ip h c_7
          refine am_iconst C0 dX10_readOrders_37 ci_m1 ?_
          have e := Option.some.inj h
          subst e
          exact hret _ _ dX10_readOrders_38
      · replace h := am_ip h c_5
        refine am_aload_n C0 dX10_readOrders_17 0 rfl ?_
        refine am_iconst C0 dX10_readOrders_18 ci_3 ?_
        obtain ⟨q_9, h_q_9, h⟩ := am_lt h
        refine am_callV C0 (m_M_errs (σ := σ) (Nat.le_refl _) 3  h_q_9) mm_yX10_errs ln_RX10_215 (As := fun b => [.int 3]) (fun _ => rfl) (fun _ => rfl) (loM_7_0 kM0).1 (loM_7_0 kM0).2.1 rfl (Nat.le_trans (by decide) hd) rfl (Nat.le_of_ble_eq_true rfl) dX10_readOrders_19 ?_
        have e := Option.some.inj h
        subst e
        exact hret _ _ dX10_readOrders_22
set_option maxRecDepth 100000 in
set_option maxHeartbeats 4000000 in
theorem k_M_readOrders {G : am_T} {d0 : Nat} (C0 : am_C G cX10_readOrders 2 RX10 LM d0) (hd : 7 ≤ d0) (F : Nat) {q : Int32 × am_SS} (hret : am_retI G cX10_readOrders 2 q.1 q.2) (σ : am_SS) (h : M_readOrders F  σ = some q) : am_K G 2 0 [(0, .ref (am_b G 0))] [] σ := by
  unfold M_readOrders at h
  refine am_iconst C0 dX10_readOrders_0 ci_0 ?_
  refine am_istore_n C0 dX10_readOrders_1 rfl (by decide) rfl (lv' := [(0, .ref (am_b G 0)), (1, .int 0)]) rfl ?_
  exact am_sub [0, 1] rfl (k_M_readOrders_l2 C0 hd F hret F 0 σ  h)
set_option maxRecDepth 100000 in
set_option maxHeartbeats 4000000 in
theorem m_M_readOrders {l : Launch} {d : Nat} {σ : am_SS} {q : Int32 × am_SS} (hd : 7 ≤ d) (F : Nat) (h : M_readOrders F  σ = some q) : am_Met l yX10_readOrders cX10_readOrders 2 (some .int) d 0 0 LM (fun b => [.ref (b 0)]) σ (some (.int q.1)) q.2 :=
  am_metI (plainFor_of_name (by decide)) rfl (lv := fun b => [(0, .ref (b 0))]) (fun _ => rfl) (fun _ => Nat.le_of_ble_eq_true rfl) (fun G C0 _ hret => k_M_readOrders C0 hd F hret  σ  h)
set_option maxRecDepth 100000 in
set_option maxHeartbeats 4000000 in
theorem k_M_readService_p83 {G : am_T} {d0 : Nat} (C0 : am_C G cX10_readService 3 RX10 LM d0) (hd : 6 ≤ d0) (F : Nat) {q : Int32 × am_SS} (hret : am_retI G cX10_readService 3 q.1 q.2) (x1 : Int32) (σ : am_SS) (h : M_readService_p83 F x1 σ = some q) : am_K G 3 83 [(0, .ref (am_b G 0)), (1, .int x1)] [] σ := by
  unfold M_readService_p83 at h
  refine am_aload_n C0 dX10_readService_83 0 rfl ?_
  refine am_iconst C0 dX10_readService_84 ci_0 ?_
  refine am_aload_n C0 dX10_readService_85 0 rfl ?_
  refine am_getI C0 ff_RX10_146 (loM_7_7 kM0).1 (loM_7_7 kM0).2.1 (loM_7_7 kM0).2.2.1 (loM_7_7 kM0).2.2.2 dX10_readService_86 ?_
  refine am_iconst C0 dX10_readService_89 ci_1 ?_
  refine am_isub C0 dX10_readService_90 ?_
  obtain ⟨q_1, h_q_1, h⟩ := am_bind h
  refine am_callV C0 (m_M_readNumber (σ := σ) (Nat.le_refl _) F 0 ((σ 0 7) - 1)  h_q_1) mm_yX10_readNumber ln_RX10_265 (As := fun b => [.int 0, .int ((σ 0 7) - 1)]) (fun _ => rfl) (fun _ => rfl) (loM_7_0 kM0).1 (loM_7_0 kM0).2.1 rfl (Nat.le_trans (by decide) hd) rfl (Nat.le_of_ble_eq_true rfl) dX10_readService_91 ?_
  refine am_istore_n C0 dX10_readService_94 rfl (by decide) rfl (lv' := [(0, .ref (am_b G 0)), (1, .int x1), (2, .int q_1.1)]) rfl ?_
  refine am_iload_n C0 dX10_readService_95 2 rfl ?_
  refine am_iconst C0 dX10_readService_96 ci_m1 ?_
  refine am_icmp_ne C0 dX10_readService_97 (tgt := 102) (by decide) (fun c_2 => ?_) (fun c_2 => ?_)
  · replace h := am_in h c_2
    refine am_aload_n C0 dX10_readService_102 0 rfl ?_
    refine am_getR C0 (j := 20) ff_RX10_71 (loM_7_39 kM0).1 (loM_7_39 kM0).2.1 (loM_7_39 kM0).2.2.1 (loM_7_39 kM0).2.2.2 dX10_readService_103 ?_
    refine am_bipush C0 dX10_readService_106 kb_12 ?_
    refine am_iload_n C0 dX10_readService_108 1 rfl ?_
    refine am_iadd C0 dX10_readService_109 ?_
    refine am_iload_n C0 dX10_readService_110 2 rfl ?_
    refine am_iconst C0 dX10_readService_111 ci_1 ?_
    refine am_iadd C0 dX10_readService_112 ?_
    obtain ⟨σ_3, h_σ_3, h⟩ := am_bind h
    refine am_iast C0 (ltM (tgM_7_39 kM0)) (tgM_7_39 kM0) (lnM_7_39 kM0) h_σ_3 dX10_readService_113 ?_
    refine am_aload_n C0 dX10_readService_114 0 rfl ?_
    refine am_bipush C0 dX10_readService_115 kb_59 ?_
    obtain ⟨q_4, h_q_4, h⟩ := am_bind h
    refine am_callV C0 (m_M_readMark (σ := σ_3) (Nat.le_refl _) F 59  h_q_4) mm_yX10_readMark ln_RX10_275 (As := fun b => [.int 59]) (fun _ => rfl) (fun _ => rfl) (loM_7_0 kM0).1 (loM_7_0 kM0).2.1 rfl (Nat.le_trans (by decide) hd) rfl (Nat.le_of_ble_eq_true rfl) dX10_readService_117 ?_
    have e := Option.some.inj h
    subst e
    exact hret _ _ dX10_readService_120
  · replace h := am_ip h c_2
    refine am_iconst C0 dX10_readService_100 ci_m1 ?_
    have e := Option.some.inj h
    subst e
    exact hret _ _ dX10_readService_101
set_option maxRecDepth 100000 in
set_option maxHeartbeats 4000000 in
theorem k_M_readService {G : am_T} {d0 : Nat} (C0 : am_C G cX10_readService 3 RX10 LM d0) (hd : 6 ≤ d0) (F : Nat) {q : Int32 × am_SS} (hret : am_retI G cX10_readService 3 q.1 q.2) (σ : am_SS) (h : M_readService F  σ = some q) : am_K G 3 0 [(0, .ref (am_b G 0))] [] σ := by
  unfold M_readService at h
  refine am_aload_n C0 dX10_readService_0 0 rfl ?_
  refine am_bipush C0 dX10_readService_1 kb_22 ?_
  refine am_iconst C0 dX10_readService_3 ci_0 ?_
  refine am_aload_n C0 dX10_readService_4 0 rfl ?_
  refine am_getI C0 ff_RX10_143 (loM_7_6 kM0).1 (loM_7_6 kM0).2.1 (loM_7_6 kM0).2.2.1 (loM_7_6 kM0).2.2.2 dX10_readService_5 ?_
  refine am_iconst C0 dX10_readService_8 ci_1 ?_
  refine am_isub C0 dX10_readService_9 ?_
  obtain ⟨q_1, h_q_1, h⟩ := am_bind h
  refine am_callV C0 (m_M_readTold (σ := σ) (Nat.le_refl _) F 22 0 ((σ 0 6) - 1)  h_q_1) mm_yX10_readTold ln_RX10_268 (As := fun b => [.int 22, .int 0, .int ((σ 0 6) - 1)]) (fun _ => rfl) (fun _ => rfl) (loM_7_0 kM0).1 (loM_7_0 kM0).2.1 rfl (Nat.le_trans (by decide) hd) rfl (Nat.le_of_ble_eq_true rfl) dX10_readService_10 ?_
  refine am_istore_n C0 dX10_readService_13 rfl (by decide) rfl (lv' := [(0, .ref (am_b G 0)), (1, .int q_1.1)]) rfl ?_
  refine am_iload_n C0 dX10_readService_14 1 rfl ?_
  refine am_iconst C0 dX10_readService_15 ci_m1 ?_
  refine am_icmp_ne C0 dX10_readService_16 (tgt := 21) (by decide) (fun c_2 => ?_) (fun c_2 => ?_)
  · replace h := am_in h c_2
    refine am_aload_n C0 dX10_readService_21 0 rfl ?_
    refine am_bipush C0 dX10_readService_22 kb_23 ?_
    refine am_callV C0 (m_M_isWord (σ := q_1.2) (Nat.le_refl _) 23  rfl) mm_yX10_isWord ln_RX10_244 (As := fun b => [.int 23]) (fun _ => rfl) (fun _ => rfl) (loM_7_0 kM0).1 (loM_7_0 kM0).2.1 rfl (Nat.le_trans (by decide) hd) rfl (Nat.le_of_ble_eq_true rfl) dX10_readService_24 ?_
    refine am_ifB_ne C0 dX10_readService_27 (tgt := 36) (by decide) (fun c_4 => ?_) (fun c_4 => ?_)
    · replace h := am_ip h c_4
      refine am_aload_n C0 dX10_readService_36 0 rfl ?_
      obtain ⟨q_5, h_q_5, h⟩ := am_bind h
      refine am_callV C0 (m_M_reads (σ := q_1.2) (Nat.le_refl _) F   h_q_5) mm_yX10_reads ln_RX10_222 (As := fun b => []) (fun _ => rfl) (fun _ => rfl) (loM_7_0 kM0).1 (loM_7_0 kM0).2.1 rfl (Nat.le_trans (by decide) hd) rfl (Nat.le_of_ble_eq_true rfl) dX10_readService_37 ?_
      refine am_aload_n C0 dX10_readService_40 0 rfl ?_
      refine am_getI C0 ff_RX10_184 (loM_7_17 kM0).1 (loM_7_17 kM0).2.1 (loM_7_17 kM0).2.2.1 (loM_7_17 kM0).2.2.2 dX10_readService_41 ?_
      refine am_iconst C0 dX10_readService_44 ci_3 ?_
      refine am_icmp_ne C0 dX10_readService_45 (tgt := 83) (by decide) (fun c_6 => ?_) (fun c_6 => ?_)
      · replace h := am_in h c_6
        exact am_sub [0, 1] rfl (k_M_readService_p83 C0 hd F hret q_1.1 q_5  h)
      · replace h := am_ip h c_6
        refine am_aload_n C0 dX10_readService_48 0 rfl ?_
        refine am_getI C0 ff_RX10_187 (loM_7_18 kM0).1 (loM_7_18 kM0).2.1 (loM_7_18 kM0).2.2.1 (loM_7_18 kM0).2.2.2 dX10_readService_49 ?_
        refine am_aload_n C0 dX10_readService_52 0 rfl ?_
        refine am_getI C0 ff_RX10_146 (loM_7_7 kM0).1 (loM_7_7 kM0).2.1 (loM_7_7 kM0).2.2.1 (loM_7_7 kM0).2.2.2 dX10_readService_53 ?_
        refine am_icmp_ge C0 dX10_readService_56 (tgt := 83) (by decide) (fun c_7 => ?_) (fun c_7 => ?_)
        · replace h := am_in h c_7
          exact am_sub [0, 1] rfl (k_M_readService_p83 C0 hd F hret q_1.1 q_5  h)
        · replace h := am_ip h c_7
          refine am_aload_n C0 dX10_readService_59 0 rfl ?_
          refine am_getR C0 (j := 6) ff_RX10_25 (loM_7_10 kM0).1 (loM_7_10 kM0).2.1 (loM_7_10 kM0).2.2.1 (loM_7_10 kM0).2.2.2 dX10_readService_60 ?_
          refine am_aload_n C0 dX10_readService_63 0 rfl ?_
          refine am_getI C0 ff_RX10_187 (loM_7_18 kM0).1 (loM_7_18 kM0).2.1 (loM_7_18 kM0).2.2.1 (loM_7_18 kM0).2.2.2 dX10_readService_64 ?_
          obtain ⟨t_8, h_t_8, h⟩ := am_bind h
          refine am_iald C0 (ltM (tgM_7_10 kM0)) (tgM_7_10 kM0) (lnM_7_10 kM0) h_t_8 dX10_readService_67 ?_
          refine am_aload_n C0 dX10_readService_68 0 rfl ?_
          refine am_getR C0 (j := 4) ff_RX10_19 (loM_7_8 kM0).1 (loM_7_8 kM0).2.1 (loM_7_8 kM0).2.2.1 (loM_7_8 kM0).2.2.2 dX10_readService_69 ?_
          refine am_iload_n C0 dX10_readService_72 1 rfl ?_
          obtain ⟨t_9, h_t_9, h⟩ := am_bind h
          refine am_iald C0 (ltM (tgM_7_8 kM0)) (tgM_7_8 kM0) (lnM_7_8 kM0) h_t_9 dX10_readService_73 ?_
          refine am_icmp_ne C0 dX10_readService_74 (tgt := 83) (by decide) (fun c_10 => ?_) (fun c_10 => ?_)
          · replace h := am_in h c_10
            exact am_sub [0, 1] rfl (k_M_readService_p83 C0 hd F hret q_1.1 q_5  h)
          · replace h := am_ip h c_10
            refine am_aload_n C0 dX10_readService_77 0 rfl ?_
            refine am_iconst C0 dX10_readService_78 ci_2 ?_
            obtain ⟨q_11, h_q_11, h⟩ := am_lt h
            refine am_callV C0 (m_M_errs (σ := q_5) (Nat.le_refl _) 2  h_q_11) mm_yX10_errs ln_RX10_215 (As := fun b => [.int 2]) (fun _ => rfl) (fun _ => rfl) (loM_7_0 kM0).1 (loM_7_0 kM0).2.1 rfl (Nat.le_trans (by decide) hd) rfl (Nat.le_of_ble_eq_true rfl) dX10_readService_79 ?_
            have e := Option.some.inj h
            subst e
            exact hret _ _ dX10_readService_82
    · replace h := am_in h c_4
      refine am_aload_n C0 dX10_readService_30 0 rfl ?_
      refine am_iconst C0 dX10_readService_31 ci_1 ?_
      obtain ⟨q_12, h_q_12, h⟩ := am_lt h
      refine am_callV C0 (m_M_errs (σ := q_1.2) (Nat.le_refl _) 1  h_q_12) mm_yX10_errs ln_RX10_215 (As := fun b => [.int 1]) (fun _ => rfl) (fun _ => rfl) (loM_7_0 kM0).1 (loM_7_0 kM0).2.1 rfl (Nat.le_trans (by decide) hd) rfl (Nat.le_of_ble_eq_true rfl) dX10_readService_32 ?_
      have e := Option.some.inj h
      subst e
      exact hret _ _ dX10_readService_35
  · replace h := am_ip h c_2
    refine am_iconst C0 dX10_readService_19 ci_m1 ?_
    have e := Option.some.inj h
    subst e
    exact hret _ _ dX10_readService_20
set_option maxRecDepth 100000 in
set_option maxHeartbeats 4000000 in
theorem m_M_readService {l : Launch} {d : Nat} {σ : am_SS} {q : Int32 × am_SS} (hd : 6 ≤ d) (F : Nat) (h : M_readService F  σ = some q) : am_Met l yX10_readService cX10_readService 3 (some .int) d 0 0 LM (fun b => [.ref (b 0)]) σ (some (.int q.1)) q.2 :=
  am_metI (plainFor_of_name (by decide)) rfl (lv := fun b => [(0, .ref (b 0))]) (fun _ => rfl) (fun _ => Nat.le_of_ble_eq_true rfl) (fun G C0 _ hret => k_M_readService C0 hd F hret  σ  h)
set_option maxRecDepth 100000 in
set_option maxHeartbeats 4000000 in
theorem k_M_readNeed_p91 {G : am_T} {d0 : Nat} (C0 : am_C G cX10_readNeed 3 RX10 LM d0) (hd : 6 ≤ d0) (F : Nat) {q : Int32 × am_SS} (hret : am_retI G cX10_readNeed 3 q.1 q.2) (x1 : Int32) (σ : am_SS) (h : M_readNeed_p91 F x1 σ = some q) : am_K G 3 91 [(0, .ref (am_b G 0)), (1, .int x1)] [] σ := by
  unfold M_readNeed_p91 at h
  refine am_aload_n C0 dX10_readNeed_91 0 rfl ?_
  refine am_iconst C0 dX10_readNeed_92 ci_0 ?_
  refine am_aload_n C0 dX10_readNeed_93 0 rfl ?_
  refine am_getI C0 ff_RX10_143 (loM_7_6 kM0).1 (loM_7_6 kM0).2.1 (loM_7_6 kM0).2.2.1 (loM_7_6 kM0).2.2.2 dX10_readNeed_94 ?_
  refine am_iconst C0 dX10_readNeed_97 ci_1 ?_
  refine am_isub C0 dX10_readNeed_98 ?_
  obtain ⟨q_1, h_q_1, h⟩ := am_bind h
  refine am_callV C0 (m_M_readNumber (σ := σ) (Nat.le_refl _) F 0 ((σ 0 6) - 1)  h_q_1) mm_yX10_readNumber ln_RX10_265 (As := fun b => [.int 0, .int ((σ 0 6) - 1)]) (fun _ => rfl) (fun _ => rfl) (loM_7_0 kM0).1 (loM_7_0 kM0).2.1 rfl (Nat.le_trans (by decide) hd) rfl (Nat.le_of_ble_eq_true rfl) dX10_readNeed_99 ?_
  refine am_istore_n C0 dX10_readNeed_102 rfl (by decide) rfl (lv' := [(0, .ref (am_b G 0)), (1, .int x1), (2, .int q_1.1)]) rfl ?_
  refine am_iload_n C0 dX10_readNeed_103 2 rfl ?_
  refine am_iconst C0 dX10_readNeed_104 ci_m1 ?_
  refine am_icmp_ne C0 dX10_readNeed_105 (tgt := 110) (by decide) (fun c_2 => ?_) (fun c_2 => ?_)
  · replace h := am_in h c_2
    refine am_aload_n C0 dX10_readNeed_110 0 rfl ?_
    refine am_getR C0 (j := 21) ff_RX10_74 (loM_7_41 kM0).1 (loM_7_41 kM0).2.1 (loM_7_41 kM0).2.2.1 (loM_7_41 kM0).2.2.2 dX10_readNeed_111 ?_
    refine am_bipush C0 dX10_readNeed_114 kb_12 ?_
    refine am_iload_n C0 dX10_readNeed_116 1 rfl ?_
    refine am_iadd C0 dX10_readNeed_117 ?_
    refine am_aload_n C0 dX10_readNeed_118 0 rfl ?_
    refine am_getR C0 (j := 21) ff_RX10_74 (loM_7_41 kM0).1 (loM_7_41 kM0).2.1 (loM_7_41 kM0).2.2.1 (loM_7_41 kM0).2.2.2 dX10_readNeed_119 ?_
    refine am_bipush C0 dX10_readNeed_122 kb_12 ?_
    refine am_iload_n C0 dX10_readNeed_124 1 rfl ?_
    refine am_iadd C0 dX10_readNeed_125 ?_
    obtain ⟨t_3, h_t_3, h⟩ := am_bind h
    refine am_iald C0 (ltM (tgM_7_41 kM0)) (tgM_7_41 kM0) (lnM_7_41 kM0) h_t_3 dX10_readNeed_126 ?_
    refine am_iconst C0 dX10_readNeed_127 ci_1 ?_
    refine am_iload_n C0 dX10_readNeed_128 2 rfl ?_
    refine am_ishl C0 dX10_readNeed_129 ?_
    refine am_ior C0 dX10_readNeed_130 ?_
    obtain ⟨σ_4, h_σ_4, h⟩ := am_bind h
    refine am_iast C0 (ltM (tgM_7_41 kM0)) (tgM_7_41 kM0) (lnM_7_41 kM0) h_σ_4 dX10_readNeed_131 ?_
    refine am_aload_n C0 dX10_readNeed_132 0 rfl ?_
    refine am_bipush C0 dX10_readNeed_133 kb_59 ?_
    obtain ⟨q_5, h_q_5, h⟩ := am_bind h
    refine am_callV C0 (m_M_readMark (σ := σ_4) (Nat.le_refl _) F 59  h_q_5) mm_yX10_readMark ln_RX10_275 (As := fun b => [.int 59]) (fun _ => rfl) (fun _ => rfl) (loM_7_0 kM0).1 (loM_7_0 kM0).2.1 rfl (Nat.le_trans (by decide) hd) rfl (Nat.le_of_ble_eq_true rfl) dX10_readNeed_135 ?_
    have e := Option.some.inj h
    subst e
    exact hret _ _ dX10_readNeed_138
  · replace h := am_ip h c_2
    refine am_iconst C0 dX10_readNeed_108 ci_m1 ?_
    have e := Option.some.inj h
    subst e
    exact hret _ _ dX10_readNeed_109
set_option maxRecDepth 100000 in
set_option maxHeartbeats 4000000 in
theorem k_M_readNeed_p85 {G : am_T} {d0 : Nat} (C0 : am_C G cX10_readNeed 3 RX10 LM d0) (hd : 6 ≤ d0) (F : Nat) {q : Int32 × am_SS} (hret : am_retI G cX10_readNeed 3 q.1 q.2) (σ : am_SS) (h : M_readNeed_p85 F  σ = some q) : am_K G 3 85 [(0, .ref (am_b G 0))] [] σ := by
  unfold M_readNeed_p85 at h
  refine am_aload_n C0 dX10_readNeed_85 0 rfl ?_
  refine am_iconst C0 dX10_readNeed_86 ci_2 ?_
  obtain ⟨q_1, h_q_1, h⟩ := am_lt h
  refine am_callV C0 (m_M_errs (σ := σ) (Nat.le_refl _) 2  h_q_1) mm_yX10_errs ln_RX10_215 (As := fun b => [.int 2]) (fun _ => rfl) (fun _ => rfl) (loM_7_0 kM0).1 (loM_7_0 kM0).2.1 rfl (Nat.le_trans (by decide) hd) rfl (Nat.le_of_ble_eq_true rfl) dX10_readNeed_87 ?_
  have e := Option.some.inj h
  subst e
  exact hret _ _ dX10_readNeed_90
set_option maxRecDepth 100000 in
set_option maxHeartbeats 4000000 in
theorem k_M_readNeed {G : am_T} {d0 : Nat} (C0 : am_C G cX10_readNeed 3 RX10 LM d0) (hd : 6 ≤ d0) (F : Nat) {q : Int32 × am_SS} (hret : am_retI G cX10_readNeed 3 q.1 q.2) (σ : am_SS) (h : M_readNeed F  σ = some q) : am_K G 3 0 [(0, .ref (am_b G 0))] [] σ := by
  unfold M_readNeed at h
  refine am_aload_n C0 dX10_readNeed_0 0 rfl ?_
  refine am_bipush C0 dX10_readNeed_1 kb_22 ?_
  refine am_iconst C0 dX10_readNeed_3 ci_0 ?_
  refine am_aload_n C0 dX10_readNeed_4 0 rfl ?_
  refine am_getI C0 ff_RX10_143 (loM_7_6 kM0).1 (loM_7_6 kM0).2.1 (loM_7_6 kM0).2.2.1 (loM_7_6 kM0).2.2.2 dX10_readNeed_5 ?_
  refine am_iconst C0 dX10_readNeed_8 ci_1 ?_
  refine am_isub C0 dX10_readNeed_9 ?_
  obtain ⟨q_1, h_q_1, h⟩ := am_bind h
  refine am_callV C0 (m_M_readTold (σ := σ) (Nat.le_refl _) F 22 0 ((σ 0 6) - 1)  h_q_1) mm_yX10_readTold ln_RX10_268 (As := fun b => [.int 22, .int 0, .int ((σ 0 6) - 1)]) (fun _ => rfl) (fun _ => rfl) (loM_7_0 kM0).1 (loM_7_0 kM0).2.1 rfl (Nat.le_trans (by decide) hd) rfl (Nat.le_of_ble_eq_true rfl) dX10_readNeed_10 ?_
  refine am_istore_n C0 dX10_readNeed_13 rfl (by decide) rfl (lv' := [(0, .ref (am_b G 0)), (1, .int q_1.1)]) rfl ?_
  refine am_iload_n C0 dX10_readNeed_14 1 rfl ?_
  refine am_iconst C0 dX10_readNeed_15 ci_m1 ?_
  refine am_icmp_ne C0 dX10_readNeed_16 (tgt := 21) (by decide) (fun c_2 => ?_) (fun c_2 => ?_)
  · replace h := am_in h c_2
    refine am_aload_n C0 dX10_readNeed_21 0 rfl ?_
    refine am_bipush C0 dX10_readNeed_22 kb_24 ?_
    refine am_callV C0 (m_M_isWord (σ := q_1.2) (Nat.le_refl _) 24  rfl) mm_yX10_isWord ln_RX10_244 (As := fun b => [.int 24]) (fun _ => rfl) (fun _ => rfl) (loM_7_0 kM0).1 (loM_7_0 kM0).2.1 rfl (Nat.le_trans (by decide) hd) rfl (Nat.le_of_ble_eq_true rfl) dX10_readNeed_24 ?_
    refine am_ifB_ne C0 dX10_readNeed_27 (tgt := 36) (by decide) (fun c_4 => ?_) (fun c_4 => ?_)
    · replace h := am_ip h c_4
      refine am_aload_n C0 dX10_readNeed_36 0 rfl ?_
      obtain ⟨q_5, h_q_5, h⟩ := am_bind h
      refine am_callV C0 (m_M_reads (σ := q_1.2) (Nat.le_refl _) F   h_q_5) mm_yX10_reads ln_RX10_222 (As := fun b => []) (fun _ => rfl) (fun _ => rfl) (loM_7_0 kM0).1 (loM_7_0 kM0).2.1 rfl (Nat.le_trans (by decide) hd) rfl (Nat.le_of_ble_eq_true rfl) dX10_readNeed_37 ?_
      refine am_aload_n C0 dX10_readNeed_40 0 rfl ?_
      refine am_getI C0 ff_RX10_184 (loM_7_17 kM0).1 (loM_7_17 kM0).2.1 (loM_7_17 kM0).2.2.1 (loM_7_17 kM0).2.2.2 dX10_readNeed_41 ?_
      refine am_iconst C0 dX10_readNeed_44 ci_3 ?_
      refine am_icmp_ne C0 dX10_readNeed_45 (tgt := 91) (by decide) (fun c_6 => ?_) (fun c_6 => ?_)
      · replace h := am_in h c_6
        exact am_sub [0, 1] rfl (k_M_readNeed_p91 C0 hd F hret q_1.1 q_5  h)
      · replace h := am_ip h c_6
        refine am_aload_n C0 dX10_readNeed_48 0 rfl ?_
        refine am_getI C0 ff_RX10_187 (loM_7_18 kM0).1 (loM_7_18 kM0).2.1 (loM_7_18 kM0).2.2.1 (loM_7_18 kM0).2.2.2 dX10_readNeed_49 ?_
        refine am_aload_n C0 dX10_readNeed_52 0 rfl ?_
        refine am_getI C0 ff_RX10_143 (loM_7_6 kM0).1 (loM_7_6 kM0).2.1 (loM_7_6 kM0).2.2.1 (loM_7_6 kM0).2.2.2 dX10_readNeed_53 ?_
        refine am_icmp_ge C0 dX10_readNeed_56 (tgt := 91) (by decide) (fun c_7 => ?_) (fun c_7 => ?_)
        · replace h := am_in h c_7
          exact am_sub [0, 1] rfl (k_M_readNeed_p91 C0 hd F hret q_1.1 q_5  h)
        · replace h := am_ip h c_7
          refine am_aload_n C0 dX10_readNeed_59 0 rfl ?_
          refine am_getI C0 ff_RX10_187 (loM_7_18 kM0).1 (loM_7_18 kM0).2.1 (loM_7_18 kM0).2.2.1 (loM_7_18 kM0).2.2.2 dX10_readNeed_60 ?_
          refine am_iload_n C0 dX10_readNeed_63 1 rfl ?_
          refine am_icmp_eq C0 dX10_readNeed_64 (tgt := 85) (by decide) (fun c_8 => ?_) (fun c_8 => ?_)
          · replace h := am_ip h c_8
            exact am_sub [0] rfl (k_M_readNeed_p85 C0 hd F hret  q_5  h)
          · replace h := am_in h c_8
            refine am_aload_n C0 dX10_readNeed_67 0 rfl ?_
            refine am_getR C0 (j := 4) ff_RX10_19 (loM_7_8 kM0).1 (loM_7_8 kM0).2.1 (loM_7_8 kM0).2.2.1 (loM_7_8 kM0).2.2.2 dX10_readNeed_68 ?_
            refine am_aload_n C0 dX10_readNeed_71 0 rfl ?_
            refine am_getI C0 ff_RX10_187 (loM_7_18 kM0).1 (loM_7_18 kM0).2.1 (loM_7_18 kM0).2.2.1 (loM_7_18 kM0).2.2.2 dX10_readNeed_72 ?_
            obtain ⟨t_9, h_t_9, h⟩ := am_bind h
            refine am_iald C0 (ltM (tgM_7_8 kM0)) (tgM_7_8 kM0) (lnM_7_8 kM0) h_t_9 dX10_readNeed_75 ?_
            refine am_aload_n C0 dX10_readNeed_76 0 rfl ?_
            refine am_getR C0 (j := 4) ff_RX10_19 (loM_7_8 kM0).1 (loM_7_8 kM0).2.1 (loM_7_8 kM0).2.2.1 (loM_7_8 kM0).2.2.2 dX10_readNeed_77 ?_
            refine am_iload_n C0 dX10_readNeed_80 1 rfl ?_
            obtain ⟨t_10, h_t_10, h⟩ := am_bind h
            refine am_iald C0 (ltM (tgM_7_8 kM0)) (tgM_7_8 kM0) (lnM_7_8 kM0) h_t_10 dX10_readNeed_81 ?_
            refine am_icmp_eq C0 dX10_readNeed_82 (tgt := 91) (by decide) (fun c_11 => ?_) (fun c_11 => ?_)
            · replace h := am_ip h c_11
              exact am_sub [0, 1] rfl (k_M_readNeed_p91 C0 hd F hret q_1.1 q_5  h)
            · replace h := am_in h c_11
              exact am_sub [0] rfl (k_M_readNeed_p85 C0 hd F hret  q_5  h)
    · replace h := am_in h c_4
      refine am_aload_n C0 dX10_readNeed_30 0 rfl ?_
      refine am_iconst C0 dX10_readNeed_31 ci_1 ?_
      obtain ⟨q_12, h_q_12, h⟩ := am_lt h
      refine am_callV C0 (m_M_errs (σ := q_1.2) (Nat.le_refl _) 1  h_q_12) mm_yX10_errs ln_RX10_215 (As := fun b => [.int 1]) (fun _ => rfl) (fun _ => rfl) (loM_7_0 kM0).1 (loM_7_0 kM0).2.1 rfl (Nat.le_trans (by decide) hd) rfl (Nat.le_of_ble_eq_true rfl) dX10_readNeed_32 ?_
      have e := Option.some.inj h
      subst e
      exact hret _ _ dX10_readNeed_35
  · replace h := am_ip h c_2
    refine am_iconst C0 dX10_readNeed_19 ci_m1 ?_
    have e := Option.some.inj h
    subst e
    exact hret _ _ dX10_readNeed_20
set_option maxRecDepth 100000 in
set_option maxHeartbeats 4000000 in
theorem m_M_readNeed {l : Launch} {d : Nat} {σ : am_SS} {q : Int32 × am_SS} (hd : 6 ≤ d) (F : Nat) (h : M_readNeed F  σ = some q) : am_Met l yX10_readNeed cX10_readNeed 3 (some .int) d 0 0 LM (fun b => [.ref (b 0)]) σ (some (.int q.1)) q.2 :=
  am_metI (plainFor_of_name (by decide)) rfl (lv := fun b => [(0, .ref (b 0))]) (fun _ => rfl) (fun _ => Nat.le_of_ble_eq_true rfl) (fun G C0 _ hret => k_M_readNeed C0 hd F hret  σ  h)
set_option maxRecDepth 100000 in
set_option maxHeartbeats 4000000 in
theorem k_M_readOfficers_p72 {G : am_T} {d0 : Nat} (C0 : am_C G cX10_readOfficers 4 RX10 LM d0) (hd : 7 ≤ d0) (rec36 : Bool → Int32 → am_SS → Option (Int32 × am_SS)) (F : Nat) {q : Int32 × am_SS} (hret : am_retI G cX10_readOfficers 4 q.1 q.2) (hrec36 : ∀ (x1 : Bool) (x2 : Int32) (σ : am_SS), rec36 x1 x2 σ = some q → am_K G 4 36 [(0, .ref (am_b G 0)), (1, .int (am_bI x1)), (2, .int x2)] [] σ) (x1 : Bool) (x2 : Int32) (s0 : Int32) (σ : am_SS) (h : M_readOfficers_p72 rec36 F x1 x2 s0 σ = some q) : am_K G 4 72 [(0, .ref (am_b G 0)), (1, .int (am_bI x1)), (2, .int x2)] [.int s0] σ := by
  unfold M_readOfficers_p72 at h
  refine am_istore_n C0 dX10_readOfficers_72 rfl (by decide) rfl (lv' := [(0, .ref (am_b G 0)), (1, .int (am_bI x1)), (2, .int x2), (3, .int s0)]) rfl ?_
  refine am_iload_n C0 dX10_readOfficers_73 3 rfl ?_
  refine am_iconst C0 dX10_readOfficers_74 ci_m1 ?_
  refine am_icmp_ne C0 dX10_readOfficers_75 (tgt := 80) (by decide) (fun c_1 => ?_) (fun c_1 => ?_)
  · replace h := am_in h c_1
    refine am_iload_n C0 dX10_readOfficers_80 2 rfl ?_
    refine am_iconst C0 dX10_readOfficers_81 ci_1 ?_
    refine am_iadd C0 dX10_readOfficers_82 ?_
    obtain ⟨x2_2, e_x2_2, h⟩ := am_lt h
    refine am_top e_x2_2 ?_
    refine am_istore_n C0 dX10_readOfficers_83 rfl (by decide) rfl (lv' := [(0, .ref (am_b G 0)), (1, .int (am_bI x1)), (2, .int x2_2), (3, .int s0)]) rfl ?_
    refine am_goto C0 dX10_readOfficers_84 (tgt := 36) (by decide) ?_
    exact am_sub [0, 1, 2] rfl (hrec36 x1 x2_2 σ  h)
  · replace h := am_ip h c_1
    refine am_iconst C0 dX10_readOfficers_78 ci_m1 ?_
    have e := Option.some.inj h
    subst e
    exact hret _ _ dX10_readOfficers_79
set_option maxRecDepth 100000 in
set_option maxHeartbeats 4000000 in
theorem k_M_readOfficers_l36 {G : am_T} {d0 : Nat} (C0 : am_C G cX10_readOfficers 4 RX10 LM d0) (hd : 7 ≤ d0) (F : Nat) {q : Int32 × am_SS} (hret : am_retI G cX10_readOfficers 4 q.1 q.2) : ∀ (n : Nat) (x1 : Bool) (x2 : Int32) (σ : am_SS) (h : M_readOfficers_l36 F n x1 x2 σ = some q), am_K G 4 36 [(0, .ref (am_b G 0)), (1, .int (am_bI x1)), (2, .int x2)] [] σ := by
  intro n
  induction n with
  | zero =>
    intro x1 x2 σ h
    rw [M_readOfficers_l36] at h
    cases h
  | succ n ih =>
    intro x1 x2 σ h
    rw [M_readOfficers_l36] at h
    refine am_aload_n C0 dX10_readOfficers_36 0 rfl ?_
    refine am_bipush C0 dX10_readOfficers_37 kb_22 ?_
    refine am_callV C0 (m_M_isWord (σ := σ) (Nat.le_refl _) 22  rfl) mm_yX10_isWord ln_RX10_244 (As := fun b => [.int 22]) (fun _ => rfl) (fun _ => rfl) (loM_7_0 kM0).1 (loM_7_0 kM0).2.1 rfl (Nat.le_trans (by decide) hd) rfl (Nat.le_of_ble_eq_true rfl) dX10_readOfficers_39 ?_
    refine am_ifB_eq C0 dX10_readOfficers_42 (tgt := 87) (by decide) (fun c_2 => ?_) (fun c_2 => ?_)
    · replace h := am_in h c_2
      refine am_aload_n C0 dX10_readOfficers_87 0 rfl ?_
      refine am_getI C0 ff_RX10_184 (loM_7_17 kM0).1 (loM_7_17 kM0).2.1 (loM_7_17 kM0).2.2.1 (loM_7_17 kM0).2.2.2 dX10_readOfficers_88 ?_
      refine am_if_ne C0 dX10_readOfficers_91 (tgt := 98) (by decide) (fun c_3 => ?_) (fun c_3 => ?_)
      · replace h := am_in h c_3
        refine am_aload_n C0 dX10_readOfficers_98 0 rfl ?_
        refine am_iconst C0 dX10_readOfficers_99 ci_1 ?_
        obtain ⟨q_4, h_q_4, h⟩ := am_lt h
        refine am_callV C0 (m_M_errs (σ := σ) (Nat.le_refl _) 1  h_q_4) mm_yX10_errs ln_RX10_215 (As := fun b => [.int 1]) (fun _ => rfl) (fun _ => rfl) (loM_7_0 kM0).1 (loM_7_0 kM0).2.1 rfl (Nat.le_trans (by decide) hd) rfl (Nat.le_of_ble_eq_true rfl) dX10_readOfficers_100 ?_
        have e := Option.some.inj h
        subst e
        exact hret _ _ dX10_readOfficers_103
      · replace h := am_ip h c_3
        refine am_iload_n C0 dX10_readOfficers_94 2 rfl ?_
        refine am_goto C0 dX10_readOfficers_95 (tgt := 103) (by decide) ?_
        have e := Option.some.inj h
        subst e
        exact hret _ _ dX10_readOfficers_103
    · replace h := am_ip h c_2
      refine am_iload_n C0 dX10_readOfficers_45 2 rfl ?_
      refine am_bipush C0 dX10_readOfficers_46 kb_16 ?_
      refine am_icmp_ne C0 dX10_readOfficers_48 (tgt := 57) (by decide) (fun c_5 => ?_) (fun c_5 => ?_)
      · replace h := am_in h c_5
        refine am_iload_n C0 dX10_readOfficers_57 1 rfl ?_
        refine am_ifB_eq C0 dX10_readOfficers_58 (tgt := 68) (by decide) (fun c_6 => ?_) (fun c_6 => ?_)
        · replace h := am_in h c_6
          refine am_aload_n C0 dX10_readOfficers_68 0 rfl ?_
          obtain ⟨q_7, h_q_7, h⟩ := am_bind h
          refine am_callV C0 (m_M_readNeed (σ := σ) (Nat.le_refl _) F   h_q_7) mm_yX10_readNeed ln_RX10_284 (As := fun b => []) (fun _ => rfl) (fun _ => rfl) (loM_7_0 kM0).1 (loM_7_0 kM0).2.1 rfl (Nat.le_trans (by decide) hd) rfl (Nat.le_of_ble_eq_true rfl) dX10_readOfficers_69 ?_
          exact am_sub [0, 1, 2] rfl (k_M_readOfficers_p72 C0 hd _ F hret (fun z1 z2 zs z => ih z1 z2 zs z) x1 x2 q_7.1 q_7.2  h)
        · replace h := am_ip h c_6
          refine am_aload_n C0 dX10_readOfficers_61 0 rfl ?_
          obtain ⟨q_8, h_q_8, h⟩ := am_bind h
          refine am_callV C0 (m_M_readService (σ := σ) (Nat.le_refl _) F   h_q_8) mm_yX10_readService ln_RX10_281 (As := fun b => []) (fun _ => rfl) (fun _ => rfl) (loM_7_0 kM0).1 (loM_7_0 kM0).2.1 rfl (Nat.le_trans (by decide) hd) rfl (Nat.le_of_ble_eq_true rfl) dX10_readOfficers_62 ?_
          refine am_goto C0 dX10_readOfficers_65 (tgt := 72) (by decide) ?_
          exact am_sub [0, 1, 2] rfl (k_M_readOfficers_p72 C0 hd _ F hret (fun z1 z2 zs z => ih z1 z2 zs z) x1 x2 q_8.1 q_8.2  h)
      · replace h := am_ip h c_5
        refine am_aload_n C0 dX10_readOfficers_51 0 rfl ?_
        refine am_iconst C0 dX10_readOfficers_52 ci_3 ?_
        obtain ⟨q_9, h_q_9, h⟩ := am_lt h
        refine am_callV C0 (m_M_errs (σ := σ) (Nat.le_refl _) 3  h_q_9) mm_yX10_errs ln_RX10_215 (As := fun b => [.int 3]) (fun _ => rfl) (fun _ => rfl) (loM_7_0 kM0).1 (loM_7_0 kM0).2.1 rfl (Nat.le_trans (by decide) hd) rfl (Nat.le_of_ble_eq_true rfl) dX10_readOfficers_53 ?_
        have e := Option.some.inj h
        subst e
        exact hret _ _ dX10_readOfficers_56
set_option maxRecDepth 100000 in
set_option maxHeartbeats 4000000 in
theorem k_M_readOfficers_l2 {G : am_T} {d0 : Nat} (C0 : am_C G cX10_readOfficers 4 RX10 LM d0) (hd : 7 ≤ d0) (F : Nat) {q : Int32 × am_SS} (hret : am_retI G cX10_readOfficers 4 q.1 q.2) : ∀ (n : Nat) (x1 : Bool) (x2 : Int32) (σ : am_SS) (h : M_readOfficers_l2 F n x1 x2 σ = some q), am_K G 4 2 [(0, .ref (am_b G 0)), (1, .int (am_bI x1)), (2, .int x2)] [] σ := by
  intro n
  induction n with
  | zero =>
    intro x1 x2 σ h
    rw [M_readOfficers_l2] at h
    cases h
  | succ n ih =>
    intro x1 x2 σ h
    rw [M_readOfficers_l2] at h
    refine am_iload_n C0 dX10_readOfficers_2 2 rfl ?_
    refine am_bipush C0 dX10_readOfficers_3 kb_12 ?_
    refine am_icmp_ge C0 dX10_readOfficers_5 (tgt := 34) (by decide) (fun c_1 => ?_) (fun c_1 => ?_)
    · replace h := am_in h c_1
      refine am_iconst C0 dX10_readOfficers_34 ci_0 ?_
      refine am_istore_n C0 dX10_readOfficers_35 rfl (by decide) rfl (lv' := [(0, .ref (am_b G 0)), (1, .int (am_bI x1)), (2, .int 0)]) rfl ?_
      exact am_sub [0, 1, 2] rfl (k_M_readOfficers_l36 C0 hd F hret F x1 0 σ  h)
    · replace h := am_ip h c_1
      refine am_aload_n C0 dX10_readOfficers_8 0 rfl ?_
      refine am_getR C0 (j := 20) ff_RX10_71 (loM_7_39 kM0).1 (loM_7_39 kM0).2.1 (loM_7_39 kM0).2.2.1 (loM_7_39 kM0).2.2.2 dX10_readOfficers_9 ?_
      refine am_bipush C0 dX10_readOfficers_12 kb_12 ?_
      refine am_iload_n C0 dX10_readOfficers_14 2 rfl ?_
      refine am_iadd C0 dX10_readOfficers_15 ?_
      refine am_iconst C0 dX10_readOfficers_16 ci_0 ?_
      obtain ⟨σ_2, h_σ_2, h⟩ := am_bind h
      refine am_iast C0 (ltM (tgM_7_39 kM0)) (tgM_7_39 kM0) (lnM_7_39 kM0) h_σ_2 dX10_readOfficers_17 ?_
      refine am_aload_n C0 dX10_readOfficers_18 0 rfl ?_
      refine am_getR C0 (j := 21) ff_RX10_74 (loM_7_41 kM0).1 (loM_7_41 kM0).2.1 (loM_7_41 kM0).2.2.1 (loM_7_41 kM0).2.2.2 dX10_readOfficers_19 ?_
      refine am_bipush C0 dX10_readOfficers_22 kb_12 ?_
      refine am_iload_n C0 dX10_readOfficers_24 2 rfl ?_
      refine am_iadd C0 dX10_readOfficers_25 ?_
      refine am_iconst C0 dX10_readOfficers_26 ci_0 ?_
      obtain ⟨σ_3, h_σ_3, h⟩ := am_bind h
      refine am_iast C0 (ltM (tgM_7_41 kM0)) (tgM_7_41 kM0) (lnM_7_41 kM0) h_σ_3 dX10_readOfficers_27 ?_
      obtain ⟨x2_4, e_x2_4, h⟩ := am_lt h
      refine am_iinc C0 dX10_readOfficers_28 2 rfl (by rw [ci_1]; exact e_x2_4) (by decide) rfl (lv' := [(0, .ref (am_b G 0)), (1, .int (am_bI x1)), (2, .int x2_4)]) rfl ?_
      refine am_goto C0 dX10_readOfficers_31 (tgt := 2) (by decide) ?_
      exact am_sub [0, 1, 2] rfl (ih x1 x2_4 σ_3  h)
set_option maxRecDepth 100000 in
set_option maxHeartbeats 4000000 in
theorem k_M_readOfficers {G : am_T} {d0 : Nat} (C0 : am_C G cX10_readOfficers 4 RX10 LM d0) (hd : 7 ≤ d0) (F : Nat) {q : Int32 × am_SS} (hret : am_retI G cX10_readOfficers 4 q.1 q.2) (x1 : Bool) (σ : am_SS) (h : M_readOfficers F x1 σ = some q) : am_K G 4 0 [(0, .ref (am_b G 0)), (1, .int (am_bI x1))] [] σ := by
  unfold M_readOfficers at h
  refine am_iconst C0 dX10_readOfficers_0 ci_0 ?_
  refine am_istore_n C0 dX10_readOfficers_1 rfl (by decide) rfl (lv' := [(0, .ref (am_b G 0)), (1, .int (am_bI x1)), (2, .int 0)]) rfl ?_
  exact am_sub [0, 1, 2] rfl (k_M_readOfficers_l2 C0 hd F hret F x1 0 σ  h)
set_option maxRecDepth 100000 in
set_option maxHeartbeats 4000000 in
theorem m_M_readOfficers {l : Launch} {d : Nat} {σ : am_SS} {q : Int32 × am_SS} (hd : 7 ≤ d) (F : Nat) (x1 : Bool) (h : M_readOfficers F x1 σ = some q) : am_Met l yX10_readOfficers cX10_readOfficers 4 (some .int) d 0 0 LM (fun b => [.ref (b 0), .int (am_bI x1)]) σ (some (.int q.1)) q.2 :=
  am_metI (plainFor_of_name (by decide)) rfl (lv := fun b => [(0, .ref (b 0)), (1, .int (am_bI x1))]) (fun _ => rfl) (fun _ => Nat.le_of_ble_eq_true rfl) (fun G C0 _ hret => k_M_readOfficers C0 hd F hret x1 σ  h)
set_option maxRecDepth 100000 in
set_option maxHeartbeats 4000000 in
theorem k_M_readsText_p41 {G : am_T} {d0 : Nat} (C0 : am_C G cX10_readsText 2 RX10 LM d0) (hd : 10 ≤ d0) (F : Nat) {q : Int32 × am_SS} (hret : am_retI G cX10_readsText 2 q.1 q.2) (s1 : Bool) (σ : am_SS) (h : M_readsText_p41 F s1 σ = some q) : am_K G 2 41 [] [.int (am_bI s1), .ref (am_b G 0)] σ := by
  unfold M_readsText_p41 at h
  obtain ⟨q_1, h_q_1, h⟩ := am_bind h
  refine am_callV C0 (m_M_readOfficers (σ := σ) (Nat.le_refl _) F s1  h_q_1) mm_yX10_readOfficers ln_RX10_293 (As := fun b => [.int (am_bI s1)]) (fun _ => rfl) (fun _ => rfl) (loM_7_0 kM0).1 (loM_7_0 kM0).2.1 rfl (Nat.le_trans (by decide) hd) rfl (Nat.le_of_ble_eq_true rfl) dX10_readsText_41 ?_
  have e := Option.some.inj h
  subst e
  exact hret _ _ dX10_readsText_44
set_option maxRecDepth 100000 in
set_option maxHeartbeats 4000000 in
theorem k_M_readsText {G : am_T} {d0 : Nat} (C0 : am_C G cX10_readsText 2 RX10 LM d0) (hd : 10 ≤ d0) (F : Nat) {q : Int32 × am_SS} (hret : am_retI G cX10_readsText 2 q.1 q.2) (x1 : Int32) (σ : am_SS) (h : M_readsText F x1 σ = some q) : am_K G 2 0 [(0, .ref (am_b G 0)), (1, .int x1)] [] σ := by
  unfold M_readsText at h
  refine am_aload_n C0 dX10_readsText_0 0 rfl ?_
  refine am_iconst C0 dX10_readsText_1 ci_0 ?_
  obtain ⟨σ_1, e_σ_1, h⟩ := am_lt h
  refine am_putI C0 e_σ_1 fp_RX10_262 (loM_7_27 kM0).1 (loM_7_27 kM0).2.1 (loM_7_27 kM0).2.2.1 (loM_7_27 kM0).2.2.2 rfl rfl dX10_readsText_2 ?_
  refine am_aload_n C0 dX10_readsText_5 0 rfl ?_
  obtain ⟨q_2, h_q_2, h⟩ := am_bind h
  refine am_callV C0 (m_M_reads (σ := σ_1) (Nat.le_refl _) F   h_q_2) mm_yX10_reads ln_RX10_222 (As := fun b => []) (fun _ => rfl) (fun _ => rfl) (loM_7_0 kM0).1 (loM_7_0 kM0).2.1 rfl (Nat.le_trans (by decide) hd) rfl (Nat.le_of_ble_eq_true rfl) dX10_readsText_6 ?_
  refine am_iload_n C0 dX10_readsText_9 1 rfl ?_
  refine am_iconst C0 dX10_readsText_10 ci_1 ?_
  refine am_icmp_ne C0 dX10_readsText_11 (tgt := 19) (by decide) (fun c_3 => ?_) (fun c_3 => ?_)
  · replace h := am_in h c_3
    refine am_iload_n C0 dX10_readsText_19 1 rfl ?_
    refine am_if_ne C0 dX10_readsText_20 (tgt := 30) (by decide) (fun c_4 => ?_) (fun c_4 => ?_)
    · replace h := am_in h c_4
      refine am_aload_n C0 dX10_readsText_30 0 rfl ?_
      refine am_iload_n C0 dX10_readsText_31 1 rfl ?_
      refine am_iconst C0 dX10_readsText_32 ci_2 ?_
      refine am_icmp_ne C0 dX10_readsText_33 (tgt := 40) (by decide) (fun c_5 => ?_) (fun c_5 => ?_)
      · replace h := am_in h c_5
        refine am_iconst C0 dX10_readsText_40 ci_0 ?_
        exact am_sub [] rfl (k_M_readsText_p41 C0 hd F hret false q_2  h)
      · replace h := am_ip h c_5
        refine am_iconst C0 dX10_readsText_36 ci_1 ?_
        refine am_goto C0 dX10_readsText_37 (tgt := 41) (by decide) ?_
        exact am_sub [] rfl (k_M_readsText_p41 C0 hd F hret true q_2  h)
    · replace h := am_ip h c_4
      refine am_aload_n C0 dX10_readsText_23 0 rfl ?_
      obtain ⟨q_6, h_q_6, h⟩ := am_bind h
      refine am_callV C0 (m_M_readLaw (σ := q_2) (Nat.le_refl _) F   h_q_6) mm_yX10_readLaw ln_RX10_290 (As := fun b => []) (fun _ => rfl) (fun _ => rfl) (loM_7_0 kM0).1 (loM_7_0 kM0).2.1 rfl (Nat.le_trans (by decide) hd) rfl (Nat.le_of_ble_eq_true rfl) dX10_readsText_24 ?_
      refine am_goto C0 dX10_readsText_27 (tgt := 44) (by decide) ?_
      have e := Option.some.inj h
      subst e
      exact hret _ _ dX10_readsText_44
  · replace h := am_ip h c_3
    refine am_aload_n C0 dX10_readsText_14 0 rfl ?_
    obtain ⟨q_7, h_q_7, h⟩ := am_bind h
    refine am_callV C0 (m_M_readOrders (σ := q_2) (Nat.le_refl _) F   h_q_7) mm_yX10_readOrders ln_RX10_287 (As := fun b => []) (fun _ => rfl) (fun _ => rfl) (loM_7_0 kM0).1 (loM_7_0 kM0).2.1 rfl (Nat.le_trans (by decide) hd) rfl (Nat.le_of_ble_eq_true rfl) dX10_readsText_15 ?_
    have e := Option.some.inj h
    subst e
    exact hret _ _ dX10_readsText_18
set_option maxRecDepth 100000 in
set_option maxHeartbeats 4000000 in
theorem m_M_readsText {l : Launch} {d : Nat} {σ : am_SS} {q : Int32 × am_SS} (hd : 10 ≤ d) (F : Nat) (x1 : Int32) (h : M_readsText F x1 σ = some q) : am_Met l yX10_readsText cX10_readsText 2 (some .int) d 0 0 LM (fun b => [.ref (b 0), .int x1]) σ (some (.int q.1)) q.2 :=
  am_metI (plainFor_of_name (by decide)) rfl (lv := fun b => [(0, .ref (b 0)), (1, .int x1)]) (fun _ => rfl) (fun _ => Nat.le_of_ble_eq_true rfl) (fun G C0 _ hret => k_M_readsText C0 hd F hret x1 σ  h)
set_option maxRecDepth 100000 in
set_option maxHeartbeats 4000000 in
theorem k_M_takesOther_p104 {G : am_T} {d0 : Nat} (C0 : am_C G cX10_takesOther 4 RX10 LM d0) (hd : 1 ≤ d0) (F : Nat) {q : am_SS} (hret : am_retV G cX10_takesOther 4 q) (x1 : Int32) (x2 : Int32) (σ : am_SS) (h : M_takesOther_p104 F x1 x2 σ = some q) : am_K G 4 104 [(0, .ref (am_b G 0)), (1, .int x1), (2, .int x2)] [] σ := by
  unfold M_takesOther_p104 at h
  refine am_iload_n C0 dX10_takesOther_104 1 rfl ?_
  refine am_iconst C0 dX10_takesOther_105 ci_3 ?_
  refine am_icmp_ne C0 dX10_takesOther_106 (tgt := 117) (by decide) (fun c_1 => ?_) (fun c_1 => ?_)
  · replace h := am_in h c_1
    refine am_aload_n C0 dX10_takesOther_117 0 rfl ?_
    refine am_iconst C0 dX10_takesOther_118 ci_0 ?_
    obtain ⟨σ_2, e_σ_2, h⟩ := am_lt h
    refine am_putI C0 e_σ_2 fp_RX10_134 (loM_7_3 kM0).1 (loM_7_3 kM0).2.1 (loM_7_3 kM0).2.2.1 (loM_7_3 kM0).2.2.2 rfl rfl dX10_takesOther_119 ?_
    have e := Option.some.inj h
    subst e
    exact hret _ _ dX10_takesOther_122
  · replace h := am_ip h c_1
    refine am_aload_n C0 dX10_takesOther_109 0 rfl ?_
    refine am_iload_n C0 dX10_takesOther_110 2 rfl ?_
    obtain ⟨σ_3, e_σ_3, h⟩ := am_lt h
    refine am_putI C0 e_σ_3 fp_RX10_303 (loM_7_40 kM0).1 (loM_7_40 kM0).2.1 (loM_7_40 kM0).2.2.1 (loM_7_40 kM0).2.2.2 rfl rfl dX10_takesOther_111 ?_
    refine am_goto C0 dX10_takesOther_114 (tgt := 122) (by decide) ?_
    have e := Option.some.inj h
    subst e
    exact hret _ _ dX10_takesOther_122
set_option maxRecDepth 100000 in
set_option maxHeartbeats 4000000 in
theorem k_M_takesOther_p88 {G : am_T} {d0 : Nat} (C0 : am_C G cX10_takesOther 4 RX10 LM d0) (hd : 1 ≤ d0) (rec42 : Int32 → Int32 → Int32 → am_SS → Option am_SS) (F : Nat) {q : am_SS} (hret : am_retV G cX10_takesOther 4 q) (hrec42 : ∀ (x1 : Int32) (x2 : Int32) (x3 : Int32) (σ : am_SS), rec42 x1 x2 x3 σ = some q → am_K G 4 42 [(0, .ref (am_b G 0)), (1, .int x1), (2, .int x2), (3, .int x3)] [] σ) (x1 : Int32) (x2 : Int32) (x3 : Int32) (σ : am_SS) (h : M_takesOther_p88 rec42 F x1 x2 x3 σ = some q) : am_K G 4 88 [(0, .ref (am_b G 0)), (1, .int x1), (2, .int x2), (3, .int x3)] [] σ := by
  unfold M_takesOther_p88 at h
  obtain ⟨x3_1, e_x3_1, h⟩ := am_lt h
  refine am_iinc C0 dX10_takesOther_88 3 rfl (by rw [ci_1]; exact e_x3_1) (by decide) rfl (lv' := [(0, .ref (am_b G 0)), (1, .int x1), (2, .int x2), (3, .int x3_1)]) rfl ?_
  refine am_goto C0 dX10_takesOther_91 (tgt := 42) (by decide) ?_
  exact am_sub [0, 1, 2, 3] rfl (hrec42 x1 x2 x3_1 σ  h)
set_option maxRecDepth 100000 in
set_option maxHeartbeats 4000000 in
theorem k_M_takesOther_p68 {G : am_T} {d0 : Nat} (C0 : am_C G cX10_takesOther 4 RX10 LM d0) (hd : 1 ≤ d0) (rec42 : Int32 → Int32 → Int32 → am_SS → Option am_SS) (F : Nat) {q : am_SS} (hret : am_retV G cX10_takesOther 4 q) (hrec42 : ∀ (x1 : Int32) (x2 : Int32) (x3 : Int32) (σ : am_SS), rec42 x1 x2 x3 σ = some q → am_K G 4 42 [(0, .ref (am_b G 0)), (1, .int x1), (2, .int x2), (3, .int x3)] [] σ) (x1 : Int32) (x2 : Int32) (x3 : Int32) (σ : am_SS) (h : M_takesOther_p68 rec42 F x1 x2 x3 σ = some q) : am_K G 4 68 [(0, .ref (am_b G 0)), (1, .int x1), (2, .int x2), (3, .int x3)] [] σ := by
  unfold M_takesOther_p68 at h
  refine am_iload_n C0 dX10_takesOther_68 1 rfl ?_
  refine am_iconst C0 dX10_takesOther_69 ci_3 ?_
  refine am_icmp_ne C0 dX10_takesOther_70 (tgt := 88) (by decide) (fun c_1 => ?_) (fun c_1 => ?_)
  · replace h := am_in h c_1
    exact am_sub [0, 1, 2, 3] rfl (k_M_takesOther_p88 C0 hd rec42 F hret hrec42 x1 x2 x3 σ  h)
  · replace h := am_ip h c_1
    refine am_aload_n C0 dX10_takesOther_73 0 rfl ?_
    refine am_getR C0 (j := 21) ff_RX10_74 (loM_7_41 kM0).1 (loM_7_41 kM0).2.1 (loM_7_41 kM0).2.2.1 (loM_7_41 kM0).2.2.2 dX10_takesOther_74 ?_
    refine am_iload_n C0 dX10_takesOther_77 3 rfl ?_
    refine am_aload_n C0 dX10_takesOther_78 0 rfl ?_
    refine am_getR C0 (j := 21) ff_RX10_74 (loM_7_41 kM0).1 (loM_7_41 kM0).2.1 (loM_7_41 kM0).2.2.1 (loM_7_41 kM0).2.2.2 dX10_takesOther_79 ?_
    refine am_bipush C0 dX10_takesOther_82 kb_12 ?_
    refine am_iload_n C0 dX10_takesOther_84 3 rfl ?_
    refine am_iadd C0 dX10_takesOther_85 ?_
    obtain ⟨t_2, h_t_2, h⟩ := am_bind h
    refine am_iald C0 (ltM (tgM_7_41 kM0)) (tgM_7_41 kM0) (lnM_7_41 kM0) h_t_2 dX10_takesOther_86 ?_
    obtain ⟨σ_3, h_σ_3, h⟩ := am_bind h
    refine am_iast C0 (ltM (tgM_7_41 kM0)) (tgM_7_41 kM0) (lnM_7_41 kM0) h_σ_3 dX10_takesOther_87 ?_
    exact am_sub [0, 1, 2, 3] rfl (k_M_takesOther_p88 C0 hd rec42 F hret hrec42 x1 x2 x3 σ_3  h)
set_option maxRecDepth 100000 in
set_option maxHeartbeats 4000000 in
theorem k_M_takesOther_l42 {G : am_T} {d0 : Nat} (C0 : am_C G cX10_takesOther 4 RX10 LM d0) (hd : 1 ≤ d0) (F : Nat) {q : am_SS} (hret : am_retV G cX10_takesOther 4 q) : ∀ (n : Nat) (x1 : Int32) (x2 : Int32) (x3 : Int32) (σ : am_SS) (h : M_takesOther_l42 F n x1 x2 x3 σ = some q), am_K G 4 42 [(0, .ref (am_b G 0)), (1, .int x1), (2, .int x2), (3, .int x3)] [] σ := by
  intro n
  induction n with
  | zero =>
    intro x1 x2 x3 σ h
    rw [M_takesOther_l42] at h
    cases h
  | succ n ih =>
    intro x1 x2 x3 σ h
    rw [M_takesOther_l42] at h
    refine am_iload_n C0 dX10_takesOther_42 3 rfl ?_
    refine am_bipush C0 dX10_takesOther_43 kb_12 ?_
    refine am_icmp_ge C0 dX10_takesOther_45 (tgt := 94) (by decide) (fun c_1 => ?_) (fun c_1 => ?_)
    · replace h := am_in h c_1
      refine am_iload_n C0 dX10_takesOther_94 1 rfl ?_
      refine am_iconst C0 dX10_takesOther_95 ci_2 ?_
      refine am_icmp_ne C0 dX10_takesOther_96 (tgt := 104) (by decide) (fun c_2 => ?_) (fun c_2 => ?_)
      · replace h := am_in h c_2
        exact am_sub [0, 1, 2] rfl (k_M_takesOther_p104 C0 hd F hret x1 x2 σ  h)
      · replace h := am_ip h c_2
        refine am_aload_n C0 dX10_takesOther_99 0 rfl ?_
        refine am_iload_n C0 dX10_takesOther_100 2 rfl ?_
        obtain ⟨σ_3, e_σ_3, h⟩ := am_lt h
        refine am_putI C0 e_σ_3 fp_RX10_300 (loM_7_38 kM0).1 (loM_7_38 kM0).2.1 (loM_7_38 kM0).2.2.1 (loM_7_38 kM0).2.2.2 rfl rfl dX10_takesOther_101 ?_
        exact am_sub [0, 1, 2] rfl (k_M_takesOther_p104 C0 hd F hret x1 x2 σ_3  h)
    · replace h := am_ip h c_1
      refine am_iload_n C0 dX10_takesOther_48 1 rfl ?_
      refine am_iconst C0 dX10_takesOther_49 ci_2 ?_
      refine am_icmp_ne C0 dX10_takesOther_50 (tgt := 68) (by decide) (fun c_4 => ?_) (fun c_4 => ?_)
      · replace h := am_in h c_4
        exact am_sub [0, 1, 2, 3] rfl (k_M_takesOther_p68 C0 hd _ F hret (fun z1 z2 z3 zs z => ih z1 z2 z3 zs z) x1 x2 x3 σ  h)
      · replace h := am_ip h c_4
        refine am_aload_n C0 dX10_takesOther_53 0 rfl ?_
        refine am_getR C0 (j := 20) ff_RX10_71 (loM_7_39 kM0).1 (loM_7_39 kM0).2.1 (loM_7_39 kM0).2.2.1 (loM_7_39 kM0).2.2.2 dX10_takesOther_54 ?_
        refine am_iload_n C0 dX10_takesOther_57 3 rfl ?_
        refine am_aload_n C0 dX10_takesOther_58 0 rfl ?_
        refine am_getR C0 (j := 20) ff_RX10_71 (loM_7_39 kM0).1 (loM_7_39 kM0).2.1 (loM_7_39 kM0).2.2.1 (loM_7_39 kM0).2.2.2 dX10_takesOther_59 ?_
        refine am_bipush C0 dX10_takesOther_62 kb_12 ?_
        refine am_iload_n C0 dX10_takesOther_64 3 rfl ?_
        refine am_iadd C0 dX10_takesOther_65 ?_
        obtain ⟨t_5, h_t_5, h⟩ := am_bind h
        refine am_iald C0 (ltM (tgM_7_39 kM0)) (tgM_7_39 kM0) (lnM_7_39 kM0) h_t_5 dX10_takesOther_66 ?_
        obtain ⟨σ_6, h_σ_6, h⟩ := am_bind h
        refine am_iast C0 (ltM (tgM_7_39 kM0)) (tgM_7_39 kM0) (lnM_7_39 kM0) h_σ_6 dX10_takesOther_67 ?_
        exact am_sub [0, 1, 2, 3] rfl (k_M_takesOther_p68 C0 hd _ F hret (fun z1 z2 z3 zs z => ih z1 z2 z3 zs z) x1 x2 x3 σ_6  h)
set_option maxRecDepth 100000 in
set_option maxHeartbeats 4000000 in
theorem k_M_takesOther_p40 {G : am_T} {d0 : Nat} (C0 : am_C G cX10_takesOther 4 RX10 LM d0) (hd : 1 ≤ d0) (F : Nat) {q : am_SS} (hret : am_retV G cX10_takesOther 4 q) (x1 : Int32) (x2 : Int32) (σ : am_SS) (h : M_takesOther_p40 F x1 x2 σ = some q) : am_K G 4 40 [(0, .ref (am_b G 0)), (1, .int x1), (2, .int x2)] [] σ := by
  unfold M_takesOther_p40 at h
  refine am_iconst C0 dX10_takesOther_40 ci_0 ?_
  refine am_istore_n C0 dX10_takesOther_41 rfl (by decide) rfl (lv' := [(0, .ref (am_b G 0)), (1, .int x1), (2, .int x2), (3, .int 0)]) rfl ?_
  exact am_sub [0, 1, 2, 3] rfl (k_M_takesOther_l42 C0 hd F hret F x1 x2 0 σ  h)
set_option maxRecDepth 100000 in
set_option maxHeartbeats 4000000 in
theorem k_M_takesOther_l7 {G : am_T} {d0 : Nat} (C0 : am_C G cX10_takesOther 4 RX10 LM d0) (hd : 1 ≤ d0) (F : Nat) {q : am_SS} (hret : am_retV G cX10_takesOther 4 q) : ∀ (n : Nat) (x1 : Int32) (x2 : Int32) (x3 : Int32) (σ : am_SS) (h : M_takesOther_l7 F n x1 x2 x3 σ = some q), am_K G 4 7 [(0, .ref (am_b G 0)), (1, .int x1), (2, .int x2), (3, .int x3)] [] σ := by
  intro n
  induction n with
  | zero =>
    intro x1 x2 x3 σ h
    rw [M_takesOther_l7] at h
    cases h
  | succ n ih =>
    intro x1 x2 x3 σ h
    rw [M_takesOther_l7] at h
    refine am_iload_n C0 dX10_takesOther_7 3 rfl ?_
    refine am_iconst C0 dX10_takesOther_8 ci_4 ?_
    refine am_iload_n C0 dX10_takesOther_9 2 rfl ?_
    refine am_imul C0 dX10_takesOther_10 ?_
    refine am_icmp_ge C0 dX10_takesOther_11 (tgt := 35) (by decide) (fun c_1 => ?_) (fun c_1 => ?_)
    · replace h := am_in h c_1
      refine am_aload_n C0 dX10_takesOther_35 0 rfl ?_
      refine am_iload_n C0 dX10_takesOther_36 2 rfl ?_
      obtain ⟨σ_2, e_σ_2, h⟩ := am_lt h
      refine am_putI C0 e_σ_2 fp_RX10_297 (loM_7_36 kM0).1 (loM_7_36 kM0).2.1 (loM_7_36 kM0).2.2.1 (loM_7_36 kM0).2.2.2 rfl rfl dX10_takesOther_37 ?_
      exact am_sub [0, 1, 2] rfl (k_M_takesOther_p40 C0 hd F hret x1 x2 σ_2  h)
    · replace h := am_ip h c_1
      refine am_aload_n C0 dX10_takesOther_14 0 rfl ?_
      refine am_getR C0 (j := 19) ff_RX10_68 (loM_7_37 kM0).1 (loM_7_37 kM0).2.1 (loM_7_37 kM0).2.2.1 (loM_7_37 kM0).2.2.2 dX10_takesOther_15 ?_
      refine am_iload_n C0 dX10_takesOther_18 3 rfl ?_
      refine am_aload_n C0 dX10_takesOther_19 0 rfl ?_
      refine am_getR C0 (j := 19) ff_RX10_68 (loM_7_37 kM0).1 (loM_7_37 kM0).2.1 (loM_7_37 kM0).2.2.1 (loM_7_37 kM0).2.2.2 dX10_takesOther_20 ?_
      refine am_bipush C0 dX10_takesOther_23 kb_64 ?_
      refine am_iload_n C0 dX10_takesOther_25 3 rfl ?_
      refine am_iadd C0 dX10_takesOther_26 ?_
      obtain ⟨t_3, h_t_3, h⟩ := am_bind h
      refine am_iald C0 (ltM (tgM_7_37 kM0)) (tgM_7_37 kM0) (lnM_7_37 kM0) h_t_3 dX10_takesOther_27 ?_
      obtain ⟨σ_4, h_σ_4, h⟩ := am_bind h
      refine am_iast C0 (ltM (tgM_7_37 kM0)) (tgM_7_37 kM0) (lnM_7_37 kM0) h_σ_4 dX10_takesOther_28 ?_
      obtain ⟨x3_5, e_x3_5, h⟩ := am_lt h
      refine am_iinc C0 dX10_takesOther_29 3 rfl (by rw [ci_1]; exact e_x3_5) (by decide) rfl (lv' := [(0, .ref (am_b G 0)), (1, .int x1), (2, .int x2), (3, .int x3_5)]) rfl ?_
      refine am_goto C0 dX10_takesOther_32 (tgt := 7) (by decide) ?_
      exact am_sub [0, 1, 2, 3] rfl (ih x1 x2 x3_5 σ_4  h)
set_option maxRecDepth 100000 in
set_option maxHeartbeats 4000000 in
theorem k_M_takesOther {G : am_T} {d0 : Nat} (C0 : am_C G cX10_takesOther 4 RX10 LM d0) (hd : 1 ≤ d0) (F : Nat) {q : am_SS} (hret : am_retV G cX10_takesOther 4 q) (x1 : Int32) (x2 : Int32) (σ : am_SS) (h : M_takesOther F x1 x2 σ = some q) : am_K G 4 0 [(0, .ref (am_b G 0)), (1, .int x1), (2, .int x2)] [] σ := by
  unfold M_takesOther at h
  refine am_iload_n C0 dX10_takesOther_0 1 rfl ?_
  refine am_iconst C0 dX10_takesOther_1 ci_1 ?_
  refine am_icmp_ne C0 dX10_takesOther_2 (tgt := 40) (by decide) (fun c_1 => ?_) (fun c_1 => ?_)
  · replace h := am_in h c_1
    exact am_sub [0, 1, 2] rfl (k_M_takesOther_p40 C0 hd F hret x1 x2 σ  h)
  · replace h := am_ip h c_1
    refine am_iconst C0 dX10_takesOther_5 ci_0 ?_
    refine am_istore_n C0 dX10_takesOther_6 rfl (by decide) rfl (lv' := [(0, .ref (am_b G 0)), (1, .int x1), (2, .int x2), (3, .int 0)]) rfl ?_
    exact am_sub [0, 1, 2, 3] rfl (k_M_takesOther_l7 C0 hd F hret F x1 x2 0 σ  h)
set_option maxRecDepth 100000 in
set_option maxHeartbeats 4000000 in
theorem m_M_takesOther {l : Launch} {d : Nat} {σ : am_SS} {q : am_SS} (hd : 1 ≤ d) (F : Nat) (x1 : Int32) (x2 : Int32) (h : M_takesOther F x1 x2 σ = some q) : am_Met l yX10_takesOther cX10_takesOther 4 none d 0 0 LM (fun b => [.ref (b 0), .int x1, .int x2]) σ none q :=
  am_metV (plainFor_of_name (by decide)) (lv := fun b => [(0, .ref (b 0)), (1, .int x1), (2, .int x2)]) (fun _ => rfl) (fun _ => Nat.le_of_ble_eq_true rfl) (fun G C0 _ hret => k_M_takesOther C0 hd F hret x1 x2 σ  h)
