set_option maxRecDepth 100000 in
set_option maxHeartbeats 4000000 in
theorem k_M_isIn {G : am_T} {d0 : Nat} (C0 : am_C G cX10_isIn 4 RX10 LM d0) (hd : 1 ≤ d0) {σ0 : am_SS} {q : Bool} (hret : am_retI G cX10_isIn 4 (am_bI q) σ0) (x1 : Int32) (x2 : Int32) (x3 : Int32) (h : M_isIn x1 x2 x3 = q) : am_K G 4 0 [(0, .ref (am_b G 0)), (1, .int x1), (2, .int x2), (3, .int x3)] [] σ0 := by
  unfold M_isIn at h
  refine am_iload_n C0 dX10_isIn_0 1 rfl ?_
  refine am_iload_n C0 dX10_isIn_1 2 rfl ?_
  refine am_icmp_lt C0 dX10_isIn_2 (tgt := 14) (by decide) (fun c_1 => ?_) (fun c_1 => ?_)
  · replace h := am_ip h c_1
    refine am_iconst C0 dX10_isIn_14 ci_0 ?_
    have e := h
    subst e
    exact hret _ _ dX10_isIn_15
  · replace h := am_in h c_1
    refine am_iload_n C0 dX10_isIn_5 1 rfl ?_
    refine am_iload_n C0 dX10_isIn_6 3 rfl ?_
    refine am_icmp_gt C0 dX10_isIn_7 (tgt := 14) (by decide) (fun c_2 => ?_) (fun c_2 => ?_)
    · replace h := am_ip h c_2
      refine am_iconst C0 dX10_isIn_14 ci_0 ?_
      have e := h
      subst e
      exact hret _ _ dX10_isIn_15
    · replace h := am_in h c_2
      refine am_iconst C0 dX10_isIn_10 ci_1 ?_
      refine am_goto C0 dX10_isIn_11 (tgt := 15) (by decide) ?_
      have e := h
      subst e
      exact hret _ _ dX10_isIn_15
set_option maxRecDepth 100000 in
set_option maxHeartbeats 4000000 in
theorem m_M_isIn {l : Launch} {d : Nat} {σ : am_SS} {q : Bool} (hd : 1 ≤ d) (x1 : Int32) (x2 : Int32) (x3 : Int32) (h : M_isIn x1 x2 x3 = q) : am_Met l yX10_isIn cX10_isIn 4 (some .boolean) d 0 0 LM (fun b => [.ref (b 0), .int x1, .int x2, .int x3]) σ (some (.int (am_bI q))) σ :=
  am_metI (plainFor_of_name (by decide)) (am_bI_nr _) (lv := fun b => [(0, .ref (b 0)), (1, .int x1), (2, .int x2), (3, .int x3)]) (fun _ => rfl) (fun _ => Nat.le_of_ble_eq_true rfl) (fun G C0 _ hret => k_M_isIn C0 hd hret x1 x2 x3  h)
set_option maxRecDepth 100000 in
set_option maxHeartbeats 4000000 in
theorem k_M_held {G : am_T} {d0 : Nat} (C0 : am_C G cX10_held 4 RX10 LM d0) (hd : 1 ≤ d0) {σ0 : am_SS} {q : Int32} (hret : am_retI G cX10_held 4 q σ0) (x1 : Int32) (x2 : Int32) (x3 : Int32) (h : M_held x1 x2 x3 = q) : am_K G 4 0 [(0, .ref (am_b G 0)), (1, .int x1), (2, .int x2), (3, .int x3)] [] σ0 := by
  unfold M_held at h
  refine am_iload_n C0 dX10_held_0 1 rfl ?_
  refine am_iload_n C0 dX10_held_1 2 rfl ?_
  refine am_icmp_ge C0 dX10_held_2 (tgt := 9) (by decide) (fun c_1 => ?_) (fun c_1 => ?_)
  · replace h := am_in h c_1
    refine am_iload_n C0 dX10_held_9 1 rfl ?_
    refine am_iload_n C0 dX10_held_10 3 rfl ?_
    refine am_icmp_le C0 dX10_held_11 (tgt := 18) (by decide) (fun c_2 => ?_) (fun c_2 => ?_)
    · replace h := am_in h c_2
      refine am_iload_n C0 dX10_held_18 1 rfl ?_
      have e := h
      subst e
      exact hret _ _ dX10_held_19
    · replace h := am_ip h c_2
      refine am_iload_n C0 dX10_held_14 3 rfl ?_
      refine am_goto C0 dX10_held_15 (tgt := 19) (by decide) ?_
      have e := h
      subst e
      exact hret _ _ dX10_held_19
  · replace h := am_ip h c_1
    refine am_iload_n C0 dX10_held_5 2 rfl ?_
    refine am_goto C0 dX10_held_6 (tgt := 19) (by decide) ?_
    have e := h
    subst e
    exact hret _ _ dX10_held_19
set_option maxRecDepth 100000 in
set_option maxHeartbeats 4000000 in
theorem m_M_held {l : Launch} {d : Nat} {σ : am_SS} {q : Int32} (hd : 1 ≤ d) (x1 : Int32) (x2 : Int32) (x3 : Int32) (h : M_held x1 x2 x3 = q) : am_Met l yX10_held cX10_held 4 (some .int) d 0 0 LM (fun b => [.ref (b 0), .int x1, .int x2, .int x3]) σ (some (.int q)) σ :=
  am_metI (plainFor_of_name (by decide)) rfl (lv := fun b => [(0, .ref (b 0)), (1, .int x1), (2, .int x2), (3, .int x3)]) (fun _ => rfl) (fun _ => Nat.le_of_ble_eq_true rfl) (fun G C0 _ hret => k_M_held C0 hd hret x1 x2 x3  h)
set_option maxRecDepth 100000 in
set_option maxHeartbeats 4000000 in
theorem k_M_greater {G : am_T} {d0 : Nat} (C0 : am_C G cX10_greater 3 RX10 LM d0) (hd : 1 ≤ d0) {σ0 : am_SS} {q : Int32} (hret : am_retI G cX10_greater 3 q σ0) (x1 : Int32) (x2 : Int32) (h : M_greater x1 x2 = q) : am_K G 3 0 [(0, .ref (am_b G 0)), (1, .int x1), (2, .int x2)] [] σ0 := by
  unfold M_greater at h
  refine am_iload_n C0 dX10_greater_0 1 rfl ?_
  refine am_iload_n C0 dX10_greater_1 2 rfl ?_
  refine am_icmp_le C0 dX10_greater_2 (tgt := 9) (by decide) (fun c_1 => ?_) (fun c_1 => ?_)
  · replace h := am_in h c_1
    refine am_iload_n C0 dX10_greater_9 2 rfl ?_
    have e := h
    subst e
    exact hret _ _ dX10_greater_10
  · replace h := am_ip h c_1
    refine am_iload_n C0 dX10_greater_5 1 rfl ?_
    refine am_goto C0 dX10_greater_6 (tgt := 10) (by decide) ?_
    have e := h
    subst e
    exact hret _ _ dX10_greater_10
set_option maxRecDepth 100000 in
set_option maxHeartbeats 4000000 in
theorem m_M_greater {l : Launch} {d : Nat} {σ : am_SS} {q : Int32} (hd : 1 ≤ d) (x1 : Int32) (x2 : Int32) (h : M_greater x1 x2 = q) : am_Met l yX10_greater cX10_greater 3 (some .int) d 0 0 LM (fun b => [.ref (b 0), .int x1, .int x2]) σ (some (.int q)) σ :=
  am_metI (plainFor_of_name (by decide)) rfl (lv := fun b => [(0, .ref (b 0)), (1, .int x1), (2, .int x2)]) (fun _ => rfl) (fun _ => Nat.le_of_ble_eq_true rfl) (fun G C0 _ hret => k_M_greater C0 hd hret x1 x2  h)
set_option maxRecDepth 100000 in
set_option maxHeartbeats 4000000 in
theorem k_M_lesser {G : am_T} {d0 : Nat} (C0 : am_C G cX10_lesser 3 RX10 LM d0) (hd : 1 ≤ d0) {σ0 : am_SS} {q : Int32} (hret : am_retI G cX10_lesser 3 q σ0) (x1 : Int32) (x2 : Int32) (h : M_lesser x1 x2 = q) : am_K G 3 0 [(0, .ref (am_b G 0)), (1, .int x1), (2, .int x2)] [] σ0 := by
  unfold M_lesser at h
  refine am_iload_n C0 dX10_lesser_0 1 rfl ?_
  refine am_iload_n C0 dX10_lesser_1 2 rfl ?_
  refine am_icmp_ge C0 dX10_lesser_2 (tgt := 9) (by decide) (fun c_1 => ?_) (fun c_1 => ?_)
  · replace h := am_in h c_1
    refine am_iload_n C0 dX10_lesser_9 2 rfl ?_
    have e := h
    subst e
    exact hret _ _ dX10_lesser_10
  · replace h := am_ip h c_1
    refine am_iload_n C0 dX10_lesser_5 1 rfl ?_
    refine am_goto C0 dX10_lesser_6 (tgt := 10) (by decide) ?_
    have e := h
    subst e
    exact hret _ _ dX10_lesser_10
set_option maxRecDepth 100000 in
set_option maxHeartbeats 4000000 in
theorem m_M_lesser {l : Launch} {d : Nat} {σ : am_SS} {q : Int32} (hd : 1 ≤ d) (x1 : Int32) (x2 : Int32) (h : M_lesser x1 x2 = q) : am_Met l yX10_lesser cX10_lesser 3 (some .int) d 0 0 LM (fun b => [.ref (b 0), .int x1, .int x2]) σ (some (.int q)) σ :=
  am_metI (plainFor_of_name (by decide)) rfl (lv := fun b => [(0, .ref (b 0)), (1, .int x1), (2, .int x2)]) (fun _ => rfl) (fun _ => Nat.le_of_ble_eq_true rfl) (fun G C0 _ hret => k_M_lesser C0 hd hret x1 x2  h)
set_option maxRecDepth 100000 in
set_option maxHeartbeats 4000000 in
theorem k_M_common_l5 {G : am_T} {d0 : Nat} (C0 : am_C G cX10_common 6 RX10 LM d0) (hd : 1 ≤ d0) (F : Nat) {σ0 : am_SS} {q : Int32} (hret : am_retI G cX10_common 6 q σ0) : ∀ (n : Nat) (x3 : Int32) (x4 : Int32) (h : M_common_l5 F n x3 x4 = some q), am_K G 6 5 [(3, .int x3), (4, .int x4)] [] σ0 := by
  intro n
  induction n with
  | zero =>
    intro x3 x4 h
    rw [M_common_l5] at h
    cases h
  | succ n ih =>
    intro x3 x4 h
    rw [M_common_l5] at h
    refine am_iload C0 dX10_common_5 1 rfl ?_
    refine am_if_eq C0 dX10_common_7 (tgt := 26) (by decide) (fun c_1 => ?_) (fun c_1 => ?_)
    · replace h := am_ip h c_1
      refine am_iload_n C0 dX10_common_26 0 rfl ?_
      have e := Option.some.inj h
      subst e
      exact hret _ _ dX10_common_27
    · replace h := am_in h c_1
      refine am_iload_n C0 dX10_common_10 0 rfl ?_
      refine am_iload C0 dX10_common_11 1 rfl ?_
      obtain ⟨hz_2, h⟩ := am_gd h
      refine am_irem C0 dX10_common_13 hz_2 ?_
      obtain ⟨x5_3, e_x5_3, h⟩ := am_lt h
      refine am_top e_x5_3 ?_
      refine am_istore C0 dX10_common_14 (by decide) rfl (lv' := [(3, .int x3), (4, .int x4), (5, .int x5_3)]) rfl ?_
      refine am_iload C0 dX10_common_16 1 rfl ?_
      refine am_istore_n C0 dX10_common_18 rfl (by decide) rfl (lv' := [(3, .int x4), (4, .int x4), (5, .int x5_3)]) rfl ?_
      refine am_iload C0 dX10_common_19 2 rfl ?_
      refine am_istore C0 dX10_common_21 (by decide) rfl (lv' := [(3, .int x4), (4, .int x5_3), (5, .int x5_3)]) rfl ?_
      refine am_goto C0 dX10_common_23 (tgt := 5) (by decide) ?_
      exact am_sub [0, 1] rfl (ih x4 x5_3  h)
set_option maxRecDepth 100000 in
set_option maxHeartbeats 4000000 in
theorem k_M_common {G : am_T} {d0 : Nat} (C0 : am_C G cX10_common 6 RX10 LM d0) (hd : 1 ≤ d0) (F : Nat) {σ0 : am_SS} {q : Int32} (hret : am_retI G cX10_common 6 q σ0) (x1 : Int32) (x2 : Int32) (h : M_common F x1 x2 = some q) : am_K G 6 0 [(0, .ref (am_b G 0)), (1, .int x1), (2, .int x2)] [] σ0 := by
  unfold M_common at h
  refine am_iload_n C0 dX10_common_0 1 rfl ?_
  refine am_istore_n C0 dX10_common_1 rfl (by decide) rfl (lv' := [(0, .ref (am_b G 0)), (1, .int x1), (2, .int x2), (3, .int x1)]) rfl ?_
  refine am_iload_n C0 dX10_common_2 2 rfl ?_
  refine am_istore C0 dX10_common_3 (by decide) rfl (lv' := [(0, .ref (am_b G 0)), (1, .int x1), (2, .int x2), (3, .int x1), (4, .int x2)]) rfl ?_
  exact am_sub [3, 4] rfl (k_M_common_l5 C0 hd F hret F x1 x2  h)
set_option maxRecDepth 100000 in
set_option maxHeartbeats 4000000 in
theorem m_M_common {l : Launch} {d : Nat} {σ : am_SS} {q : Int32} (hd : 1 ≤ d) (F : Nat) (x1 : Int32) (x2 : Int32) (h : M_common F x1 x2 = some q) : am_Met l yX10_common cX10_common 6 (some .int) d 0 0 LM (fun b => [.ref (b 0), .int x1, .int x2]) σ (some (.int q)) σ :=
  am_metI (plainFor_of_name (by decide)) rfl (lv := fun b => [(0, .ref (b 0)), (1, .int x1), (2, .int x2)]) (fun _ => rfl) (fun _ => Nat.le_of_ble_eq_true rfl) (fun G C0 _ hret => k_M_common C0 hd F hret x1 x2  h)
set_option maxRecDepth 100000 in
set_option maxHeartbeats 4000000 in
theorem k_M_has {G : am_T} {d0 : Nat} (C0 : am_C G cX10_has 3 RX10 LM d0) (hd : 1 ≤ d0) {σ0 : am_SS} {q : Bool} (hret : am_retI G cX10_has 3 (am_bI q) σ0) (x1 : Int32) (x2 : Int32) (h : M_has x1 x2 = q) : am_K G 3 0 [(0, .ref (am_b G 0)), (1, .int x1), (2, .int x2)] [] σ0 := by
  unfold M_has at h
  refine am_iload_n C0 dX10_has_0 1 rfl ?_
  refine am_iload_n C0 dX10_has_1 2 rfl ?_
  refine am_ishr C0 dX10_has_2 ?_
  refine am_iconst C0 dX10_has_3 ci_1 ?_
  refine am_iand C0 dX10_has_4 ?_
  refine am_iconst C0 dX10_has_5 ci_1 ?_
  refine am_icmp_ne C0 dX10_has_6 (tgt := 13) (by decide) (fun c_1 => ?_) (fun c_1 => ?_)
  · replace h := am_in h c_1
    refine am_iconst C0 dX10_has_13 ci_0 ?_
    have e := h
    subst e
    exact hret _ _ dX10_has_14
  · replace h := am_ip h c_1
    refine am_iconst C0 dX10_has_9 ci_1 ?_
    refine am_goto C0 dX10_has_10 (tgt := 14) (by decide) ?_
    have e := h
    subst e
    exact hret _ _ dX10_has_14
set_option maxRecDepth 100000 in
set_option maxHeartbeats 4000000 in
theorem m_M_has {l : Launch} {d : Nat} {σ : am_SS} {q : Bool} (hd : 1 ≤ d) (x1 : Int32) (x2 : Int32) (h : M_has x1 x2 = q) : am_Met l yX10_has cX10_has 3 (some .boolean) d 0 0 LM (fun b => [.ref (b 0), .int x1, .int x2]) σ (some (.int (am_bI q))) σ :=
  am_metI (plainFor_of_name (by decide)) (am_bI_nr _) (lv := fun b => [(0, .ref (b 0)), (1, .int x1), (2, .int x2)]) (fun _ => rfl) (fun _ => Nat.le_of_ble_eq_true rfl) (fun G C0 _ hret => k_M_has C0 hd hret x1 x2  h)
set_option maxRecDepth 100000 in
set_option maxHeartbeats 4000000 in
theorem k_M_keepsAhead_l55 {G : am_T} {d0 : Nat} (C0 : am_C G cX10_keepsAhead 2 RX10 LM d0) (hd : 1 ≤ d0) (F : Nat) {q : am_SS} (hret : am_retV G cX10_keepsAhead 2 q) : ∀ (n : Nat) (x1 : Int32) (σ : am_SS) (h : M_keepsAhead_l55 F n x1 σ = some q), am_K G 2 55 [(0, .ref (am_b G 0)), (1, .int x1)] [] σ := by
  intro n
  induction n with
  | zero =>
    intro x1 σ h
    rw [M_keepsAhead_l55] at h
    cases h
  | succ n ih =>
    intro x1 σ h
    rw [M_keepsAhead_l55] at h
    refine am_iload_n C0 dX10_keepsAhead_55 1 rfl ?_
    refine am_bipush C0 dX10_keepsAhead_56 kb_77 ?_
    refine am_icmp_ge C0 dX10_keepsAhead_58 (tgt := 87) (by decide) (fun c_1 => ?_) (fun c_1 => ?_)
    · replace h := am_in h c_1
      refine am_aload_n C0 dX10_keepsAhead_87 0 rfl ?_
      refine am_aload_n C0 dX10_keepsAhead_88 0 rfl ?_
      refine am_getI C0 ff_RX10_134 (loM_7_3 kM0).1 (loM_7_3 kM0).2.1 (loM_7_3 kM0).2.2.1 (loM_7_3 kM0).2.2.2 dX10_keepsAhead_89 ?_
      refine am_iconst C0 dX10_keepsAhead_92 ci_1 ?_
      refine am_iadd C0 dX10_keepsAhead_93 ?_
      obtain ⟨σ_2, e_σ_2, h⟩ := am_lt h
      refine am_putI C0 e_σ_2 fp_RX10_134 (loM_7_3 kM0).1 (loM_7_3 kM0).2.1 (loM_7_3 kM0).2.2.1 (loM_7_3 kM0).2.2.2 rfl rfl dX10_keepsAhead_94 ?_
      have e := Option.some.inj h
      subst e
      exact hret _ _ dX10_keepsAhead_97
    · replace h := am_ip h c_1
      refine am_aload_n C0 dX10_keepsAhead_61 0 rfl ?_
      refine am_getR C0 (j := 2) ff_RX10_13 (loM_7_2 kM0).1 (loM_7_2 kM0).2.1 (loM_7_2 kM0).2.2.1 (loM_7_2 kM0).2.2.2 dX10_keepsAhead_62 ?_
      refine am_bipush C0 dX10_keepsAhead_65 kb_77 ?_
      refine am_aload_n C0 dX10_keepsAhead_67 0 rfl ?_
      refine am_getI C0 ff_RX10_134 (loM_7_3 kM0).1 (loM_7_3 kM0).2.1 (loM_7_3 kM0).2.2.1 (loM_7_3 kM0).2.2.2 dX10_keepsAhead_68 ?_
      refine am_imul C0 dX10_keepsAhead_71 ?_
      refine am_iload_n C0 dX10_keepsAhead_72 1 rfl ?_
      refine am_iadd C0 dX10_keepsAhead_73 ?_
      refine am_aload_n C0 dX10_keepsAhead_74 0 rfl ?_
      refine am_getR C0 (j := 1) ff_RX10_7 (loM_7_1 kM0).1 (loM_7_1 kM0).2.1 (loM_7_1 kM0).2.2.1 (loM_7_1 kM0).2.2.2 dX10_keepsAhead_75 ?_
      refine am_iload_n C0 dX10_keepsAhead_78 1 rfl ?_
      obtain ⟨t_3, h_t_3, h⟩ := am_bind h
      refine am_iald C0 (ltM (tgM_7_1 kM0)) (tgM_7_1 kM0) (lnM_7_1 kM0) h_t_3 dX10_keepsAhead_79 ?_
      obtain ⟨σ_4, h_σ_4, h⟩ := am_bind h
      refine am_iast C0 (ltM (tgM_7_2 kM0)) (tgM_7_2 kM0) (lnM_7_2 kM0) h_σ_4 dX10_keepsAhead_80 ?_
      obtain ⟨x1_5, e_x1_5, h⟩ := am_lt h
      refine am_iinc C0 dX10_keepsAhead_81 1 rfl (by rw [ci_1]; exact e_x1_5) (by decide) rfl (lv' := [(0, .ref (am_b G 0)), (1, .int x1_5)]) rfl ?_
      refine am_goto C0 dX10_keepsAhead_84 (tgt := 55) (by decide) ?_
      exact am_sub [0, 1] rfl (ih x1_5 σ_4  h)
set_option maxRecDepth 100000 in
set_option maxHeartbeats 4000000 in
theorem k_M_keepsAhead_p53 {G : am_T} {d0 : Nat} (C0 : am_C G cX10_keepsAhead 2 RX10 LM d0) (hd : 1 ≤ d0) (F : Nat) {q : am_SS} (hret : am_retV G cX10_keepsAhead 2 q) (σ : am_SS) (h : M_keepsAhead_p53 F  σ = some q) : am_K G 2 53 [(0, .ref (am_b G 0))] [] σ := by
  unfold M_keepsAhead_p53 at h
  refine am_iconst C0 dX10_keepsAhead_53 ci_0 ?_
  refine am_istore_n C0 dX10_keepsAhead_54 rfl (by decide) rfl (lv' := [(0, .ref (am_b G 0)), (1, .int 0)]) rfl ?_
  exact am_sub [0, 1] rfl (k_M_keepsAhead_l55 C0 hd F hret F 0 σ  h)
set_option maxRecDepth 100000 in
set_option maxHeartbeats 4000000 in
theorem k_M_keepsAhead_l21 {G : am_T} {d0 : Nat} (C0 : am_C G cX10_keepsAhead 2 RX10 LM d0) (hd : 1 ≤ d0) (F : Nat) {q : am_SS} (hret : am_retV G cX10_keepsAhead 2 q) : ∀ (n : Nat) (x1 : Int32) (σ : am_SS) (h : M_keepsAhead_l21 F n x1 σ = some q), am_K G 2 21 [(0, .ref (am_b G 0)), (1, .int x1)] [] σ := by
  intro n
  induction n with
  | zero =>
    intro x1 σ h
    rw [M_keepsAhead_l21] at h
    cases h
  | succ n ih =>
    intro x1 σ h
    rw [M_keepsAhead_l21] at h
    refine am_iload_n C0 dX10_keepsAhead_21 1 rfl ?_
    refine am_bipush C0 dX10_keepsAhead_22 kb_77 ?_
    refine am_aload_n C0 dX10_keepsAhead_24 0 rfl ?_
    refine am_getI C0 ff_RX10_134 (loM_7_3 kM0).1 (loM_7_3 kM0).2.1 (loM_7_3 kM0).2.2.1 (loM_7_3 kM0).2.2.2 dX10_keepsAhead_25 ?_
    refine am_imul C0 dX10_keepsAhead_28 ?_
    refine am_icmp_ge C0 dX10_keepsAhead_29 (tgt := 53) (by decide) (fun c_1 => ?_) (fun c_1 => ?_)
    · replace h := am_in h c_1
      exact am_sub [0] rfl (k_M_keepsAhead_p53 C0 hd F hret  σ  h)
    · replace h := am_ip h c_1
      refine am_aload_n C0 dX10_keepsAhead_32 0 rfl ?_
      refine am_getR C0 (j := 2) ff_RX10_13 (loM_7_2 kM0).1 (loM_7_2 kM0).2.1 (loM_7_2 kM0).2.2.1 (loM_7_2 kM0).2.2.2 dX10_keepsAhead_33 ?_
      refine am_iload_n C0 dX10_keepsAhead_36 1 rfl ?_
      refine am_aload_n C0 dX10_keepsAhead_37 0 rfl ?_
      refine am_getR C0 (j := 2) ff_RX10_13 (loM_7_2 kM0).1 (loM_7_2 kM0).2.1 (loM_7_2 kM0).2.2.1 (loM_7_2 kM0).2.2.2 dX10_keepsAhead_38 ?_
      refine am_iload_n C0 dX10_keepsAhead_41 1 rfl ?_
      refine am_bipush C0 dX10_keepsAhead_42 kb_77 ?_
      refine am_iadd C0 dX10_keepsAhead_44 ?_
      obtain ⟨t_2, h_t_2, h⟩ := am_bind h
      refine am_iald C0 (ltM (tgM_7_2 kM0)) (tgM_7_2 kM0) (lnM_7_2 kM0) h_t_2 dX10_keepsAhead_45 ?_
      obtain ⟨σ_3, h_σ_3, h⟩ := am_bind h
      refine am_iast C0 (ltM (tgM_7_2 kM0)) (tgM_7_2 kM0) (lnM_7_2 kM0) h_σ_3 dX10_keepsAhead_46 ?_
      obtain ⟨x1_4, e_x1_4, h⟩ := am_lt h
      refine am_iinc C0 dX10_keepsAhead_47 1 rfl (by rw [ci_1]; exact e_x1_4) (by decide) rfl (lv' := [(0, .ref (am_b G 0)), (1, .int x1_4)]) rfl ?_
      refine am_goto C0 dX10_keepsAhead_50 (tgt := 21) (by decide) ?_
      exact am_sub [0, 1] rfl (ih x1_4 σ_3  h)
set_option maxRecDepth 100000 in
set_option maxHeartbeats 4000000 in
theorem k_M_keepsAhead {G : am_T} {d0 : Nat} (C0 : am_C G cX10_keepsAhead 2 RX10 LM d0) (hd : 1 ≤ d0) (F : Nat) {q : am_SS} (hret : am_retV G cX10_keepsAhead 2 q) (σ : am_SS) (h : M_keepsAhead F  σ = some q) : am_K G 2 0 [(0, .ref (am_b G 0))] [] σ := by
  unfold M_keepsAhead at h
  refine am_aload_n C0 dX10_keepsAhead_0 0 rfl ?_
  refine am_getI C0 ff_RX10_134 (loM_7_3 kM0).1 (loM_7_3 kM0).2.1 (loM_7_3 kM0).2.2.1 (loM_7_3 kM0).2.2.2 dX10_keepsAhead_1 ?_
  refine am_bipush C0 dX10_keepsAhead_4 kb_6 ?_
  refine am_icmp_ne C0 dX10_keepsAhead_6 (tgt := 53) (by decide) (fun c_1 => ?_) (fun c_1 => ?_)
  · replace h := am_in h c_1
    exact am_sub [0] rfl (k_M_keepsAhead_p53 C0 hd F hret  σ  h)
  · replace h := am_ip h c_1
    refine am_aload_n C0 dX10_keepsAhead_9 0 rfl ?_
    refine am_aload_n C0 dX10_keepsAhead_10 0 rfl ?_
    refine am_getI C0 ff_RX10_134 (loM_7_3 kM0).1 (loM_7_3 kM0).2.1 (loM_7_3 kM0).2.2.1 (loM_7_3 kM0).2.2.2 dX10_keepsAhead_11 ?_
    refine am_iconst C0 dX10_keepsAhead_14 ci_1 ?_
    refine am_isub C0 dX10_keepsAhead_15 ?_
    obtain ⟨σ_2, e_σ_2, h⟩ := am_lt h
    refine am_putI C0 e_σ_2 fp_RX10_134 (loM_7_3 kM0).1 (loM_7_3 kM0).2.1 (loM_7_3 kM0).2.2.1 (loM_7_3 kM0).2.2.2 rfl rfl dX10_keepsAhead_16 ?_
    refine am_iconst C0 dX10_keepsAhead_19 ci_0 ?_
    refine am_istore_n C0 dX10_keepsAhead_20 rfl (by decide) rfl (lv' := [(0, .ref (am_b G 0)), (1, .int 0)]) rfl ?_
    exact am_sub [0, 1] rfl (k_M_keepsAhead_l21 C0 hd F hret F 0 σ_2  h)
set_option maxRecDepth 100000 in
set_option maxHeartbeats 4000000 in
theorem m_M_keepsAhead {l : Launch} {d : Nat} {σ : am_SS} {q : am_SS} (hd : 1 ≤ d) (F : Nat) (h : M_keepsAhead F  σ = some q) : am_Met l yX10_keepsAhead cX10_keepsAhead 2 none d 0 0 LM (fun b => [.ref (b 0)]) σ none q :=
  am_metV (plainFor_of_name (by decide)) (lv := fun b => [(0, .ref (b 0))]) (fun _ => rfl) (fun _ => Nat.le_of_ble_eq_true rfl) (fun G C0 _ hret => k_M_keepsAhead C0 hd F hret  σ  h)
set_option maxRecDepth 100000 in
set_option maxHeartbeats 4000000 in
theorem k_M_undo_l26 {G : am_T} {d0 : Nat} (C0 : am_C G cX10_undo 2 RX10 LM d0) (hd : 1 ≤ d0) (F : Nat) {q : Bool × am_SS} (hret : am_retI G cX10_undo 2 (am_bI q.1) q.2) : ∀ (n : Nat) (x1 : Int32) (σ : am_SS) (h : M_undo_l26 F n x1 σ = some q), am_K G 2 26 [(0, .ref (am_b G 0)), (1, .int x1)] [] σ := by
  intro n
  induction n with
  | zero =>
    intro x1 σ h
    rw [M_undo_l26] at h
    cases h
  | succ n ih =>
    intro x1 σ h
    rw [M_undo_l26] at h
    refine am_iload_n C0 dX10_undo_26 1 rfl ?_
    refine am_bipush C0 dX10_undo_27 kb_77 ?_
    refine am_icmp_ge C0 dX10_undo_29 (tgt := 58) (by decide) (fun c_1 => ?_) (fun c_1 => ?_)
    · replace h := am_in h c_1
      refine am_iconst C0 dX10_undo_58 ci_1 ?_
      have e := Option.some.inj h
      subst e
      exact hret _ _ dX10_undo_59
    · replace h := am_ip h c_1
      refine am_aload_n C0 dX10_undo_32 0 rfl ?_
      refine am_getR C0 (j := 1) ff_RX10_7 (loM_7_1 kM0).1 (loM_7_1 kM0).2.1 (loM_7_1 kM0).2.2.1 (loM_7_1 kM0).2.2.2 dX10_undo_33 ?_
      refine am_iload_n C0 dX10_undo_36 1 rfl ?_
      refine am_aload_n C0 dX10_undo_37 0 rfl ?_
      refine am_getR C0 (j := 2) ff_RX10_13 (loM_7_2 kM0).1 (loM_7_2 kM0).2.1 (loM_7_2 kM0).2.2.1 (loM_7_2 kM0).2.2.2 dX10_undo_38 ?_
      refine am_bipush C0 dX10_undo_41 kb_77 ?_
      refine am_aload_n C0 dX10_undo_43 0 rfl ?_
      refine am_getI C0 ff_RX10_134 (loM_7_3 kM0).1 (loM_7_3 kM0).2.1 (loM_7_3 kM0).2.2.1 (loM_7_3 kM0).2.2.2 dX10_undo_44 ?_
      refine am_imul C0 dX10_undo_47 ?_
      refine am_iload_n C0 dX10_undo_48 1 rfl ?_
      refine am_iadd C0 dX10_undo_49 ?_
      obtain ⟨t_2, h_t_2, h⟩ := am_bind h
      refine am_iald C0 (ltM (tgM_7_2 kM0)) (tgM_7_2 kM0) (lnM_7_2 kM0) h_t_2 dX10_undo_50 ?_
      obtain ⟨σ_3, h_σ_3, h⟩ := am_bind h
      refine am_iast C0 (ltM (tgM_7_1 kM0)) (tgM_7_1 kM0) (lnM_7_1 kM0) h_σ_3 dX10_undo_51 ?_
      obtain ⟨x1_4, e_x1_4, h⟩ := am_lt h
      refine am_iinc C0 dX10_undo_52 1 rfl (by rw [ci_1]; exact e_x1_4) (by decide) rfl (lv' := [(0, .ref (am_b G 0)), (1, .int x1_4)]) rfl ?_
      refine am_goto C0 dX10_undo_55 (tgt := 26) (by decide) ?_
      exact am_sub [0, 1] rfl (ih x1_4 σ_3  h)
set_option maxRecDepth 100000 in
set_option maxHeartbeats 4000000 in
theorem k_M_undo {G : am_T} {d0 : Nat} (C0 : am_C G cX10_undo 2 RX10 LM d0) (hd : 1 ≤ d0) (F : Nat) {q : Bool × am_SS} (hret : am_retI G cX10_undo 2 (am_bI q.1) q.2) (σ : am_SS) (h : M_undo F  σ = some q) : am_K G 2 0 [(0, .ref (am_b G 0))] [] σ := by
  unfold M_undo at h
  refine am_aload_n C0 dX10_undo_0 0 rfl ?_
  refine am_iconst C0 dX10_undo_1 ci_0 ?_
  obtain ⟨σ_1, e_σ_1, h⟩ := am_lt h
  refine am_putI C0 e_σ_1 fp_RX10_131 (loM_7_0 kM0).1 (loM_7_0 kM0).2.1 (loM_7_0 kM0).2.2.1 (loM_7_0 kM0).2.2.2 rfl rfl dX10_undo_2 ?_
  refine am_aload_n C0 dX10_undo_5 0 rfl ?_
  refine am_getI C0 ff_RX10_134 (loM_7_3 kM0).1 (loM_7_3 kM0).2.1 (loM_7_3 kM0).2.2.1 (loM_7_3 kM0).2.2.2 dX10_undo_6 ?_
  refine am_if_ne C0 dX10_undo_9 (tgt := 14) (by decide) (fun c_2 => ?_) (fun c_2 => ?_)
  · replace h := am_in h c_2
    refine am_aload_n C0 dX10_undo_14 0 rfl ?_
    refine am_aload_n C0 dX10_undo_15 0 rfl ?_
    refine am_getI C0 ff_RX10_134 (loM_7_3 kM0).1 (loM_7_3 kM0).2.1 (loM_7_3 kM0).2.2.1 (loM_7_3 kM0).2.2.2 dX10_undo_16 ?_
    refine am_iconst C0 dX10_undo_19 ci_1 ?_
    refine am_isub C0 dX10_undo_20 ?_
    obtain ⟨σ_3, e_σ_3, h⟩ := am_lt h
    refine am_putI C0 e_σ_3 fp_RX10_134 (loM_7_3 kM0).1 (loM_7_3 kM0).2.1 (loM_7_3 kM0).2.2.1 (loM_7_3 kM0).2.2.2 rfl rfl dX10_undo_21 ?_
    refine am_iconst C0 dX10_undo_24 ci_0 ?_
    refine am_istore_n C0 dX10_undo_25 rfl (by decide) rfl (lv' := [(0, .ref (am_b G 0)), (1, .int 0)]) rfl ?_
    exact am_sub [0, 1] rfl (k_M_undo_l26 C0 hd F hret F 0 σ_3  h)
  · replace h := am_ip h c_2
    refine am_iconst C0 dX10_undo_12 ci_0 ?_
    have e := Option.some.inj h
    subst e
    exact hret _ _ dX10_undo_13
set_option maxRecDepth 100000 in
set_option maxHeartbeats 4000000 in
theorem m_M_undo {l : Launch} {d : Nat} {σ : am_SS} {q : Bool × am_SS} (hd : 1 ≤ d) (F : Nat) (h : M_undo F  σ = some q) : am_Met l yX10_undo cX10_undo 2 (some .boolean) d 0 0 LM (fun b => [.ref (b 0)]) σ (some (.int (am_bI q.1))) q.2 :=
  am_metI (plainFor_of_name (by decide)) (am_bI_nr _) (lv := fun b => [(0, .ref (b 0))]) (fun _ => rfl) (fun _ => Nat.le_of_ble_eq_true rfl) (fun G C0 _ hret => k_M_undo C0 hd F hret  σ  h)
set_option maxRecDepth 100000 in
set_option maxHeartbeats 4000000 in
theorem k_M_thinks_l2 {G : am_T} {d0 : Nat} (C0 : am_C G cX10_thinks 2 RX10 LM d0) (hd : 1 ≤ d0) (F : Nat) {q : am_SS} (hret : am_retV G cX10_thinks 2 q) : ∀ (n : Nat) (x1 : Int32) (σ : am_SS) (h : M_thinks_l2 F n x1 σ = some q), am_K G 2 2 [(0, .ref (am_b G 0)), (1, .int x1)] [] σ := by
  intro n
  induction n with
  | zero =>
    intro x1 σ h
    rw [M_thinks_l2] at h
    cases h
  | succ n ih =>
    intro x1 σ h
    rw [M_thinks_l2] at h
    refine am_iload_n C0 dX10_thinks_2 1 rfl ?_
    refine am_bipush C0 dX10_thinks_3 kb_77 ?_
    refine am_icmp_ge C0 dX10_thinks_5 (tgt := 26) (by decide) (fun c_1 => ?_) (fun c_1 => ?_)
    · replace h := am_in h c_1
      refine am_aload_n C0 dX10_thinks_26 0 rfl ?_
      refine am_iconst C0 dX10_thinks_27 ci_1 ?_
      obtain ⟨σ_2, e_σ_2, h⟩ := am_lt h
      refine am_putI C0 e_σ_2 fp_RX10_137 (loM_7_5 kM0).1 (loM_7_5 kM0).2.1 (loM_7_5 kM0).2.2.1 (loM_7_5 kM0).2.2.2 rfl rfl dX10_thinks_28 ?_
      have e := Option.some.inj h
      subst e
      exact hret _ _ dX10_thinks_31
    · replace h := am_ip h c_1
      refine am_aload_n C0 dX10_thinks_8 0 rfl ?_
      refine am_getR C0 (j := 3) ff_RX10_16 (loM_7_4 kM0).1 (loM_7_4 kM0).2.1 (loM_7_4 kM0).2.2.1 (loM_7_4 kM0).2.2.2 dX10_thinks_9 ?_
      refine am_iload_n C0 dX10_thinks_12 1 rfl ?_
      refine am_aload_n C0 dX10_thinks_13 0 rfl ?_
      refine am_getR C0 (j := 1) ff_RX10_7 (loM_7_1 kM0).1 (loM_7_1 kM0).2.1 (loM_7_1 kM0).2.2.1 (loM_7_1 kM0).2.2.2 dX10_thinks_14 ?_
      refine am_iload_n C0 dX10_thinks_17 1 rfl ?_
      obtain ⟨t_3, h_t_3, h⟩ := am_bind h
      refine am_iald C0 (ltM (tgM_7_1 kM0)) (tgM_7_1 kM0) (lnM_7_1 kM0) h_t_3 dX10_thinks_18 ?_
      obtain ⟨σ_4, h_σ_4, h⟩ := am_bind h
      refine am_iast C0 (ltM (tgM_7_4 kM0)) (tgM_7_4 kM0) (lnM_7_4 kM0) h_σ_4 dX10_thinks_19 ?_
      obtain ⟨x1_5, e_x1_5, h⟩ := am_lt h
      refine am_iinc C0 dX10_thinks_20 1 rfl (by rw [ci_1]; exact e_x1_5) (by decide) rfl (lv' := [(0, .ref (am_b G 0)), (1, .int x1_5)]) rfl ?_
      refine am_goto C0 dX10_thinks_23 (tgt := 2) (by decide) ?_
      exact am_sub [0, 1] rfl (ih x1_5 σ_4  h)
set_option maxRecDepth 100000 in
set_option maxHeartbeats 4000000 in
theorem k_M_thinks {G : am_T} {d0 : Nat} (C0 : am_C G cX10_thinks 2 RX10 LM d0) (hd : 1 ≤ d0) (F : Nat) {q : am_SS} (hret : am_retV G cX10_thinks 2 q) (σ : am_SS) (h : M_thinks F  σ = some q) : am_K G 2 0 [(0, .ref (am_b G 0))] [] σ := by
  unfold M_thinks at h
  refine am_iconst C0 dX10_thinks_0 ci_0 ?_
  refine am_istore_n C0 dX10_thinks_1 rfl (by decide) rfl (lv' := [(0, .ref (am_b G 0)), (1, .int 0)]) rfl ?_
  exact am_sub [0, 1] rfl (k_M_thinks_l2 C0 hd F hret F 0 σ  h)
set_option maxRecDepth 100000 in
set_option maxHeartbeats 4000000 in
theorem m_M_thinks {l : Launch} {d : Nat} {σ : am_SS} {q : am_SS} (hd : 1 ≤ d) (F : Nat) (h : M_thinks F  σ = some q) : am_Met l yX10_thinks cX10_thinks 2 none d 0 0 LM (fun b => [.ref (b 0)]) σ none q :=
  am_metV (plainFor_of_name (by decide)) (lv := fun b => [(0, .ref (b 0))]) (fun _ => rfl) (fun _ => Nat.le_of_ble_eq_true rfl) (fun G C0 _ hret => k_M_thinks C0 hd F hret  σ  h)
set_option maxRecDepth 100000 in
set_option maxHeartbeats 4000000 in
theorem k_M_endsThought_l2 {G : am_T} {d0 : Nat} (C0 : am_C G cX10_endsThought 2 RX10 LM d0) (hd : 1 ≤ d0) (F : Nat) {q : am_SS} (hret : am_retV G cX10_endsThought 2 q) : ∀ (n : Nat) (x1 : Int32) (σ : am_SS) (h : M_endsThought_l2 F n x1 σ = some q), am_K G 2 2 [(0, .ref (am_b G 0)), (1, .int x1)] [] σ := by
  intro n
  induction n with
  | zero =>
    intro x1 σ h
    rw [M_endsThought_l2] at h
    cases h
  | succ n ih =>
    intro x1 σ h
    rw [M_endsThought_l2] at h
    refine am_iload_n C0 dX10_endsThought_2 1 rfl ?_
    refine am_bipush C0 dX10_endsThought_3 kb_77 ?_
    refine am_icmp_ge C0 dX10_endsThought_5 (tgt := 26) (by decide) (fun c_1 => ?_) (fun c_1 => ?_)
    · replace h := am_in h c_1
      refine am_aload_n C0 dX10_endsThought_26 0 rfl ?_
      refine am_iconst C0 dX10_endsThought_27 ci_0 ?_
      obtain ⟨σ_2, e_σ_2, h⟩ := am_lt h
      refine am_putI C0 e_σ_2 fp_RX10_137 (loM_7_5 kM0).1 (loM_7_5 kM0).2.1 (loM_7_5 kM0).2.2.1 (loM_7_5 kM0).2.2.2 rfl rfl dX10_endsThought_28 ?_
      have e := Option.some.inj h
      subst e
      exact hret _ _ dX10_endsThought_31
    · replace h := am_ip h c_1
      refine am_aload_n C0 dX10_endsThought_8 0 rfl ?_
      refine am_getR C0 (j := 1) ff_RX10_7 (loM_7_1 kM0).1 (loM_7_1 kM0).2.1 (loM_7_1 kM0).2.2.1 (loM_7_1 kM0).2.2.2 dX10_endsThought_9 ?_
      refine am_iload_n C0 dX10_endsThought_12 1 rfl ?_
      refine am_aload_n C0 dX10_endsThought_13 0 rfl ?_
      refine am_getR C0 (j := 3) ff_RX10_16 (loM_7_4 kM0).1 (loM_7_4 kM0).2.1 (loM_7_4 kM0).2.2.1 (loM_7_4 kM0).2.2.2 dX10_endsThought_14 ?_
      refine am_iload_n C0 dX10_endsThought_17 1 rfl ?_
      obtain ⟨t_3, h_t_3, h⟩ := am_bind h
      refine am_iald C0 (ltM (tgM_7_4 kM0)) (tgM_7_4 kM0) (lnM_7_4 kM0) h_t_3 dX10_endsThought_18 ?_
      obtain ⟨σ_4, h_σ_4, h⟩ := am_bind h
      refine am_iast C0 (ltM (tgM_7_1 kM0)) (tgM_7_1 kM0) (lnM_7_1 kM0) h_σ_4 dX10_endsThought_19 ?_
      obtain ⟨x1_5, e_x1_5, h⟩ := am_lt h
      refine am_iinc C0 dX10_endsThought_20 1 rfl (by rw [ci_1]; exact e_x1_5) (by decide) rfl (lv' := [(0, .ref (am_b G 0)), (1, .int x1_5)]) rfl ?_
      refine am_goto C0 dX10_endsThought_23 (tgt := 2) (by decide) ?_
      exact am_sub [0, 1] rfl (ih x1_5 σ_4  h)
set_option maxRecDepth 100000 in
set_option maxHeartbeats 4000000 in
theorem k_M_endsThought {G : am_T} {d0 : Nat} (C0 : am_C G cX10_endsThought 2 RX10 LM d0) (hd : 1 ≤ d0) (F : Nat) {q : am_SS} (hret : am_retV G cX10_endsThought 2 q) (σ : am_SS) (h : M_endsThought F  σ = some q) : am_K G 2 0 [(0, .ref (am_b G 0))] [] σ := by
  unfold M_endsThought at h
  refine am_iconst C0 dX10_endsThought_0 ci_0 ?_
  refine am_istore_n C0 dX10_endsThought_1 rfl (by decide) rfl (lv' := [(0, .ref (am_b G 0)), (1, .int 0)]) rfl ?_
  exact am_sub [0, 1] rfl (k_M_endsThought_l2 C0 hd F hret F 0 σ  h)
set_option maxRecDepth 100000 in
set_option maxHeartbeats 4000000 in
theorem m_M_endsThought {l : Launch} {d : Nat} {σ : am_SS} {q : am_SS} (hd : 1 ≤ d) (F : Nat) (h : M_endsThought F  σ = some q) : am_Met l yX10_endsThought cX10_endsThought 2 none d 0 0 LM (fun b => [.ref (b 0)]) σ none q :=
  am_metV (plainFor_of_name (by decide)) (lv := fun b => [(0, .ref (b 0))]) (fun _ => rfl) (fun _ => Nat.le_of_ble_eq_true rfl) (fun G C0 _ hret => k_M_endsThought C0 hd F hret  σ  h)
set_option maxRecDepth 100000 in
set_option maxHeartbeats 4000000 in
theorem k_M_state {G : am_T} {d0 : Nat} (C0 : am_C G cX10_state 3 RX10 LM d0) (hd : 1 ≤ d0) {q : Int32 × am_SS} (hret : am_retI G cX10_state 3 q.1 q.2) (x1 : Int32) (σ : am_SS) (h : M_state x1 σ = some q) : am_K G 3 0 [(0, .ref (am_b G 0)), (1, .int x1)] [] σ := by
  unfold M_state at h
  refine am_aload_n C0 dX10_state_0 0 rfl ?_
  refine am_iconst C0 dX10_state_1 ci_0 ?_
  obtain ⟨σ_1, e_σ_1, h⟩ := am_lt h
  refine am_putI C0 e_σ_1 fp_RX10_131 (loM_7_0 kM0).1 (loM_7_0 kM0).2.1 (loM_7_0 kM0).2.2.1 (loM_7_0 kM0).2.2.2 rfl rfl dX10_state_2 ?_
  refine am_aload_n C0 dX10_state_5 0 rfl ?_
  refine am_getR C0 (j := 1) ff_RX10_7 (loM_7_1 kM0).1 (loM_7_1 kM0).2.1 (loM_7_1 kM0).2.2.1 (loM_7_1 kM0).2.2.2 dX10_state_6 ?_
  refine am_iconst C0 dX10_state_9 ci_1 ?_
  obtain ⟨t_2, h_t_2, h⟩ := am_bind h
  refine am_iald C0 (ltM (tgM_7_1 kM0)) (tgM_7_1 kM0) (lnM_7_1 kM0) h_t_2 dX10_state_10 ?_
  refine am_istore_n C0 dX10_state_11 rfl (by decide) rfl (lv' := [(0, .ref (am_b G 0)), (1, .int x1), (2, .int t_2)]) rfl ?_
  refine am_aload_n C0 dX10_state_12 0 rfl ?_
  refine am_getR C0 (j := 1) ff_RX10_7 (loM_7_1 kM0).1 (loM_7_1 kM0).2.1 (loM_7_1 kM0).2.2.1 (loM_7_1 kM0).2.2.2 dX10_state_13 ?_
  refine am_iconst C0 dX10_state_16 ci_1 ?_
  refine am_iload_n C0 dX10_state_17 1 rfl ?_
  obtain ⟨σ_3, h_σ_3, h⟩ := am_bind h
  refine am_iast C0 (ltM (tgM_7_1 kM0)) (tgM_7_1 kM0) (lnM_7_1 kM0) h_σ_3 dX10_state_18 ?_
  refine am_aload_n C0 dX10_state_19 0 rfl ?_
  refine am_iconst C0 dX10_state_20 ci_0 ?_
  obtain ⟨σ_4, e_σ_4, h⟩ := am_lt h
  refine am_putI C0 e_σ_4 fp_RX10_134 (loM_7_3 kM0).1 (loM_7_3 kM0).2.1 (loM_7_3 kM0).2.2.1 (loM_7_3 kM0).2.2.2 rfl rfl dX10_state_21 ?_
  refine am_iload_n C0 dX10_state_24 2 rfl ?_
  have e := Option.some.inj h
  subst e
  exact hret _ _ dX10_state_25
set_option maxRecDepth 100000 in
set_option maxHeartbeats 4000000 in
theorem m_M_state {l : Launch} {d : Nat} {σ : am_SS} {q : Int32 × am_SS} (hd : 1 ≤ d) (x1 : Int32) (h : M_state x1 σ = some q) : am_Met l yX10_state cX10_state 3 (some .int) d 0 0 LM (fun b => [.ref (b 0), .int x1]) σ (some (.int q.1)) q.2 :=
  am_metI (plainFor_of_name (by decide)) rfl (lv := fun b => [(0, .ref (b 0)), (1, .int x1)]) (fun _ => rfl) (fun _ => Nat.le_of_ble_eq_true rfl) (fun G C0 _ hret => k_M_state C0 hd hret x1 σ  h)
set_option maxRecDepth 100000 in
set_option maxHeartbeats 4000000 in
theorem k_M_draw {G : am_T} {d0 : Nat} (C0 : am_C G cX10_draw 2 RX10 LM d0) (hd : 1 ≤ d0) {q : Int32 × am_SS} (hret : am_retI G cX10_draw 2 q.1 q.2) (x1 : Int32) (σ : am_SS) (h : M_draw x1 σ = some q) : am_K G 2 0 [(0, .ref (am_b G 0)), (1, .int x1)] [] σ := by
  unfold M_draw at h
  refine am_aload_n C0 dX10_draw_0 0 rfl ?_
  refine am_getR C0 (j := 1) ff_RX10_7 (loM_7_1 kM0).1 (loM_7_1 kM0).2.1 (loM_7_1 kM0).2.2.1 (loM_7_1 kM0).2.2.2 dX10_draw_1 ?_
  refine am_iconst C0 dX10_draw_4 ci_1 ?_
  refine am_ldc C0 kc_RX10_141 dX10_draw_5 ?_
  refine am_aload_n C0 dX10_draw_7 0 rfl ?_
  refine am_getR C0 (j := 1) ff_RX10_7 (loM_7_1 kM0).1 (loM_7_1 kM0).2.1 (loM_7_1 kM0).2.2.1 (loM_7_1 kM0).2.2.2 dX10_draw_8 ?_
  refine am_iconst C0 dX10_draw_11 ci_1 ?_
  obtain ⟨t_1, h_t_1, h⟩ := am_bind h
  refine am_iald C0 (ltM (tgM_7_1 kM0)) (tgM_7_1 kM0) (lnM_7_1 kM0) h_t_1 dX10_draw_12 ?_
  refine am_imul C0 dX10_draw_13 ?_
  refine am_ldc C0 kc_RX10_142 dX10_draw_14 ?_
  refine am_iadd C0 dX10_draw_16 ?_
  obtain ⟨σ_2, h_σ_2, h⟩ := am_bind h
  refine am_iast C0 (ltM (tgM_7_1 kM0)) (tgM_7_1 kM0) (lnM_7_1 kM0) h_σ_2 dX10_draw_17 ?_
  refine am_aload_n C0 dX10_draw_18 0 rfl ?_
  refine am_getR C0 (j := 1) ff_RX10_7 (loM_7_1 kM0).1 (loM_7_1 kM0).2.1 (loM_7_1 kM0).2.2.1 (loM_7_1 kM0).2.2.2 dX10_draw_19 ?_
  refine am_iconst C0 dX10_draw_22 ci_1 ?_
  obtain ⟨t_3, h_t_3, h⟩ := am_bind h
  refine am_iald C0 (ltM (tgM_7_1 kM0)) (tgM_7_1 kM0) (lnM_7_1 kM0) h_t_3 dX10_draw_23 ?_
  refine am_bipush C0 dX10_draw_24 kb_8 ?_
  refine am_iushr C0 dX10_draw_26 ?_
  refine am_iload_n C0 dX10_draw_27 1 rfl ?_
  obtain ⟨hz_4, h⟩ := am_gd h
  refine am_irem C0 dX10_draw_28 hz_4 ?_
  have e := Option.some.inj h
  subst e
  exact hret _ _ dX10_draw_29
set_option maxRecDepth 100000 in
set_option maxHeartbeats 4000000 in
theorem m_M_draw {l : Launch} {d : Nat} {σ : am_SS} {q : Int32 × am_SS} (hd : 1 ≤ d) (x1 : Int32) (h : M_draw x1 σ = some q) : am_Met l yX10_draw cX10_draw 2 (some .int) d 0 0 LM (fun b => [.ref (b 0), .int x1]) σ (some (.int q.1)) q.2 :=
  am_metI (plainFor_of_name (by decide)) rfl (lv := fun b => [(0, .ref (b 0)), (1, .int x1)]) (fun _ => rfl) (fun _ => Nat.le_of_ble_eq_true rfl) (fun G C0 _ hret => k_M_draw C0 hd hret x1 σ  h)
set_option maxRecDepth 100000 in
set_option maxHeartbeats 4000000 in
theorem k_M_isOfficer {G : am_T} {d0 : Nat} (C0 : am_C G cX10_isOfficer 2 RX10 LM d0) (hd : 1 ≤ d0) {σ : am_SS} {q : Bool} (hret : am_retI G cX10_isOfficer 2 (am_bI q) σ) (x1 : Int32) (h : M_isOfficer x1 σ = q) : am_K G 2 0 [(0, .ref (am_b G 0)), (1, .int x1)] [] σ := by
  unfold M_isOfficer at h
  refine am_iload_n C0 dX10_isOfficer_0 1 rfl ?_
  refine am_if_lt C0 dX10_isOfficer_1 (tgt := 16) (by decide) (fun c_1 => ?_) (fun c_1 => ?_)
  · replace h := am_ip h c_1
    refine am_iconst C0 dX10_isOfficer_16 ci_0 ?_
    have e := h
    subst e
    exact hret _ _ dX10_isOfficer_17
  · replace h := am_in h c_1
    refine am_iload_n C0 dX10_isOfficer_4 1 rfl ?_
    refine am_aload_n C0 dX10_isOfficer_5 0 rfl ?_
    refine am_getI C0 ff_RX10_143 (loM_7_6 kM0).1 (loM_7_6 kM0).2.1 (loM_7_6 kM0).2.2.1 (loM_7_6 kM0).2.2.2 dX10_isOfficer_6 ?_
    refine am_icmp_ge C0 dX10_isOfficer_9 (tgt := 16) (by decide) (fun c_2 => ?_) (fun c_2 => ?_)
    · replace h := am_in h c_2
      refine am_iconst C0 dX10_isOfficer_16 ci_0 ?_
      have e := h
      subst e
      exact hret _ _ dX10_isOfficer_17
    · replace h := am_ip h c_2
      refine am_iconst C0 dX10_isOfficer_12 ci_1 ?_
      refine am_goto C0 dX10_isOfficer_13 (tgt := 17) (by decide) ?_
      have e := h
      subst e
      exact hret _ _ dX10_isOfficer_17
set_option maxRecDepth 100000 in
set_option maxHeartbeats 4000000 in
theorem m_M_isOfficer {l : Launch} {d : Nat} {σ : am_SS} {q : Bool} (hd : 1 ≤ d) (x1 : Int32) (h : M_isOfficer x1 σ = q) : am_Met l yX10_isOfficer cX10_isOfficer 2 (some .boolean) d 0 0 LM (fun b => [.ref (b 0), .int x1]) σ (some (.int (am_bI q))) σ :=
  am_metI (plainFor_of_name (by decide)) (am_bI_nr _) (lv := fun b => [(0, .ref (b 0)), (1, .int x1)]) (fun _ => rfl) (fun _ => Nat.le_of_ble_eq_true rfl) (fun G C0 _ hret => k_M_isOfficer C0 hd hret x1  h)
set_option maxRecDepth 100000 in
set_option maxHeartbeats 4000000 in
theorem k_M_isBatman {G : am_T} {d0 : Nat} (C0 : am_C G cX10_isBatman 2 RX10 LM d0) (hd : 1 ≤ d0) {σ : am_SS} {q : Bool} (hret : am_retI G cX10_isBatman 2 (am_bI q) σ) (x1 : Int32) (h : M_isBatman x1 σ = q) : am_K G 2 0 [(0, .ref (am_b G 0)), (1, .int x1)] [] σ := by
  unfold M_isBatman at h
  refine am_iload_n C0 dX10_isBatman_0 1 rfl ?_
  refine am_if_lt C0 dX10_isBatman_1 (tgt := 16) (by decide) (fun c_1 => ?_) (fun c_1 => ?_)
  · replace h := am_ip h c_1
    refine am_iconst C0 dX10_isBatman_16 ci_0 ?_
    have e := h
    subst e
    exact hret _ _ dX10_isBatman_17
  · replace h := am_in h c_1
    refine am_iload_n C0 dX10_isBatman_4 1 rfl ?_
    refine am_aload_n C0 dX10_isBatman_5 0 rfl ?_
    refine am_getI C0 ff_RX10_146 (loM_7_7 kM0).1 (loM_7_7 kM0).2.1 (loM_7_7 kM0).2.2.1 (loM_7_7 kM0).2.2.2 dX10_isBatman_6 ?_
    refine am_icmp_ge C0 dX10_isBatman_9 (tgt := 16) (by decide) (fun c_2 => ?_) (fun c_2 => ?_)
    · replace h := am_in h c_2
      refine am_iconst C0 dX10_isBatman_16 ci_0 ?_
      have e := h
      subst e
      exact hret _ _ dX10_isBatman_17
    · replace h := am_ip h c_2
      refine am_iconst C0 dX10_isBatman_12 ci_1 ?_
      refine am_goto C0 dX10_isBatman_13 (tgt := 17) (by decide) ?_
      have e := h
      subst e
      exact hret _ _ dX10_isBatman_17
set_option maxRecDepth 100000 in
set_option maxHeartbeats 4000000 in
theorem m_M_isBatman {l : Launch} {d : Nat} {σ : am_SS} {q : Bool} (hd : 1 ≤ d) (x1 : Int32) (h : M_isBatman x1 σ = q) : am_Met l yX10_isBatman cX10_isBatman 2 (some .boolean) d 0 0 LM (fun b => [.ref (b 0), .int x1]) σ (some (.int (am_bI q))) σ :=
  am_metI (plainFor_of_name (by decide)) (am_bI_nr _) (lv := fun b => [(0, .ref (b 0)), (1, .int x1)]) (fun _ => rfl) (fun _ => Nat.le_of_ble_eq_true rfl) (fun G C0 _ hret => k_M_isBatman C0 hd hret x1  h)
set_option maxRecDepth 100000 in
set_option maxHeartbeats 4000000 in
theorem k_M_isWon {G : am_T} {d0 : Nat} (C0 : am_C G cX10_isWon 1 RX10 LM d0) (hd : 1 ≤ d0) {σ : am_SS} {q : Bool} (hret : am_retI G cX10_isWon 1 (am_bI q) σ) (h : M_isWon  σ = some q) : am_K G 1 0 [(0, .ref (am_b G 0))] [] σ := by
  unfold M_isWon at h
  refine am_aload_n C0 dX10_isWon_0 0 rfl ?_
  refine am_getR C0 (j := 1) ff_RX10_7 (loM_7_1 kM0).1 (loM_7_1 kM0).2.1 (loM_7_1 kM0).2.2.1 (loM_7_1 kM0).2.2.2 dX10_isWon_1 ?_
  refine am_iconst C0 dX10_isWon_4 ci_4 ?_
  obtain ⟨t_1, h_t_1, h⟩ := am_bind h
  refine am_iald C0 (ltM (tgM_7_1 kM0)) (tgM_7_1 kM0) (lnM_7_1 kM0) h_t_1 dX10_isWon_5 ?_
  refine am_if_le C0 dX10_isWon_6 (tgt := 13) (by decide) (fun c_2 => ?_) (fun c_2 => ?_)
  · replace h := am_in h c_2
    refine am_iconst C0 dX10_isWon_13 ci_0 ?_
    have e := Option.some.inj h
    subst e
    exact hret _ _ dX10_isWon_14
  · replace h := am_ip h c_2
    refine am_iconst C0 dX10_isWon_9 ci_1 ?_
    refine am_goto C0 dX10_isWon_10 (tgt := 14) (by decide) ?_
    have e := Option.some.inj h
    subst e
    exact hret _ _ dX10_isWon_14
set_option maxRecDepth 100000 in
set_option maxHeartbeats 4000000 in
theorem m_M_isWon {l : Launch} {d : Nat} {σ : am_SS} {q : Bool} (hd : 1 ≤ d) (h : M_isWon  σ = some q) : am_Met l yX10_isWon cX10_isWon 1 (some .boolean) d 0 0 LM (fun b => [.ref (b 0)]) σ (some (.int (am_bI q))) σ :=
  am_metI (plainFor_of_name (by decide)) (am_bI_nr _) (lv := fun b => [(0, .ref (b 0))]) (fun _ => rfl) (fun _ => Nat.le_of_ble_eq_true rfl) (fun G C0 _ hret => k_M_isWon C0 hd hret   h)
set_option maxRecDepth 100000 in
set_option maxHeartbeats 4000000 in
theorem k_M_officer_p86 {G : am_T} {d0 : Nat} (C0 : am_C G cX10_officer 4 RX10 LM d0) (hd : 2 ≤ d0) (rec59 : Int32 → am_SS → Option (Int32 × am_SS)) (F : Nat) {q : Int32 × am_SS} (hret : am_retI G cX10_officer 4 q.1 q.2) (hrec59 : ∀ (x3 : Int32) (σ : am_SS), rec59 x3 σ = some q → am_K G 4 59 [(0, .ref (am_b G 0)), (3, .int x3)] [] σ) (x3 : Int32) (s1 : Int32) (s2 : Int32) (σ : am_SS) (h : M_officer_p86 rec59 F x3 s1 s2 σ = some q) : am_K G 4 86 [(0, .ref (am_b G 0)), (3, .int x3)] [.int s2, .int s1, .ref (am_b G 1)] σ := by
  unfold M_officer_p86 at h
  obtain ⟨σ_1, h_σ_1, h⟩ := am_bind h
  refine am_iast C0 (ltM (tgM_7_1 kM0)) (tgM_7_1 kM0) (lnM_7_1 kM0) h_σ_1 dX10_officer_86 ?_
  refine am_iload_n C0 dX10_officer_87 1 rfl ?_
  refine am_bipush C0 dX10_officer_88 kb_12 ?_
  refine am_iadd C0 dX10_officer_90 ?_
  obtain ⟨x3_2, e_x3_2, h⟩ := am_lt h
  refine am_top e_x3_2 ?_
  refine am_istore_n C0 dX10_officer_91 rfl (by decide) rfl (lv' := [(0, .ref (am_b G 0)), (3, .int x3_2)]) rfl ?_
  refine am_goto C0 dX10_officer_92 (tgt := 59) (by decide) ?_
  exact am_sub [0, 1] rfl (hrec59 x3_2 σ_1  h)
set_option maxRecDepth 100000 in
set_option maxHeartbeats 4000000 in
theorem k_M_officer_l59 {G : am_T} {d0 : Nat} (C0 : am_C G cX10_officer 4 RX10 LM d0) (hd : 2 ≤ d0) (F : Nat) {q : Int32 × am_SS} (hret : am_retI G cX10_officer 4 q.1 q.2) : ∀ (n : Nat) (x3 : Int32) (σ : am_SS) (h : M_officer_l59 F n x3 σ = some q), am_K G 4 59 [(0, .ref (am_b G 0)), (3, .int x3)] [] σ := by
  intro n
  induction n with
  | zero =>
    intro x3 σ h
    rw [M_officer_l59] at h
    cases h
  | succ n ih =>
    intro x3 σ h
    rw [M_officer_l59] at h
    refine am_iload_n C0 dX10_officer_59 1 rfl ?_
    refine am_bipush C0 dX10_officer_60 kb_65 ?_
    refine am_icmp_ge C0 dX10_officer_62 (tgt := 95) (by decide) (fun c_1 => ?_) (fun c_1 => ?_)
    · replace h := am_in h c_1
      refine am_aload_n C0 dX10_officer_95 0 rfl ?_
      refine am_aload_n C0 dX10_officer_96 0 rfl ?_
      refine am_getI C0 ff_RX10_143 (loM_7_6 kM0).1 (loM_7_6 kM0).2.1 (loM_7_6 kM0).2.2.1 (loM_7_6 kM0).2.2.2 dX10_officer_97 ?_
      refine am_iconst C0 dX10_officer_100 ci_1 ?_
      refine am_iadd C0 dX10_officer_101 ?_
      obtain ⟨σ_2, e_σ_2, h⟩ := am_lt h
      refine am_putI C0 e_σ_2 fp_RX10_143 (loM_7_6 kM0).1 (loM_7_6 kM0).2.1 (loM_7_6 kM0).2.2.1 (loM_7_6 kM0).2.2.2 rfl rfl dX10_officer_102 ?_
      refine am_aload_n C0 dX10_officer_105 0 rfl ?_
      refine am_iconst C0 dX10_officer_106 ci_0 ?_
      obtain ⟨σ_3, e_σ_3, h⟩ := am_lt h
      refine am_putI C0 e_σ_3 fp_RX10_134 (loM_7_3 kM0).1 (loM_7_3 kM0).2.1 (loM_7_3 kM0).2.2.1 (loM_7_3 kM0).2.2.2 rfl rfl dX10_officer_107 ?_
      refine am_aload_n C0 dX10_officer_110 0 rfl ?_
      refine am_getI C0 ff_RX10_143 (loM_7_6 kM0).1 (loM_7_6 kM0).2.1 (loM_7_6 kM0).2.2.1 (loM_7_6 kM0).2.2.2 dX10_officer_111 ?_
      refine am_iconst C0 dX10_officer_114 ci_1 ?_
      refine am_isub C0 dX10_officer_115 ?_
      have e := Option.some.inj h
      subst e
      exact hret _ _ dX10_officer_116
    · replace h := am_ip h c_1
      refine am_aload_n C0 dX10_officer_65 0 rfl ?_
      refine am_getR C0 (j := 1) ff_RX10_7 (loM_7_1 kM0).1 (loM_7_1 kM0).2.1 (loM_7_1 kM0).2.2.1 (loM_7_1 kM0).2.2.2 dX10_officer_66 ?_
      refine am_iload_n C0 dX10_officer_69 1 rfl ?_
      refine am_aload_n C0 dX10_officer_70 0 rfl ?_
      refine am_getI C0 ff_RX10_143 (loM_7_6 kM0).1 (loM_7_6 kM0).2.1 (loM_7_6 kM0).2.2.1 (loM_7_6 kM0).2.2.2 dX10_officer_71 ?_
      refine am_iadd C0 dX10_officer_74 ?_
      refine am_iload_n C0 dX10_officer_75 1 rfl ?_
      refine am_iconst C0 dX10_officer_76 ci_5 ?_
      refine am_icmp_ne C0 dX10_officer_77 (tgt := 85) (by decide) (fun c_4 => ?_) (fun c_4 => ?_)
      · replace h := am_in h c_4
        refine am_iconst C0 dX10_officer_85 ci_0 ?_
        exact am_sub [0, 1] rfl (k_M_officer_p86 C0 hd _ F hret (fun z1 zs z => ih z1 zs z) x3 (x3 + (σ 0 6)) 0 σ  h)
      · replace h := am_ip h c_4
        refine am_bipush C0 dX10_officer_80 kb_50 ?_
        refine am_goto C0 dX10_officer_82 (tgt := 86) (by decide) ?_
        exact am_sub [0, 1] rfl (k_M_officer_p86 C0 hd _ F hret (fun z1 zs z => ih z1 zs z) x3 (x3 + (σ 0 6)) 50 σ  h)
set_option maxRecDepth 100000 in
set_option maxHeartbeats 4000000 in
theorem k_M_officer {G : am_T} {d0 : Nat} (C0 : am_C G cX10_officer 4 RX10 LM d0) (hd : 2 ≤ d0) (F : Nat) {q : Int32 × am_SS} (hret : am_retI G cX10_officer 4 q.1 q.2) (x1 : Int32) (x2 : Int32) (σ : am_SS) (h : M_officer F x1 x2 σ = some q) : am_K G 4 0 [(0, .ref (am_b G 0)), (1, .int x1), (2, .int x2)] [] σ := by
  unfold M_officer at h
  refine am_aload_n C0 dX10_officer_0 0 rfl ?_
  refine am_iconst C0 dX10_officer_1 ci_0 ?_
  obtain ⟨σ_1, e_σ_1, h⟩ := am_lt h
  refine am_putI C0 e_σ_1 fp_RX10_131 (loM_7_0 kM0).1 (loM_7_0 kM0).2.1 (loM_7_0 kM0).2.2.1 (loM_7_0 kM0).2.2.2 rfl rfl dX10_officer_2 ?_
  refine am_aload_n C0 dX10_officer_5 0 rfl ?_
  refine am_iload_n C0 dX10_officer_6 1 rfl ?_
  refine am_iconst C0 dX10_officer_7 ci_0 ?_
  refine am_iconst C0 dX10_officer_8 ci_1 ?_
  refine am_callV C0 (m_M_isIn (σ := σ_1) (Nat.le_refl _) x1 0 1  rfl) mm_yX10_isIn ln_RX10_149 (As := fun b => [.int x1, .int 0, .int 1]) (fun _ => rfl) (fun _ => rfl) (loM_7_0 kM0).1 (loM_7_0 kM0).2.1 rfl (Nat.le_trans (by decide) hd) rfl (Nat.le_of_ble_eq_true rfl) dX10_officer_9 ?_
  refine am_ifB_eq C0 dX10_officer_12 (tgt := 35) (by decide) (fun c_3 => ?_) (fun c_3 => ?_)
  · replace h := am_in h c_3
    refine am_iconst C0 dX10_officer_35 ci_m1 ?_
    have e := Option.some.inj h
    subst e
    exact hret _ _ dX10_officer_36
  · replace h := am_ip h c_3
    refine am_aload_n C0 dX10_officer_15 0 rfl ?_
    refine am_iload_n C0 dX10_officer_16 2 rfl ?_
    refine am_iconst C0 dX10_officer_17 ci_0 ?_
    refine am_bipush C0 dX10_officer_18 kb_9 ?_
    refine am_callV C0 (m_M_isIn (σ := σ_1) (Nat.le_refl _) x2 0 9  rfl) mm_yX10_isIn ln_RX10_149 (As := fun b => [.int x2, .int 0, .int 9]) (fun _ => rfl) (fun _ => rfl) (loM_7_0 kM0).1 (loM_7_0 kM0).2.1 rfl (Nat.le_trans (by decide) hd) rfl (Nat.le_of_ble_eq_true rfl) dX10_officer_20 ?_
    refine am_ifB_eq C0 dX10_officer_23 (tgt := 35) (by decide) (fun c_5 => ?_) (fun c_5 => ?_)
    · replace h := am_in h c_5
      refine am_iconst C0 dX10_officer_35 ci_m1 ?_
      have e := Option.some.inj h
      subst e
      exact hret _ _ dX10_officer_36
    · replace h := am_ip h c_5
      refine am_aload_n C0 dX10_officer_26 0 rfl ?_
      refine am_getI C0 ff_RX10_143 (loM_7_6 kM0).1 (loM_7_6 kM0).2.1 (loM_7_6 kM0).2.2.1 (loM_7_6 kM0).2.2.2 dX10_officer_27 ?_
      refine am_bipush C0 dX10_officer_30 kb_12 ?_
      refine am_icmp_ne C0 dX10_officer_32 (tgt := 37) (by decide) (fun c_6 => ?_) (fun c_6 => ?_)
      · replace h := am_in h c_6
        refine am_aload_n C0 dX10_officer_37 0 rfl ?_
        refine am_getR C0 (j := 4) ff_RX10_19 (loM_7_8 kM0).1 (loM_7_8 kM0).2.1 (loM_7_8 kM0).2.2.1 (loM_7_8 kM0).2.2.2 dX10_officer_38 ?_
        refine am_aload_n C0 dX10_officer_41 0 rfl ?_
        refine am_getI C0 ff_RX10_143 (loM_7_6 kM0).1 (loM_7_6 kM0).2.1 (loM_7_6 kM0).2.2.1 (loM_7_6 kM0).2.2.2 dX10_officer_42 ?_
        refine am_iload_n C0 dX10_officer_45 1 rfl ?_
        obtain ⟨σ_7, h_σ_7, h⟩ := am_bind h
        refine am_iast C0 (ltM (tgM_7_8 kM0)) (tgM_7_8 kM0) (lnM_7_8 kM0) h_σ_7 dX10_officer_46 ?_
        refine am_aload_n C0 dX10_officer_47 0 rfl ?_
        refine am_getR C0 (j := 5) ff_RX10_22 (loM_7_9 kM0).1 (loM_7_9 kM0).2.1 (loM_7_9 kM0).2.2.1 (loM_7_9 kM0).2.2.2 dX10_officer_48 ?_
        refine am_aload_n C0 dX10_officer_51 0 rfl ?_
        refine am_getI C0 ff_RX10_143 (loM_7_6 kM0).1 (loM_7_6 kM0).2.1 (loM_7_6 kM0).2.2.1 (loM_7_6 kM0).2.2.2 dX10_officer_52 ?_
        refine am_iload_n C0 dX10_officer_55 2 rfl ?_
        obtain ⟨σ_8, h_σ_8, h⟩ := am_bind h
        refine am_iast C0 (ltM (tgM_7_9 kM0)) (tgM_7_9 kM0) (lnM_7_9 kM0) h_σ_8 dX10_officer_56 ?_
        refine am_iconst C0 dX10_officer_57 ci_5 ?_
        refine am_istore_n C0 dX10_officer_58 rfl (by decide) rfl (lv' := [(0, .ref (am_b G 0)), (1, .int x1), (2, .int x2), (3, .int 5)]) rfl ?_
        exact am_sub [0, 3] rfl (k_M_officer_l59 C0 hd F hret F 5 σ_8  h)
      · replace h := am_ip h c_6
        refine am_iconst C0 dX10_officer_35 ci_m1 ?_
        have e := Option.some.inj h
        subst e
        exact hret _ _ dX10_officer_36
set_option maxRecDepth 100000 in
set_option maxHeartbeats 4000000 in
theorem m_M_officer {l : Launch} {d : Nat} {σ : am_SS} {q : Int32 × am_SS} (hd : 2 ≤ d) (F : Nat) (x1 : Int32) (x2 : Int32) (h : M_officer F x1 x2 σ = some q) : am_Met l yX10_officer cX10_officer 4 (some .int) d 0 0 LM (fun b => [.ref (b 0), .int x1, .int x2]) σ (some (.int q.1)) q.2 :=
  am_metI (plainFor_of_name (by decide)) rfl (lv := fun b => [(0, .ref (b 0)), (1, .int x1), (2, .int x2)]) (fun _ => rfl) (fun _ => Nat.le_of_ble_eq_true rfl) (fun G C0 _ hret => k_M_officer C0 hd F hret x1 x2 σ  h)
set_option maxRecDepth 100000 in
set_option maxHeartbeats 4000000 in
theorem k_M_batman {G : am_T} {d0 : Nat} (C0 : am_C G cX10_batman 3 RX10 LM d0) (hd : 2 ≤ d0) {q : Int32 × am_SS} (hret : am_retI G cX10_batman 3 q.1 q.2) (x1 : Int32) (x2 : Int32) (σ : am_SS) (h : M_batman x1 x2 σ = some q) : am_K G 3 0 [(0, .ref (am_b G 0)), (1, .int x1), (2, .int x2)] [] σ := by
  unfold M_batman at h
  refine am_aload_n C0 dX10_batman_0 0 rfl ?_
  refine am_iconst C0 dX10_batman_1 ci_0 ?_
  obtain ⟨σ_1, e_σ_1, h⟩ := am_lt h
  refine am_putI C0 e_σ_1 fp_RX10_131 (loM_7_0 kM0).1 (loM_7_0 kM0).2.1 (loM_7_0 kM0).2.2.1 (loM_7_0 kM0).2.2.2 rfl rfl dX10_batman_2 ?_
  refine am_aload_n C0 dX10_batman_5 0 rfl ?_
  refine am_iload_n C0 dX10_batman_6 1 rfl ?_
  refine am_iconst C0 dX10_batman_7 ci_0 ?_
  refine am_iconst C0 dX10_batman_8 ci_1 ?_
  refine am_callV C0 (m_M_isIn (σ := σ_1) (Nat.le_refl _) x1 0 1  rfl) mm_yX10_isIn ln_RX10_149 (As := fun b => [.int x1, .int 0, .int 1]) (fun _ => rfl) (fun _ => rfl) (loM_7_0 kM0).1 (loM_7_0 kM0).2.1 rfl (Nat.le_trans (by decide) hd) rfl (Nat.le_of_ble_eq_true rfl) dX10_batman_9 ?_
  refine am_ifB_eq C0 dX10_batman_12 (tgt := 35) (by decide) (fun c_3 => ?_) (fun c_3 => ?_)
  · replace h := am_in h c_3
    refine am_iconst C0 dX10_batman_35 ci_m1 ?_
    have e := Option.some.inj h
    subst e
    exact hret _ _ dX10_batman_36
  · replace h := am_ip h c_3
    refine am_aload_n C0 dX10_batman_15 0 rfl ?_
    refine am_iload_n C0 dX10_batman_16 2 rfl ?_
    refine am_iconst C0 dX10_batman_17 ci_0 ?_
    refine am_bipush C0 dX10_batman_18 kb_9 ?_
    refine am_callV C0 (m_M_isIn (σ := σ_1) (Nat.le_refl _) x2 0 9  rfl) mm_yX10_isIn ln_RX10_149 (As := fun b => [.int x2, .int 0, .int 9]) (fun _ => rfl) (fun _ => rfl) (loM_7_0 kM0).1 (loM_7_0 kM0).2.1 rfl (Nat.le_trans (by decide) hd) rfl (Nat.le_of_ble_eq_true rfl) dX10_batman_20 ?_
    refine am_ifB_eq C0 dX10_batman_23 (tgt := 35) (by decide) (fun c_5 => ?_) (fun c_5 => ?_)
    · replace h := am_in h c_5
      refine am_iconst C0 dX10_batman_35 ci_m1 ?_
      have e := Option.some.inj h
      subst e
      exact hret _ _ dX10_batman_36
    · replace h := am_ip h c_5
      refine am_aload_n C0 dX10_batman_26 0 rfl ?_
      refine am_getI C0 ff_RX10_146 (loM_7_7 kM0).1 (loM_7_7 kM0).2.1 (loM_7_7 kM0).2.2.1 (loM_7_7 kM0).2.2.2 dX10_batman_27 ?_
      refine am_bipush C0 dX10_batman_30 kb_12 ?_
      refine am_icmp_ne C0 dX10_batman_32 (tgt := 37) (by decide) (fun c_6 => ?_) (fun c_6 => ?_)
      · replace h := am_in h c_6
        refine am_aload_n C0 dX10_batman_37 0 rfl ?_
        refine am_getR C0 (j := 6) ff_RX10_25 (loM_7_10 kM0).1 (loM_7_10 kM0).2.1 (loM_7_10 kM0).2.2.1 (loM_7_10 kM0).2.2.2 dX10_batman_38 ?_
        refine am_aload_n C0 dX10_batman_41 0 rfl ?_
        refine am_getI C0 ff_RX10_146 (loM_7_7 kM0).1 (loM_7_7 kM0).2.1 (loM_7_7 kM0).2.2.1 (loM_7_7 kM0).2.2.2 dX10_batman_42 ?_
        refine am_iload_n C0 dX10_batman_45 1 rfl ?_
        obtain ⟨σ_7, h_σ_7, h⟩ := am_bind h
        refine am_iast C0 (ltM (tgM_7_10 kM0)) (tgM_7_10 kM0) (lnM_7_10 kM0) h_σ_7 dX10_batman_46 ?_
        refine am_aload_n C0 dX10_batman_47 0 rfl ?_
        refine am_getR C0 (j := 7) ff_RX10_28 (loM_7_11 kM0).1 (loM_7_11 kM0).2.1 (loM_7_11 kM0).2.2.1 (loM_7_11 kM0).2.2.2 dX10_batman_48 ?_
        refine am_aload_n C0 dX10_batman_51 0 rfl ?_
        refine am_getI C0 ff_RX10_146 (loM_7_7 kM0).1 (loM_7_7 kM0).2.1 (loM_7_7 kM0).2.2.1 (loM_7_7 kM0).2.2.2 dX10_batman_52 ?_
        refine am_iload_n C0 dX10_batman_55 2 rfl ?_
        obtain ⟨σ_8, h_σ_8, h⟩ := am_bind h
        refine am_iast C0 (ltM (tgM_7_11 kM0)) (tgM_7_11 kM0) (lnM_7_11 kM0) h_σ_8 dX10_batman_56 ?_
        refine am_aload_n C0 dX10_batman_57 0 rfl ?_
        refine am_getR C0 (j := 1) ff_RX10_7 (loM_7_1 kM0).1 (loM_7_1 kM0).2.1 (loM_7_1 kM0).2.2.1 (loM_7_1 kM0).2.2.2 dX10_batman_58 ?_
        refine am_bipush C0 dX10_batman_61 kb_65 ?_
        refine am_aload_n C0 dX10_batman_63 0 rfl ?_
        refine am_getI C0 ff_RX10_146 (loM_7_7 kM0).1 (loM_7_7 kM0).2.1 (loM_7_7 kM0).2.2.1 (loM_7_7 kM0).2.2.2 dX10_batman_64 ?_
        refine am_iadd C0 dX10_batman_67 ?_
        refine am_iconst C0 dX10_batman_68 ci_0 ?_
        obtain ⟨σ_9, h_σ_9, h⟩ := am_bind h
        refine am_iast C0 (ltM (tgM_7_1 kM0)) (tgM_7_1 kM0) (lnM_7_1 kM0) h_σ_9 dX10_batman_69 ?_
        refine am_aload_n C0 dX10_batman_70 0 rfl ?_
        refine am_aload_n C0 dX10_batman_71 0 rfl ?_
        refine am_getI C0 ff_RX10_146 (loM_7_7 kM0).1 (loM_7_7 kM0).2.1 (loM_7_7 kM0).2.2.1 (loM_7_7 kM0).2.2.2 dX10_batman_72 ?_
        refine am_iconst C0 dX10_batman_75 ci_1 ?_
        refine am_iadd C0 dX10_batman_76 ?_
        obtain ⟨σ_10, e_σ_10, h⟩ := am_lt h
        refine am_putI C0 e_σ_10 fp_RX10_146 (loM_7_7 kM0).1 (loM_7_7 kM0).2.1 (loM_7_7 kM0).2.2.1 (loM_7_7 kM0).2.2.2 rfl rfl dX10_batman_77 ?_
        refine am_aload_n C0 dX10_batman_80 0 rfl ?_
        refine am_iconst C0 dX10_batman_81 ci_0 ?_
        obtain ⟨σ_11, e_σ_11, h⟩ := am_lt h
        refine am_putI C0 e_σ_11 fp_RX10_134 (loM_7_3 kM0).1 (loM_7_3 kM0).2.1 (loM_7_3 kM0).2.2.1 (loM_7_3 kM0).2.2.2 rfl rfl dX10_batman_82 ?_
        refine am_aload_n C0 dX10_batman_85 0 rfl ?_
        refine am_getI C0 ff_RX10_146 (loM_7_7 kM0).1 (loM_7_7 kM0).2.1 (loM_7_7 kM0).2.2.1 (loM_7_7 kM0).2.2.2 dX10_batman_86 ?_
        refine am_iconst C0 dX10_batman_89 ci_1 ?_
        refine am_isub C0 dX10_batman_90 ?_
        have e := Option.some.inj h
        subst e
        exact hret _ _ dX10_batman_91
      · replace h := am_ip h c_6
        refine am_iconst C0 dX10_batman_35 ci_m1 ?_
        have e := Option.some.inj h
        subst e
        exact hret _ _ dX10_batman_36
set_option maxRecDepth 100000 in
set_option maxHeartbeats 4000000 in
theorem m_M_batman {l : Launch} {d : Nat} {σ : am_SS} {q : Int32 × am_SS} (hd : 2 ≤ d) (x1 : Int32) (x2 : Int32) (h : M_batman x1 x2 σ = some q) : am_Met l yX10_batman cX10_batman 3 (some .int) d 0 0 LM (fun b => [.ref (b 0), .int x1, .int x2]) σ (some (.int q.1)) q.2 :=
  am_metI (plainFor_of_name (by decide)) rfl (lv := fun b => [(0, .ref (b 0)), (1, .int x1), (2, .int x2)]) (fun _ => rfl) (fun _ => Nat.le_of_ble_eq_true rfl) (fun G C0 _ hret => k_M_batman C0 hd hret x1 x2 σ  h)
set_option maxRecDepth 100000 in
set_option maxHeartbeats 4000000 in
theorem k_M_canSet_p107 {G : am_T} {d0 : Nat} (C0 : am_C G cX10_canSet 4 RX10 LM d0) (hd : 2 ≤ d0) {σ : am_SS} {q : Bool} (hret : am_retI G cX10_canSet 4 (am_bI q) σ) (s1 : Int32) (s2 : Bool) (s3 : Int32) (h : M_canSet_p107 s1 s2 s3 σ = some q) : am_K G 4 107 [] [.int s3, .int (am_bI s2), .int s1, .ref (am_b G 0)] σ := by
  unfold M_canSet_p107 at h
  refine am_callV C0 (m_M_isIn (σ := σ) (Nat.le_refl _) s1 (am_bI s2) s3  rfl) mm_yX10_isIn ln_RX10_149 (As := fun b => [.int s1, .int (am_bI s2), .int s3]) (fun _ => rfl) (fun _ => rfl) (loM_7_0 kM0).1 (loM_7_0 kM0).2.1 rfl (Nat.le_trans (by decide) hd) rfl (Nat.le_of_ble_eq_true rfl) dX10_canSet_107 ?_
  refine am_ifB_eq C0 dX10_canSet_110 (tgt := 117) (by decide) (fun c_2 => ?_) (fun c_2 => ?_)
  · replace h := am_in h c_2
    refine am_iconst C0 dX10_canSet_117 ci_0 ?_
    have e := Option.some.inj h
    subst e
    exact hret _ _ dX10_canSet_118
  · replace h := am_ip h c_2
    refine am_iconst C0 dX10_canSet_113 ci_1 ?_
    refine am_goto C0 dX10_canSet_114 (tgt := 118) (by decide) ?_
    have e := Option.some.inj h
    subst e
    exact hret _ _ dX10_canSet_118
set_option maxRecDepth 100000 in
set_option maxHeartbeats 4000000 in
theorem k_M_canSet_p62 {G : am_T} {d0 : Nat} (C0 : am_C G cX10_canSet 4 RX10 LM d0) (hd : 2 ≤ d0) {σ : am_SS} {q : Bool} (hret : am_retI G cX10_canSet 4 (am_bI q) σ) (s1 : Int32) (s2 : Bool) (s3 : Int32) (h : M_canSet_p62 s1 s2 s3 σ = some q) : am_K G 4 62 [] [.int s3, .int (am_bI s2), .int s1, .ref (am_b G 0)] σ := by
  unfold M_canSet_p62 at h
  refine am_callV C0 (m_M_isIn (σ := σ) (Nat.le_refl _) s1 (am_bI s2) s3  rfl) mm_yX10_isIn ln_RX10_149 (As := fun b => [.int s1, .int (am_bI s2), .int s3]) (fun _ => rfl) (fun _ => rfl) (loM_7_0 kM0).1 (loM_7_0 kM0).2.1 rfl (Nat.le_trans (by decide) hd) rfl (Nat.le_of_ble_eq_true rfl) dX10_canSet_62 ?_
  refine am_ifB_eq C0 dX10_canSet_65 (tgt := 72) (by decide) (fun c_2 => ?_) (fun c_2 => ?_)
  · replace h := am_in h c_2
    refine am_iconst C0 dX10_canSet_72 ci_0 ?_
    have e := Option.some.inj h
    subst e
    exact hret _ _ dX10_canSet_73
  · replace h := am_ip h c_2
    refine am_iconst C0 dX10_canSet_68 ci_1 ?_
    refine am_goto C0 dX10_canSet_69 (tgt := 73) (by decide) ?_
    have e := Option.some.inj h
    subst e
    exact hret _ _ dX10_canSet_73
set_option maxRecDepth 100000 in
set_option maxHeartbeats 4000000 in
theorem k_M_canSet {G : am_T} {d0 : Nat} (C0 : am_C G cX10_canSet 4 RX10 LM d0) (hd : 2 ≤ d0) {σ : am_SS} {q : Bool} (hret : am_retI G cX10_canSet 4 (am_bI q) σ) (x1 : Int32) (x2 : Int32) (x3 : Int32) (h : M_canSet x1 x2 x3 σ = some q) : am_K G 4 0 [(0, .ref (am_b G 0)), (1, .int x1), (2, .int x2), (3, .int x3)] [] σ := by
  unfold M_canSet at h
  refine am_iload_n C0 dX10_canSet_0 1 rfl ?_
  refine am_iconst C0 dX10_canSet_1 ci_5 ?_
  refine am_icmp_ne C0 dX10_canSet_2 (tgt := 30) (by decide) (fun c_1 => ?_) (fun c_1 => ?_)
  · replace h := am_in h c_1
    refine am_aload_n C0 dX10_canSet_30 0 rfl ?_
    refine am_iload_n C0 dX10_canSet_31 1 rfl ?_
    refine am_iconst C0 dX10_canSet_32 ci_0 ?_
    refine am_iconst C0 dX10_canSet_33 ci_2 ?_
    refine am_callV C0 (m_M_isIn (σ := σ) (Nat.le_refl _) x1 0 2  rfl) mm_yX10_isIn ln_RX10_149 (As := fun b => [.int x1, .int 0, .int 2]) (fun _ => rfl) (fun _ => rfl) (loM_7_0 kM0).1 (loM_7_0 kM0).2.1 rfl (Nat.le_trans (by decide) hd) rfl (Nat.le_of_ble_eq_true rfl) dX10_canSet_34 ?_
    refine am_ifB_eq C0 dX10_canSet_37 (tgt := 74) (by decide) (fun c_3 => ?_) (fun c_3 => ?_)
    · replace h := am_in h c_3
      refine am_aload_n C0 dX10_canSet_74 0 rfl ?_
      refine am_iload_n C0 dX10_canSet_75 1 rfl ?_
      refine am_iconst C0 dX10_canSet_76 ci_3 ?_
      refine am_iconst C0 dX10_canSet_77 ci_4 ?_
      refine am_callV C0 (m_M_isIn (σ := σ) (Nat.le_refl _) x1 3 4  rfl) mm_yX10_isIn ln_RX10_149 (As := fun b => [.int x1, .int 3, .int 4]) (fun _ => rfl) (fun _ => rfl) (loM_7_0 kM0).1 (loM_7_0 kM0).2.1 rfl (Nat.le_trans (by decide) hd) rfl (Nat.le_of_ble_eq_true rfl) dX10_canSet_78 ?_
      refine am_ifB_eq C0 dX10_canSet_81 (tgt := 117) (by decide) (fun c_5 => ?_) (fun c_5 => ?_)
      · replace h := am_in h c_5
        refine am_iconst C0 dX10_canSet_117 ci_0 ?_
        have e := Option.some.inj h
        subst e
        exact hret _ _ dX10_canSet_118
      · replace h := am_ip h c_5
        refine am_aload_n C0 dX10_canSet_84 0 rfl ?_
        refine am_iload_n C0 dX10_canSet_85 2 rfl ?_
        refine am_callV C0 (m_M_isBatman (σ := σ) (Nat.le_refl _) x2  rfl) mm_yX10_isBatman ln_RX10_161 (As := fun b => [.int x2]) (fun _ => rfl) (fun _ => rfl) (loM_7_0 kM0).1 (loM_7_0 kM0).2.1 rfl (Nat.le_trans (by decide) hd) rfl (Nat.le_of_ble_eq_true rfl) dX10_canSet_86 ?_
        refine am_ifB_eq C0 dX10_canSet_89 (tgt := 117) (by decide) (fun c_7 => ?_) (fun c_7 => ?_)
        · replace h := am_in h c_7
          refine am_iconst C0 dX10_canSet_117 ci_0 ?_
          have e := Option.some.inj h
          subst e
          exact hret _ _ dX10_canSet_118
        · replace h := am_ip h c_7
          refine am_aload_n C0 dX10_canSet_92 0 rfl ?_
          refine am_iload_n C0 dX10_canSet_93 3 rfl ?_
          refine am_iconst C0 dX10_canSet_94 ci_0 ?_
          refine am_iload_n C0 dX10_canSet_95 1 rfl ?_
          refine am_iconst C0 dX10_canSet_96 ci_3 ?_
          refine am_icmp_ne C0 dX10_canSet_97 (tgt := 105) (by decide) (fun c_8 => ?_) (fun c_8 => ?_)
          · replace h := am_in h c_8
            refine am_bipush C0 dX10_canSet_105 kb_99 ?_
            exact am_sub [] rfl (k_M_canSet_p107 C0 hd hret x3 false 99  h)
          · replace h := am_ip h c_8
            refine am_bipush C0 dX10_canSet_100 kb_9 ?_
            refine am_goto C0 dX10_canSet_102 (tgt := 107) (by decide) ?_
            exact am_sub [] rfl (k_M_canSet_p107 C0 hd hret x3 false 9  h)
    · replace h := am_ip h c_3
      refine am_aload_n C0 dX10_canSet_40 0 rfl ?_
      refine am_iload_n C0 dX10_canSet_41 2 rfl ?_
      refine am_callV C0 (m_M_isOfficer (σ := σ) (Nat.le_refl _) x2  rfl) mm_yX10_isOfficer ln_RX10_157 (As := fun b => [.int x2]) (fun _ => rfl) (fun _ => rfl) (loM_7_0 kM0).1 (loM_7_0 kM0).2.1 rfl (Nat.le_trans (by decide) hd) rfl (Nat.le_of_ble_eq_true rfl) dX10_canSet_42 ?_
      refine am_ifB_eq C0 dX10_canSet_45 (tgt := 72) (by decide) (fun c_10 => ?_) (fun c_10 => ?_)
      · replace h := am_in h c_10
        refine am_iconst C0 dX10_canSet_72 ci_0 ?_
        have e := Option.some.inj h
        subst e
        exact hret _ _ dX10_canSet_73
      · replace h := am_ip h c_10
        refine am_aload_n C0 dX10_canSet_48 0 rfl ?_
        refine am_iload_n C0 dX10_canSet_49 3 rfl ?_
        refine am_iconst C0 dX10_canSet_50 ci_0 ?_
        refine am_iload_n C0 dX10_canSet_51 1 rfl ?_
        refine am_if_ne C0 dX10_canSet_52 (tgt := 60) (by decide) (fun c_11 => ?_) (fun c_11 => ?_)
        · replace h := am_in h c_11
          refine am_bipush C0 dX10_canSet_60 kb_99 ?_
          exact am_sub [] rfl (k_M_canSet_p62 C0 hd hret x3 false 99  h)
        · replace h := am_ip h c_11
          refine am_bipush C0 dX10_canSet_55 kb_9 ?_
          refine am_goto C0 dX10_canSet_57 (tgt := 62) (by decide) ?_
          exact am_sub [] rfl (k_M_canSet_p62 C0 hd hret x3 false 9  h)
  · replace h := am_ip h c_1
    refine am_aload_n C0 dX10_canSet_5 0 rfl ?_
    obtain ⟨q_12, h_q_12, h⟩ := am_bind h
    refine am_callV C0 (m_M_isWon (σ := σ) (Nat.le_refl _)   h_q_12) mm_yX10_isWon ln_RX10_153 (As := fun b => []) (fun _ => rfl) (fun _ => rfl) (loM_7_0 kM0).1 (loM_7_0 kM0).2.1 rfl (Nat.le_trans (by decide) hd) rfl (Nat.le_of_ble_eq_true rfl) dX10_canSet_6 ?_
    refine am_ifB_ne C0 dX10_canSet_9 (tgt := 28) (by decide) (fun c_13 => ?_) (fun c_13 => ?_)
    · replace h := am_ip h c_13
      refine am_iconst C0 dX10_canSet_28 ci_0 ?_
      have e := Option.some.inj h
      subst e
      exact hret _ _ dX10_canSet_29
    · replace h := am_in h c_13
      refine am_aload_n C0 dX10_canSet_12 0 rfl ?_
      refine am_iload_n C0 dX10_canSet_13 3 rfl ?_
      refine am_bipush C0 dX10_canSet_14 kb_m98 ?_
      refine am_bipush C0 dX10_canSet_16 kb_98 ?_
      refine am_callV C0 (m_M_isIn (σ := σ) (Nat.le_refl _) x3 (-98) 98  rfl) mm_yX10_isIn ln_RX10_149 (As := fun b => [.int x3, .int (-98), .int 98]) (fun _ => rfl) (fun _ => rfl) (loM_7_0 kM0).1 (loM_7_0 kM0).2.1 rfl (Nat.le_trans (by decide) hd) rfl (Nat.le_of_ble_eq_true rfl) dX10_canSet_18 ?_
      refine am_ifB_eq C0 dX10_canSet_21 (tgt := 28) (by decide) (fun c_15 => ?_) (fun c_15 => ?_)
      · replace h := am_in h c_15
        refine am_iconst C0 dX10_canSet_28 ci_0 ?_
        have e := Option.some.inj h
        subst e
        exact hret _ _ dX10_canSet_29
      · replace h := am_ip h c_15
        refine am_iconst C0 dX10_canSet_24 ci_1 ?_
        refine am_goto C0 dX10_canSet_25 (tgt := 29) (by decide) ?_
        have e := Option.some.inj h
        subst e
        exact hret _ _ dX10_canSet_29
set_option maxRecDepth 100000 in
set_option maxHeartbeats 4000000 in
theorem m_M_canSet {l : Launch} {d : Nat} {σ : am_SS} {q : Bool} (hd : 2 ≤ d) (x1 : Int32) (x2 : Int32) (x3 : Int32) (h : M_canSet x1 x2 x3 σ = some q) : am_Met l yX10_canSet cX10_canSet 4 (some .boolean) d 0 0 LM (fun b => [.ref (b 0), .int x1, .int x2, .int x3]) σ (some (.int (am_bI q))) σ :=
  am_metI (plainFor_of_name (by decide)) (am_bI_nr _) (lv := fun b => [(0, .ref (b 0)), (1, .int x1), (2, .int x2), (3, .int x3)]) (fun _ => rfl) (fun _ => Nat.le_of_ble_eq_true rfl) (fun G C0 _ hret => k_M_canSet C0 hd hret x1 x2 x3  h)
set_option maxRecDepth 100000 in
set_option maxHeartbeats 4000000 in
theorem k_M_set_p96 {G : am_T} {d0 : Nat} (C0 : am_C G cX10_set 4 RX10 LM d0) (hd : 3 ≤ d0) {q : Bool × am_SS} (hret : am_retI G cX10_set 4 (am_bI q.1) q.2) (σ : am_SS) (h : M_set_p96  σ = some q) : am_K G 4 96 [(0, .ref (am_b G 0))] [] σ := by
  unfold M_set_p96 at h
  refine am_aload_n C0 dX10_set_96 0 rfl ?_
  refine am_iconst C0 dX10_set_97 ci_0 ?_
  obtain ⟨σ_1, e_σ_1, h⟩ := am_lt h
  refine am_putI C0 e_σ_1 fp_RX10_134 (loM_7_3 kM0).1 (loM_7_3 kM0).2.1 (loM_7_3 kM0).2.2.1 (loM_7_3 kM0).2.2.2 rfl rfl dX10_set_98 ?_
  refine am_iconst C0 dX10_set_101 ci_1 ?_
  have e := Option.some.inj h
  subst e
  exact hret _ _ dX10_set_102
set_option maxRecDepth 100000 in
set_option maxHeartbeats 4000000 in
theorem k_M_set_p84 {G : am_T} {d0 : Nat} (C0 : am_C G cX10_set 4 RX10 LM d0) (hd : 3 ≤ d0) {q : Bool × am_SS} (hret : am_retI G cX10_set 4 (am_bI q.1) q.2) (x1 : Int32) (x3 : Int32) (σ : am_SS) (h : M_set_p84 x1 x3 σ = some q) : am_K G 4 84 [(0, .ref (am_b G 0)), (1, .int x1), (3, .int x3)] [] σ := by
  unfold M_set_p84 at h
  refine am_iload_n C0 dX10_set_84 1 rfl ?_
  refine am_iconst C0 dX10_set_85 ci_5 ?_
  refine am_icmp_ne C0 dX10_set_86 (tgt := 96) (by decide) (fun c_1 => ?_) (fun c_1 => ?_)
  · replace h := am_in h c_1
    exact am_sub [0] rfl (k_M_set_p96 C0 hd hret  σ  h)
  · replace h := am_ip h c_1
    refine am_aload_n C0 dX10_set_89 0 rfl ?_
    refine am_getR C0 (j := 1) ff_RX10_7 (loM_7_1 kM0).1 (loM_7_1 kM0).2.1 (loM_7_1 kM0).2.2.1 (loM_7_1 kM0).2.2.2 dX10_set_90 ?_
    refine am_iconst C0 dX10_set_93 ci_3 ?_
    refine am_iload_n C0 dX10_set_94 2 rfl ?_
    obtain ⟨σ_2, h_σ_2, h⟩ := am_bind h
    refine am_iast C0 (ltM (tgM_7_1 kM0)) (tgM_7_1 kM0) (lnM_7_1 kM0) h_σ_2 dX10_set_95 ?_
    exact am_sub [0] rfl (k_M_set_p96 C0 hd hret  σ_2  h)
set_option maxRecDepth 100000 in
set_option maxHeartbeats 4000000 in
theorem k_M_set_p69 {G : am_T} {d0 : Nat} (C0 : am_C G cX10_set 4 RX10 LM d0) (hd : 3 ≤ d0) {q : Bool × am_SS} (hret : am_retI G cX10_set 4 (am_bI q.1) q.2) (x1 : Int32) (x2 : Int32) (x3 : Int32) (σ : am_SS) (h : M_set_p69 x1 x2 x3 σ = some q) : am_K G 4 69 [(0, .ref (am_b G 0)), (1, .int x1), (2, .int x2), (3, .int x3)] [] σ := by
  unfold M_set_p69 at h
  refine am_iload_n C0 dX10_set_69 1 rfl ?_
  refine am_iconst C0 dX10_set_70 ci_4 ?_
  refine am_icmp_ne C0 dX10_set_71 (tgt := 84) (by decide) (fun c_1 => ?_) (fun c_1 => ?_)
  · replace h := am_in h c_1
    exact am_sub [0, 1, 3] rfl (k_M_set_p84 C0 hd hret x1 x3 σ  h)
  · replace h := am_ip h c_1
    refine am_aload_n C0 dX10_set_74 0 rfl ?_
    refine am_getR C0 (j := 1) ff_RX10_7 (loM_7_1 kM0).1 (loM_7_1 kM0).2.1 (loM_7_1 kM0).2.2.1 (loM_7_1 kM0).2.2.2 dX10_set_75 ?_
    refine am_bipush C0 dX10_set_78 kb_65 ?_
    refine am_iload_n C0 dX10_set_80 2 rfl ?_
    refine am_iadd C0 dX10_set_81 ?_
    refine am_iload_n C0 dX10_set_82 3 rfl ?_
    obtain ⟨σ_2, h_σ_2, h⟩ := am_bind h
    refine am_iast C0 (ltM (tgM_7_1 kM0)) (tgM_7_1 kM0) (lnM_7_1 kM0) h_σ_2 dX10_set_83 ?_
    exact am_sub [0, 1, 3] rfl (k_M_set_p84 C0 hd hret x1 x3 σ_2  h)
set_option maxRecDepth 100000 in
set_option maxHeartbeats 4000000 in
theorem k_M_set_p57 {G : am_T} {d0 : Nat} (C0 : am_C G cX10_set 4 RX10 LM d0) (hd : 3 ≤ d0) {q : Bool × am_SS} (hret : am_retI G cX10_set 4 (am_bI q.1) q.2) (x1 : Int32) (x2 : Int32) (x3 : Int32) (σ : am_SS) (h : M_set_p57 x1 x2 x3 σ = some q) : am_K G 4 57 [(0, .ref (am_b G 0)), (1, .int x1), (2, .int x2), (3, .int x3)] [] σ := by
  unfold M_set_p57 at h
  refine am_iload_n C0 dX10_set_57 1 rfl ?_
  refine am_iconst C0 dX10_set_58 ci_3 ?_
  refine am_icmp_ne C0 dX10_set_59 (tgt := 69) (by decide) (fun c_1 => ?_) (fun c_1 => ?_)
  · replace h := am_in h c_1
    exact am_sub [0, 1, 2, 3] rfl (k_M_set_p69 C0 hd hret x1 x2 x3 σ  h)
  · replace h := am_ip h c_1
    refine am_aload_n C0 dX10_set_62 0 rfl ?_
    refine am_getR C0 (j := 7) ff_RX10_28 (loM_7_11 kM0).1 (loM_7_11 kM0).2.1 (loM_7_11 kM0).2.2.1 (loM_7_11 kM0).2.2.2 dX10_set_63 ?_
    refine am_iload_n C0 dX10_set_66 2 rfl ?_
    refine am_iload_n C0 dX10_set_67 3 rfl ?_
    obtain ⟨σ_2, h_σ_2, h⟩ := am_bind h
    refine am_iast C0 (ltM (tgM_7_11 kM0)) (tgM_7_11 kM0) (lnM_7_11 kM0) h_σ_2 dX10_set_68 ?_
    exact am_sub [0, 1, 2, 3] rfl (k_M_set_p69 C0 hd hret x1 x2 x3 σ_2  h)
set_option maxRecDepth 100000 in
set_option maxHeartbeats 4000000 in
theorem k_M_set_p42 {G : am_T} {d0 : Nat} (C0 : am_C G cX10_set 4 RX10 LM d0) (hd : 3 ≤ d0) {q : Bool × am_SS} (hret : am_retI G cX10_set 4 (am_bI q.1) q.2) (x1 : Int32) (x2 : Int32) (x3 : Int32) (σ : am_SS) (h : M_set_p42 x1 x2 x3 σ = some q) : am_K G 4 42 [(0, .ref (am_b G 0)), (1, .int x1), (2, .int x2), (3, .int x3)] [] σ := by
  unfold M_set_p42 at h
  refine am_iload_n C0 dX10_set_42 1 rfl ?_
  refine am_iconst C0 dX10_set_43 ci_2 ?_
  refine am_icmp_ne C0 dX10_set_44 (tgt := 57) (by decide) (fun c_1 => ?_) (fun c_1 => ?_)
  · replace h := am_in h c_1
    exact am_sub [0, 1, 2, 3] rfl (k_M_set_p57 C0 hd hret x1 x2 x3 σ  h)
  · replace h := am_ip h c_1
    refine am_aload_n C0 dX10_set_47 0 rfl ?_
    refine am_getR C0 (j := 1) ff_RX10_7 (loM_7_1 kM0).1 (loM_7_1 kM0).2.1 (loM_7_1 kM0).2.2.1 (loM_7_1 kM0).2.2.2 dX10_set_48 ?_
    refine am_bipush C0 dX10_set_51 kb_17 ?_
    refine am_iload_n C0 dX10_set_53 2 rfl ?_
    refine am_iadd C0 dX10_set_54 ?_
    refine am_iload_n C0 dX10_set_55 3 rfl ?_
    obtain ⟨σ_2, h_σ_2, h⟩ := am_bind h
    refine am_iast C0 (ltM (tgM_7_1 kM0)) (tgM_7_1 kM0) (lnM_7_1 kM0) h_σ_2 dX10_set_56 ?_
    exact am_sub [0, 1, 2, 3] rfl (k_M_set_p57 C0 hd hret x1 x2 x3 σ_2  h)
set_option maxRecDepth 100000 in
set_option maxHeartbeats 4000000 in
theorem k_M_set_p28 {G : am_T} {d0 : Nat} (C0 : am_C G cX10_set 4 RX10 LM d0) (hd : 3 ≤ d0) {q : Bool × am_SS} (hret : am_retI G cX10_set 4 (am_bI q.1) q.2) (x1 : Int32) (x2 : Int32) (x3 : Int32) (σ : am_SS) (h : M_set_p28 x1 x2 x3 σ = some q) : am_K G 4 28 [(0, .ref (am_b G 0)), (1, .int x1), (2, .int x2), (3, .int x3)] [] σ := by
  unfold M_set_p28 at h
  refine am_iload_n C0 dX10_set_28 1 rfl ?_
  refine am_iconst C0 dX10_set_29 ci_1 ?_
  refine am_icmp_ne C0 dX10_set_30 (tgt := 42) (by decide) (fun c_1 => ?_) (fun c_1 => ?_)
  · replace h := am_in h c_1
    exact am_sub [0, 1, 2, 3] rfl (k_M_set_p42 C0 hd hret x1 x2 x3 σ  h)
  · replace h := am_ip h c_1
    refine am_aload_n C0 dX10_set_33 0 rfl ?_
    refine am_getR C0 (j := 1) ff_RX10_7 (loM_7_1 kM0).1 (loM_7_1 kM0).2.1 (loM_7_1 kM0).2.2.1 (loM_7_1 kM0).2.2.2 dX10_set_34 ?_
    refine am_iconst C0 dX10_set_37 ci_5 ?_
    refine am_iload_n C0 dX10_set_38 2 rfl ?_
    refine am_iadd C0 dX10_set_39 ?_
    refine am_iload_n C0 dX10_set_40 3 rfl ?_
    obtain ⟨σ_2, h_σ_2, h⟩ := am_bind h
    refine am_iast C0 (ltM (tgM_7_1 kM0)) (tgM_7_1 kM0) (lnM_7_1 kM0) h_σ_2 dX10_set_41 ?_
    exact am_sub [0, 1, 2, 3] rfl (k_M_set_p42 C0 hd hret x1 x2 x3 σ_2  h)
set_option maxRecDepth 100000 in
set_option maxHeartbeats 4000000 in
theorem k_M_set {G : am_T} {d0 : Nat} (C0 : am_C G cX10_set 4 RX10 LM d0) (hd : 3 ≤ d0) {q : Bool × am_SS} (hret : am_retI G cX10_set 4 (am_bI q.1) q.2) (x1 : Int32) (x2 : Int32) (x3 : Int32) (σ : am_SS) (h : M_set x1 x2 x3 σ = some q) : am_K G 4 0 [(0, .ref (am_b G 0)), (1, .int x1), (2, .int x2), (3, .int x3)] [] σ := by
  unfold M_set at h
  refine am_aload_n C0 dX10_set_0 0 rfl ?_
  refine am_iconst C0 dX10_set_1 ci_0 ?_
  obtain ⟨σ_1, e_σ_1, h⟩ := am_lt h
  refine am_putI C0 e_σ_1 fp_RX10_131 (loM_7_0 kM0).1 (loM_7_0 kM0).2.1 (loM_7_0 kM0).2.2.1 (loM_7_0 kM0).2.2.2 rfl rfl dX10_set_2 ?_
  refine am_aload_n C0 dX10_set_5 0 rfl ?_
  refine am_iload_n C0 dX10_set_6 1 rfl ?_
  refine am_iload_n C0 dX10_set_7 2 rfl ?_
  refine am_iload_n C0 dX10_set_8 3 rfl ?_
  obtain ⟨q_2, h_q_2, h⟩ := am_bind h
  refine am_callV C0 (m_M_canSet (σ := σ_1) (Nat.le_refl _) x1 x2 x3  h_q_2) mm_yX10_canSet ln_RX10_164 (As := fun b => [.int x1, .int x2, .int x3]) (fun _ => rfl) (fun _ => rfl) (loM_7_0 kM0).1 (loM_7_0 kM0).2.1 rfl (Nat.le_trans (by decide) hd) rfl (Nat.le_of_ble_eq_true rfl) dX10_set_9 ?_
  refine am_ifB_ne C0 dX10_set_12 (tgt := 17) (by decide) (fun c_3 => ?_) (fun c_3 => ?_)
  · replace h := am_ip h c_3
    refine am_iload_n C0 dX10_set_17 1 rfl ?_
    refine am_if_ne C0 dX10_set_18 (tgt := 28) (by decide) (fun c_4 => ?_) (fun c_4 => ?_)
    · replace h := am_in h c_4
      exact am_sub [0, 1, 2, 3] rfl (k_M_set_p28 C0 hd hret x1 x2 x3 σ_1  h)
    · replace h := am_ip h c_4
      refine am_aload_n C0 dX10_set_21 0 rfl ?_
      refine am_getR C0 (j := 5) ff_RX10_22 (loM_7_9 kM0).1 (loM_7_9 kM0).2.1 (loM_7_9 kM0).2.2.1 (loM_7_9 kM0).2.2.2 dX10_set_22 ?_
      refine am_iload_n C0 dX10_set_25 2 rfl ?_
      refine am_iload_n C0 dX10_set_26 3 rfl ?_
      obtain ⟨σ_5, h_σ_5, h⟩ := am_bind h
      refine am_iast C0 (ltM (tgM_7_9 kM0)) (tgM_7_9 kM0) (lnM_7_9 kM0) h_σ_5 dX10_set_27 ?_
      exact am_sub [0, 1, 2, 3] rfl (k_M_set_p28 C0 hd hret x1 x2 x3 σ_5  h)
  · replace h := am_in h c_3
    refine am_iconst C0 dX10_set_15 ci_0 ?_
    have e := Option.some.inj h
    subst e
    exact hret _ _ dX10_set_16
set_option maxRecDepth 100000 in
set_option maxHeartbeats 4000000 in
theorem m_M_set {l : Launch} {d : Nat} {σ : am_SS} {q : Bool × am_SS} (hd : 3 ≤ d) (x1 : Int32) (x2 : Int32) (x3 : Int32) (h : M_set x1 x2 x3 σ = some q) : am_Met l yX10_set cX10_set 4 (some .boolean) d 0 0 LM (fun b => [.ref (b 0), .int x1, .int x2, .int x3]) σ (some (.int (am_bI q.1))) q.2 :=
  am_metI (plainFor_of_name (by decide)) (am_bI_nr _) (lv := fun b => [(0, .ref (b 0)), (1, .int x1), (2, .int x2), (3, .int x3)]) (fun _ => rfl) (fun _ => Nat.le_of_ble_eq_true rfl) (fun G C0 _ hret => k_M_set C0 hd hret x1 x2 x3 σ  h)
set_option maxRecDepth 100000 in
set_option maxHeartbeats 4000000 in
theorem k_M_types_l3 {G : am_T} {d0 : Nat} (C0 : am_C G cX10_types 3 RX10 LM d0) (hd : 1 ≤ d0) (F : Nat) {q : am_SS} (hret : am_retV G cX10_types 3 q) : ∀ (n : Nat) (x1 : Int32) (x2 : Int32) (σ : am_SS) (h : M_types_l3 F n x1 x2 σ = some q), am_K G 3 3 [(0, .ref (am_b G 0)), (1, .int x1), (2, .int x2)] [] σ := by
  intro n
  induction n with
  | zero =>
    intro x1 x2 σ h
    rw [M_types_l3] at h
    cases h
  | succ n ih =>
    intro x1 x2 σ h
    rw [M_types_l3] at h
    refine am_iload_n C0 dX10_types_3 2 rfl ?_
    refine am_if_lt C0 dX10_types_4 (tgt := 39) (by decide) (fun c_1 => ?_) (fun c_1 => ?_)
    · replace h := am_ip h c_1
      have e := Option.some.inj h
      subst e
      exact hret _ _ dX10_types_39
    · replace h := am_in h c_1
      refine am_aload_n C0 dX10_types_7 0 rfl ?_
      refine am_getR C0 (j := 9) ff_RX10_34 (loM_7_13 kM0).1 (loM_7_13 kM0).2.1 (loM_7_13 kM0).2.2.1 (loM_7_13 kM0).2.2.2 dX10_types_8 ?_
      refine am_aload_n C0 dX10_types_11 0 rfl ?_
      refine am_getI C0 ff_RX10_167 (loM_7_14 kM0).1 (loM_7_14 kM0).2.1 (loM_7_14 kM0).2.2.1 (loM_7_14 kM0).2.2.2 dX10_types_12 ?_
      refine am_iload_n C0 dX10_types_15 1 rfl ?_
      refine am_iload_n C0 dX10_types_16 2 rfl ?_
      refine am_ishr C0 dX10_types_17 ?_
      refine am_sipush C0 dX10_types_18 cs_255 ?_
      refine am_iand C0 dX10_types_21 ?_
      obtain ⟨σ_2, h_σ_2, h⟩ := am_bind h
      refine am_iast C0 (ltM (tgM_7_13 kM0)) (tgM_7_13 kM0) (lnM_7_13 kM0) h_σ_2 dX10_types_22 ?_
      refine am_aload_n C0 dX10_types_23 0 rfl ?_
      refine am_aload_n C0 dX10_types_24 0 rfl ?_
      refine am_getI C0 ff_RX10_167 (loM_7_14 kM0).1 (loM_7_14 kM0).2.1 (loM_7_14 kM0).2.2.1 (loM_7_14 kM0).2.2.2 dX10_types_25 ?_
      refine am_iconst C0 dX10_types_28 ci_1 ?_
      refine am_iadd C0 dX10_types_29 ?_
      obtain ⟨σ_3, e_σ_3, h⟩ := am_lt h
      refine am_putI C0 e_σ_3 fp_RX10_167 (loM_7_14 kM0).1 (loM_7_14 kM0).2.1 (loM_7_14 kM0).2.2.1 (loM_7_14 kM0).2.2.2 rfl rfl dX10_types_30 ?_
      obtain ⟨x2_4, e_x2_4, h⟩ := am_lt h
      refine am_iinc C0 dX10_types_33 2 rfl (by rw [ci_m8]; exact e_x2_4) (by decide) rfl (lv' := [(0, .ref (am_b G 0)), (1, .int x1), (2, .int x2_4)]) rfl ?_
      refine am_goto C0 dX10_types_36 (tgt := 3) (by decide) ?_
      exact am_sub [0, 1, 2] rfl (ih x1 x2_4 σ_3  h)
set_option maxRecDepth 100000 in
set_option maxHeartbeats 4000000 in
theorem k_M_types {G : am_T} {d0 : Nat} (C0 : am_C G cX10_types 3 RX10 LM d0) (hd : 1 ≤ d0) (F : Nat) {q : am_SS} (hret : am_retV G cX10_types 3 q) (x1 : Int32) (σ : am_SS) (h : M_types F x1 σ = some q) : am_K G 3 0 [(0, .ref (am_b G 0)), (1, .int x1)] [] σ := by
  unfold M_types at h
  refine am_bipush C0 dX10_types_0 kb_24 ?_
  refine am_istore_n C0 dX10_types_2 rfl (by decide) rfl (lv' := [(0, .ref (am_b G 0)), (1, .int x1), (2, .int 24)]) rfl ?_
  exact am_sub [0, 1, 2] rfl (k_M_types_l3 C0 hd F hret F x1 24 σ  h)
set_option maxRecDepth 100000 in
set_option maxHeartbeats 4000000 in
theorem m_M_types {l : Launch} {d : Nat} {σ : am_SS} {q : am_SS} (hd : 1 ≤ d) (F : Nat) (x1 : Int32) (h : M_types F x1 σ = some q) : am_Met l yX10_types cX10_types 3 none d 0 0 LM (fun b => [.ref (b 0), .int x1]) σ none q :=
  am_metV (plainFor_of_name (by decide)) (lv := fun b => [(0, .ref (b 0)), (1, .int x1)]) (fun _ => rfl) (fun _ => Nat.le_of_ble_eq_true rfl) (fun G C0 _ hret => k_M_types C0 hd F hret x1 σ  h)
set_option maxRecDepth 100000 in
set_option maxHeartbeats 4000000 in
theorem k_M_feed {G : am_T} {d0 : Nat} (C0 : am_C G cX10_feed 6 RX10 LM d0) (hd : 2 ≤ d0) (F : Nat) {q : Int32 × am_SS} (hret : am_retI G cX10_feed 6 q.1 q.2) (x1 : Int32) (x2 : Int32) (x3 : Int32) (x4 : Int32) (x5 : Int32) (σ : am_SS) (h : M_feed F x1 x2 x3 x4 x5 σ = some q) : am_K G 6 0 [(0, .ref (am_b G 0)), (1, .int x1), (2, .int x2), (3, .int x3), (4, .int x4), (5, .int x5)] [] σ := by
  unfold M_feed at h
  refine am_aload_n C0 dX10_feed_0 0 rfl ?_
  refine am_iconst C0 dX10_feed_1 ci_0 ?_
  obtain ⟨σ_1, e_σ_1, h⟩ := am_lt h
  refine am_putI C0 e_σ_1 fp_RX10_131 (loM_7_0 kM0).1 (loM_7_0 kM0).2.1 (loM_7_0 kM0).2.2.1 (loM_7_0 kM0).2.2.2 rfl rfl dX10_feed_2 ?_
  refine am_aload_n C0 dX10_feed_5 0 rfl ?_
  refine am_getI C0 ff_RX10_167 (loM_7_14 kM0).1 (loM_7_14 kM0).2.1 (loM_7_14 kM0).2.2.1 (loM_7_14 kM0).2.2.2 dX10_feed_6 ?_
  refine am_sipush C0 dX10_feed_9 cs_380 ?_
  refine am_icmp_le C0 dX10_feed_12 (tgt := 17) (by decide) (fun c_2 => ?_) (fun c_2 => ?_)
  · replace h := am_in h c_2
    refine am_aload_n C0 dX10_feed_17 0 rfl ?_
    refine am_iload_n C0 dX10_feed_18 1 rfl ?_
    obtain ⟨q_3, h_q_3, h⟩ := am_bind h
    refine am_callV C0 (m_M_types (σ := σ_1) (Nat.le_refl _) F x1  h_q_3) mm_yX10_types ln_RX10_170 (As := fun b => [.int x1]) (fun _ => rfl) (fun _ => rfl) (loM_7_0 kM0).1 (loM_7_0 kM0).2.1 rfl (Nat.le_trans (by decide) hd) rfl (Nat.le_of_ble_eq_true rfl) dX10_feed_19 ?_
    refine am_aload_n C0 dX10_feed_22 0 rfl ?_
    refine am_iload_n C0 dX10_feed_23 2 rfl ?_
    obtain ⟨q_4, h_q_4, h⟩ := am_bind h
    refine am_callV C0 (m_M_types (σ := q_3) (Nat.le_refl _) F x2  h_q_4) mm_yX10_types ln_RX10_170 (As := fun b => [.int x2]) (fun _ => rfl) (fun _ => rfl) (loM_7_0 kM0).1 (loM_7_0 kM0).2.1 rfl (Nat.le_trans (by decide) hd) rfl (Nat.le_of_ble_eq_true rfl) dX10_feed_24 ?_
    refine am_aload_n C0 dX10_feed_27 0 rfl ?_
    refine am_iload_n C0 dX10_feed_28 3 rfl ?_
    obtain ⟨q_5, h_q_5, h⟩ := am_bind h
    refine am_callV C0 (m_M_types (σ := q_4) (Nat.le_refl _) F x3  h_q_5) mm_yX10_types ln_RX10_170 (As := fun b => [.int x3]) (fun _ => rfl) (fun _ => rfl) (loM_7_0 kM0).1 (loM_7_0 kM0).2.1 rfl (Nat.le_trans (by decide) hd) rfl (Nat.le_of_ble_eq_true rfl) dX10_feed_29 ?_
    refine am_aload_n C0 dX10_feed_32 0 rfl ?_
    refine am_iload C0 dX10_feed_33 4 rfl ?_
    obtain ⟨q_6, h_q_6, h⟩ := am_bind h
    refine am_callV C0 (m_M_types (σ := q_5) (Nat.le_refl _) F x4  h_q_6) mm_yX10_types ln_RX10_170 (As := fun b => [.int x4]) (fun _ => rfl) (fun _ => rfl) (loM_7_0 kM0).1 (loM_7_0 kM0).2.1 rfl (Nat.le_trans (by decide) hd) rfl (Nat.le_of_ble_eq_true rfl) dX10_feed_35 ?_
    refine am_aload_n C0 dX10_feed_38 0 rfl ?_
    refine am_iload C0 dX10_feed_39 5 rfl ?_
    obtain ⟨q_7, h_q_7, h⟩ := am_bind h
    refine am_callV C0 (m_M_types (σ := q_6) (Nat.le_refl _) F x5  h_q_7) mm_yX10_types ln_RX10_170 (As := fun b => [.int x5]) (fun _ => rfl) (fun _ => rfl) (loM_7_0 kM0).1 (loM_7_0 kM0).2.1 rfl (Nat.le_trans (by decide) hd) rfl (Nat.le_of_ble_eq_true rfl) dX10_feed_41 ?_
    refine am_aload_n C0 dX10_feed_44 0 rfl ?_
    refine am_getI C0 ff_RX10_167 (loM_7_14 kM0).1 (loM_7_14 kM0).2.1 (loM_7_14 kM0).2.2.1 (loM_7_14 kM0).2.2.2 dX10_feed_45 ?_
    have e := Option.some.inj h
    subst e
    exact hret _ _ dX10_feed_48
  · replace h := am_ip h c_2
    refine am_iconst C0 dX10_feed_15 ci_m1 ?_
    have e := Option.some.inj h
    subst e
    exact hret _ _ dX10_feed_16
set_option maxRecDepth 100000 in
set_option maxHeartbeats 4000000 in
theorem m_M_feed {l : Launch} {d : Nat} {σ : am_SS} {q : Int32 × am_SS} (hd : 2 ≤ d) (F : Nat) (x1 : Int32) (x2 : Int32) (x3 : Int32) (x4 : Int32) (x5 : Int32) (h : M_feed F x1 x2 x3 x4 x5 σ = some q) : am_Met l yX10_feed cX10_feed 6 (some .int) d 0 0 LM (fun b => [.ref (b 0), .int x1, .int x2, .int x3, .int x4, .int x5]) σ (some (.int q.1)) q.2 :=
  am_metI (plainFor_of_name (by decide)) rfl (lv := fun b => [(0, .ref (b 0)), (1, .int x1), (2, .int x2), (3, .int x3), (4, .int x4), (5, .int x5)]) (fun _ => rfl) (fun _ => Nat.le_of_ble_eq_true rfl) (fun G C0 _ hret => k_M_feed C0 hd F hret x1 x2 x3 x4 x5 σ  h)
set_option maxRecDepth 100000 in
set_option maxHeartbeats 4000000 in
theorem k_M_end {G : am_T} {d0 : Nat} (C0 : am_C G cX10_end 2 RX10 LM d0) (hd : 2 ≤ d0) {q : Bool × am_SS} (hret : am_retI G cX10_end 2 (am_bI q.1) q.2) (x1 : Int32) (σ : am_SS) (h : M_end x1 σ = q) : am_K G 2 0 [(0, .ref (am_b G 0)), (1, .int x1)] [] σ := by
  unfold M_end at h
  refine am_aload_n C0 dX10_end_0 0 rfl ?_
  refine am_iconst C0 dX10_end_1 ci_0 ?_
  obtain ⟨σ_1, e_σ_1, h⟩ := am_lt h
  refine am_putI C0 e_σ_1 fp_RX10_131 (loM_7_0 kM0).1 (loM_7_0 kM0).2.1 (loM_7_0 kM0).2.2.1 (loM_7_0 kM0).2.2.2 rfl rfl dX10_end_2 ?_
  refine am_aload_n C0 dX10_end_5 0 rfl ?_
  refine am_iload_n C0 dX10_end_6 1 rfl ?_
  refine am_iconst C0 dX10_end_7 ci_0 ?_
  refine am_aload_n C0 dX10_end_8 0 rfl ?_
  refine am_getI C0 ff_RX10_167 (loM_7_14 kM0).1 (loM_7_14 kM0).2.1 (loM_7_14 kM0).2.2.1 (loM_7_14 kM0).2.2.2 dX10_end_9 ?_
  refine am_callV C0 (m_M_isIn (σ := σ_1) (Nat.le_refl _) x1 0 (σ_1 0 14)  rfl) mm_yX10_isIn ln_RX10_149 (As := fun b => [.int x1, .int 0, .int (σ_1 0 14)]) (fun _ => rfl) (fun _ => rfl) (loM_7_0 kM0).1 (loM_7_0 kM0).2.1 rfl (Nat.le_trans (by decide) hd) rfl (Nat.le_of_ble_eq_true rfl) dX10_end_12 ?_
  refine am_ifB_ne C0 dX10_end_15 (tgt := 20) (by decide) (fun c_3 => ?_) (fun c_3 => ?_)
  · replace h := am_ip h c_3
    refine am_aload_n C0 dX10_end_20 0 rfl ?_
    refine am_iload_n C0 dX10_end_21 1 rfl ?_
    obtain ⟨σ_4, e_σ_4, h⟩ := am_lt h
    refine am_putI C0 e_σ_4 fp_RX10_167 (loM_7_14 kM0).1 (loM_7_14 kM0).2.1 (loM_7_14 kM0).2.2.1 (loM_7_14 kM0).2.2.2 rfl rfl dX10_end_22 ?_
    refine am_iconst C0 dX10_end_25 ci_1 ?_
    have e := h
    subst e
    exact hret _ _ dX10_end_26
  · replace h := am_in h c_3
    refine am_iconst C0 dX10_end_18 ci_0 ?_
    have e := h
    subst e
    exact hret _ _ dX10_end_19
set_option maxRecDepth 100000 in
set_option maxHeartbeats 4000000 in
theorem m_M_end {l : Launch} {d : Nat} {σ : am_SS} {q : Bool × am_SS} (hd : 2 ≤ d) (x1 : Int32) (h : M_end x1 σ = q) : am_Met l yX10_end cX10_end 2 (some .boolean) d 0 0 LM (fun b => [.ref (b 0), .int x1]) σ (some (.int (am_bI q.1))) q.2 :=
  am_metI (plainFor_of_name (by decide)) (am_bI_nr _) (lv := fun b => [(0, .ref (b 0)), (1, .int x1)]) (fun _ => rfl) (fun _ => Nat.le_of_ble_eq_true rfl) (fun G C0 _ hret => k_M_end C0 hd hret x1 σ  h)
set_option maxRecDepth 100000 in
set_option maxHeartbeats 4000000 in
theorem k_M_raw {G : am_T} {d0 : Nat} (C0 : am_C G cX10_raw 2 RX10 LM d0) (hd : 1 ≤ d0) {σ : am_SS} {q : Int32} (hret : am_retI G cX10_raw 2 q σ) (x1 : Int32) (h : M_raw x1 σ = some q) : am_K G 2 0 [(0, .ref (am_b G 0)), (1, .int x1)] [] σ := by
  unfold M_raw at h
  refine am_iload_n C0 dX10_raw_0 1 rfl ?_
  refine am_aload_n C0 dX10_raw_1 0 rfl ?_
  refine am_getI C0 ff_RX10_167 (loM_7_14 kM0).1 (loM_7_14 kM0).2.1 (loM_7_14 kM0).2.2.1 (loM_7_14 kM0).2.2.2 dX10_raw_2 ?_
  refine am_icmp_ge C0 dX10_raw_5 (tgt := 17) (by decide) (fun c_1 => ?_) (fun c_1 => ?_)
  · replace h := am_in h c_1
    refine am_iconst C0 dX10_raw_17 ci_m1 ?_
    have e := Option.some.inj h
    subst e
    exact hret _ _ dX10_raw_18
  · replace h := am_ip h c_1
    refine am_aload_n C0 dX10_raw_8 0 rfl ?_
    refine am_getR C0 (j := 9) ff_RX10_34 (loM_7_13 kM0).1 (loM_7_13 kM0).2.1 (loM_7_13 kM0).2.2.1 (loM_7_13 kM0).2.2.2 dX10_raw_9 ?_
    refine am_iload_n C0 dX10_raw_12 1 rfl ?_
    obtain ⟨t_2, h_t_2, h⟩ := am_bind h
    refine am_iald C0 (ltM (tgM_7_13 kM0)) (tgM_7_13 kM0) (lnM_7_13 kM0) h_t_2 dX10_raw_13 ?_
    refine am_goto C0 dX10_raw_14 (tgt := 18) (by decide) ?_
    have e := Option.some.inj h
    subst e
    exact hret _ _ dX10_raw_18
set_option maxRecDepth 100000 in
set_option maxHeartbeats 4000000 in
theorem m_M_raw {l : Launch} {d : Nat} {σ : am_SS} {q : Int32} (hd : 1 ≤ d) (x1 : Int32) (h : M_raw x1 σ = some q) : am_Met l yX10_raw cX10_raw 2 (some .int) d 0 0 LM (fun b => [.ref (b 0), .int x1]) σ (some (.int q)) σ :=
  am_metI (plainFor_of_name (by decide)) rfl (lv := fun b => [(0, .ref (b 0)), (1, .int x1)]) (fun _ => rfl) (fun _ => Nat.le_of_ble_eq_true rfl) (fun G C0 _ hret => k_M_raw C0 hd hret x1  h)
set_option maxRecDepth 100000 in
set_option maxHeartbeats 4000000 in
theorem k_M_isLetter_p24 {G : am_T} {d0 : Nat} (C0 : am_C G cX10_isLetter 2 RX10 LM d0) (hd : 2 ≤ d0) {σ0 : am_SS} {q : Bool} (hret : am_retI G cX10_isLetter 2 (am_bI q) σ0) (h : M_isLetter_p24  = q) : am_K G 2 24 [] [] σ0 := by
  unfold M_isLetter_p24 at h
  refine am_iconst C0 dX10_isLetter_24 ci_1 ?_
  refine am_goto C0 dX10_isLetter_25 (tgt := 29) (by decide) ?_
  have e := h
  subst e
  exact hret _ _ dX10_isLetter_29
set_option maxRecDepth 100000 in
set_option maxHeartbeats 4000000 in
theorem k_M_isLetter {G : am_T} {d0 : Nat} (C0 : am_C G cX10_isLetter 2 RX10 LM d0) (hd : 2 ≤ d0) {σ0 : am_SS} {q : Bool} (hret : am_retI G cX10_isLetter 2 (am_bI q) σ0) (x1 : Int32) (h : M_isLetter x1 = q) : am_K G 2 0 [(0, .ref (am_b G 0)), (1, .int x1)] [] σ0 := by
  unfold M_isLetter at h
  refine am_aload_n C0 dX10_isLetter_0 0 rfl ?_
  refine am_iload_n C0 dX10_isLetter_1 1 rfl ?_
  refine am_bipush C0 dX10_isLetter_2 kb_97 ?_
  refine am_bipush C0 dX10_isLetter_4 kb_122 ?_
  refine am_callV C0 (m_M_isIn (σ := σ0) (Nat.le_refl _) x1 97 122  rfl) mm_yX10_isIn ln_RX10_149 (As := fun b => [.int x1, .int 97, .int 122]) (fun _ => rfl) (fun _ => rfl) (loM_7_0 kM0).1 (loM_7_0 kM0).2.1 rfl (Nat.le_trans (by decide) hd) rfl (Nat.le_of_ble_eq_true rfl) dX10_isLetter_6 ?_
  refine am_ifB_ne C0 dX10_isLetter_9 (tgt := 24) (by decide) (fun c_2 => ?_) (fun c_2 => ?_)
  · replace h := am_ip h c_2
    exact am_sub [] rfl (k_M_isLetter_p24 C0 hd hret   h)
  · replace h := am_in h c_2
    refine am_aload_n C0 dX10_isLetter_12 0 rfl ?_
    refine am_iload_n C0 dX10_isLetter_13 1 rfl ?_
    refine am_bipush C0 dX10_isLetter_14 kb_65 ?_
    refine am_bipush C0 dX10_isLetter_16 kb_90 ?_
    refine am_callV C0 (m_M_isIn (σ := σ0) (Nat.le_refl _) x1 65 90  rfl) mm_yX10_isIn ln_RX10_149 (As := fun b => [.int x1, .int 65, .int 90]) (fun _ => rfl) (fun _ => rfl) (loM_7_0 kM0).1 (loM_7_0 kM0).2.1 rfl (Nat.le_trans (by decide) hd) rfl (Nat.le_of_ble_eq_true rfl) dX10_isLetter_18 ?_
    refine am_ifB_eq C0 dX10_isLetter_21 (tgt := 28) (by decide) (fun c_4 => ?_) (fun c_4 => ?_)
    · replace h := am_in h c_4
      refine am_iconst C0 dX10_isLetter_28 ci_0 ?_
      have e := h
      subst e
      exact hret _ _ dX10_isLetter_29
    · replace h := am_ip h c_4
      exact am_sub [] rfl (k_M_isLetter_p24 C0 hd hret   h)
set_option maxRecDepth 100000 in
set_option maxHeartbeats 4000000 in
theorem m_M_isLetter {l : Launch} {d : Nat} {σ : am_SS} {q : Bool} (hd : 2 ≤ d) (x1 : Int32) (h : M_isLetter x1 = q) : am_Met l yX10_isLetter cX10_isLetter 2 (some .boolean) d 0 0 LM (fun b => [.ref (b 0), .int x1]) σ (some (.int (am_bI q))) σ :=
  am_metI (plainFor_of_name (by decide)) (am_bI_nr _) (lv := fun b => [(0, .ref (b 0)), (1, .int x1)]) (fun _ => rfl) (fun _ => Nat.le_of_ble_eq_true rfl) (fun G C0 _ hret => k_M_isLetter C0 hd hret x1  h)
set_option maxRecDepth 100000 in
set_option maxHeartbeats 4000000 in
theorem k_M_isDigit {G : am_T} {d0 : Nat} (C0 : am_C G cX10_isDigit 2 RX10 LM d0) (hd : 2 ≤ d0) {σ0 : am_SS} {q : Bool} (hret : am_retI G cX10_isDigit 2 (am_bI q) σ0) (x1 : Int32) (h : M_isDigit x1 = q) : am_K G 2 0 [(0, .ref (am_b G 0)), (1, .int x1)] [] σ0 := by
  unfold M_isDigit at h
  refine am_aload_n C0 dX10_isDigit_0 0 rfl ?_
  refine am_iload_n C0 dX10_isDigit_1 1 rfl ?_
  refine am_bipush C0 dX10_isDigit_2 kb_48 ?_
  refine am_bipush C0 dX10_isDigit_4 kb_57 ?_
  refine am_callV C0 (m_M_isIn (σ := σ0) (Nat.le_refl _) x1 48 57  rfl) mm_yX10_isIn ln_RX10_149 (As := fun b => [.int x1, .int 48, .int 57]) (fun _ => rfl) (fun _ => rfl) (loM_7_0 kM0).1 (loM_7_0 kM0).2.1 rfl (Nat.le_trans (by decide) hd) rfl (Nat.le_of_ble_eq_true rfl) dX10_isDigit_6 ?_
  have e := h
  subst e
  exact hret _ _ dX10_isDigit_9
set_option maxRecDepth 100000 in
set_option maxHeartbeats 4000000 in
theorem m_M_isDigit {l : Launch} {d : Nat} {σ : am_SS} {q : Bool} (hd : 2 ≤ d) (x1 : Int32) (h : M_isDigit x1 = q) : am_Met l yX10_isDigit cX10_isDigit 2 (some .boolean) d 0 0 LM (fun b => [.ref (b 0), .int x1]) σ (some (.int (am_bI q))) σ :=
  am_metI (plainFor_of_name (by decide)) (am_bI_nr _) (lv := fun b => [(0, .ref (b 0)), (1, .int x1)]) (fun _ => rfl) (fun _ => Nat.le_of_ble_eq_true rfl) (fun G C0 _ hret => k_M_isDigit C0 hd hret x1  h)
set_option maxRecDepth 100000 in
set_option maxHeartbeats 4000000 in
theorem k_M_isMarkSign_p60 {G : am_T} {d0 : Nat} (C0 : am_C G cX10_isMarkSign 2 RX10 LM d0) (hd : 1 ≤ d0) {σ0 : am_SS} {q : Bool} (hret : am_retI G cX10_isMarkSign 2 (am_bI q) σ0) (h : M_isMarkSign_p60  = q) : am_K G 2 60 [] [] σ0 := by
  unfold M_isMarkSign_p60 at h
  refine am_iconst C0 dX10_isMarkSign_60 ci_1 ?_
  refine am_goto C0 dX10_isMarkSign_61 (tgt := 65) (by decide) ?_
  have e := h
  subst e
  exact hret _ _ dX10_isMarkSign_65
set_option maxRecDepth 100000 in
set_option maxHeartbeats 4000000 in
theorem k_M_isMarkSign {G : am_T} {d0 : Nat} (C0 : am_C G cX10_isMarkSign 2 RX10 LM d0) (hd : 1 ≤ d0) {σ0 : am_SS} {q : Bool} (hret : am_retI G cX10_isMarkSign 2 (am_bI q) σ0) (x1 : Int32) (h : M_isMarkSign x1 = q) : am_K G 2 0 [(0, .ref (am_b G 0)), (1, .int x1)] [] σ0 := by
  unfold M_isMarkSign at h
  refine am_iload_n C0 dX10_isMarkSign_0 1 rfl ?_
  refine am_bipush C0 dX10_isMarkSign_1 kb_59 ?_
  refine am_icmp_eq C0 dX10_isMarkSign_3 (tgt := 60) (by decide) (fun c_1 => ?_) (fun c_1 => ?_)
  · replace h := am_ip h c_1
    exact am_sub [] rfl (k_M_isMarkSign_p60 C0 hd hret   h)
  · replace h := am_in h c_1
    refine am_iload_n C0 dX10_isMarkSign_6 1 rfl ?_
    refine am_bipush C0 dX10_isMarkSign_7 kb_43 ?_
    refine am_icmp_eq C0 dX10_isMarkSign_9 (tgt := 60) (by decide) (fun c_2 => ?_) (fun c_2 => ?_)
    · replace h := am_ip h c_2
      exact am_sub [] rfl (k_M_isMarkSign_p60 C0 hd hret   h)
    · replace h := am_in h c_2
      refine am_iload_n C0 dX10_isMarkSign_12 1 rfl ?_
      refine am_bipush C0 dX10_isMarkSign_13 kb_45 ?_
      refine am_icmp_eq C0 dX10_isMarkSign_15 (tgt := 60) (by decide) (fun c_3 => ?_) (fun c_3 => ?_)
      · replace h := am_ip h c_3
        exact am_sub [] rfl (k_M_isMarkSign_p60 C0 hd hret   h)
      · replace h := am_in h c_3
        refine am_iload_n C0 dX10_isMarkSign_18 1 rfl ?_
        refine am_bipush C0 dX10_isMarkSign_19 kb_42 ?_
        refine am_icmp_eq C0 dX10_isMarkSign_21 (tgt := 60) (by decide) (fun c_4 => ?_) (fun c_4 => ?_)
        · replace h := am_ip h c_4
          exact am_sub [] rfl (k_M_isMarkSign_p60 C0 hd hret   h)
        · replace h := am_in h c_4
          refine am_iload_n C0 dX10_isMarkSign_24 1 rfl ?_
          refine am_bipush C0 dX10_isMarkSign_25 kb_47 ?_
          refine am_icmp_eq C0 dX10_isMarkSign_27 (tgt := 60) (by decide) (fun c_5 => ?_) (fun c_5 => ?_)
          · replace h := am_ip h c_5
            exact am_sub [] rfl (k_M_isMarkSign_p60 C0 hd hret   h)
          · replace h := am_in h c_5
            refine am_iload_n C0 dX10_isMarkSign_30 1 rfl ?_
            refine am_bipush C0 dX10_isMarkSign_31 kb_40 ?_
            refine am_icmp_eq C0 dX10_isMarkSign_33 (tgt := 60) (by decide) (fun c_6 => ?_) (fun c_6 => ?_)
            · replace h := am_ip h c_6
              exact am_sub [] rfl (k_M_isMarkSign_p60 C0 hd hret   h)
            · replace h := am_in h c_6
              refine am_iload_n C0 dX10_isMarkSign_36 1 rfl ?_
              refine am_bipush C0 dX10_isMarkSign_37 kb_41 ?_
              refine am_icmp_eq C0 dX10_isMarkSign_39 (tgt := 60) (by decide) (fun c_7 => ?_) (fun c_7 => ?_)
              · replace h := am_ip h c_7
                exact am_sub [] rfl (k_M_isMarkSign_p60 C0 hd hret   h)
              · replace h := am_in h c_7
                refine am_iload_n C0 dX10_isMarkSign_42 1 rfl ?_
                refine am_bipush C0 dX10_isMarkSign_43 kb_60 ?_
                refine am_icmp_eq C0 dX10_isMarkSign_45 (tgt := 60) (by decide) (fun c_8 => ?_) (fun c_8 => ?_)
                · replace h := am_ip h c_8
                  exact am_sub [] rfl (k_M_isMarkSign_p60 C0 hd hret   h)
                · replace h := am_in h c_8
                  refine am_iload_n C0 dX10_isMarkSign_48 1 rfl ?_
                  refine am_bipush C0 dX10_isMarkSign_49 kb_61 ?_
                  refine am_icmp_eq C0 dX10_isMarkSign_51 (tgt := 60) (by decide) (fun c_9 => ?_) (fun c_9 => ?_)
                  · replace h := am_ip h c_9
                    exact am_sub [] rfl (k_M_isMarkSign_p60 C0 hd hret   h)
                  · replace h := am_in h c_9
                    refine am_iload_n C0 dX10_isMarkSign_54 1 rfl ?_
                    refine am_bipush C0 dX10_isMarkSign_55 kb_62 ?_
                    refine am_icmp_ne C0 dX10_isMarkSign_57 (tgt := 64) (by decide) (fun c_10 => ?_) (fun c_10 => ?_)
                    · replace h := am_in h c_10
                      refine am_iconst C0 dX10_isMarkSign_64 ci_0 ?_
                      have e := h
                      subst e
                      exact hret _ _ dX10_isMarkSign_65
                    · replace h := am_ip h c_10
                      exact am_sub [] rfl (k_M_isMarkSign_p60 C0 hd hret   h)
set_option maxRecDepth 100000 in
set_option maxHeartbeats 4000000 in
theorem m_M_isMarkSign {l : Launch} {d : Nat} {σ : am_SS} {q : Bool} (hd : 1 ≤ d) (x1 : Int32) (h : M_isMarkSign x1 = q) : am_Met l yX10_isMarkSign cX10_isMarkSign 2 (some .boolean) d 0 0 LM (fun b => [.ref (b 0), .int x1]) σ (some (.int (am_bI q))) σ :=
  am_metI (plainFor_of_name (by decide)) (am_bI_nr _) (lv := fun b => [(0, .ref (b 0)), (1, .int x1)]) (fun _ => rfl) (fun _ => Nat.le_of_ble_eq_true rfl) (fun G C0 _ hret => k_M_isMarkSign C0 hd hret x1  h)
set_option maxRecDepth 100000 in
set_option maxHeartbeats 4000000 in
theorem k_M_wordAt_l94 {G : am_T} {d0 : Nat} (C0 : am_C G cX10_wordAt 6 RX10 LM d0) (hd : 1 ≤ d0) (rec5 : Int32 → Int32 → Int32 → Int32 → am_SS → Option Int32) (F : Nat) {σ : am_SS} {q : Int32} (hret : am_retI G cX10_wordAt 6 q σ) (hrec5 : ∀ (x1 : Int32) (x2 : Int32) (x3 : Int32) (x4 : Int32), rec5 x1 x2 x3 x4 σ = some q → am_K G 6 5 [(0, .ref (am_b G 0)), (1, .int x1), (2, .int x2), (3, .int x3), (4, .int x4)] [] σ) : ∀ (n : Nat) (x1 : Int32) (x2 : Int32) (x3 : Int32) (x4 : Int32) (h : M_wordAt_l94 rec5 F n x1 x2 x3 x4 σ = some q), am_K G 6 94 [(0, .ref (am_b G 0)), (1, .int x1), (2, .int x2), (3, .int x3), (4, .int x4)] [] σ := by
  intro n
  induction n with
  | zero =>
    intro x1 x2 x3 x4 h
    rw [M_wordAt_l94] at h
    cases h
  | succ n ih =>
    intro x1 x2 x3 x4 h
    rw [M_wordAt_l94] at h
    refine am_aload_n C0 dX10_wordAt_94 0 rfl ?_
    refine am_getR C0 (j := 10) ff_RX10_37 (loM_7_19 kM0).1 (loM_7_19 kM0).2.1 (loM_7_19 kM0).2.2.1 (loM_7_19 kM0).2.2.2 dX10_wordAt_95 ?_
    refine am_iload C0 dX10_wordAt_98 4 rfl ?_
    obtain ⟨t_1, h_t_1, h⟩ := am_bind h
    refine am_iald C0 (ltM (tgM_7_19 kM0)) (tgM_7_19 kM0) (lnM_7_19 kM0) h_t_1 dX10_wordAt_100 ?_
    refine am_bipush C0 dX10_wordAt_101 kb_32 ?_
    refine am_icmp_eq C0 dX10_wordAt_103 (tgt := 115) (by decide) (fun c_2 => ?_) (fun c_2 => ?_)
    · replace h := am_ip h c_2
      refine am_goto C0 dX10_wordAt_115 (tgt := 5) (by decide) ?_
      exact am_sub [0, 1, 2, 3, 4] rfl (hrec5 x1 x2 x3 x4  h)
    · replace h := am_in h c_2
      refine am_iload C0 dX10_wordAt_106 4 rfl ?_
      refine am_iconst C0 dX10_wordAt_108 ci_1 ?_
      refine am_iadd C0 dX10_wordAt_109 ?_
      obtain ⟨x4_3, e_x4_3, h⟩ := am_lt h
      refine am_top e_x4_3 ?_
      refine am_istore C0 dX10_wordAt_110 (by decide) rfl (lv' := [(0, .ref (am_b G 0)), (1, .int x1), (2, .int x2), (3, .int x3), (4, .int x4_3)]) rfl ?_
      refine am_goto C0 dX10_wordAt_112 (tgt := 94) (by decide) ?_
      exact am_sub [0, 1, 2, 3, 4] rfl (ih x1 x2 x3 x4_3  h)
set_option maxRecDepth 100000 in
set_option maxHeartbeats 4000000 in
theorem k_M_wordAt_p88 {G : am_T} {d0 : Nat} (C0 : am_C G cX10_wordAt 6 RX10 LM d0) (hd : 1 ≤ d0) (rec5 : Int32 → Int32 → Int32 → Int32 → am_SS → Option Int32) (F : Nat) {σ : am_SS} {q : Int32} (hret : am_retI G cX10_wordAt 6 q σ) (hrec5 : ∀ (x1 : Int32) (x2 : Int32) (x3 : Int32) (x4 : Int32), rec5 x1 x2 x3 x4 σ = some q → am_K G 6 5 [(0, .ref (am_b G 0)), (1, .int x1), (2, .int x2), (3, .int x3), (4, .int x4)] [] σ) (x1 : Int32) (x2 : Int32) (x3 : Int32) (x4 : Int32) (h : M_wordAt_p88 rec5 F x1 x2 x3 x4 σ = some q) : am_K G 6 88 [(0, .ref (am_b G 0)), (1, .int x1), (2, .int x2), (3, .int x3), (4, .int x4)] [] σ := by
  unfold M_wordAt_p88 at h
  refine am_iload C0 dX10_wordAt_88 4 rfl ?_
  refine am_iconst C0 dX10_wordAt_90 ci_1 ?_
  refine am_iadd C0 dX10_wordAt_91 ?_
  obtain ⟨x4_1, e_x4_1, h⟩ := am_lt h
  refine am_top e_x4_1 ?_
  refine am_istore C0 dX10_wordAt_92 (by decide) rfl (lv' := [(0, .ref (am_b G 0)), (1, .int x1), (2, .int x2), (3, .int x3), (4, .int x4_1)]) rfl ?_
  exact am_sub [0, 1, 2, 3, 4] rfl (k_M_wordAt_l94 C0 hd rec5 F hret hrec5 F x1 x2 x3 x4_1  h)
set_option maxRecDepth 100000 in
set_option maxHeartbeats 4000000 in
theorem k_M_wordAt_p61 {G : am_T} {d0 : Nat} (C0 : am_C G cX10_wordAt 6 RX10 LM d0) (hd : 1 ≤ d0) (rec5 : Int32 → Int32 → Int32 → Int32 → am_SS → Option Int32) (F : Nat) {σ : am_SS} {q : Int32} (hret : am_retI G cX10_wordAt 6 q σ) (hrec5 : ∀ (x1 : Int32) (x2 : Int32) (x3 : Int32) (x4 : Int32), rec5 x1 x2 x3 x4 σ = some q → am_K G 6 5 [(0, .ref (am_b G 0)), (1, .int x1), (2, .int x2), (3, .int x3), (4, .int x4)] [] σ) (x1 : Int32) (x2 : Int32) (x3 : Int32) (x4 : Int32) (x5 : Int32) (h : M_wordAt_p61 rec5 F x1 x2 x3 x4 x5 σ = some q) : am_K G 6 61 [(0, .ref (am_b G 0)), (1, .int x1), (2, .int x2), (3, .int x3), (4, .int x4), (5, .int x5)] [] σ := by
  unfold M_wordAt_p61 at h
  refine am_iload_n C0 dX10_wordAt_61 1 rfl ?_
  refine am_iload C0 dX10_wordAt_62 5 rfl ?_
  refine am_iadd C0 dX10_wordAt_64 ?_
  refine am_iload_n C0 dX10_wordAt_65 2 rfl ?_
  refine am_icmp_ne C0 dX10_wordAt_66 (tgt := 88) (by decide) (fun c_1 => ?_) (fun c_1 => ?_)
  · replace h := am_in h c_1
    exact am_sub [0, 1, 2, 3, 4] rfl (k_M_wordAt_p88 C0 hd rec5 F hret hrec5 x1 x2 x3 x4  h)
  · replace h := am_ip h c_1
    refine am_aload_n C0 dX10_wordAt_69 0 rfl ?_
    refine am_getR C0 (j := 10) ff_RX10_37 (loM_7_19 kM0).1 (loM_7_19 kM0).2.1 (loM_7_19 kM0).2.2.1 (loM_7_19 kM0).2.2.2 dX10_wordAt_70 ?_
    refine am_iload C0 dX10_wordAt_73 4 rfl ?_
    refine am_iconst C0 dX10_wordAt_75 ci_1 ?_
    refine am_iadd C0 dX10_wordAt_76 ?_
    refine am_iload C0 dX10_wordAt_77 5 rfl ?_
    refine am_iadd C0 dX10_wordAt_79 ?_
    obtain ⟨t_2, h_t_2, h⟩ := am_bind h
    refine am_iald C0 (ltM (tgM_7_19 kM0)) (tgM_7_19 kM0) (lnM_7_19 kM0) h_t_2 dX10_wordAt_80 ?_
    refine am_bipush C0 dX10_wordAt_81 kb_32 ?_
    refine am_icmp_ne C0 dX10_wordAt_83 (tgt := 88) (by decide) (fun c_3 => ?_) (fun c_3 => ?_)
    · replace h := am_in h c_3
      exact am_sub [0, 1, 2, 3, 4] rfl (k_M_wordAt_p88 C0 hd rec5 F hret hrec5 x1 x2 x3 x4  h)
    · replace h := am_ip h c_3
      refine am_iload_n C0 dX10_wordAt_86 3 rfl ?_
      have e := Option.some.inj h
      subst e
      exact hret _ _ dX10_wordAt_87
set_option maxRecDepth 100000 in
set_option maxHeartbeats 4000000 in
theorem k_M_wordAt_l20 {G : am_T} {d0 : Nat} (C0 : am_C G cX10_wordAt 6 RX10 LM d0) (hd : 1 ≤ d0) (rec5 : Int32 → Int32 → Int32 → Int32 → am_SS → Option Int32) (F : Nat) {σ : am_SS} {q : Int32} (hret : am_retI G cX10_wordAt 6 q σ) (hrec5 : ∀ (x1 : Int32) (x2 : Int32) (x3 : Int32) (x4 : Int32), rec5 x1 x2 x3 x4 σ = some q → am_K G 6 5 [(0, .ref (am_b G 0)), (1, .int x1), (2, .int x2), (3, .int x3), (4, .int x4)] [] σ) : ∀ (n : Nat) (x1 : Int32) (x2 : Int32) (x3 : Int32) (x4 : Int32) (x5 : Int32) (h : M_wordAt_l20 rec5 F n x1 x2 x3 x4 x5 σ = some q), am_K G 6 20 [(0, .ref (am_b G 0)), (1, .int x1), (2, .int x2), (3, .int x3), (4, .int x4), (5, .int x5)] [] σ := by
  intro n
  induction n with
  | zero =>
    intro x1 x2 x3 x4 x5 h
    rw [M_wordAt_l20] at h
    cases h
  | succ n ih =>
    intro x1 x2 x3 x4 x5 h
    rw [M_wordAt_l20] at h
    refine am_iload_n C0 dX10_wordAt_20 1 rfl ?_
    refine am_iload C0 dX10_wordAt_21 5 rfl ?_
    refine am_iadd C0 dX10_wordAt_23 ?_
    refine am_iload_n C0 dX10_wordAt_24 2 rfl ?_
    refine am_icmp_ge C0 dX10_wordAt_25 (tgt := 61) (by decide) (fun c_1 => ?_) (fun c_1 => ?_)
    · replace h := am_in h c_1
      exact am_sub [0, 1, 2, 3, 4, 5] rfl (k_M_wordAt_p61 C0 hd rec5 F hret hrec5 x1 x2 x3 x4 x5  h)
    · replace h := am_ip h c_1
      refine am_aload_n C0 dX10_wordAt_28 0 rfl ?_
      refine am_getR C0 (j := 10) ff_RX10_37 (loM_7_19 kM0).1 (loM_7_19 kM0).2.1 (loM_7_19 kM0).2.2.1 (loM_7_19 kM0).2.2.2 dX10_wordAt_29 ?_
      refine am_iload C0 dX10_wordAt_32 4 rfl ?_
      refine am_iconst C0 dX10_wordAt_34 ci_1 ?_
      refine am_iadd C0 dX10_wordAt_35 ?_
      refine am_iload C0 dX10_wordAt_36 5 rfl ?_
      refine am_iadd C0 dX10_wordAt_38 ?_
      obtain ⟨t_2, h_t_2, h⟩ := am_bind h
      refine am_iald C0 (ltM (tgM_7_19 kM0)) (tgM_7_19 kM0) (lnM_7_19 kM0) h_t_2 dX10_wordAt_39 ?_
      refine am_aload_n C0 dX10_wordAt_40 0 rfl ?_
      refine am_getR C0 (j := 9) ff_RX10_34 (loM_7_13 kM0).1 (loM_7_13 kM0).2.1 (loM_7_13 kM0).2.2.1 (loM_7_13 kM0).2.2.2 dX10_wordAt_41 ?_
      refine am_iload_n C0 dX10_wordAt_44 1 rfl ?_
      refine am_iload C0 dX10_wordAt_45 5 rfl ?_
      refine am_iadd C0 dX10_wordAt_47 ?_
      obtain ⟨t_3, h_t_3, h⟩ := am_bind h
      refine am_iald C0 (ltM (tgM_7_13 kM0)) (tgM_7_13 kM0) (lnM_7_13 kM0) h_t_3 dX10_wordAt_48 ?_
      refine am_icmp_ne C0 dX10_wordAt_49 (tgt := 61) (by decide) (fun c_4 => ?_) (fun c_4 => ?_)
      · replace h := am_in h c_4
        exact am_sub [0, 1, 2, 3, 4, 5] rfl (k_M_wordAt_p61 C0 hd rec5 F hret hrec5 x1 x2 x3 x4 x5  h)
      · replace h := am_ip h c_4
        refine am_iload C0 dX10_wordAt_52 5 rfl ?_
        refine am_iconst C0 dX10_wordAt_54 ci_1 ?_
        refine am_iadd C0 dX10_wordAt_55 ?_
        obtain ⟨x5_5, e_x5_5, h⟩ := am_lt h
        refine am_top e_x5_5 ?_
        refine am_istore C0 dX10_wordAt_56 (by decide) rfl (lv' := [(0, .ref (am_b G 0)), (1, .int x1), (2, .int x2), (3, .int x3), (4, .int x4), (5, .int x5_5)]) rfl ?_
        refine am_goto C0 dX10_wordAt_58 (tgt := 20) (by decide) ?_
        exact am_sub [0, 1, 2, 3, 4, 5] rfl (ih x1 x2 x3 x4 x5_5  h)
set_option maxRecDepth 100000 in
set_option maxHeartbeats 4000000 in
theorem k_M_wordAt_l5 {G : am_T} {d0 : Nat} (C0 : am_C G cX10_wordAt 6 RX10 LM d0) (hd : 1 ≤ d0) (F : Nat) {σ : am_SS} {q : Int32} (hret : am_retI G cX10_wordAt 6 q σ) : ∀ (n : Nat) (x1 : Int32) (x2 : Int32) (x3 : Int32) (x4 : Int32) (h : M_wordAt_l5 F n x1 x2 x3 x4 σ = some q), am_K G 6 5 [(0, .ref (am_b G 0)), (1, .int x1), (2, .int x2), (3, .int x3), (4, .int x4)] [] σ := by
  intro n
  induction n with
  | zero =>
    intro x1 x2 x3 x4 h
    rw [M_wordAt_l5] at h
    cases h
  | succ n ih =>
    intro x1 x2 x3 x4 h
    rw [M_wordAt_l5] at h
    refine am_iload C0 dX10_wordAt_5 4 rfl ?_
    refine am_sipush C0 dX10_wordAt_7 cs_132 ?_
    refine am_icmp_ge C0 dX10_wordAt_10 (tgt := 118) (by decide) (fun c_1 => ?_) (fun c_1 => ?_)
    · replace h := am_in h c_1
      refine am_iconst C0 dX10_wordAt_118 ci_m1 ?_
      have e := Option.some.inj h
      subst e
      exact hret _ _ dX10_wordAt_119
    · replace h := am_ip h c_1
      refine am_iconst C0 dX10_wordAt_13 ci_0 ?_
      refine am_istore C0 dX10_wordAt_14 (by decide) rfl (lv' := [(0, .ref (am_b G 0)), (1, .int x1), (2, .int x2), (3, .int x3), (4, .int x4), (5, .int 0)]) rfl ?_
      refine am_iload_n C0 dX10_wordAt_16 3 rfl ?_
      refine am_iconst C0 dX10_wordAt_17 ci_1 ?_
      refine am_iadd C0 dX10_wordAt_18 ?_
      obtain ⟨x3_2, e_x3_2, h⟩ := am_lt h
      refine am_top e_x3_2 ?_
      refine am_istore_n C0 dX10_wordAt_19 rfl (by decide) rfl (lv' := [(0, .ref (am_b G 0)), (1, .int x1), (2, .int x2), (3, .int x3_2), (4, .int x4), (5, .int 0)]) rfl ?_
      exact am_sub [0, 1, 2, 3, 4, 5] rfl (k_M_wordAt_l20 C0 hd _ F hret (fun z1 z2 z3 z4 z => ih z1 z2 z3 z4 z) F x1 x2 x3_2 x4 0  h)
set_option maxRecDepth 100000 in
set_option maxHeartbeats 4000000 in
theorem k_M_wordAt {G : am_T} {d0 : Nat} (C0 : am_C G cX10_wordAt 6 RX10 LM d0) (hd : 1 ≤ d0) (F : Nat) {σ : am_SS} {q : Int32} (hret : am_retI G cX10_wordAt 6 q σ) (x1 : Int32) (x2 : Int32) (h : M_wordAt F x1 x2 σ = some q) : am_K G 6 0 [(0, .ref (am_b G 0)), (1, .int x1), (2, .int x2)] [] σ := by
  unfold M_wordAt at h
  refine am_iconst C0 dX10_wordAt_0 ci_m1 ?_
  refine am_istore_n C0 dX10_wordAt_1 rfl (by decide) rfl (lv' := [(0, .ref (am_b G 0)), (1, .int x1), (2, .int x2), (3, .int (-1))]) rfl ?_
  refine am_iconst C0 dX10_wordAt_2 ci_0 ?_
  refine am_istore C0 dX10_wordAt_3 (by decide) rfl (lv' := [(0, .ref (am_b G 0)), (1, .int x1), (2, .int x2), (3, .int (-1)), (4, .int 0)]) rfl ?_
  exact am_sub [0, 1, 2, 3, 4] rfl (k_M_wordAt_l5 C0 hd F hret F x1 x2 (-1) 0  h)
set_option maxRecDepth 100000 in
set_option maxHeartbeats 4000000 in
theorem m_M_wordAt {l : Launch} {d : Nat} {σ : am_SS} {q : Int32} (hd : 1 ≤ d) (F : Nat) (x1 : Int32) (x2 : Int32) (h : M_wordAt F x1 x2 σ = some q) : am_Met l yX10_wordAt cX10_wordAt 6 (some .int) d 0 0 LM (fun b => [.ref (b 0), .int x1, .int x2]) σ (some (.int q)) σ :=
  am_metI (plainFor_of_name (by decide)) rfl (lv := fun b => [(0, .ref (b 0)), (1, .int x1), (2, .int x2)]) (fun _ => rfl) (fun _ => Nat.le_of_ble_eq_true rfl) (fun G C0 _ hret => k_M_wordAt C0 hd F hret x1 x2  h)
set_option maxRecDepth 100000 in
set_option maxHeartbeats 4000000 in
theorem k_M_reads_p26 {G : am_T} {d0 : Nat} (C0 : am_C G cX10_reads 2 RX10 LM d0) (hd : 3 ≤ d0) (rec0 : am_SS → Option am_SS) (F : Nat) {q : am_SS} (hret : am_retV G cX10_reads 2 q) (hrec0 : ∀ (σ : am_SS), rec0  σ = some q → am_K G 2 0 [(0, .ref (am_b G 0))] [] σ) (σ : am_SS) (h : M_reads_p26 rec0 F  σ = some q) : am_K G 2 26 [(0, .ref (am_b G 0))] [] σ := by
  unfold M_reads_p26 at h
  refine am_aload_n C0 dX10_reads_26 0 rfl ?_
  refine am_aload_n C0 dX10_reads_27 0 rfl ?_
  refine am_getI C0 ff_RX10_174 (loM_7_15 kM0).1 (loM_7_15 kM0).2.1 (loM_7_15 kM0).2.2.1 (loM_7_15 kM0).2.2.2 dX10_reads_28 ?_
  refine am_iconst C0 dX10_reads_31 ci_1 ?_
  refine am_iadd C0 dX10_reads_32 ?_
  obtain ⟨σ_1, e_σ_1, h⟩ := am_lt h
  refine am_putI C0 e_σ_1 fp_RX10_174 (loM_7_15 kM0).1 (loM_7_15 kM0).2.1 (loM_7_15 kM0).2.2.1 (loM_7_15 kM0).2.2.2 rfl rfl dX10_reads_33 ?_
  refine am_goto C0 dX10_reads_36 (tgt := 0) (by decide) ?_
  exact am_sub [0] rfl (hrec0  σ_1  h)
set_option maxRecDepth 100000 in
set_option maxHeartbeats 4000000 in
theorem k_M_reads_p223 {G : am_T} {d0 : Nat} (C0 : am_C G cX10_reads 2 RX10 LM d0) (hd : 3 ≤ d0) (rec171 : am_SS → Option am_SS) (F : Nat) {q : am_SS} (hret : am_retV G cX10_reads 2 q) (hrec171 : ∀ (σ : am_SS), rec171  σ = some q → am_K G 2 171 [(0, .ref (am_b G 0))] [] σ) (s1 : Int32) (σ : am_SS) (h : M_reads_p223 rec171 F s1 σ = some q) : am_K G 2 223 [(0, .ref (am_b G 0))] [.int s1, .ref (am_b G 0)] σ := by
  unfold M_reads_p223 at h
  obtain ⟨σ_1, e_σ_1, h⟩ := am_lt h
  refine am_putI C0 e_σ_1 fp_RX10_187 (loM_7_18 kM0).1 (loM_7_18 kM0).2.1 (loM_7_18 kM0).2.2.1 (loM_7_18 kM0).2.2.2 rfl rfl dX10_reads_223 ?_
  refine am_aload_n C0 dX10_reads_226 0 rfl ?_
  refine am_aload_n C0 dX10_reads_227 0 rfl ?_
  refine am_getI C0 ff_RX10_174 (loM_7_15 kM0).1 (loM_7_15 kM0).2.1 (loM_7_15 kM0).2.2.1 (loM_7_15 kM0).2.2.2 dX10_reads_228 ?_
  refine am_iconst C0 dX10_reads_231 ci_1 ?_
  refine am_iadd C0 dX10_reads_232 ?_
  obtain ⟨σ_2, e_σ_2, h⟩ := am_lt h
  refine am_putI C0 e_σ_2 fp_RX10_174 (loM_7_15 kM0).1 (loM_7_15 kM0).2.1 (loM_7_15 kM0).2.2.1 (loM_7_15 kM0).2.2.2 rfl rfl dX10_reads_233 ?_
  refine am_goto C0 dX10_reads_236 (tgt := 171) (by decide) ?_
  exact am_sub [0] rfl (hrec171  σ_2  h)
set_option maxRecDepth 100000 in
set_option maxHeartbeats 4000000 in
theorem k_M_reads_l171 {G : am_T} {d0 : Nat} (C0 : am_C G cX10_reads 2 RX10 LM d0) (hd : 3 ≤ d0) (F : Nat) {q : am_SS} (hret : am_retV G cX10_reads 2 q) : ∀ (n : Nat) (σ : am_SS) (h : M_reads_l171 F n  σ = some q), am_K G 2 171 [(0, .ref (am_b G 0))] [] σ := by
  intro n
  induction n with
  | zero =>
    intro σ h
    rw [M_reads_l171] at h
    cases h
  | succ n ih =>
    intro σ h
    rw [M_reads_l171] at h
    refine am_aload_n C0 dX10_reads_171 0 rfl ?_
    refine am_aload_n C0 dX10_reads_172 0 rfl ?_
    refine am_aload_n C0 dX10_reads_173 0 rfl ?_
    refine am_getI C0 ff_RX10_174 (loM_7_15 kM0).1 (loM_7_15 kM0).2.1 (loM_7_15 kM0).2.2.1 (loM_7_15 kM0).2.2.2 dX10_reads_174 ?_
    obtain ⟨q_1, h_q_1, h⟩ := am_bind h
    refine am_callV C0 (m_M_raw (σ := σ) (Nat.le_refl _) (σ 0 15)  h_q_1) mm_yX10_raw ln_RX10_177 (As := fun b => [.int (σ 0 15)]) (fun _ => rfl) (fun _ => rfl) (loM_7_0 kM0).1 (loM_7_0 kM0).2.1 rfl (Nat.le_trans (by decide) hd) rfl (Nat.le_of_ble_eq_true rfl) dX10_reads_177 ?_
    refine am_callV C0 (m_M_isDigit (σ := σ) (Nat.le_refl _) q_1  rfl) mm_yX10_isDigit ln_RX10_197 (As := fun b => [.int q_1]) (fun _ => rfl) (fun _ => rfl) (loM_7_0 kM0).1 (loM_7_0 kM0).2.1 rfl (Nat.le_trans (by decide) hd) rfl (Nat.le_of_ble_eq_true rfl) dX10_reads_180 ?_
    refine am_ifB_eq C0 dX10_reads_183 (tgt := 239) (by decide) (fun c_3 => ?_) (fun c_3 => ?_)
    · replace h := am_in h c_3
      refine am_aload_n C0 dX10_reads_239 0 rfl ?_
      refine am_getI C0 ff_RX10_174 (loM_7_15 kM0).1 (loM_7_15 kM0).2.1 (loM_7_15 kM0).2.2.1 (loM_7_15 kM0).2.2.2 dX10_reads_240 ?_
      refine am_aload_n C0 dX10_reads_243 0 rfl ?_
      refine am_getI C0 ff_RX10_181 (loM_7_16 kM0).1 (loM_7_16 kM0).2.1 (loM_7_16 kM0).2.2.1 (loM_7_16 kM0).2.2.2 dX10_reads_244 ?_
      refine am_isub C0 dX10_reads_247 ?_
      refine am_iconst C0 dX10_reads_248 ci_5 ?_
      refine am_icmp_ge C0 dX10_reads_249 (tgt := 273) (by decide) (fun c_4 => ?_) (fun c_4 => ?_)
      · replace h := am_in h c_4
        have e := Option.some.inj h
        subst e
        exact hret _ _ dX10_reads_273
      · replace h := am_ip h c_4
        refine am_aload_n C0 dX10_reads_252 0 rfl ?_
        refine am_iconst C0 dX10_reads_253 ci_3 ?_
        obtain ⟨σ_5, e_σ_5, h⟩ := am_lt h
        refine am_putI C0 e_σ_5 fp_RX10_184 (loM_7_17 kM0).1 (loM_7_17 kM0).2.1 (loM_7_17 kM0).2.2.1 (loM_7_17 kM0).2.2.2 rfl rfl dX10_reads_254 ?_
        refine am_goto C0 dX10_reads_257 (tgt := 273) (by decide) ?_
        have e := Option.some.inj h
        subst e
        exact hret _ _ dX10_reads_273
    · replace h := am_ip h c_3
      refine am_aload_n C0 dX10_reads_186 0 rfl ?_
      refine am_aload_n C0 dX10_reads_187 0 rfl ?_
      refine am_getI C0 ff_RX10_187 (loM_7_18 kM0).1 (loM_7_18 kM0).2.1 (loM_7_18 kM0).2.2.1 (loM_7_18 kM0).2.2.2 dX10_reads_188 ?_
      refine am_sipush C0 dX10_reads_191 cs_10000 ?_
      refine am_icmp_ge C0 dX10_reads_194 (tgt := 219) (by decide) (fun c_6 => ?_) (fun c_6 => ?_)
      · replace h := am_in h c_6
        refine am_aload_n C0 dX10_reads_219 0 rfl ?_
        refine am_getI C0 ff_RX10_187 (loM_7_18 kM0).1 (loM_7_18 kM0).2.1 (loM_7_18 kM0).2.2.1 (loM_7_18 kM0).2.2.2 dX10_reads_220 ?_
        exact am_sub [0] rfl (k_M_reads_p223 C0 hd _ F hret (fun zs z => ih zs z) (σ 0 18) σ  h)
      · replace h := am_ip h c_6
        refine am_bipush C0 dX10_reads_197 kb_10 ?_
        refine am_aload_n C0 dX10_reads_199 0 rfl ?_
        refine am_getI C0 ff_RX10_187 (loM_7_18 kM0).1 (loM_7_18 kM0).2.1 (loM_7_18 kM0).2.2.1 (loM_7_18 kM0).2.2.2 dX10_reads_200 ?_
        refine am_imul C0 dX10_reads_203 ?_
        refine am_aload_n C0 dX10_reads_204 0 rfl ?_
        refine am_aload_n C0 dX10_reads_205 0 rfl ?_
        refine am_getI C0 ff_RX10_174 (loM_7_15 kM0).1 (loM_7_15 kM0).2.1 (loM_7_15 kM0).2.2.1 (loM_7_15 kM0).2.2.2 dX10_reads_206 ?_
        obtain ⟨q_7, h_q_7, h⟩ := am_bind h
        refine am_callV C0 (m_M_raw (σ := σ) (Nat.le_refl _) (σ 0 15)  h_q_7) mm_yX10_raw ln_RX10_177 (As := fun b => [.int (σ 0 15)]) (fun _ => rfl) (fun _ => rfl) (loM_7_0 kM0).1 (loM_7_0 kM0).2.1 rfl (Nat.le_trans (by decide) hd) rfl (Nat.le_of_ble_eq_true rfl) dX10_reads_209 ?_
        refine am_iadd C0 dX10_reads_212 ?_
        refine am_bipush C0 dX10_reads_213 kb_48 ?_
        refine am_isub C0 dX10_reads_215 ?_
        refine am_goto C0 dX10_reads_216 (tgt := 223) (by decide) ?_
        exact am_sub [0] rfl (k_M_reads_p223 C0 hd _ F hret (fun zs z => ih zs z) (((10 * (σ 0 18)) + q_7) - 48) σ  h)
set_option maxRecDepth 100000 in
set_option maxHeartbeats 4000000 in
theorem k_M_reads_l95 {G : am_T} {d0 : Nat} (C0 : am_C G cX10_reads 2 RX10 LM d0) (hd : 3 ≤ d0) (F : Nat) {q : am_SS} (hret : am_retV G cX10_reads 2 q) : ∀ (n : Nat) (σ : am_SS) (h : M_reads_l95 F n  σ = some q), am_K G 2 95 [(0, .ref (am_b G 0))] [] σ := by
  intro n
  induction n with
  | zero =>
    intro σ h
    rw [M_reads_l95] at h
    cases h
  | succ n ih =>
    intro σ h
    rw [M_reads_l95] at h
    refine am_aload_n C0 dX10_reads_95 0 rfl ?_
    refine am_aload_n C0 dX10_reads_96 0 rfl ?_
    refine am_aload_n C0 dX10_reads_97 0 rfl ?_
    refine am_getI C0 ff_RX10_174 (loM_7_15 kM0).1 (loM_7_15 kM0).2.1 (loM_7_15 kM0).2.2.1 (loM_7_15 kM0).2.2.2 dX10_reads_98 ?_
    obtain ⟨q_1, h_q_1, h⟩ := am_bind h
    refine am_callV C0 (m_M_raw (σ := σ) (Nat.le_refl _) (σ 0 15)  h_q_1) mm_yX10_raw ln_RX10_177 (As := fun b => [.int (σ 0 15)]) (fun _ => rfl) (fun _ => rfl) (loM_7_0 kM0).1 (loM_7_0 kM0).2.1 rfl (Nat.le_trans (by decide) hd) rfl (Nat.le_of_ble_eq_true rfl) dX10_reads_101 ?_
    refine am_callV C0 (m_M_isLetter (σ := σ) (Nat.le_refl _) q_1  rfl) mm_yX10_isLetter ln_RX10_190 (As := fun b => [.int q_1]) (fun _ => rfl) (fun _ => rfl) (loM_7_0 kM0).1 (loM_7_0 kM0).2.1 rfl (Nat.le_trans (by decide) hd) rfl (Nat.le_of_ble_eq_true rfl) dX10_reads_104 ?_
    refine am_ifB_eq C0 dX10_reads_107 (tgt := 123) (by decide) (fun c_3 => ?_) (fun c_3 => ?_)
    · replace h := am_in h c_3
      refine am_aload_n C0 dX10_reads_123 0 rfl ?_
      refine am_aload_n C0 dX10_reads_124 0 rfl ?_
      refine am_aload_n C0 dX10_reads_125 0 rfl ?_
      refine am_getI C0 ff_RX10_181 (loM_7_16 kM0).1 (loM_7_16 kM0).2.1 (loM_7_16 kM0).2.2.1 (loM_7_16 kM0).2.2.2 dX10_reads_126 ?_
      refine am_aload_n C0 dX10_reads_129 0 rfl ?_
      refine am_getI C0 ff_RX10_174 (loM_7_15 kM0).1 (loM_7_15 kM0).2.1 (loM_7_15 kM0).2.2.1 (loM_7_15 kM0).2.2.2 dX10_reads_130 ?_
      obtain ⟨q_4, h_q_4, h⟩ := am_bind h
      refine am_callV C0 (m_M_wordAt (σ := σ) (Nat.le_refl _) F (σ 0 16) (σ 0 15)  h_q_4) mm_yX10_wordAt ln_RX10_193 (As := fun b => [.int (σ 0 16), .int (σ 0 15)]) (fun _ => rfl) (fun _ => rfl) (loM_7_0 kM0).1 (loM_7_0 kM0).2.1 rfl (Nat.le_trans (by decide) hd) rfl (Nat.le_of_ble_eq_true rfl) dX10_reads_133 ?_
      obtain ⟨σ_5, e_σ_5, h⟩ := am_lt h
      refine am_putI C0 e_σ_5 fp_RX10_187 (loM_7_18 kM0).1 (loM_7_18 kM0).2.1 (loM_7_18 kM0).2.2.1 (loM_7_18 kM0).2.2.2 rfl rfl dX10_reads_136 ?_
      refine am_aload_n C0 dX10_reads_139 0 rfl ?_
      refine am_getI C0 ff_RX10_187 (loM_7_18 kM0).1 (loM_7_18 kM0).2.1 (loM_7_18 kM0).2.2.1 (loM_7_18 kM0).2.2.2 dX10_reads_140 ?_
      refine am_iconst C0 dX10_reads_143 ci_m1 ?_
      refine am_icmp_eq C0 dX10_reads_144 (tgt := 273) (by decide) (fun c_6 => ?_) (fun c_6 => ?_)
      · replace h := am_ip h c_6
        have e := Option.some.inj h
        subst e
        exact hret _ _ dX10_reads_273
      · replace h := am_in h c_6
        refine am_aload_n C0 dX10_reads_147 0 rfl ?_
        refine am_iconst C0 dX10_reads_148 ci_2 ?_
        obtain ⟨σ_7, e_σ_7, h⟩ := am_lt h
        refine am_putI C0 e_σ_7 fp_RX10_184 (loM_7_17 kM0).1 (loM_7_17 kM0).2.1 (loM_7_17 kM0).2.2.1 (loM_7_17 kM0).2.2.2 rfl rfl dX10_reads_149 ?_
        refine am_goto C0 dX10_reads_152 (tgt := 273) (by decide) ?_
        have e := Option.some.inj h
        subst e
        exact hret _ _ dX10_reads_273
    · replace h := am_ip h c_3
      refine am_aload_n C0 dX10_reads_110 0 rfl ?_
      refine am_aload_n C0 dX10_reads_111 0 rfl ?_
      refine am_getI C0 ff_RX10_174 (loM_7_15 kM0).1 (loM_7_15 kM0).2.1 (loM_7_15 kM0).2.2.1 (loM_7_15 kM0).2.2.2 dX10_reads_112 ?_
      refine am_iconst C0 dX10_reads_115 ci_1 ?_
      refine am_iadd C0 dX10_reads_116 ?_
      obtain ⟨σ_8, e_σ_8, h⟩ := am_lt h
      refine am_putI C0 e_σ_8 fp_RX10_174 (loM_7_15 kM0).1 (loM_7_15 kM0).2.1 (loM_7_15 kM0).2.2.1 (loM_7_15 kM0).2.2.2 rfl rfl dX10_reads_117 ?_
      refine am_goto C0 dX10_reads_120 (tgt := 95) (by decide) ?_
      exact am_sub [0] rfl (ih  σ_8  h)
set_option maxRecDepth 100000 in
set_option maxHeartbeats 4000000 in
theorem k_M_reads_l0 {G : am_T} {d0 : Nat} (C0 : am_C G cX10_reads 2 RX10 LM d0) (hd : 3 ≤ d0) (F : Nat) {q : am_SS} (hret : am_retV G cX10_reads 2 q) : ∀ (n : Nat) (σ : am_SS) (h : M_reads_l0 F n  σ = some q), am_K G 2 0 [(0, .ref (am_b G 0))] [] σ := by
  intro n
  induction n with
  | zero =>
    intro σ h
    rw [M_reads_l0] at h
    cases h
  | succ n ih =>
    intro σ h
    rw [M_reads_l0] at h
    refine am_aload_n C0 dX10_reads_0 0 rfl ?_
    refine am_aload_n C0 dX10_reads_1 0 rfl ?_
    refine am_getI C0 ff_RX10_174 (loM_7_15 kM0).1 (loM_7_15 kM0).2.1 (loM_7_15 kM0).2.2.1 (loM_7_15 kM0).2.2.2 dX10_reads_2 ?_
    obtain ⟨q_1, h_q_1, h⟩ := am_bind h
    refine am_callV C0 (m_M_raw (σ := σ) (Nat.le_refl _) (σ 0 15)  h_q_1) mm_yX10_raw ln_RX10_177 (As := fun b => [.int (σ 0 15)]) (fun _ => rfl) (fun _ => rfl) (loM_7_0 kM0).1 (loM_7_0 kM0).2.1 rfl (Nat.le_trans (by decide) hd) rfl (Nat.le_of_ble_eq_true rfl) dX10_reads_5 ?_
    refine am_bipush C0 dX10_reads_8 kb_32 ?_
    refine am_icmp_eq C0 dX10_reads_10 (tgt := 26) (by decide) (fun c_2 => ?_) (fun c_2 => ?_)
    · replace h := am_ip h c_2
      exact am_sub [0] rfl (k_M_reads_p26 C0 hd _ F hret (fun zs z => ih zs z)  σ  h)
    · replace h := am_in h c_2
      refine am_aload_n C0 dX10_reads_13 0 rfl ?_
      refine am_aload_n C0 dX10_reads_14 0 rfl ?_
      refine am_getI C0 ff_RX10_174 (loM_7_15 kM0).1 (loM_7_15 kM0).2.1 (loM_7_15 kM0).2.2.1 (loM_7_15 kM0).2.2.2 dX10_reads_15 ?_
      obtain ⟨q_3, h_q_3, h⟩ := am_bind h
      refine am_callV C0 (m_M_raw (σ := σ) (Nat.le_refl _) (σ 0 15)  h_q_3) mm_yX10_raw ln_RX10_177 (As := fun b => [.int (σ 0 15)]) (fun _ => rfl) (fun _ => rfl) (loM_7_0 kM0).1 (loM_7_0 kM0).2.1 rfl (Nat.le_trans (by decide) hd) rfl (Nat.le_of_ble_eq_true rfl) dX10_reads_18 ?_
      refine am_bipush C0 dX10_reads_21 kb_10 ?_
      refine am_icmp_ne C0 dX10_reads_23 (tgt := 39) (by decide) (fun c_4 => ?_) (fun c_4 => ?_)
      · replace h := am_in h c_4
        refine am_aload_n C0 dX10_reads_39 0 rfl ?_
        refine am_aload_n C0 dX10_reads_40 0 rfl ?_
        refine am_getI C0 ff_RX10_174 (loM_7_15 kM0).1 (loM_7_15 kM0).2.1 (loM_7_15 kM0).2.2.1 (loM_7_15 kM0).2.2.2 dX10_reads_41 ?_
        obtain ⟨σ_5, e_σ_5, h⟩ := am_lt h
        refine am_putI C0 e_σ_5 fp_RX10_181 (loM_7_16 kM0).1 (loM_7_16 kM0).2.1 (loM_7_16 kM0).2.2.1 (loM_7_16 kM0).2.2.2 rfl rfl dX10_reads_44 ?_
        refine am_aload_n C0 dX10_reads_47 0 rfl ?_
        refine am_iconst C0 dX10_reads_48 ci_1 ?_
        obtain ⟨σ_6, e_σ_6, h⟩ := am_lt h
        refine am_putI C0 e_σ_6 fp_RX10_184 (loM_7_17 kM0).1 (loM_7_17 kM0).2.1 (loM_7_17 kM0).2.2.1 (loM_7_17 kM0).2.2.2 rfl rfl dX10_reads_49 ?_
        refine am_aload_n C0 dX10_reads_52 0 rfl ?_
        refine am_aload_n C0 dX10_reads_53 0 rfl ?_
        refine am_getI C0 ff_RX10_174 (loM_7_15 kM0).1 (loM_7_15 kM0).2.1 (loM_7_15 kM0).2.2.1 (loM_7_15 kM0).2.2.2 dX10_reads_54 ?_
        obtain ⟨q_7, h_q_7, h⟩ := am_bind h
        refine am_callV C0 (m_M_raw (σ := σ_6) (Nat.le_refl _) (σ_6 0 15)  h_q_7) mm_yX10_raw ln_RX10_177 (As := fun b => [.int (σ_6 0 15)]) (fun _ => rfl) (fun _ => rfl) (loM_7_0 kM0).1 (loM_7_0 kM0).2.1 rfl (Nat.le_trans (by decide) hd) rfl (Nat.le_of_ble_eq_true rfl) dX10_reads_57 ?_
        refine am_istore_n C0 dX10_reads_60 rfl (by decide) rfl (lv' := [(0, .ref (am_b G 0)), (1, .int q_7)]) rfl ?_
        refine am_iload_n C0 dX10_reads_61 1 rfl ?_
        refine am_iconst C0 dX10_reads_62 ci_m1 ?_
        refine am_icmp_ne C0 dX10_reads_63 (tgt := 72) (by decide) (fun c_8 => ?_) (fun c_8 => ?_)
        · replace h := am_in h c_8
          refine am_aload_n C0 dX10_reads_72 0 rfl ?_
          refine am_aload_n C0 dX10_reads_73 0 rfl ?_
          refine am_getI C0 ff_RX10_174 (loM_7_15 kM0).1 (loM_7_15 kM0).2.1 (loM_7_15 kM0).2.2.1 (loM_7_15 kM0).2.2.2 dX10_reads_74 ?_
          refine am_iconst C0 dX10_reads_77 ci_1 ?_
          refine am_iadd C0 dX10_reads_78 ?_
          obtain ⟨σ_9, e_σ_9, h⟩ := am_lt h
          refine am_putI C0 e_σ_9 fp_RX10_174 (loM_7_15 kM0).1 (loM_7_15 kM0).2.1 (loM_7_15 kM0).2.2.1 (loM_7_15 kM0).2.2.2 rfl rfl dX10_reads_79 ?_
          refine am_aload_n C0 dX10_reads_82 0 rfl ?_
          refine am_iload_n C0 dX10_reads_83 1 rfl ?_
          obtain ⟨σ_10, e_σ_10, h⟩ := am_lt h
          refine am_putI C0 e_σ_10 fp_RX10_187 (loM_7_18 kM0).1 (loM_7_18 kM0).2.1 (loM_7_18 kM0).2.2.1 (loM_7_18 kM0).2.2.2 rfl rfl dX10_reads_84 ?_
          refine am_aload_n C0 dX10_reads_87 0 rfl ?_
          refine am_iload_n C0 dX10_reads_88 1 rfl ?_
          refine am_callV C0 (m_M_isLetter (σ := σ_10) (Nat.le_refl _) q_7  rfl) mm_yX10_isLetter ln_RX10_190 (As := fun b => [.int q_7]) (fun _ => rfl) (fun _ => rfl) (loM_7_0 kM0).1 (loM_7_0 kM0).2.1 rfl (Nat.le_trans (by decide) hd) rfl (Nat.le_of_ble_eq_true rfl) dX10_reads_89 ?_
          refine am_ifB_eq C0 dX10_reads_92 (tgt := 155) (by decide) (fun c_12 => ?_) (fun c_12 => ?_)
          · replace h := am_in h c_12
            refine am_aload_n C0 dX10_reads_155 0 rfl ?_
            refine am_iload_n C0 dX10_reads_156 1 rfl ?_
            refine am_callV C0 (m_M_isDigit (σ := σ_10) (Nat.le_refl _) q_7  rfl) mm_yX10_isDigit ln_RX10_197 (As := fun b => [.int q_7]) (fun _ => rfl) (fun _ => rfl) (loM_7_0 kM0).1 (loM_7_0 kM0).2.1 rfl (Nat.le_trans (by decide) hd) rfl (Nat.le_of_ble_eq_true rfl) dX10_reads_157 ?_
            refine am_ifB_eq C0 dX10_reads_160 (tgt := 260) (by decide) (fun c_14 => ?_) (fun c_14 => ?_)
            · replace h := am_in h c_14
              refine am_aload_n C0 dX10_reads_260 0 rfl ?_
              refine am_iload_n C0 dX10_reads_261 1 rfl ?_
              refine am_callV C0 (m_M_isMarkSign (σ := σ_10) (Nat.le_refl _) q_7  rfl) mm_yX10_isMarkSign ln_RX10_200 (As := fun b => [.int q_7]) (fun _ => rfl) (fun _ => rfl) (loM_7_0 kM0).1 (loM_7_0 kM0).2.1 rfl (Nat.le_trans (by decide) hd) rfl (Nat.le_of_ble_eq_true rfl) dX10_reads_262 ?_
              refine am_ifB_eq C0 dX10_reads_265 (tgt := 273) (by decide) (fun c_16 => ?_) (fun c_16 => ?_)
              · replace h := am_in h c_16
                have e := Option.some.inj h
                subst e
                exact hret _ _ dX10_reads_273
              · replace h := am_ip h c_16
                refine am_aload_n C0 dX10_reads_268 0 rfl ?_
                refine am_iconst C0 dX10_reads_269 ci_4 ?_
                obtain ⟨σ_17, e_σ_17, h⟩ := am_lt h
                refine am_putI C0 e_σ_17 fp_RX10_184 (loM_7_17 kM0).1 (loM_7_17 kM0).2.1 (loM_7_17 kM0).2.2.1 (loM_7_17 kM0).2.2.2 rfl rfl dX10_reads_270 ?_
                have e := Option.some.inj h
                subst e
                exact hret _ _ dX10_reads_273
            · replace h := am_ip h c_14
              refine am_aload_n C0 dX10_reads_163 0 rfl ?_
              refine am_iload_n C0 dX10_reads_164 1 rfl ?_
              refine am_bipush C0 dX10_reads_165 kb_48 ?_
              refine am_isub C0 dX10_reads_167 ?_
              obtain ⟨σ_18, e_σ_18, h⟩ := am_lt h
              refine am_putI C0 e_σ_18 fp_RX10_187 (loM_7_18 kM0).1 (loM_7_18 kM0).2.1 (loM_7_18 kM0).2.2.1 (loM_7_18 kM0).2.2.2 rfl rfl dX10_reads_168 ?_
              exact am_sub [0] rfl (k_M_reads_l171 C0 hd F hret F  σ_18  h)
          · replace h := am_ip h c_12
            exact am_sub [0] rfl (k_M_reads_l95 C0 hd F hret F  σ_10  h)
        · replace h := am_ip h c_8
          refine am_aload_n C0 dX10_reads_66 0 rfl ?_
          refine am_iconst C0 dX10_reads_67 ci_0 ?_
          obtain ⟨σ_19, e_σ_19, h⟩ := am_lt h
          refine am_putI C0 e_σ_19 fp_RX10_184 (loM_7_17 kM0).1 (loM_7_17 kM0).2.1 (loM_7_17 kM0).2.2.1 (loM_7_17 kM0).2.2.2 rfl rfl dX10_reads_68 ?_
          have e := Option.some.inj h
          subst e
          exact hret _ _ dX10_reads_71
      · replace h := am_ip h c_4
        exact am_sub [0] rfl (k_M_reads_p26 C0 hd _ F hret (fun zs z => ih zs z)  σ  h)
set_option maxRecDepth 100000 in
set_option maxHeartbeats 4000000 in
theorem m_M_reads {l : Launch} {d : Nat} {σ : am_SS} {q : am_SS} (hd : 3 ≤ d) (F : Nat) (h : M_reads F  σ = some q) : am_Met l yX10_reads cX10_reads 2 none d 0 0 LM (fun b => [.ref (b 0)]) σ none q :=
  am_metV (plainFor_of_name (by decide)) (lv := fun b => [(0, .ref (b 0))]) (fun _ => rfl) (fun _ => Nat.le_of_ble_eq_true rfl) (fun G C0 _ hret => am_sub [0] rfl (k_M_reads_l0 C0 hd F hret F  σ  h))
set_option maxRecDepth 100000 in
set_option maxHeartbeats 4000000 in
theorem k_M_errs {G : am_T} {d0 : Nat} (C0 : am_C G cX10_errs 2 RX10 LM d0) (hd : 1 ≤ d0) {q : Int32 × am_SS} (hret : am_retI G cX10_errs 2 q.1 q.2) (x1 : Int32) (σ : am_SS) (h : M_errs x1 σ = q) : am_K G 2 0 [(0, .ref (am_b G 0)), (1, .int x1)] [] σ := by
  unfold M_errs at h
  refine am_aload_n C0 dX10_errs_0 0 rfl ?_
  refine am_iload_n C0 dX10_errs_1 1 rfl ?_
  obtain ⟨σ_1, e_σ_1, h⟩ := am_lt h
  refine am_putI C0 e_σ_1 fp_RX10_203 (loM_7_32 kM0).1 (loM_7_32 kM0).2.1 (loM_7_32 kM0).2.2.1 (loM_7_32 kM0).2.2.2 rfl rfl dX10_errs_2 ?_
  refine am_aload_n C0 dX10_errs_5 0 rfl ?_
  refine am_aload_n C0 dX10_errs_6 0 rfl ?_
  refine am_getI C0 ff_RX10_181 (loM_7_16 kM0).1 (loM_7_16 kM0).2.1 (loM_7_16 kM0).2.2.1 (loM_7_16 kM0).2.2.2 dX10_errs_7 ?_
  obtain ⟨σ_2, e_σ_2, h⟩ := am_lt h
  refine am_putI C0 e_σ_2 fp_RX10_206 (loM_7_33 kM0).1 (loM_7_33 kM0).2.1 (loM_7_33 kM0).2.2.1 (loM_7_33 kM0).2.2.2 rfl rfl dX10_errs_10 ?_
  refine am_iconst C0 dX10_errs_13 ci_m1 ?_
  have e := h
  subst e
  exact hret _ _ dX10_errs_14
set_option maxRecDepth 100000 in
set_option maxHeartbeats 4000000 in
theorem m_M_errs {l : Launch} {d : Nat} {σ : am_SS} {q : Int32 × am_SS} (hd : 1 ≤ d) (x1 : Int32) (h : M_errs x1 σ = q) : am_Met l yX10_errs cX10_errs 2 (some .int) d 0 0 LM (fun b => [.ref (b 0), .int x1]) σ (some (.int q.1)) q.2 :=
  am_metI (plainFor_of_name (by decide)) rfl (lv := fun b => [(0, .ref (b 0)), (1, .int x1)]) (fun _ => rfl) (fun _ => Nat.le_of_ble_eq_true rfl) (fun G C0 _ hret => k_M_errs C0 hd hret x1 σ  h)
set_option maxRecDepth 100000 in
set_option maxHeartbeats 4000000 in
theorem k_M_isWord {G : am_T} {d0 : Nat} (C0 : am_C G cX10_isWord 2 RX10 LM d0) (hd : 1 ≤ d0) {σ : am_SS} {q : Bool} (hret : am_retI G cX10_isWord 2 (am_bI q) σ) (x1 : Int32) (h : M_isWord x1 σ = q) : am_K G 2 0 [(0, .ref (am_b G 0)), (1, .int x1)] [] σ := by
  unfold M_isWord at h
  refine am_aload_n C0 dX10_isWord_0 0 rfl ?_
  refine am_getI C0 ff_RX10_184 (loM_7_17 kM0).1 (loM_7_17 kM0).2.1 (loM_7_17 kM0).2.2.1 (loM_7_17 kM0).2.2.2 dX10_isWord_1 ?_
  refine am_iconst C0 dX10_isWord_4 ci_2 ?_
  refine am_icmp_ne C0 dX10_isWord_5 (tgt := 20) (by decide) (fun c_1 => ?_) (fun c_1 => ?_)
  · replace h := am_in h c_1
    refine am_iconst C0 dX10_isWord_20 ci_0 ?_
    have e := h
    subst e
    exact hret _ _ dX10_isWord_21
  · replace h := am_ip h c_1
    refine am_aload_n C0 dX10_isWord_8 0 rfl ?_
    refine am_getI C0 ff_RX10_187 (loM_7_18 kM0).1 (loM_7_18 kM0).2.1 (loM_7_18 kM0).2.2.1 (loM_7_18 kM0).2.2.2 dX10_isWord_9 ?_
    refine am_iload_n C0 dX10_isWord_12 1 rfl ?_
    refine am_icmp_ne C0 dX10_isWord_13 (tgt := 20) (by decide) (fun c_2 => ?_) (fun c_2 => ?_)
    · replace h := am_in h c_2
      refine am_iconst C0 dX10_isWord_20 ci_0 ?_
      have e := h
      subst e
      exact hret _ _ dX10_isWord_21
    · replace h := am_ip h c_2
      refine am_iconst C0 dX10_isWord_16 ci_1 ?_
      refine am_goto C0 dX10_isWord_17 (tgt := 21) (by decide) ?_
      have e := h
      subst e
      exact hret _ _ dX10_isWord_21
set_option maxRecDepth 100000 in
set_option maxHeartbeats 4000000 in
theorem m_M_isWord {l : Launch} {d : Nat} {σ : am_SS} {q : Bool} (hd : 1 ≤ d) (x1 : Int32) (h : M_isWord x1 σ = q) : am_Met l yX10_isWord cX10_isWord 2 (some .boolean) d 0 0 LM (fun b => [.ref (b 0), .int x1]) σ (some (.int (am_bI q))) σ :=
  am_metI (plainFor_of_name (by decide)) (am_bI_nr _) (lv := fun b => [(0, .ref (b 0)), (1, .int x1)]) (fun _ => rfl) (fun _ => Nat.le_of_ble_eq_true rfl) (fun G C0 _ hret => k_M_isWord C0 hd hret x1  h)
set_option maxRecDepth 100000 in
set_option maxHeartbeats 4000000 in
theorem k_M_isSign {G : am_T} {d0 : Nat} (C0 : am_C G cX10_isSign 2 RX10 LM d0) (hd : 1 ≤ d0) {σ : am_SS} {q : Bool} (hret : am_retI G cX10_isSign 2 (am_bI q) σ) (x1 : Int32) (h : M_isSign x1 σ = q) : am_K G 2 0 [(0, .ref (am_b G 0)), (1, .int x1)] [] σ := by
  unfold M_isSign at h
  refine am_aload_n C0 dX10_isSign_0 0 rfl ?_
  refine am_getI C0 ff_RX10_184 (loM_7_17 kM0).1 (loM_7_17 kM0).2.1 (loM_7_17 kM0).2.2.1 (loM_7_17 kM0).2.2.2 dX10_isSign_1 ?_
  refine am_iconst C0 dX10_isSign_4 ci_4 ?_
  refine am_icmp_ne C0 dX10_isSign_5 (tgt := 20) (by decide) (fun c_1 => ?_) (fun c_1 => ?_)
  · replace h := am_in h c_1
    refine am_iconst C0 dX10_isSign_20 ci_0 ?_
    have e := h
    subst e
    exact hret _ _ dX10_isSign_21
  · replace h := am_ip h c_1
    refine am_aload_n C0 dX10_isSign_8 0 rfl ?_
    refine am_getI C0 ff_RX10_187 (loM_7_18 kM0).1 (loM_7_18 kM0).2.1 (loM_7_18 kM0).2.2.1 (loM_7_18 kM0).2.2.2 dX10_isSign_9 ?_
    refine am_iload_n C0 dX10_isSign_12 1 rfl ?_
    refine am_icmp_ne C0 dX10_isSign_13 (tgt := 20) (by decide) (fun c_2 => ?_) (fun c_2 => ?_)
    · replace h := am_in h c_2
      refine am_iconst C0 dX10_isSign_20 ci_0 ?_
      have e := h
      subst e
      exact hret _ _ dX10_isSign_21
    · replace h := am_ip h c_2
      refine am_iconst C0 dX10_isSign_16 ci_1 ?_
      refine am_goto C0 dX10_isSign_17 (tgt := 21) (by decide) ?_
      have e := h
      subst e
      exact hret _ _ dX10_isSign_21
set_option maxRecDepth 100000 in
set_option maxHeartbeats 4000000 in
theorem m_M_isSign {l : Launch} {d : Nat} {σ : am_SS} {q : Bool} (hd : 1 ≤ d) (x1 : Int32) (h : M_isSign x1 σ = q) : am_Met l yX10_isSign cX10_isSign 2 (some .boolean) d 0 0 LM (fun b => [.ref (b 0), .int x1]) σ (some (.int (am_bI q))) σ :=
  am_metI (plainFor_of_name (by decide)) (am_bI_nr _) (lv := fun b => [(0, .ref (b 0)), (1, .int x1)]) (fun _ => rfl) (fun _ => Nat.le_of_ble_eq_true rfl) (fun G C0 _ hret => k_M_isSign C0 hd hret x1  h)
set_option maxRecDepth 100000 in
set_option maxHeartbeats 4000000 in
theorem k_M_emits {G : am_T} {d0 : Nat} (C0 : am_C G cX10_emits 3 RX10 LM d0) (hd : 1 ≤ d0) {q : am_SS} (hret : am_retV G cX10_emits 3 q) (x1 : Int32) (x2 : Int32) (σ : am_SS) (h : M_emits x1 x2 σ = some q) : am_K G 3 0 [(0, .ref (am_b G 0)), (1, .int x1), (2, .int x2)] [] σ := by
  unfold M_emits at h
  refine am_aload_n C0 dX10_emits_0 0 rfl ?_
  refine am_getR C0 (j := 16) ff_RX10_55 (loM_7_25 kM0).1 (loM_7_25 kM0).2.1 (loM_7_25 kM0).2.2.1 (loM_7_25 kM0).2.2.2 dX10_emits_1 ?_
  refine am_sipush C0 dX10_emits_4 cs_800 ?_
  refine am_aload_n C0 dX10_emits_7 0 rfl ?_
  refine am_getI C0 ff_RX10_209 (loM_7_28 kM0).1 (loM_7_28 kM0).2.1 (loM_7_28 kM0).2.2.1 (loM_7_28 kM0).2.2.2 dX10_emits_8 ?_
  refine am_iadd C0 dX10_emits_11 ?_
  refine am_iload_n C0 dX10_emits_12 1 rfl ?_
  obtain ⟨σ_1, h_σ_1, h⟩ := am_bind h
  refine am_iast C0 (ltM (tgM_7_25 kM0)) (tgM_7_25 kM0) (lnM_7_25 kM0) h_σ_1 dX10_emits_13 ?_
  refine am_aload_n C0 dX10_emits_14 0 rfl ?_
  refine am_getR C0 (j := 17) ff_RX10_58 (loM_7_26 kM0).1 (loM_7_26 kM0).2.1 (loM_7_26 kM0).2.2.1 (loM_7_26 kM0).2.2.2 dX10_emits_15 ?_
  refine am_sipush C0 dX10_emits_18 cs_800 ?_
  refine am_aload_n C0 dX10_emits_21 0 rfl ?_
  refine am_getI C0 ff_RX10_209 (loM_7_28 kM0).1 (loM_7_28 kM0).2.1 (loM_7_28 kM0).2.2.1 (loM_7_28 kM0).2.2.2 dX10_emits_22 ?_
  refine am_iadd C0 dX10_emits_25 ?_
  refine am_iload_n C0 dX10_emits_26 2 rfl ?_
  obtain ⟨σ_2, h_σ_2, h⟩ := am_bind h
  refine am_iast C0 (ltM (tgM_7_26 kM0)) (tgM_7_26 kM0) (lnM_7_26 kM0) h_σ_2 dX10_emits_27 ?_
  refine am_aload_n C0 dX10_emits_28 0 rfl ?_
  refine am_aload_n C0 dX10_emits_29 0 rfl ?_
  refine am_getI C0 ff_RX10_209 (loM_7_28 kM0).1 (loM_7_28 kM0).2.1 (loM_7_28 kM0).2.2.1 (loM_7_28 kM0).2.2.2 dX10_emits_30 ?_
  refine am_iconst C0 dX10_emits_33 ci_1 ?_
  refine am_iadd C0 dX10_emits_34 ?_
  obtain ⟨σ_3, e_σ_3, h⟩ := am_lt h
  refine am_putI C0 e_σ_3 fp_RX10_209 (loM_7_28 kM0).1 (loM_7_28 kM0).2.1 (loM_7_28 kM0).2.2.1 (loM_7_28 kM0).2.2.2 rfl rfl dX10_emits_35 ?_
  have e := Option.some.inj h
  subst e
  exact hret _ _ dX10_emits_38
set_option maxRecDepth 100000 in
set_option maxHeartbeats 4000000 in
theorem m_M_emits {l : Launch} {d : Nat} {σ : am_SS} {q : am_SS} (hd : 1 ≤ d) (x1 : Int32) (x2 : Int32) (h : M_emits x1 x2 σ = some q) : am_Met l yX10_emits cX10_emits 3 none d 0 0 LM (fun b => [.ref (b 0), .int x1, .int x2]) σ none q :=
  am_metV (plainFor_of_name (by decide)) (lv := fun b => [(0, .ref (b 0)), (1, .int x1), (2, .int x2)]) (fun _ => rfl) (fun _ => Nat.le_of_ble_eq_true rfl) (fun G C0 _ hret => k_M_emits C0 hd hret x1 x2 σ  h)
set_option maxRecDepth 100000 in
set_option maxHeartbeats 4000000 in
theorem k_M_canAsk {G : am_T} {d0 : Nat} (C0 : am_C G cX10_canAsk 2 RX10 LM d0) (hd : 2 ≤ d0) {σ0 : am_SS} {q : Bool} (hret : am_retI G cX10_canAsk 2 (am_bI q) σ0) (x1 : Int32) (h : M_canAsk x1 = q) : am_K G 2 0 [(0, .ref (am_b G 0)), (1, .int x1)] [] σ0 := by
  unfold M_canAsk at h
  refine am_aload_n C0 dX10_canAsk_0 0 rfl ?_
  refine am_iload_n C0 dX10_canAsk_1 1 rfl ?_
  refine am_bipush C0 dX10_canAsk_2 kb_7 ?_
  refine am_bipush C0 dX10_canAsk_4 kb_16 ?_
  refine am_callV C0 (m_M_isIn (σ := σ0) (Nat.le_refl _) x1 7 16  rfl) mm_yX10_isIn ln_RX10_149 (As := fun b => [.int x1, .int 7, .int 16]) (fun _ => rfl) (fun _ => rfl) (loM_7_0 kM0).1 (loM_7_0 kM0).2.1 rfl (Nat.le_trans (by decide) hd) rfl (Nat.le_of_ble_eq_true rfl) dX10_canAsk_6 ?_
  have e := h
  subst e
  exact hret _ _ dX10_canAsk_9
set_option maxRecDepth 100000 in
set_option maxHeartbeats 4000000 in
theorem m_M_canAsk {l : Launch} {d : Nat} {σ : am_SS} {q : Bool} (hd : 2 ≤ d) (x1 : Int32) (h : M_canAsk x1 = q) : am_Met l yX10_canAsk cX10_canAsk 2 (some .boolean) d 0 0 LM (fun b => [.ref (b 0), .int x1]) σ (some (.int (am_bI q))) σ :=
  am_metI (plainFor_of_name (by decide)) (am_bI_nr _) (lv := fun b => [(0, .ref (b 0)), (1, .int x1)]) (fun _ => rfl) (fun _ => Nat.le_of_ble_eq_true rfl) (fun G C0 _ hret => k_M_canAsk C0 hd hret x1  h)
set_option maxRecDepth 100000 in
set_option maxHeartbeats 4000000 in
theorem k_M_readUnit_p71 {G : am_T} {d0 : Nat} (C0 : am_C G cX10_readUnit 2 RX10 LM d0) (hd : 4 ≤ d0) (F : Nat) {q : Int32 × am_SS} (hret : am_retI G cX10_readUnit 2 q.1 q.2) (s1 : Bool) (s2 : Int32) (σ : am_SS) (h : M_readUnit_p71 F s1 s2 σ = some q) : am_K G 2 71 [(0, .ref (am_b G 0))] [.int s2, .int (am_bI s1), .ref (am_b G 0)] σ := by
  unfold M_readUnit_p71 at h
  obtain ⟨q_1, h_q_1, h⟩ := am_bind h
  refine am_callV C0 (m_M_emits (σ := σ) (Nat.le_refl _) (am_bI s1) s2  h_q_1) mm_yX10_emits ln_RX10_218 (As := fun b => [.int (am_bI s1), .int s2]) (fun _ => rfl) (fun _ => rfl) (loM_7_0 kM0).1 (loM_7_0 kM0).2.1 rfl (Nat.le_trans (by decide) hd) rfl (Nat.le_of_ble_eq_true rfl) dX10_readUnit_71 ?_
  refine am_aload_n C0 dX10_readUnit_74 0 rfl ?_
  obtain ⟨q_2, h_q_2, h⟩ := am_bind h
  refine am_callV C0 (m_M_reads (σ := q_1) (Nat.le_refl _) F   h_q_2) mm_yX10_reads ln_RX10_222 (As := fun b => []) (fun _ => rfl) (fun _ => rfl) (loM_7_0 kM0).1 (loM_7_0 kM0).2.1 rfl (Nat.le_trans (by decide) hd) rfl (Nat.le_of_ble_eq_true rfl) dX10_readUnit_75 ?_
  refine am_iconst C0 dX10_readUnit_78 ci_0 ?_
  have e := Option.some.inj h
  subst e
  exact hret _ _ dX10_readUnit_79
set_option maxRecDepth 100000 in
set_option maxHeartbeats 4000000 in
theorem k_M_readUnit_p53 {G : am_T} {d0 : Nat} (C0 : am_C G cX10_readUnit 2 RX10 LM d0) (hd : 4 ≤ d0) (F : Nat) {q : Int32 × am_SS} (hret : am_retI G cX10_readUnit 2 q.1 q.2) (x1 : Bool) (s1 : Bool) (σ : am_SS) (h : M_readUnit_p53 F x1 s1 σ = some q) : am_K G 2 53 [(0, .ref (am_b G 0)), (1, .int (am_bI x1))] [.int (am_bI s1), .ref (am_b G 0)] σ := by
  unfold M_readUnit_p53 at h
  refine am_iload_n C0 dX10_readUnit_53 1 rfl ?_
  refine am_ifB_eq C0 dX10_readUnit_54 (tgt := 67) (by decide) (fun c_1 => ?_) (fun c_1 => ?_)
  · replace h := am_in h c_1
    refine am_aload_n C0 dX10_readUnit_67 0 rfl ?_
    refine am_getI C0 ff_RX10_187 (loM_7_18 kM0).1 (loM_7_18 kM0).2.1 (loM_7_18 kM0).2.2.1 (loM_7_18 kM0).2.2.2 dX10_readUnit_68 ?_
    exact am_sub [0] rfl (k_M_readUnit_p71 C0 hd F hret s1 (σ 0 18) σ  h)
  · replace h := am_ip h c_1
    refine am_aload_n C0 dX10_readUnit_57 0 rfl ?_
    refine am_getI C0 ff_RX10_187 (loM_7_18 kM0).1 (loM_7_18 kM0).2.1 (loM_7_18 kM0).2.2.1 (loM_7_18 kM0).2.2.2 dX10_readUnit_58 ?_
    refine am_bipush C0 dX10_readUnit_61 kb_7 ?_
    refine am_isub C0 dX10_readUnit_63 ?_
    refine am_goto C0 dX10_readUnit_64 (tgt := 71) (by decide) ?_
    exact am_sub [0] rfl (k_M_readUnit_p71 C0 hd F hret s1 ((σ 0 18) - 7) σ  h)
set_option maxRecDepth 100000 in
set_option maxHeartbeats 4000000 in
theorem k_M_readUnit_p43 {G : am_T} {d0 : Nat} (C0 : am_C G cX10_readUnit 2 RX10 LM d0) (hd : 4 ≤ d0) (F : Nat) {q : Int32 × am_SS} (hret : am_retI G cX10_readUnit 2 q.1 q.2) (x1 : Bool) (σ : am_SS) (h : M_readUnit_p43 F x1 σ = some q) : am_K G 2 43 [(0, .ref (am_b G 0)), (1, .int (am_bI x1))] [] σ := by
  unfold M_readUnit_p43 at h
  refine am_aload_n C0 dX10_readUnit_43 0 rfl ?_
  refine am_iload_n C0 dX10_readUnit_44 1 rfl ?_
  refine am_ifB_eq C0 dX10_readUnit_45 (tgt := 52) (by decide) (fun c_1 => ?_) (fun c_1 => ?_)
  · replace h := am_in h c_1
    refine am_iconst C0 dX10_readUnit_52 ci_0 ?_
    exact am_sub [0, 1] rfl (k_M_readUnit_p53 C0 hd F hret x1 false σ  h)
  · replace h := am_ip h c_1
    refine am_iconst C0 dX10_readUnit_48 ci_1 ?_
    refine am_goto C0 dX10_readUnit_49 (tgt := 53) (by decide) ?_
    exact am_sub [0, 1] rfl (k_M_readUnit_p53 C0 hd F hret x1 true σ  h)
set_option maxRecDepth 100000 in
set_option maxHeartbeats 4000000 in
theorem k_M_readUnit_p24 {G : am_T} {d0 : Nat} (C0 : am_C G cX10_readUnit 2 RX10 LM d0) (hd : 4 ≤ d0) (F : Nat) {q : Int32 × am_SS} (hret : am_retI G cX10_readUnit 2 q.1 q.2) (s0 : Bool) (σ : am_SS) (h : M_readUnit_p24 F s0 σ = some q) : am_K G 2 24 [(0, .ref (am_b G 0))] [.int (am_bI s0)] σ := by
  unfold M_readUnit_p24 at h
  refine am_istore_n C0 dX10_readUnit_24 rfl (by decide) rfl (lv' := [(0, .ref (am_b G 0)), (1, .int (am_bI s0))]) rfl ?_
  refine am_iload_n C0 dX10_readUnit_25 1 rfl ?_
  refine am_ifB_ne C0 dX10_readUnit_26 (tgt := 43) (by decide) (fun c_1 => ?_) (fun c_1 => ?_)
  · replace h := am_ip h c_1
    exact am_sub [0, 1] rfl (k_M_readUnit_p43 C0 hd F hret s0 σ  h)
  · replace h := am_in h c_1
    refine am_aload_n C0 dX10_readUnit_29 0 rfl ?_
    refine am_getI C0 ff_RX10_184 (loM_7_17 kM0).1 (loM_7_17 kM0).2.1 (loM_7_17 kM0).2.2.1 (loM_7_17 kM0).2.2.2 dX10_readUnit_30 ?_
    refine am_iconst C0 dX10_readUnit_33 ci_3 ?_
    refine am_icmp_eq C0 dX10_readUnit_34 (tgt := 43) (by decide) (fun c_2 => ?_) (fun c_2 => ?_)
    · replace h := am_ip h c_2
      exact am_sub [0, 1] rfl (k_M_readUnit_p43 C0 hd F hret s0 σ  h)
    · replace h := am_in h c_2
      refine am_aload_n C0 dX10_readUnit_37 0 rfl ?_
      refine am_iconst C0 dX10_readUnit_38 ci_1 ?_
      obtain ⟨q_3, h_q_3, h⟩ := am_lt h
      refine am_callV C0 (m_M_errs (σ := σ) (Nat.le_refl _) 1  h_q_3) mm_yX10_errs ln_RX10_215 (As := fun b => [.int 1]) (fun _ => rfl) (fun _ => rfl) (loM_7_0 kM0).1 (loM_7_0 kM0).2.1 rfl (Nat.le_trans (by decide) hd) rfl (Nat.le_of_ble_eq_true rfl) dX10_readUnit_39 ?_
      have e := Option.some.inj h
      subst e
      exact hret _ _ dX10_readUnit_42
set_option maxRecDepth 100000 in
set_option maxHeartbeats 4000000 in
theorem k_M_readUnit_p23 {G : am_T} {d0 : Nat} (C0 : am_C G cX10_readUnit 2 RX10 LM d0) (hd : 4 ≤ d0) (F : Nat) {q : Int32 × am_SS} (hret : am_retI G cX10_readUnit 2 q.1 q.2) (σ : am_SS) (h : M_readUnit_p23 F  σ = some q) : am_K G 2 23 [(0, .ref (am_b G 0))] [] σ := by
  unfold M_readUnit_p23 at h
  refine am_iconst C0 dX10_readUnit_23 ci_0 ?_
  exact am_sub [0] rfl (k_M_readUnit_p24 C0 hd F hret false σ  h)
set_option maxRecDepth 100000 in
set_option maxHeartbeats 4000000 in
theorem k_M_readUnit {G : am_T} {d0 : Nat} (C0 : am_C G cX10_readUnit 2 RX10 LM d0) (hd : 4 ≤ d0) (F : Nat) {q : Int32 × am_SS} (hret : am_retI G cX10_readUnit 2 q.1 q.2) (σ : am_SS) (h : M_readUnit F  σ = some q) : am_K G 2 0 [(0, .ref (am_b G 0))] [] σ := by
  unfold M_readUnit at h
  refine am_aload_n C0 dX10_readUnit_0 0 rfl ?_
  refine am_getI C0 ff_RX10_184 (loM_7_17 kM0).1 (loM_7_17 kM0).2.1 (loM_7_17 kM0).2.2.1 (loM_7_17 kM0).2.2.2 dX10_readUnit_1 ?_
  refine am_iconst C0 dX10_readUnit_4 ci_2 ?_
  refine am_icmp_ne C0 dX10_readUnit_5 (tgt := 23) (by decide) (fun c_1 => ?_) (fun c_1 => ?_)
  · replace h := am_in h c_1
    exact am_sub [0] rfl (k_M_readUnit_p23 C0 hd F hret  σ  h)
  · replace h := am_ip h c_1
    refine am_aload_n C0 dX10_readUnit_8 0 rfl ?_
    refine am_aload_n C0 dX10_readUnit_9 0 rfl ?_
    refine am_getI C0 ff_RX10_187 (loM_7_18 kM0).1 (loM_7_18 kM0).2.1 (loM_7_18 kM0).2.2.1 (loM_7_18 kM0).2.2.2 dX10_readUnit_10 ?_
    refine am_callV C0 (m_M_canAsk (σ := σ) (Nat.le_refl _) (σ 0 18)  rfl) mm_yX10_canAsk ln_RX10_212 (As := fun b => [.int (σ 0 18)]) (fun _ => rfl) (fun _ => rfl) (loM_7_0 kM0).1 (loM_7_0 kM0).2.1 rfl (Nat.le_trans (by decide) hd) rfl (Nat.le_of_ble_eq_true rfl) dX10_readUnit_13 ?_
    refine am_ifB_eq C0 dX10_readUnit_16 (tgt := 23) (by decide) (fun c_3 => ?_) (fun c_3 => ?_)
    · replace h := am_in h c_3
      exact am_sub [0] rfl (k_M_readUnit_p23 C0 hd F hret  σ  h)
    · replace h := am_ip h c_3
      refine am_iconst C0 dX10_readUnit_19 ci_1 ?_
      refine am_goto C0 dX10_readUnit_20 (tgt := 24) (by decide) ?_
      exact am_sub [0] rfl (k_M_readUnit_p24 C0 hd F hret true σ  h)
set_option maxRecDepth 100000 in
set_option maxHeartbeats 4000000 in
theorem m_M_readUnit {l : Launch} {d : Nat} {σ : am_SS} {q : Int32 × am_SS} (hd : 4 ≤ d) (F : Nat) (h : M_readUnit F  σ = some q) : am_Met l yX10_readUnit cX10_readUnit 2 (some .int) d 0 0 LM (fun b => [.ref (b 0)]) σ (some (.int q.1)) q.2 :=
  am_metI (plainFor_of_name (by decide)) rfl (lv := fun b => [(0, .ref (b 0))]) (fun _ => rfl) (fun _ => Nat.le_of_ble_eq_true rfl) (fun G C0 _ hret => k_M_readUnit C0 hd F hret  σ  h)
set_option maxRecDepth 100000 in
set_option maxHeartbeats 4000000 in
theorem k_M_readProduct_p94 {G : am_T} {d0 : Nat} (C0 : am_C G cX10_readProduct 2 RX10 LM d0) (hd : 5 ≤ d0) (rec10 : am_SS → Option (Int32 × am_SS)) (F : Nat) {q : Int32 × am_SS} (hret : am_retI G cX10_readProduct 2 q.1 q.2) (hrec10 : ∀ (σ : am_SS), rec10  σ = some q → am_K G 2 10 [(0, .ref (am_b G 0))] [] σ) (s1 : Int32) (σ : am_SS) (h : M_readProduct_p94 rec10 F s1 σ = some q) : am_K G 2 94 [(0, .ref (am_b G 0))] [.int s1, .ref (am_b G 0)] σ := by
  unfold M_readProduct_p94 at h
  refine am_iconst C0 dX10_readProduct_94 ci_0 ?_
  obtain ⟨q_1, h_q_1, h⟩ := am_bind h
  refine am_callV C0 (m_M_emits (σ := σ) (Nat.le_refl _) s1 0  h_q_1) mm_yX10_emits ln_RX10_218 (As := fun b => [.int s1, .int 0]) (fun _ => rfl) (fun _ => rfl) (loM_7_0 kM0).1 (loM_7_0 kM0).2.1 rfl (Nat.le_trans (by decide) hd) rfl (Nat.le_of_ble_eq_true rfl) dX10_readProduct_95 ?_
  refine am_goto C0 dX10_readProduct_98 (tgt := 10) (by decide) ?_
  exact am_sub [0] rfl (hrec10  q_1  h)
set_option maxRecDepth 100000 in
set_option maxHeartbeats 4000000 in
theorem k_M_readProduct_p74 {G : am_T} {d0 : Nat} (C0 : am_C G cX10_readProduct 2 RX10 LM d0) (hd : 5 ≤ d0) (rec10 : am_SS → Option (Int32 × am_SS)) (F : Nat) {q : Int32 × am_SS} (hret : am_retI G cX10_readProduct 2 q.1 q.2) (hrec10 : ∀ (σ : am_SS), rec10  σ = some q → am_K G 2 10 [(0, .ref (am_b G 0))] [] σ) (x1 : Bool) (σ : am_SS) (h : M_readProduct_p74 rec10 F x1 σ = some q) : am_K G 2 74 [(0, .ref (am_b G 0)), (1, .int (am_bI x1))] [] σ := by
  unfold M_readProduct_p74 at h
  refine am_aload_n C0 dX10_readProduct_74 0 rfl ?_
  obtain ⟨q_1, h_q_1, h⟩ := am_bind h
  refine am_callV C0 (m_M_readUnit (σ := σ) (Nat.le_refl _) F   h_q_1) mm_yX10_readUnit ln_RX10_225 (As := fun b => []) (fun _ => rfl) (fun _ => rfl) (loM_7_0 kM0).1 (loM_7_0 kM0).2.1 rfl (Nat.le_trans (by decide) hd) rfl (Nat.le_of_ble_eq_true rfl) dX10_readProduct_75 ?_
  refine am_iconst C0 dX10_readProduct_78 ci_m1 ?_
  refine am_icmp_ne C0 dX10_readProduct_79 (tgt := 84) (by decide) (fun c_2 => ?_) (fun c_2 => ?_)
  · replace h := am_in h c_2
    refine am_aload_n C0 dX10_readProduct_84 0 rfl ?_
    refine am_iload_n C0 dX10_readProduct_85 1 rfl ?_
    refine am_ifB_eq C0 dX10_readProduct_86 (tgt := 93) (by decide) (fun c_3 => ?_) (fun c_3 => ?_)
    · replace h := am_in h c_3
      refine am_iconst C0 dX10_readProduct_93 ci_5 ?_
      exact am_sub [0] rfl (k_M_readProduct_p94 C0 hd rec10 F hret hrec10 5 q_1.2  h)
    · replace h := am_ip h c_3
      refine am_iconst C0 dX10_readProduct_89 ci_4 ?_
      refine am_goto C0 dX10_readProduct_90 (tgt := 94) (by decide) ?_
      exact am_sub [0] rfl (k_M_readProduct_p94 C0 hd rec10 F hret hrec10 4 q_1.2  h)
  · replace h := am_ip h c_2
    refine am_iconst C0 dX10_readProduct_82 ci_m1 ?_
    have e := Option.some.inj h
    subst e
    exact hret _ _ dX10_readProduct_83
set_option maxRecDepth 100000 in
set_option maxHeartbeats 4000000 in
theorem k_M_readProduct_p57 {G : am_T} {d0 : Nat} (C0 : am_C G cX10_readProduct 2 RX10 LM d0) (hd : 5 ≤ d0) (rec10 : am_SS → Option (Int32 × am_SS)) (F : Nat) {q : Int32 × am_SS} (hret : am_retI G cX10_readProduct 2 q.1 q.2) (hrec10 : ∀ (σ : am_SS), rec10  σ = some q → am_K G 2 10 [(0, .ref (am_b G 0))] [] σ) (x1 : Bool) (σ : am_SS) (h : M_readProduct_p57 rec10 F x1 σ = some q) : am_K G 2 57 [(0, .ref (am_b G 0)), (1, .int (am_bI x1))] [] σ := by
  unfold M_readProduct_p57 at h
  refine am_iload_n C0 dX10_readProduct_57 1 rfl ?_
  refine am_ifB_ne C0 dX10_readProduct_58 (tgt := 74) (by decide) (fun c_1 => ?_) (fun c_1 => ?_)
  · replace h := am_ip h c_1
    exact am_sub [0, 1] rfl (k_M_readProduct_p74 C0 hd rec10 F hret hrec10 x1 σ  h)
  · replace h := am_in h c_1
    refine am_aload_n C0 dX10_readProduct_61 0 rfl ?_
    refine am_getI C0 ff_RX10_187 (loM_7_18 kM0).1 (loM_7_18 kM0).2.1 (loM_7_18 kM0).2.2.1 (loM_7_18 kM0).2.2.2 dX10_readProduct_62 ?_
    refine am_if_ne C0 dX10_readProduct_65 (tgt := 74) (by decide) (fun c_2 => ?_) (fun c_2 => ?_)
    · replace h := am_in h c_2
      exact am_sub [0, 1] rfl (k_M_readProduct_p74 C0 hd rec10 F hret hrec10 x1 σ  h)
    · replace h := am_ip h c_2
      refine am_aload_n C0 dX10_readProduct_68 0 rfl ?_
      refine am_iconst C0 dX10_readProduct_69 ci_2 ?_
      obtain ⟨q_3, h_q_3, h⟩ := am_lt h
      refine am_callV C0 (m_M_errs (σ := σ) (Nat.le_refl _) 2  h_q_3) mm_yX10_errs ln_RX10_215 (As := fun b => [.int 2]) (fun _ => rfl) (fun _ => rfl) (loM_7_0 kM0).1 (loM_7_0 kM0).2.1 rfl (Nat.le_trans (by decide) hd) rfl (Nat.le_of_ble_eq_true rfl) dX10_readProduct_70 ?_
      have e := Option.some.inj h
      subst e
      exact hret _ _ dX10_readProduct_73
set_option maxRecDepth 100000 in
set_option maxHeartbeats 4000000 in
theorem k_M_readProduct_p28 {G : am_T} {d0 : Nat} (C0 : am_C G cX10_readProduct 2 RX10 LM d0) (hd : 5 ≤ d0) (rec10 : am_SS → Option (Int32 × am_SS)) (F : Nat) {q : Int32 × am_SS} (hret : am_retI G cX10_readProduct 2 q.1 q.2) (hrec10 : ∀ (σ : am_SS), rec10  σ = some q → am_K G 2 10 [(0, .ref (am_b G 0))] [] σ) (σ : am_SS) (h : M_readProduct_p28 rec10 F  σ = some q) : am_K G 2 28 [(0, .ref (am_b G 0))] [] σ := by
  unfold M_readProduct_p28 at h
  refine am_aload_n C0 dX10_readProduct_28 0 rfl ?_
  refine am_bipush C0 dX10_readProduct_29 kb_42 ?_
  refine am_callV C0 (m_M_isSign (σ := σ) (Nat.le_refl _) 42  rfl) mm_yX10_isSign ln_RX10_229 (As := fun b => [.int 42]) (fun _ => rfl) (fun _ => rfl) (loM_7_0 kM0).1 (loM_7_0 kM0).2.1 rfl (Nat.le_trans (by decide) hd) rfl (Nat.le_of_ble_eq_true rfl) dX10_readProduct_31 ?_
  refine am_istore_n C0 dX10_readProduct_34 rfl (by decide) rfl (lv' := [(0, .ref (am_b G 0)), (1, .int (am_bI (M_isSign 42 σ)))]) rfl ?_
  refine am_aload_n C0 dX10_readProduct_35 0 rfl ?_
  obtain ⟨q_2, h_q_2, h⟩ := am_bind h
  refine am_callV C0 (m_M_reads (σ := σ) (Nat.le_refl _) F   h_q_2) mm_yX10_reads ln_RX10_222 (As := fun b => []) (fun _ => rfl) (fun _ => rfl) (loM_7_0 kM0).1 (loM_7_0 kM0).2.1 rfl (Nat.le_trans (by decide) hd) rfl (Nat.le_of_ble_eq_true rfl) dX10_readProduct_36 ?_
  refine am_iload_n C0 dX10_readProduct_39 1 rfl ?_
  refine am_ifB_ne C0 dX10_readProduct_40 (tgt := 57) (by decide) (fun c_3 => ?_) (fun c_3 => ?_)
  · replace h := am_ip h c_3
    exact am_sub [0, 1] rfl (k_M_readProduct_p57 C0 hd rec10 F hret hrec10 (M_isSign 42 σ) q_2  h)
  · replace h := am_in h c_3
    refine am_aload_n C0 dX10_readProduct_43 0 rfl ?_
    refine am_getI C0 ff_RX10_184 (loM_7_17 kM0).1 (loM_7_17 kM0).2.1 (loM_7_17 kM0).2.2.1 (loM_7_17 kM0).2.2.2 dX10_readProduct_44 ?_
    refine am_iconst C0 dX10_readProduct_47 ci_3 ?_
    refine am_icmp_eq C0 dX10_readProduct_48 (tgt := 57) (by decide) (fun c_4 => ?_) (fun c_4 => ?_)
    · replace h := am_ip h c_4
      exact am_sub [0, 1] rfl (k_M_readProduct_p57 C0 hd rec10 F hret hrec10 (M_isSign 42 σ) q_2  h)
    · replace h := am_in h c_4
      refine am_aload_n C0 dX10_readProduct_51 0 rfl ?_
      refine am_iconst C0 dX10_readProduct_52 ci_1 ?_
      obtain ⟨q_5, h_q_5, h⟩ := am_lt h
      refine am_callV C0 (m_M_errs (σ := q_2) (Nat.le_refl _) 1  h_q_5) mm_yX10_errs ln_RX10_215 (As := fun b => [.int 1]) (fun _ => rfl) (fun _ => rfl) (loM_7_0 kM0).1 (loM_7_0 kM0).2.1 rfl (Nat.le_trans (by decide) hd) rfl (Nat.le_of_ble_eq_true rfl) dX10_readProduct_53 ?_
      have e := Option.some.inj h
      subst e
      exact hret _ _ dX10_readProduct_56
set_option maxRecDepth 100000 in
set_option maxHeartbeats 4000000 in
theorem k_M_readProduct_l10 {G : am_T} {d0 : Nat} (C0 : am_C G cX10_readProduct 2 RX10 LM d0) (hd : 5 ≤ d0) (F : Nat) {q : Int32 × am_SS} (hret : am_retI G cX10_readProduct 2 q.1 q.2) : ∀ (n : Nat) (σ : am_SS) (h : M_readProduct_l10 F n  σ = some q), am_K G 2 10 [(0, .ref (am_b G 0))] [] σ := by
  intro n
  induction n with
  | zero =>
    intro σ h
    rw [M_readProduct_l10] at h
    cases h
  | succ n ih =>
    intro σ h
    rw [M_readProduct_l10] at h
    refine am_aload_n C0 dX10_readProduct_10 0 rfl ?_
    refine am_bipush C0 dX10_readProduct_11 kb_42 ?_
    refine am_callV C0 (m_M_isSign (σ := σ) (Nat.le_refl _) 42  rfl) mm_yX10_isSign ln_RX10_229 (As := fun b => [.int 42]) (fun _ => rfl) (fun _ => rfl) (loM_7_0 kM0).1 (loM_7_0 kM0).2.1 rfl (Nat.le_trans (by decide) hd) rfl (Nat.le_of_ble_eq_true rfl) dX10_readProduct_13 ?_
    refine am_ifB_ne C0 dX10_readProduct_16 (tgt := 28) (by decide) (fun c_2 => ?_) (fun c_2 => ?_)
    · replace h := am_ip h c_2
      exact am_sub [0] rfl (k_M_readProduct_p28 C0 hd _ F hret (fun zs z => ih zs z)  σ  h)
    · replace h := am_in h c_2
      refine am_aload_n C0 dX10_readProduct_19 0 rfl ?_
      refine am_bipush C0 dX10_readProduct_20 kb_47 ?_
      refine am_callV C0 (m_M_isSign (σ := σ) (Nat.le_refl _) 47  rfl) mm_yX10_isSign ln_RX10_229 (As := fun b => [.int 47]) (fun _ => rfl) (fun _ => rfl) (loM_7_0 kM0).1 (loM_7_0 kM0).2.1 rfl (Nat.le_trans (by decide) hd) rfl (Nat.le_of_ble_eq_true rfl) dX10_readProduct_22 ?_
      refine am_ifB_eq C0 dX10_readProduct_25 (tgt := 101) (by decide) (fun c_4 => ?_) (fun c_4 => ?_)
      · replace h := am_in h c_4
        refine am_iconst C0 dX10_readProduct_101 ci_0 ?_
        have e := Option.some.inj h
        subst e
        exact hret _ _ dX10_readProduct_102
      · replace h := am_ip h c_4
        exact am_sub [0] rfl (k_M_readProduct_p28 C0 hd _ F hret (fun zs z => ih zs z)  σ  h)
set_option maxRecDepth 100000 in
set_option maxHeartbeats 4000000 in
theorem k_M_readProduct {G : am_T} {d0 : Nat} (C0 : am_C G cX10_readProduct 2 RX10 LM d0) (hd : 5 ≤ d0) (F : Nat) {q : Int32 × am_SS} (hret : am_retI G cX10_readProduct 2 q.1 q.2) (σ : am_SS) (h : M_readProduct F  σ = some q) : am_K G 2 0 [(0, .ref (am_b G 0))] [] σ := by
  unfold M_readProduct at h
  refine am_aload_n C0 dX10_readProduct_0 0 rfl ?_
  obtain ⟨q_1, h_q_1, h⟩ := am_bind h
  refine am_callV C0 (m_M_readUnit (σ := σ) (Nat.le_refl _) F   h_q_1) mm_yX10_readUnit ln_RX10_225 (As := fun b => []) (fun _ => rfl) (fun _ => rfl) (loM_7_0 kM0).1 (loM_7_0 kM0).2.1 rfl (Nat.le_trans (by decide) hd) rfl (Nat.le_of_ble_eq_true rfl) dX10_readProduct_1 ?_
  refine am_iconst C0 dX10_readProduct_4 ci_m1 ?_
  refine am_icmp_ne C0 dX10_readProduct_5 (tgt := 10) (by decide) (fun c_2 => ?_) (fun c_2 => ?_)
  · replace h := am_in h c_2
    exact am_sub [0] rfl (k_M_readProduct_l10 C0 hd F hret F  q_1.2  h)
  · replace h := am_ip h c_2
    refine am_iconst C0 dX10_readProduct_8 ci_m1 ?_
    have e := Option.some.inj h
    subst e
    exact hret _ _ dX10_readProduct_9
set_option maxRecDepth 100000 in
set_option maxHeartbeats 4000000 in
theorem m_M_readProduct {l : Launch} {d : Nat} {σ : am_SS} {q : Int32 × am_SS} (hd : 5 ≤ d) (F : Nat) (h : M_readProduct F  σ = some q) : am_Met l yX10_readProduct cX10_readProduct 2 (some .int) d 0 0 LM (fun b => [.ref (b 0)]) σ (some (.int q.1)) q.2 :=
  am_metI (plainFor_of_name (by decide)) rfl (lv := fun b => [(0, .ref (b 0))]) (fun _ => rfl) (fun _ => Nat.le_of_ble_eq_true rfl) (fun G C0 _ hret => k_M_readProduct C0 hd F hret  σ  h)
