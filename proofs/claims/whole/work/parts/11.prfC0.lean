set_option maxRecDepth 100000 in
set_option maxHeartbeats 4000000 in
theorem k_J_min {G : am_T} {d0 : Nat} (C0 : am_C G cJ9_min_7cf53 2 RJ9 LC d0) (hd : 1 ≤ d0) {σ0 : am_SS} {q : Int32} (hret : am_retI G cJ9_min_7cf53 2 q σ0) (x0 : Int32) (x1 : Int32) (h : J_min x0 x1 = q) : am_K G 2 0 [(0, .int x0), (1, .int x1)] [] σ0 := by
  unfold J_min at h
  refine am_iload_n C0 dJ9_min_7cf53_0 0 rfl ?_
  refine am_iload_n C0 dJ9_min_7cf53_1 1 rfl ?_
  refine am_icmp_gt C0 dJ9_min_7cf53_2 (tgt := 9) (by decide) (fun c_1 => ?_) (fun c_1 => ?_)
  · replace h := am_ip h c_1
    refine am_iload_n C0 dJ9_min_7cf53_9 1 rfl ?_
    have e := h
    subst e
    exact hret _ _ dJ9_min_7cf53_10
  · replace h := am_in h c_1
    refine am_iload_n C0 dJ9_min_7cf53_5 0 rfl ?_
    refine am_goto C0 dJ9_min_7cf53_6 (tgt := 10) (by decide) ?_
    have e := h
    subst e
    exact hret _ _ dJ9_min_7cf53_10
set_option maxRecDepth 100000 in
set_option maxHeartbeats 4000000 in
theorem m_J_min {l : Launch} {d : Nat} {σ : am_SS} {q : Int32} (hd : 1 ≤ d) (x0 : Int32) (x1 : Int32) (h : J_min x0 x1 = q) : am_Met l yJ9_min_7cf53 cJ9_min_7cf53 2 (some .int) d 0 0 LC (fun b => [.int x0, .int x1]) σ (some (.int q)) σ :=
  am_metI (by decide +kernel) rfl (lv := fun b => [(0, .int x0), (1, .int x1)]) (fun _ => rfl) (fun _ => Nat.le_of_ble_eq_true rfl) (fun G C0 _ hret => k_J_min C0 hd hret x0 x1  h)
set_option maxRecDepth 100000 in
set_option maxHeartbeats 4000000 in
theorem k_J_max {G : am_T} {d0 : Nat} (C0 : am_C G cJ9_max_7cf53 2 RJ9 LC d0) (hd : 1 ≤ d0) {σ0 : am_SS} {q : Int32} (hret : am_retI G cJ9_max_7cf53 2 q σ0) (x0 : Int32) (x1 : Int32) (h : J_max x0 x1 = q) : am_K G 2 0 [(0, .int x0), (1, .int x1)] [] σ0 := by
  unfold J_max at h
  refine am_iload_n C0 dJ9_max_7cf53_0 0 rfl ?_
  refine am_iload_n C0 dJ9_max_7cf53_1 1 rfl ?_
  refine am_icmp_lt C0 dJ9_max_7cf53_2 (tgt := 9) (by decide) (fun c_1 => ?_) (fun c_1 => ?_)
  · replace h := am_ip h c_1
    refine am_iload_n C0 dJ9_max_7cf53_9 1 rfl ?_
    have e := h
    subst e
    exact hret _ _ dJ9_max_7cf53_10
  · replace h := am_in h c_1
    refine am_iload_n C0 dJ9_max_7cf53_5 0 rfl ?_
    refine am_goto C0 dJ9_max_7cf53_6 (tgt := 10) (by decide) ?_
    have e := h
    subst e
    exact hret _ _ dJ9_max_7cf53_10
set_option maxRecDepth 100000 in
set_option maxHeartbeats 4000000 in
theorem m_J_max {l : Launch} {d : Nat} {σ : am_SS} {q : Int32} (hd : 1 ≤ d) (x0 : Int32) (x1 : Int32) (h : J_max x0 x1 = q) : am_Met l yJ9_max_7cf53 cJ9_max_7cf53 2 (some .int) d 0 0 LC (fun b => [.int x0, .int x1]) σ (some (.int q)) σ :=
  am_metI (by decide +kernel) rfl (lv := fun b => [(0, .int x0), (1, .int x1)]) (fun _ => rfl) (fun _ => Nat.le_of_ble_eq_true rfl) (fun G C0 _ hret => k_J_max C0 hd hret x0 x1  h)
set_option maxRecDepth 100000 in
set_option maxHeartbeats 4000000 in
theorem k_J_floorMod {G : am_T} {d0 : Nat} (C0 : am_C G cJ9_floorMod_7cf53 3 RJ9 LC d0) (hd : 1 ≤ d0) {σ0 : am_SS} {q : Int32} (hret : am_retI G cJ9_floorMod_7cf53 3 q σ0) (x0 : Int32) (x1 : Int32) (h : J_floorMod x0 x1 = some q) : am_K G 3 0 [(0, .int x0), (1, .int x1)] [] σ0 := by
  unfold J_floorMod at h
  refine am_iload_n C0 dJ9_floorMod_7cf53_0 0 rfl ?_
  refine am_iload_n C0 dJ9_floorMod_7cf53_1 1 rfl ?_
  obtain ⟨hz_1, h⟩ := am_gd h
  refine am_irem C0 dJ9_floorMod_7cf53_2 hz_1 ?_
  obtain ⟨x2_2, e_x2_2, h⟩ := am_lt h
  refine am_top e_x2_2 ?_
  refine am_istore_n C0 dJ9_floorMod_7cf53_3 rfl (by decide) rfl (lv' := [(0, .int x0), (1, .int x1), (2, .int x2_2)]) rfl ?_
  refine am_iload_n C0 dJ9_floorMod_7cf53_4 0 rfl ?_
  refine am_iload_n C0 dJ9_floorMod_7cf53_5 1 rfl ?_
  refine am_ixor C0 dJ9_floorMod_7cf53_6 ?_
  refine am_if_ge C0 dJ9_floorMod_7cf53_7 (tgt := 18) (by decide) (fun c_3 => ?_) (fun c_3 => ?_)
  · replace h := am_in h c_3
    refine am_iload_n C0 dJ9_floorMod_7cf53_18 2 rfl ?_
    have e := Option.some.inj h
    subst e
    exact hret _ _ dJ9_floorMod_7cf53_19
  · replace h := am_ip h c_3
    refine am_iload_n C0 dJ9_floorMod_7cf53_10 2 rfl ?_
    refine am_if_eq C0 dJ9_floorMod_7cf53_11 (tgt := 18) (by decide) (fun c_4 => ?_) (fun c_4 => ?_)
    · replace h := am_ip h c_4
      refine am_iload_n C0 dJ9_floorMod_7cf53_18 2 rfl ?_
      have e := Option.some.inj h
      subst e
      exact hret _ _ dJ9_floorMod_7cf53_19
    · replace h := am_in h c_4
      refine am_iload_n C0 dJ9_floorMod_7cf53_14 2 rfl ?_
      refine am_iload_n C0 dJ9_floorMod_7cf53_15 1 rfl ?_
      refine am_iadd C0 dJ9_floorMod_7cf53_16 ?_
      have e := Option.some.inj h
      subst e
      exact hret _ _ dJ9_floorMod_7cf53_17
set_option maxRecDepth 100000 in
set_option maxHeartbeats 4000000 in
theorem m_J_floorMod {l : Launch} {d : Nat} {σ : am_SS} {q : Int32} (hd : 1 ≤ d) (x0 : Int32) (x1 : Int32) (h : J_floorMod x0 x1 = some q) : am_Met l yJ9_floorMod_7cf53 cJ9_floorMod_7cf53 3 (some .int) d 0 0 LC (fun b => [.int x0, .int x1]) σ (some (.int q)) σ :=
  am_metI (by decide +kernel) rfl (lv := fun b => [(0, .int x0), (1, .int x1)]) (fun _ => rfl) (fun _ => Nat.le_of_ble_eq_true rfl) (fun G C0 _ hret => k_J_floorMod C0 hd hret x0 x1  h)
set_option maxRecDepth 100000 in
set_option maxHeartbeats 4000000 in
theorem k_C_Front_hasOfficer {G : am_T} {d0 : Nat} (C0 : am_C G cX0_hasOfficer 2 RX0 LC d0) (hd : 1 ≤ d0) {σ : am_SS} {q : Bool} (hret : am_retI G cX0_hasOfficer 2 (am_bI q) σ) (a0 : Nat) (x1 : Int32) (ha0 : LC.1 a0 = 2) (h : C_Front_hasOfficer a0 x1 σ = q) : am_K G 2 0 [(0, .ref (am_b G a0)), (1, .int x1)] [] σ := by
  unfold C_Front_hasOfficer at h
  refine am_iload_n C0 dX0_hasOfficer_0 1 rfl ?_
  refine am_if_lt C0 dX0_hasOfficer_1 (tgt := 22) (by decide) (fun c_1 => ?_) (fun c_1 => ?_)
  · replace h := am_ip h c_1
    refine am_iconst C0 dX0_hasOfficer_22 ci_0 ?_
    have e := h
    subst e
    exact hret _ _ dX0_hasOfficer_23
  · replace h := am_in h c_1
    refine am_iload_n C0 dX0_hasOfficer_4 1 rfl ?_
    refine am_aload_n C0 dX0_hasOfficer_5 0 rfl ?_
    refine am_getI C0 ff_RX0_9 (loC_0_0 ha0).1 (loC_0_0 ha0).2.1 (loC_0_0 ha0).2.2.1 (loC_0_0 ha0).2.2.2 dX0_hasOfficer_6 ?_
    refine am_icmp_ge C0 dX0_hasOfficer_9 (tgt := 22) (by decide) (fun c_2 => ?_) (fun c_2 => ?_)
    · replace h := am_in h c_2
      refine am_iconst C0 dX0_hasOfficer_22 ci_0 ?_
      have e := h
      subst e
      exact hret _ _ dX0_hasOfficer_23
    · replace h := am_ip h c_2
      refine am_iload_n C0 dX0_hasOfficer_12 1 rfl ?_
      refine am_bipush C0 dX0_hasOfficer_13 kb_12 ?_
      refine am_icmp_ge C0 dX0_hasOfficer_15 (tgt := 22) (by decide) (fun c_3 => ?_) (fun c_3 => ?_)
      · replace h := am_in h c_3
        refine am_iconst C0 dX0_hasOfficer_22 ci_0 ?_
        have e := h
        subst e
        exact hret _ _ dX0_hasOfficer_23
      · replace h := am_ip h c_3
        refine am_iconst C0 dX0_hasOfficer_18 ci_1 ?_
        refine am_goto C0 dX0_hasOfficer_19 (tgt := 23) (by decide) ?_
        have e := h
        subst e
        exact hret _ _ dX0_hasOfficer_23
set_option maxRecDepth 100000 in
set_option maxHeartbeats 4000000 in
theorem m_C_Front_hasOfficer {l : Launch} {d : Nat} {σ : am_SS} {q : Bool} (hd : 1 ≤ d) (a0 : Nat) (x1 : Int32) (ha0 : LC.1 a0 = 2) (h : C_Front_hasOfficer a0 x1 σ = q) : am_Met l yX0_hasOfficer cX0_hasOfficer 2 (some .boolean) d 0 0 LC (fun b => [.ref (b a0), .int x1]) σ (some (.int (am_bI q))) σ :=
  am_metI (plainFor_of_name (by decide)) (am_bI_nr _) (lv := fun b => [(0, .ref (b a0)), (1, .int x1)]) (fun _ => rfl) (fun _ => Nat.le_of_ble_eq_true rfl) (fun G C0 _ hret => k_C_Front_hasOfficer C0 hd hret a0 x1 ha0 h)
set_option maxRecDepth 100000 in
set_option maxHeartbeats 4000000 in
theorem k_C_Front_hasBatman {G : am_T} {d0 : Nat} (C0 : am_C G cX0_hasBatman 2 RX0 LC d0) (hd : 1 ≤ d0) {σ : am_SS} {q : Bool} (hret : am_retI G cX0_hasBatman 2 (am_bI q) σ) (a0 : Nat) (x1 : Int32) (ha0 : LC.1 a0 = 2) (h : C_Front_hasBatman a0 x1 σ = q) : am_K G 2 0 [(0, .ref (am_b G a0)), (1, .int x1)] [] σ := by
  unfold C_Front_hasBatman at h
  refine am_iload_n C0 dX0_hasBatman_0 1 rfl ?_
  refine am_if_lt C0 dX0_hasBatman_1 (tgt := 22) (by decide) (fun c_1 => ?_) (fun c_1 => ?_)
  · replace h := am_ip h c_1
    refine am_iconst C0 dX0_hasBatman_22 ci_0 ?_
    have e := h
    subst e
    exact hret _ _ dX0_hasBatman_23
  · replace h := am_in h c_1
    refine am_iload_n C0 dX0_hasBatman_4 1 rfl ?_
    refine am_aload_n C0 dX0_hasBatman_5 0 rfl ?_
    refine am_getI C0 ff_RX0_37 (loC_0_8 ha0).1 (loC_0_8 ha0).2.1 (loC_0_8 ha0).2.2.1 (loC_0_8 ha0).2.2.2 dX0_hasBatman_6 ?_
    refine am_icmp_ge C0 dX0_hasBatman_9 (tgt := 22) (by decide) (fun c_2 => ?_) (fun c_2 => ?_)
    · replace h := am_in h c_2
      refine am_iconst C0 dX0_hasBatman_22 ci_0 ?_
      have e := h
      subst e
      exact hret _ _ dX0_hasBatman_23
    · replace h := am_ip h c_2
      refine am_iload_n C0 dX0_hasBatman_12 1 rfl ?_
      refine am_bipush C0 dX0_hasBatman_13 kb_12 ?_
      refine am_icmp_ge C0 dX0_hasBatman_15 (tgt := 22) (by decide) (fun c_3 => ?_) (fun c_3 => ?_)
      · replace h := am_in h c_3
        refine am_iconst C0 dX0_hasBatman_22 ci_0 ?_
        have e := h
        subst e
        exact hret _ _ dX0_hasBatman_23
      · replace h := am_ip h c_3
        refine am_iconst C0 dX0_hasBatman_18 ci_1 ?_
        refine am_goto C0 dX0_hasBatman_19 (tgt := 23) (by decide) ?_
        have e := h
        subst e
        exact hret _ _ dX0_hasBatman_23
set_option maxRecDepth 100000 in
set_option maxHeartbeats 4000000 in
theorem m_C_Front_hasBatman {l : Launch} {d : Nat} {σ : am_SS} {q : Bool} (hd : 1 ≤ d) (a0 : Nat) (x1 : Int32) (ha0 : LC.1 a0 = 2) (h : C_Front_hasBatman a0 x1 σ = q) : am_Met l yX0_hasBatman cX0_hasBatman 2 (some .boolean) d 0 0 LC (fun b => [.ref (b a0), .int x1]) σ (some (.int (am_bI q))) σ :=
  am_metI (plainFor_of_name (by decide)) (am_bI_nr _) (lv := fun b => [(0, .ref (b a0)), (1, .int x1)]) (fun _ => rfl) (fun _ => Nat.le_of_ble_eq_true rfl) (fun G C0 _ hret => k_C_Front_hasBatman C0 hd hret a0 x1 ha0 h)
set_option maxRecDepth 100000 in
set_option maxHeartbeats 4000000 in
theorem k_C_Front_addOfficer {G : am_T} {d0 : Nat} (C0 : am_C G cX0_addOfficer 4 RX0 LC d0) (hd : 1 ≤ d0) {q : Int32 × am_SS} (hret : am_retI G cX0_addOfficer 4 q.1 q.2) (a0 : Nat) (x1 : Int32) (x2 : Int32) (σ : am_SS) (ha0 : LC.1 a0 = 2) (h : C_Front_addOfficer a0 x1 x2 σ = some q) : am_K G 4 0 [(0, .ref (am_b G a0)), (1, .int x1), (2, .int x2)] [] σ := by
  unfold C_Front_addOfficer at h
  refine am_aload_n C0 dX0_addOfficer_0 0 rfl ?_
  refine am_getI C0 ff_RX0_9 (loC_0_0 ha0).1 (loC_0_0 ha0).2.1 (loC_0_0 ha0).2.2.1 (loC_0_0 ha0).2.2.2 dX0_addOfficer_1 ?_
  obtain ⟨x3_1, e_x3_1, h⟩ := am_lt h
  refine am_top e_x3_1 ?_
  refine am_istore_n C0 dX0_addOfficer_4 rfl (by decide) rfl (lv' := [(0, .ref (am_b G a0)), (1, .int x1), (2, .int x2), (3, .int x3_1)]) rfl ?_
  refine am_iload_n C0 dX0_addOfficer_5 3 rfl ?_
  refine am_if_lt C0 dX0_addOfficer_6 (tgt := 15) (by decide) (fun c_2 => ?_) (fun c_2 => ?_)
  · replace h := am_ip h c_2
    refine am_iconst C0 dX0_addOfficer_15 ci_m1 ?_
    have e := Option.some.inj h
    subst e
    exact hret _ _ dX0_addOfficer_16
  · replace h := am_in h c_2
    refine am_iload_n C0 dX0_addOfficer_9 3 rfl ?_
    refine am_bipush C0 dX0_addOfficer_10 kb_12 ?_
    refine am_icmp_lt C0 dX0_addOfficer_12 (tgt := 17) (by decide) (fun c_3 => ?_) (fun c_3 => ?_)
    · replace h := am_ip h c_3
      refine am_aload_n C0 dX0_addOfficer_17 0 rfl ?_
      refine am_getR C0 (j := a0 + 1) ff_RX0_15 (loC_0_1 ha0).1 (loC_0_1 ha0).2.1 (loC_0_1 ha0).2.2.1 (loC_0_1 ha0).2.2.2 dX0_addOfficer_18 ?_
      refine am_iload_n C0 dX0_addOfficer_21 3 rfl ?_
      refine am_iload_n C0 dX0_addOfficer_22 1 rfl ?_
      obtain ⟨σ_4, h_σ_4, h⟩ := am_bind h
      refine am_iast C0 (ltC (tgC_0_1 ha0)) (tgC_0_1 ha0) (lnC_0_1 ha0) h_σ_4 dX0_addOfficer_23 ?_
      refine am_aload_n C0 dX0_addOfficer_24 0 rfl ?_
      refine am_getR C0 (j := a0 + 2) ff_RX0_19 (loC_0_2 ha0).1 (loC_0_2 ha0).2.1 (loC_0_2 ha0).2.2.1 (loC_0_2 ha0).2.2.2 dX0_addOfficer_25 ?_
      refine am_iload_n C0 dX0_addOfficer_28 3 rfl ?_
      refine am_iload_n C0 dX0_addOfficer_29 2 rfl ?_
      obtain ⟨σ_5, h_σ_5, h⟩ := am_bind h
      refine am_iast C0 (ltC (tgC_0_2 ha0)) (tgC_0_2 ha0) (lnC_0_2 ha0) h_σ_5 dX0_addOfficer_30 ?_
      refine am_aload_n C0 dX0_addOfficer_31 0 rfl ?_
      refine am_getR C0 (j := a0 + 3) ff_RX0_22 (loC_0_3 ha0).1 (loC_0_3 ha0).2.1 (loC_0_3 ha0).2.2.1 (loC_0_3 ha0).2.2.2 dX0_addOfficer_32 ?_
      refine am_iload_n C0 dX0_addOfficer_35 3 rfl ?_
      refine am_bipush C0 dX0_addOfficer_36 kb_50 ?_
      obtain ⟨σ_6, h_σ_6, h⟩ := am_bind h
      refine am_iast C0 (ltC (tgC_0_3 ha0)) (tgC_0_3 ha0) (lnC_0_3 ha0) h_σ_6 dX0_addOfficer_38 ?_
      refine am_aload_n C0 dX0_addOfficer_39 0 rfl ?_
      refine am_iload_n C0 dX0_addOfficer_40 3 rfl ?_
      refine am_iconst C0 dX0_addOfficer_41 ci_1 ?_
      refine am_iadd C0 dX0_addOfficer_42 ?_
      obtain ⟨σ_7, e_σ_7, h⟩ := am_lt h
      refine am_putI C0 e_σ_7 fp_RX0_9 (loC_0_0 ha0).1 (loC_0_0 ha0).2.1 (loC_0_0 ha0).2.2.1 (loC_0_0 ha0).2.2.2 rfl rfl dX0_addOfficer_43 ?_
      refine am_iload_n C0 dX0_addOfficer_46 3 rfl ?_
      have e := Option.some.inj h
      subst e
      exact hret _ _ dX0_addOfficer_47
    · replace h := am_in h c_3
      refine am_iconst C0 dX0_addOfficer_15 ci_m1 ?_
      have e := Option.some.inj h
      subst e
      exact hret _ _ dX0_addOfficer_16
set_option maxRecDepth 100000 in
set_option maxHeartbeats 4000000 in
theorem m_C_Front_addOfficer {l : Launch} {d : Nat} {σ : am_SS} {q : Int32 × am_SS} (hd : 1 ≤ d) (a0 : Nat) (x1 : Int32) (x2 : Int32) (ha0 : LC.1 a0 = 2) (h : C_Front_addOfficer a0 x1 x2 σ = some q) : am_Met l yX0_addOfficer cX0_addOfficer 4 (some .int) d 0 0 LC (fun b => [.ref (b a0), .int x1, .int x2]) σ (some (.int q.1)) q.2 :=
  am_metI (plainFor_of_name (by decide)) rfl (lv := fun b => [(0, .ref (b a0)), (1, .int x1), (2, .int x2)]) (fun _ => rfl) (fun _ => Nat.le_of_ble_eq_true rfl) (fun G C0 _ hret => k_C_Front_addOfficer C0 hd hret a0 x1 x2 σ ha0 h)
set_option maxRecDepth 100000 in
set_option maxHeartbeats 4000000 in
theorem k_C_Front_addBatman {G : am_T} {d0 : Nat} (C0 : am_C G cX0_addBatman 4 RX0 LC d0) (hd : 1 ≤ d0) {q : Int32 × am_SS} (hret : am_retI G cX0_addBatman 4 q.1 q.2) (a0 : Nat) (x1 : Int32) (x2 : Int32) (σ : am_SS) (ha0 : LC.1 a0 = 2) (h : C_Front_addBatman a0 x1 x2 σ = some q) : am_K G 4 0 [(0, .ref (am_b G a0)), (1, .int x1), (2, .int x2)] [] σ := by
  unfold C_Front_addBatman at h
  refine am_aload_n C0 dX0_addBatman_0 0 rfl ?_
  refine am_getI C0 ff_RX0_37 (loC_0_8 ha0).1 (loC_0_8 ha0).2.1 (loC_0_8 ha0).2.2.1 (loC_0_8 ha0).2.2.2 dX0_addBatman_1 ?_
  obtain ⟨x3_1, e_x3_1, h⟩ := am_lt h
  refine am_top e_x3_1 ?_
  refine am_istore_n C0 dX0_addBatman_4 rfl (by decide) rfl (lv' := [(0, .ref (am_b G a0)), (1, .int x1), (2, .int x2), (3, .int x3_1)]) rfl ?_
  refine am_iload_n C0 dX0_addBatman_5 3 rfl ?_
  refine am_if_lt C0 dX0_addBatman_6 (tgt := 15) (by decide) (fun c_2 => ?_) (fun c_2 => ?_)
  · replace h := am_ip h c_2
    refine am_iconst C0 dX0_addBatman_15 ci_m1 ?_
    have e := Option.some.inj h
    subst e
    exact hret _ _ dX0_addBatman_16
  · replace h := am_in h c_2
    refine am_iload_n C0 dX0_addBatman_9 3 rfl ?_
    refine am_bipush C0 dX0_addBatman_10 kb_12 ?_
    refine am_icmp_lt C0 dX0_addBatman_12 (tgt := 17) (by decide) (fun c_3 => ?_) (fun c_3 => ?_)
    · replace h := am_ip h c_3
      refine am_aload_n C0 dX0_addBatman_17 0 rfl ?_
      refine am_getR C0 (j := a0 + 8) ff_RX0_40 (loC_0_9 ha0).1 (loC_0_9 ha0).2.1 (loC_0_9 ha0).2.2.1 (loC_0_9 ha0).2.2.2 dX0_addBatman_18 ?_
      refine am_iload_n C0 dX0_addBatman_21 3 rfl ?_
      refine am_iload_n C0 dX0_addBatman_22 1 rfl ?_
      obtain ⟨σ_4, h_σ_4, h⟩ := am_bind h
      refine am_iast C0 (ltC (tgC_0_9 ha0)) (tgC_0_9 ha0) (lnC_0_9 ha0) h_σ_4 dX0_addBatman_23 ?_
      refine am_aload_n C0 dX0_addBatman_24 0 rfl ?_
      refine am_getR C0 (j := a0 + 9) ff_RX0_43 (loC_0_10 ha0).1 (loC_0_10 ha0).2.1 (loC_0_10 ha0).2.2.1 (loC_0_10 ha0).2.2.2 dX0_addBatman_25 ?_
      refine am_iload_n C0 dX0_addBatman_28 3 rfl ?_
      refine am_iload_n C0 dX0_addBatman_29 2 rfl ?_
      obtain ⟨σ_5, h_σ_5, h⟩ := am_bind h
      refine am_iast C0 (ltC (tgC_0_10 ha0)) (tgC_0_10 ha0) (lnC_0_10 ha0) h_σ_5 dX0_addBatman_30 ?_
      refine am_aload_n C0 dX0_addBatman_31 0 rfl ?_
      refine am_iload_n C0 dX0_addBatman_32 3 rfl ?_
      refine am_iconst C0 dX0_addBatman_33 ci_1 ?_
      refine am_iadd C0 dX0_addBatman_34 ?_
      obtain ⟨σ_6, e_σ_6, h⟩ := am_lt h
      refine am_putI C0 e_σ_6 fp_RX0_37 (loC_0_8 ha0).1 (loC_0_8 ha0).2.1 (loC_0_8 ha0).2.2.1 (loC_0_8 ha0).2.2.2 rfl rfl dX0_addBatman_35 ?_
      refine am_iload_n C0 dX0_addBatman_38 3 rfl ?_
      have e := Option.some.inj h
      subst e
      exact hret _ _ dX0_addBatman_39
    · replace h := am_in h c_3
      refine am_iconst C0 dX0_addBatman_15 ci_m1 ?_
      have e := Option.some.inj h
      subst e
      exact hret _ _ dX0_addBatman_16
set_option maxRecDepth 100000 in
set_option maxHeartbeats 4000000 in
theorem m_C_Front_addBatman {l : Launch} {d : Nat} {σ : am_SS} {q : Int32 × am_SS} (hd : 1 ≤ d) (a0 : Nat) (x1 : Int32) (x2 : Int32) (ha0 : LC.1 a0 = 2) (h : C_Front_addBatman a0 x1 x2 σ = some q) : am_Met l yX0_addBatman cX0_addBatman 4 (some .int) d 0 0 LC (fun b => [.ref (b a0), .int x1, .int x2]) σ (some (.int q.1)) q.2 :=
  am_metI (plainFor_of_name (by decide)) rfl (lv := fun b => [(0, .ref (b a0)), (1, .int x1), (2, .int x2)]) (fun _ => rfl) (fun _ => Nat.le_of_ble_eq_true rfl) (fun G C0 _ hret => k_C_Front_addBatman C0 hd hret a0 x1 x2 σ ha0 h)
set_option maxRecDepth 100000 in
set_option maxHeartbeats 4000000 in
theorem k_C_Front_putOfficer_p56 {G : am_T} {d0 : Nat} (C0 : am_C G cX0_putOfficer 5 RX0 LC d0) (hd : 2 ≤ d0) {q : Bool × am_SS} (hret : am_retI G cX0_putOfficer 5 (am_bI q.1) q.2) (x2 : Int32) (x3 : Int32) (t0 : Nat) (σ : am_SS) (ht0 : LC.1 t0 = 0) (h : C_Front_putOfficer_p56 x2 x3 t0 σ = some q) : am_K G 5 56 [(2, .int x2), (3, .int x3)] [.ref (am_b G t0)] σ := by
  unfold C_Front_putOfficer_p56 at h
  refine am_astore C0 dX0_putOfficer_56 (by decide) rfl (lv' := [(2, .int x2), (3, .int x3), (4, .ref (am_b G t0))]) rfl ?_
  refine am_aload C0 dX0_putOfficer_58 2 rfl ?_
  refine am_iload_n C0 dX0_putOfficer_60 0 rfl ?_
  refine am_iload_n C0 dX0_putOfficer_61 1 rfl ?_
  obtain ⟨σ_1, h_σ_1, h⟩ := am_bind h
  refine am_iast C0 (ltC ht0) ht0 rfl h_σ_1 dX0_putOfficer_62 ?_
  refine am_iconst C0 dX0_putOfficer_63 ci_1 ?_
  have e := Option.some.inj h
  subst e
  exact hret _ _ dX0_putOfficer_64
set_option maxRecDepth 100000 in
set_option maxHeartbeats 4000000 in
theorem k_C_Front_putOfficer_p24 {G : am_T} {d0 : Nat} (C0 : am_C G cX0_putOfficer 5 RX0 LC d0) (hd : 2 ≤ d0) {q : Bool × am_SS} (hret : am_retI G cX0_putOfficer 5 (am_bI q.1) q.2) (a0 : Nat) (x1 : Int32) (x2 : Int32) (x3 : Int32) (s0 : Int32) (s1 : Int32) (σ : am_SS) (ha0 : LC.1 a0 = 2) (h : C_Front_putOfficer_p24 a0 x1 x2 x3 s0 s1 σ = some q) : am_K G 5 24 [(0, .ref (am_b G a0)), (1, .int x1), (2, .int x2), (3, .int x3)] [.int s1, .int s0] σ := by
  unfold C_Front_putOfficer_p24 at h
  refine am_icmp_le C0 dX0_putOfficer_24 (tgt := 29) (by decide) (fun c_1 => ?_) (fun c_1 => ?_)
  · replace h := am_in h c_1
    refine am_iload_n C0 dX0_putOfficer_29 1 rfl ?_
    refine am_if_ne C0 dX0_putOfficer_30 (tgt := 40) (by decide) (fun c_2 => ?_) (fun c_2 => ?_)
    · replace h := am_in h c_2
      refine am_iload_n C0 dX0_putOfficer_40 1 rfl ?_
      refine am_iconst C0 dX0_putOfficer_41 ci_1 ?_
      refine am_icmp_ne C0 dX0_putOfficer_42 (tgt := 52) (by decide) (fun c_3 => ?_) (fun c_3 => ?_)
      · replace h := am_in h c_3
        refine am_aload_n C0 dX0_putOfficer_52 0 rfl ?_
        refine am_getR C0 (j := a0 + 4) ff_RX0_25 (loC_0_4 ha0).1 (loC_0_4 ha0).2.1 (loC_0_4 ha0).2.2.1 (loC_0_4 ha0).2.2.2 dX0_putOfficer_53 ?_
        exact am_sub [2, 3] rfl (k_C_Front_putOfficer_p56 C0 hd hret x2 x3 (a0 + 4) σ (tgC_0_4 ha0) h)
      · replace h := am_ip h c_3
        refine am_aload_n C0 dX0_putOfficer_45 0 rfl ?_
        refine am_getR C0 (j := a0 + 3) ff_RX0_22 (loC_0_3 ha0).1 (loC_0_3 ha0).2.1 (loC_0_3 ha0).2.2.1 (loC_0_3 ha0).2.2.2 dX0_putOfficer_46 ?_
        refine am_goto C0 dX0_putOfficer_49 (tgt := 56) (by decide) ?_
        exact am_sub [2, 3] rfl (k_C_Front_putOfficer_p56 C0 hd hret x2 x3 (a0 + 3) σ (tgC_0_3 ha0) h)
    · replace h := am_ip h c_2
      refine am_aload_n C0 dX0_putOfficer_33 0 rfl ?_
      refine am_getR C0 (j := a0 + 2) ff_RX0_19 (loC_0_2 ha0).1 (loC_0_2 ha0).2.1 (loC_0_2 ha0).2.2.1 (loC_0_2 ha0).2.2.2 dX0_putOfficer_34 ?_
      refine am_goto C0 dX0_putOfficer_37 (tgt := 56) (by decide) ?_
      exact am_sub [2, 3] rfl (k_C_Front_putOfficer_p56 C0 hd hret x2 x3 (a0 + 2) σ (tgC_0_2 ha0) h)
  · replace h := am_ip h c_1
    refine am_iconst C0 dX0_putOfficer_27 ci_0 ?_
    have e := Option.some.inj h
    subst e
    exact hret _ _ dX0_putOfficer_28
set_option maxRecDepth 100000 in
set_option maxHeartbeats 4000000 in
theorem k_C_Front_putOfficer {G : am_T} {d0 : Nat} (C0 : am_C G cX0_putOfficer 5 RX0 LC d0) (hd : 2 ≤ d0) {q : Bool × am_SS} (hret : am_retI G cX0_putOfficer 5 (am_bI q.1) q.2) (a0 : Nat) (x1 : Int32) (x2 : Int32) (x3 : Int32) (σ : am_SS) (ha0 : LC.1 a0 = 2) (h : C_Front_putOfficer a0 x1 x2 x3 σ = some q) : am_K G 5 0 [(0, .ref (am_b G a0)), (1, .int x1), (2, .int x2), (3, .int x3)] [] σ := by
  unfold C_Front_putOfficer at h
  refine am_aload_n C0 dX0_putOfficer_0 0 rfl ?_
  refine am_iload_n C0 dX0_putOfficer_1 2 rfl ?_
  refine am_callV C0 (m_C_Front_hasOfficer (σ := σ) (Nat.le_refl _) a0 x2 ha0 rfl) mm_yX0_hasOfficer ln_RX0_61 (As := fun b => [.int x2]) (fun _ => rfl) (fun _ => rfl) (loC_0_0 ha0).1 (loC_0_0 ha0).2.1 rfl (Nat.le_trans (by decide) hd) rfl (Nat.le_of_ble_eq_true rfl) dX0_putOfficer_2 ?_
  refine am_ifB_eq C0 dX0_putOfficer_5 (tgt := 27) (by decide) (fun c_2 => ?_) (fun c_2 => ?_)
  · replace h := am_in h c_2
    refine am_iconst C0 dX0_putOfficer_27 ci_0 ?_
    have e := Option.some.inj h
    subst e
    exact hret _ _ dX0_putOfficer_28
  · replace h := am_ip h c_2
    refine am_iload_n C0 dX0_putOfficer_8 3 rfl ?_
    refine am_if_lt C0 dX0_putOfficer_9 (tgt := 27) (by decide) (fun c_3 => ?_) (fun c_3 => ?_)
    · replace h := am_ip h c_3
      refine am_iconst C0 dX0_putOfficer_27 ci_0 ?_
      have e := Option.some.inj h
      subst e
      exact hret _ _ dX0_putOfficer_28
    · replace h := am_in h c_3
      refine am_iload_n C0 dX0_putOfficer_12 3 rfl ?_
      refine am_iload_n C0 dX0_putOfficer_13 1 rfl ?_
      refine am_if_ne C0 dX0_putOfficer_14 (tgt := 22) (by decide) (fun c_4 => ?_) (fun c_4 => ?_)
      · replace h := am_in h c_4
        refine am_bipush C0 dX0_putOfficer_22 kb_99 ?_
        exact am_sub [0, 1, 2, 3] rfl (k_C_Front_putOfficer_p24 C0 hd hret a0 x1 x2 x3 x3 99 σ ha0 h)
      · replace h := am_ip h c_4
        refine am_bipush C0 dX0_putOfficer_17 kb_9 ?_
        refine am_goto C0 dX0_putOfficer_19 (tgt := 24) (by decide) ?_
        exact am_sub [0, 1, 2, 3] rfl (k_C_Front_putOfficer_p24 C0 hd hret a0 x1 x2 x3 x3 9 σ ha0 h)
set_option maxRecDepth 100000 in
set_option maxHeartbeats 4000000 in
theorem m_C_Front_putOfficer {l : Launch} {d : Nat} {σ : am_SS} {q : Bool × am_SS} (hd : 2 ≤ d) (a0 : Nat) (x1 : Int32) (x2 : Int32) (x3 : Int32) (ha0 : LC.1 a0 = 2) (h : C_Front_putOfficer a0 x1 x2 x3 σ = some q) : am_Met l yX0_putOfficer cX0_putOfficer 5 (some .boolean) d 0 0 LC (fun b => [.ref (b a0), .int x1, .int x2, .int x3]) σ (some (.int (am_bI q.1))) q.2 :=
  am_metI (plainFor_of_name (by decide)) (am_bI_nr _) (lv := fun b => [(0, .ref (b a0)), (1, .int x1), (2, .int x2), (3, .int x3)]) (fun _ => rfl) (fun _ => Nat.le_of_ble_eq_true rfl) (fun G C0 _ hret => k_C_Front_putOfficer C0 hd hret a0 x1 x2 x3 σ ha0 h)
set_option maxRecDepth 100000 in
set_option maxHeartbeats 4000000 in
theorem k_C_Front_putBatman_p46 {G : am_T} {d0 : Nat} (C0 : am_C G cX0_putBatman 5 RX0 LC d0) (hd : 2 ≤ d0) {q : Bool × am_SS} (hret : am_retI G cX0_putBatman 5 (am_bI q.1) q.2) (x2 : Int32) (x3 : Int32) (t0 : Nat) (σ : am_SS) (ht0 : LC.1 t0 = 0) (h : C_Front_putBatman_p46 x2 x3 t0 σ = some q) : am_K G 5 46 [(2, .int x2), (3, .int x3)] [.ref (am_b G t0)] σ := by
  unfold C_Front_putBatman_p46 at h
  refine am_astore C0 dX0_putBatman_46 (by decide) rfl (lv' := [(2, .int x2), (3, .int x3), (4, .ref (am_b G t0))]) rfl ?_
  refine am_aload C0 dX0_putBatman_48 2 rfl ?_
  refine am_iload_n C0 dX0_putBatman_50 0 rfl ?_
  refine am_iload_n C0 dX0_putBatman_51 1 rfl ?_
  obtain ⟨σ_1, h_σ_1, h⟩ := am_bind h
  refine am_iast C0 (ltC ht0) ht0 rfl h_σ_1 dX0_putBatman_52 ?_
  refine am_iconst C0 dX0_putBatman_53 ci_1 ?_
  have e := Option.some.inj h
  subst e
  exact hret _ _ dX0_putBatman_54
set_option maxRecDepth 100000 in
set_option maxHeartbeats 4000000 in
theorem k_C_Front_putBatman_p25 {G : am_T} {d0 : Nat} (C0 : am_C G cX0_putBatman 5 RX0 LC d0) (hd : 2 ≤ d0) {q : Bool × am_SS} (hret : am_retI G cX0_putBatman 5 (am_bI q.1) q.2) (a0 : Nat) (x1 : Int32) (x2 : Int32) (x3 : Int32) (s0 : Int32) (s1 : Int32) (σ : am_SS) (ha0 : LC.1 a0 = 2) (h : C_Front_putBatman_p25 a0 x1 x2 x3 s0 s1 σ = some q) : am_K G 5 25 [(0, .ref (am_b G a0)), (1, .int x1), (2, .int x2), (3, .int x3)] [.int s1, .int s0] σ := by
  unfold C_Front_putBatman_p25 at h
  refine am_icmp_le C0 dX0_putBatman_25 (tgt := 30) (by decide) (fun c_1 => ?_) (fun c_1 => ?_)
  · replace h := am_in h c_1
    refine am_iload_n C0 dX0_putBatman_30 1 rfl ?_
    refine am_iconst C0 dX0_putBatman_31 ci_3 ?_
    refine am_icmp_ne C0 dX0_putBatman_32 (tgt := 42) (by decide) (fun c_2 => ?_) (fun c_2 => ?_)
    · replace h := am_in h c_2
      refine am_aload_n C0 dX0_putBatman_42 0 rfl ?_
      refine am_getR C0 (j := a0 + 10) ff_RX0_46 (loC_0_11 ha0).1 (loC_0_11 ha0).2.1 (loC_0_11 ha0).2.2.1 (loC_0_11 ha0).2.2.2 dX0_putBatman_43 ?_
      exact am_sub [2, 3] rfl (k_C_Front_putBatman_p46 C0 hd hret x2 x3 (a0 + 10) σ (tgC_0_11 ha0) h)
    · replace h := am_ip h c_2
      refine am_aload_n C0 dX0_putBatman_35 0 rfl ?_
      refine am_getR C0 (j := a0 + 9) ff_RX0_43 (loC_0_10 ha0).1 (loC_0_10 ha0).2.1 (loC_0_10 ha0).2.2.1 (loC_0_10 ha0).2.2.2 dX0_putBatman_36 ?_
      refine am_goto C0 dX0_putBatman_39 (tgt := 46) (by decide) ?_
      exact am_sub [2, 3] rfl (k_C_Front_putBatman_p46 C0 hd hret x2 x3 (a0 + 9) σ (tgC_0_10 ha0) h)
  · replace h := am_ip h c_1
    refine am_iconst C0 dX0_putBatman_28 ci_0 ?_
    have e := Option.some.inj h
    subst e
    exact hret _ _ dX0_putBatman_29
set_option maxRecDepth 100000 in
set_option maxHeartbeats 4000000 in
theorem k_C_Front_putBatman {G : am_T} {d0 : Nat} (C0 : am_C G cX0_putBatman 5 RX0 LC d0) (hd : 2 ≤ d0) {q : Bool × am_SS} (hret : am_retI G cX0_putBatman 5 (am_bI q.1) q.2) (a0 : Nat) (x1 : Int32) (x2 : Int32) (x3 : Int32) (σ : am_SS) (ha0 : LC.1 a0 = 2) (h : C_Front_putBatman a0 x1 x2 x3 σ = some q) : am_K G 5 0 [(0, .ref (am_b G a0)), (1, .int x1), (2, .int x2), (3, .int x3)] [] σ := by
  unfold C_Front_putBatman at h
  refine am_aload_n C0 dX0_putBatman_0 0 rfl ?_
  refine am_iload_n C0 dX0_putBatman_1 2 rfl ?_
  refine am_callV C0 (m_C_Front_hasBatman (σ := σ) (Nat.le_refl _) a0 x2 ha0 rfl) mm_yX0_hasBatman ln_RX0_65 (As := fun b => [.int x2]) (fun _ => rfl) (fun _ => rfl) (loC_0_0 ha0).1 (loC_0_0 ha0).2.1 rfl (Nat.le_trans (by decide) hd) rfl (Nat.le_of_ble_eq_true rfl) dX0_putBatman_2 ?_
  refine am_ifB_eq C0 dX0_putBatman_5 (tgt := 28) (by decide) (fun c_2 => ?_) (fun c_2 => ?_)
  · replace h := am_in h c_2
    refine am_iconst C0 dX0_putBatman_28 ci_0 ?_
    have e := Option.some.inj h
    subst e
    exact hret _ _ dX0_putBatman_29
  · replace h := am_ip h c_2
    refine am_iload_n C0 dX0_putBatman_8 3 rfl ?_
    refine am_if_lt C0 dX0_putBatman_9 (tgt := 28) (by decide) (fun c_3 => ?_) (fun c_3 => ?_)
    · replace h := am_ip h c_3
      refine am_iconst C0 dX0_putBatman_28 ci_0 ?_
      have e := Option.some.inj h
      subst e
      exact hret _ _ dX0_putBatman_29
    · replace h := am_in h c_3
      refine am_iload_n C0 dX0_putBatman_12 3 rfl ?_
      refine am_iload_n C0 dX0_putBatman_13 1 rfl ?_
      refine am_iconst C0 dX0_putBatman_14 ci_3 ?_
      refine am_icmp_ne C0 dX0_putBatman_15 (tgt := 23) (by decide) (fun c_4 => ?_) (fun c_4 => ?_)
      · replace h := am_in h c_4
        refine am_bipush C0 dX0_putBatman_23 kb_99 ?_
        exact am_sub [0, 1, 2, 3] rfl (k_C_Front_putBatman_p25 C0 hd hret a0 x1 x2 x3 x3 99 σ ha0 h)
      · replace h := am_ip h c_4
        refine am_bipush C0 dX0_putBatman_18 kb_9 ?_
        refine am_goto C0 dX0_putBatman_20 (tgt := 25) (by decide) ?_
        exact am_sub [0, 1, 2, 3] rfl (k_C_Front_putBatman_p25 C0 hd hret a0 x1 x2 x3 x3 9 σ ha0 h)
set_option maxRecDepth 100000 in
set_option maxHeartbeats 4000000 in
theorem m_C_Front_putBatman {l : Launch} {d : Nat} {σ : am_SS} {q : Bool × am_SS} (hd : 2 ≤ d) (a0 : Nat) (x1 : Int32) (x2 : Int32) (x3 : Int32) (ha0 : LC.1 a0 = 2) (h : C_Front_putBatman a0 x1 x2 x3 σ = some q) : am_Met l yX0_putBatman cX0_putBatman 5 (some .boolean) d 0 0 LC (fun b => [.ref (b a0), .int x1, .int x2, .int x3]) σ (some (.int (am_bI q.1))) q.2 :=
  am_metI (plainFor_of_name (by decide)) (am_bI_nr _) (lv := fun b => [(0, .ref (b a0)), (1, .int x1), (2, .int x2), (3, .int x3)]) (fun _ => rfl) (fun _ => Nat.le_of_ble_eq_true rfl) (fun G C0 _ hret => k_C_Front_putBatman C0 hd hret a0 x1 x2 x3 σ ha0 h)
set_option maxRecDepth 100000 in
set_option maxHeartbeats 4000000 in
theorem k_C_Front_putLine {G : am_T} {d0 : Nat} (C0 : am_C G cX0_putLine 2 RX0 LC d0) (hd : 1 ≤ d0) {q : Bool × am_SS} (hret : am_retI G cX0_putLine 2 (am_bI q.1) q.2) (a0 : Nat) (x1 : Int32) (σ : am_SS) (ha0 : LC.1 a0 = 2) (h : C_Front_putLine a0 x1 σ = q) : am_K G 2 0 [(0, .ref (am_b G a0)), (1, .int x1)] [] σ := by
  unfold C_Front_putLine at h
  refine am_aload_n C0 dX0_putLine_0 0 rfl ?_
  refine am_getI C0 ff_RX0_52 (loC_0_13 ha0).1 (loC_0_13 ha0).2.1 (loC_0_13 ha0).2.2.1 (loC_0_13 ha0).2.2.2 dX0_putLine_1 ?_
  refine am_iconst C0 dX0_putLine_4 ci_m1 ?_
  refine am_icmp_ne C0 dX0_putLine_5 (tgt := 20) (by decide) (fun c_1 => ?_) (fun c_1 => ?_)
  · replace h := am_in h c_1
    refine am_iconst C0 dX0_putLine_20 ci_0 ?_
    have e := h
    subst e
    exact hret _ _ dX0_putLine_21
  · replace h := am_ip h c_1
    refine am_iload_n C0 dX0_putLine_8 1 rfl ?_
    refine am_bipush C0 dX0_putLine_9 kb_m99 ?_
    refine am_icmp_le C0 dX0_putLine_11 (tgt := 20) (by decide) (fun c_2 => ?_) (fun c_2 => ?_)
    · replace h := am_in h c_2
      refine am_iconst C0 dX0_putLine_20 ci_0 ?_
      have e := h
      subst e
      exact hret _ _ dX0_putLine_21
    · replace h := am_ip h c_2
      refine am_iload_n C0 dX0_putLine_14 1 rfl ?_
      refine am_bipush C0 dX0_putLine_15 kb_99 ?_
      refine am_icmp_lt C0 dX0_putLine_17 (tgt := 22) (by decide) (fun c_3 => ?_) (fun c_3 => ?_)
      · replace h := am_ip h c_3
        refine am_aload_n C0 dX0_putLine_22 0 rfl ?_
        refine am_iload_n C0 dX0_putLine_23 1 rfl ?_
        obtain ⟨σ_4, e_σ_4, h⟩ := am_lt h
        refine am_putI C0 e_σ_4 fp_RX0_49 (loC_0_12 ha0).1 (loC_0_12 ha0).2.1 (loC_0_12 ha0).2.2.1 (loC_0_12 ha0).2.2.2 rfl rfl dX0_putLine_24 ?_
        refine am_iconst C0 dX0_putLine_27 ci_1 ?_
        have e := h
        subst e
        exact hret _ _ dX0_putLine_28
      · replace h := am_in h c_3
        refine am_iconst C0 dX0_putLine_20 ci_0 ?_
        have e := h
        subst e
        exact hret _ _ dX0_putLine_21
set_option maxRecDepth 100000 in
set_option maxHeartbeats 4000000 in
theorem m_C_Front_putLine {l : Launch} {d : Nat} {σ : am_SS} {q : Bool × am_SS} (hd : 1 ≤ d) (a0 : Nat) (x1 : Int32) (ha0 : LC.1 a0 = 2) (h : C_Front_putLine a0 x1 σ = q) : am_Met l yX0_putLine cX0_putLine 2 (some .boolean) d 0 0 LC (fun b => [.ref (b a0), .int x1]) σ (some (.int (am_bI q.1))) q.2 :=
  am_metI (plainFor_of_name (by decide)) (am_bI_nr _) (lv := fun b => [(0, .ref (b a0)), (1, .int x1)]) (fun _ => rfl) (fun _ => Nat.le_of_ble_eq_true rfl) (fun G C0 _ hret => k_C_Front_putLine C0 hd hret a0 x1 σ ha0 h)
set_option maxRecDepth 100000 in
set_option maxHeartbeats 4000000 in
theorem k_C_Front_mustGiveUp_p28 {G : am_T} {d0 : Nat} (C0 : am_C G cX0_mustGiveUp 2 RX0 LC d0) (hd : 2 ≤ d0) {σ : am_SS} {q : Bool} (hret : am_retI G cX0_mustGiveUp 2 (am_bI q) σ) (h : C_Front_mustGiveUp_p28  σ = some q) : am_K G 2 28 [] [] σ := by
  unfold C_Front_mustGiveUp_p28 at h
  refine am_iconst C0 dX0_mustGiveUp_28 ci_1 ?_
  refine am_goto C0 dX0_mustGiveUp_29 (tgt := 33) (by decide) ?_
  have e := Option.some.inj h
  subst e
  exact hret _ _ dX0_mustGiveUp_33
set_option maxRecDepth 100000 in
set_option maxHeartbeats 4000000 in
theorem k_C_Front_mustGiveUp {G : am_T} {d0 : Nat} (C0 : am_C G cX0_mustGiveUp 2 RX0 LC d0) (hd : 2 ≤ d0) {σ : am_SS} {q : Bool} (hret : am_retI G cX0_mustGiveUp 2 (am_bI q) σ) (a0 : Nat) (x1 : Int32) (ha0 : LC.1 a0 = 2) (h : C_Front_mustGiveUp a0 x1 σ = some q) : am_K G 2 0 [(0, .ref (am_b G a0)), (1, .int x1)] [] σ := by
  unfold C_Front_mustGiveUp at h
  refine am_aload_n C0 dX0_mustGiveUp_0 0 rfl ?_
  refine am_iload_n C0 dX0_mustGiveUp_1 1 rfl ?_
  refine am_callV C0 (m_C_Front_hasOfficer (σ := σ) (Nat.le_refl _) a0 x1 ha0 rfl) mm_yX0_hasOfficer ln_RX0_61 (As := fun b => [.int x1]) (fun _ => rfl) (fun _ => rfl) (loC_0_0 ha0).1 (loC_0_0 ha0).2.1 rfl (Nat.le_trans (by decide) hd) rfl (Nat.le_of_ble_eq_true rfl) dX0_mustGiveUp_2 ?_
  refine am_ifB_eq C0 dX0_mustGiveUp_5 (tgt := 32) (by decide) (fun c_2 => ?_) (fun c_2 => ?_)
  · replace h := am_in h c_2
    refine am_iconst C0 dX0_mustGiveUp_32 ci_0 ?_
    have e := Option.some.inj h
    subst e
    exact hret _ _ dX0_mustGiveUp_33
  · replace h := am_ip h c_2
    refine am_aload_n C0 dX0_mustGiveUp_8 0 rfl ?_
    refine am_getR C0 (j := a0 + 6) ff_RX0_31 (loC_0_6 ha0).1 (loC_0_6 ha0).2.1 (loC_0_6 ha0).2.2.1 (loC_0_6 ha0).2.2.2 dX0_mustGiveUp_9 ?_
    refine am_iload_n C0 dX0_mustGiveUp_12 1 rfl ?_
    obtain ⟨t_3, h_t_3, h⟩ := am_bind h
    refine am_iald C0 (ltC (tgC_0_6 ha0)) (tgC_0_6 ha0) (lnC_0_6 ha0) h_t_3 dX0_mustGiveUp_13 ?_
    refine am_iconst C0 dX0_mustGiveUp_14 ci_1 ?_
    refine am_icmp_eq C0 dX0_mustGiveUp_15 (tgt := 28) (by decide) (fun c_4 => ?_) (fun c_4 => ?_)
    · replace h := am_ip h c_4
      exact am_sub [] rfl (k_C_Front_mustGiveUp_p28 C0 hd hret   h)
    · replace h := am_in h c_4
      refine am_aload_n C0 dX0_mustGiveUp_18 0 rfl ?_
      refine am_getR C0 (j := a0 + 5) ff_RX0_28 (loC_0_5 ha0).1 (loC_0_5 ha0).2.1 (loC_0_5 ha0).2.2.1 (loC_0_5 ha0).2.2.2 dX0_mustGiveUp_19 ?_
      refine am_iload_n C0 dX0_mustGiveUp_22 1 rfl ?_
      obtain ⟨t_5, h_t_5, h⟩ := am_bind h
      refine am_iald C0 (ltC (tgC_0_5 ha0)) (tgC_0_5 ha0) (lnC_0_5 ha0) h_t_5 dX0_mustGiveUp_23 ?_
      refine am_iconst C0 dX0_mustGiveUp_24 ci_1 ?_
      refine am_icmp_ne C0 dX0_mustGiveUp_25 (tgt := 32) (by decide) (fun c_6 => ?_) (fun c_6 => ?_)
      · replace h := am_in h c_6
        refine am_iconst C0 dX0_mustGiveUp_32 ci_0 ?_
        have e := Option.some.inj h
        subst e
        exact hret _ _ dX0_mustGiveUp_33
      · replace h := am_ip h c_6
        exact am_sub [] rfl (k_C_Front_mustGiveUp_p28 C0 hd hret   h)
set_option maxRecDepth 100000 in
set_option maxHeartbeats 4000000 in
theorem m_C_Front_mustGiveUp {l : Launch} {d : Nat} {σ : am_SS} {q : Bool} (hd : 2 ≤ d) (a0 : Nat) (x1 : Int32) (ha0 : LC.1 a0 = 2) (h : C_Front_mustGiveUp a0 x1 σ = some q) : am_Met l yX0_mustGiveUp cX0_mustGiveUp 2 (some .boolean) d 0 0 LC (fun b => [.ref (b a0), .int x1]) σ (some (.int (am_bI q))) σ :=
  am_metI (plainFor_of_name (by decide)) (am_bI_nr _) (lv := fun b => [(0, .ref (b a0)), (1, .int x1)]) (fun _ => rfl) (fun _ => Nat.le_of_ble_eq_true rfl) (fun G C0 _ hret => k_C_Front_mustGiveUp C0 hd hret a0 x1 ha0 h)
set_option maxRecDepth 100000 in
set_option maxHeartbeats 4000000 in
theorem k_C_Front_hasTen {G : am_T} {d0 : Nat} (C0 : am_C G cX0_hasTen 2 RX0 LC d0) (hd : 2 ≤ d0) {σ : am_SS} {q : Bool} (hret : am_retI G cX0_hasTen 2 (am_bI q) σ) (a0 : Nat) (x1 : Int32) (ha0 : LC.1 a0 = 2) (h : C_Front_hasTen a0 x1 σ = some q) : am_K G 2 0 [(0, .ref (am_b G a0)), (1, .int x1)] [] σ := by
  unfold C_Front_hasTen at h
  refine am_aload_n C0 dX0_hasTen_0 0 rfl ?_
  refine am_iload_n C0 dX0_hasTen_1 1 rfl ?_
  refine am_callV C0 (m_C_Front_hasOfficer (σ := σ) (Nat.le_refl _) a0 x1 ha0 rfl) mm_yX0_hasOfficer ln_RX0_61 (As := fun b => [.int x1]) (fun _ => rfl) (fun _ => rfl) (loC_0_0 ha0).1 (loC_0_0 ha0).2.1 rfl (Nat.le_trans (by decide) hd) rfl (Nat.le_of_ble_eq_true rfl) dX0_hasTen_2 ?_
  refine am_ifB_eq C0 dX0_hasTen_5 (tgt := 23) (by decide) (fun c_2 => ?_) (fun c_2 => ?_)
  · replace h := am_in h c_2
    refine am_iconst C0 dX0_hasTen_23 ci_0 ?_
    have e := Option.some.inj h
    subst e
    exact hret _ _ dX0_hasTen_24
  · replace h := am_ip h c_2
    refine am_aload_n C0 dX0_hasTen_8 0 rfl ?_
    refine am_getR C0 (j := a0 + 4) ff_RX0_25 (loC_0_4 ha0).1 (loC_0_4 ha0).2.1 (loC_0_4 ha0).2.2.1 (loC_0_4 ha0).2.2.2 dX0_hasTen_9 ?_
    refine am_iload_n C0 dX0_hasTen_12 1 rfl ?_
    obtain ⟨t_3, h_t_3, h⟩ := am_bind h
    refine am_iald C0 (ltC (tgC_0_4 ha0)) (tgC_0_4 ha0) (lnC_0_4 ha0) h_t_3 dX0_hasTen_13 ?_
    refine am_bipush C0 dX0_hasTen_14 kb_10 ?_
    refine am_icmp_lt C0 dX0_hasTen_16 (tgt := 23) (by decide) (fun c_4 => ?_) (fun c_4 => ?_)
    · replace h := am_ip h c_4
      refine am_iconst C0 dX0_hasTen_23 ci_0 ?_
      have e := Option.some.inj h
      subst e
      exact hret _ _ dX0_hasTen_24
    · replace h := am_in h c_4
      refine am_iconst C0 dX0_hasTen_19 ci_1 ?_
      refine am_goto C0 dX0_hasTen_20 (tgt := 24) (by decide) ?_
      have e := Option.some.inj h
      subst e
      exact hret _ _ dX0_hasTen_24
set_option maxRecDepth 100000 in
set_option maxHeartbeats 4000000 in
theorem m_C_Front_hasTen {l : Launch} {d : Nat} {σ : am_SS} {q : Bool} (hd : 2 ≤ d) (a0 : Nat) (x1 : Int32) (ha0 : LC.1 a0 = 2) (h : C_Front_hasTen a0 x1 σ = some q) : am_Met l yX0_hasTen cX0_hasTen 2 (some .boolean) d 0 0 LC (fun b => [.ref (b a0), .int x1]) σ (some (.int (am_bI q))) σ :=
  am_metI (plainFor_of_name (by decide)) (am_bI_nr _) (lv := fun b => [(0, .ref (b a0)), (1, .int x1)]) (fun _ => rfl) (fun _ => Nat.le_of_ble_eq_true rfl) (fun G C0 _ hret => k_C_Front_hasTen C0 hd hret a0 x1 ha0 h)
set_option maxRecDepth 100000 in
set_option maxHeartbeats 4000000 in
theorem k_C_Front_draw {G : am_T} {d0 : Nat} (C0 : am_C G cX0_draw 2 RX0 LC d0) (hd : 1 ≤ d0) {q : Int32 × am_SS} (hret : am_retI G cX0_draw 2 q.1 q.2) (a0 : Nat) (x1 : Int32) (σ : am_SS) (ha0 : LC.1 a0 = 2) (h : C_Front_draw a0 x1 σ = some q) : am_K G 2 0 [(0, .ref (am_b G a0)), (1, .int x1)] [] σ := by
  unfold C_Front_draw at h
  refine am_aload_n C0 dX0_draw_0 0 rfl ?_
  refine am_aload_n C0 dX0_draw_1 0 rfl ?_
  refine am_getI C0 ff_RX0_58 (loC_0_15 ha0).1 (loC_0_15 ha0).2.1 (loC_0_15 ha0).2.2.1 (loC_0_15 ha0).2.2.2 dX0_draw_2 ?_
  refine am_ldc C0 kc_RX0_68 dX0_draw_5 ?_
  refine am_imul C0 dX0_draw_7 ?_
  refine am_ldc C0 kc_RX0_69 dX0_draw_8 ?_
  refine am_iadd C0 dX0_draw_10 ?_
  obtain ⟨σ_1, e_σ_1, h⟩ := am_lt h
  refine am_putI C0 e_σ_1 fp_RX0_58 (loC_0_15 ha0).1 (loC_0_15 ha0).2.1 (loC_0_15 ha0).2.2.1 (loC_0_15 ha0).2.2.2 rfl rfl dX0_draw_11 ?_
  refine am_iload_n C0 dX0_draw_14 1 rfl ?_
  refine am_iconst C0 dX0_draw_15 ci_1 ?_
  refine am_icmp_ge C0 dX0_draw_16 (tgt := 23) (by decide) (fun c_2 => ?_) (fun c_2 => ?_)
  · replace h := am_in h c_2
    refine am_aload_n C0 dX0_draw_23 0 rfl ?_
    refine am_getI C0 ff_RX0_58 (loC_0_15 ha0).1 (loC_0_15 ha0).2.1 (loC_0_15 ha0).2.2.1 (loC_0_15 ha0).2.2.2 dX0_draw_24 ?_
    refine am_bipush C0 dX0_draw_27 kb_8 ?_
    refine am_iushr C0 dX0_draw_29 ?_
    refine am_iload_n C0 dX0_draw_30 1 rfl ?_
    obtain ⟨hz_3, h⟩ := am_gd h
    refine am_irem C0 dX0_draw_31 hz_3 ?_
    have e := Option.some.inj h
    subst e
    exact hret _ _ dX0_draw_32
  · replace h := am_ip h c_2
    refine am_iconst C0 dX0_draw_19 ci_0 ?_
    refine am_goto C0 dX0_draw_20 (tgt := 32) (by decide) ?_
    have e := Option.some.inj h
    subst e
    exact hret _ _ dX0_draw_32
set_option maxRecDepth 100000 in
set_option maxHeartbeats 4000000 in
theorem m_C_Front_draw {l : Launch} {d : Nat} {σ : am_SS} {q : Int32 × am_SS} (hd : 1 ≤ d) (a0 : Nat) (x1 : Int32) (ha0 : LC.1 a0 = 2) (h : C_Front_draw a0 x1 σ = some q) : am_Met l yX0_draw cX0_draw 2 (some .int) d 0 0 LC (fun b => [.ref (b a0), .int x1]) σ (some (.int q.1)) q.2 :=
  am_metI (plainFor_of_name (by decide)) rfl (lv := fun b => [(0, .ref (b a0)), (1, .int x1)]) (fun _ => rfl) (fun _ => Nat.le_of_ble_eq_true rfl) (fun G C0 _ hret => k_C_Front_draw C0 hd hret a0 x1 σ ha0 h)
set_option maxRecDepth 100000 in
set_option maxHeartbeats 4000000 in
theorem k_C_Front_value {G : am_T} {d0 : Nat} (C0 : am_C G cX0_value 4 RX0 LC d0) (hd : 2 ≤ d0) {σ : am_SS} {q : Int32} (hret : am_retI G cX0_value 4 q σ) (a0 : Nat) (x1 : Int32) (x2 : Int32) (x3 : Int32) (ha0 : LC.1 a0 = 2) (h : C_Front_value a0 x1 x2 x3 σ = some q) : am_K G 4 0 [(0, .ref (am_b G a0)), (1, .int x1), (2, .int x2), (3, .int x3)] [] σ := by
  unfold C_Front_value at h
  refine am_aload_n C0 dX0_value_0 0 rfl ?_
  refine am_iload_n C0 dX0_value_1 2 rfl ?_
  refine am_callV C0 (m_C_Front_hasOfficer (σ := σ) (Nat.le_refl _) a0 x2 ha0 rfl) mm_yX0_hasOfficer ln_RX0_61 (As := fun b => [.int x2]) (fun _ => rfl) (fun _ => rfl) (loC_0_0 ha0).1 (loC_0_0 ha0).2.1 rfl (Nat.le_trans (by decide) hd) rfl (Nat.le_of_ble_eq_true rfl) dX0_value_2 ?_
  refine am_ifB_ne C0 dX0_value_5 (tgt := 10) (by decide) (fun c_2 => ?_) (fun c_2 => ?_)
  · replace h := am_ip h c_2
    refine am_iload_n C0 dX0_value_10 1 rfl ?_
    by_cases c_3 : x1 = 7
    · replace h := am_ip h c_3
      refine am_tabIn C0 dX0_value_11 (tgt := 64) (off := 53) (by rw [c_3]; decide) (by rw [c_3]; decide) (by rw [c_3]; first | done | rfl | decide) (by decide) ?_
      refine am_aload_n C0 dX0_value_64 0 rfl ?_
      refine am_getR C0 (j := a0 + 2) ff_RX0_19 (loC_0_2 ha0).1 (loC_0_2 ha0).2.1 (loC_0_2 ha0).2.2.1 (loC_0_2 ha0).2.2.2 dX0_value_65 ?_
      refine am_iload_n C0 dX0_value_68 2 rfl ?_
      obtain ⟨t_4, h_t_4, h⟩ := am_bind h
      refine am_iald C0 (ltC (tgC_0_2 ha0)) (tgC_0_2 ha0) (lnC_0_2 ha0) h_t_4 dX0_value_69 ?_
      have e := Option.some.inj h
      subst e
      exact hret _ _ dX0_value_70
    replace h := am_in h c_3
    by_cases c_5 : x1 = 8
    · replace h := am_ip h c_5
      refine am_tabIn C0 dX0_value_11 (tgt := 71) (off := 60) (by rw [c_5]; decide) (by rw [c_5]; decide) (by rw [c_5]; first | done | rfl | decide) (by decide) ?_
      refine am_aload_n C0 dX0_value_71 0 rfl ?_
      refine am_getR C0 (j := a0 + 3) ff_RX0_22 (loC_0_3 ha0).1 (loC_0_3 ha0).2.1 (loC_0_3 ha0).2.2.1 (loC_0_3 ha0).2.2.2 dX0_value_72 ?_
      refine am_iload_n C0 dX0_value_75 2 rfl ?_
      obtain ⟨t_6, h_t_6, h⟩ := am_bind h
      refine am_iald C0 (ltC (tgC_0_3 ha0)) (tgC_0_3 ha0) (lnC_0_3 ha0) h_t_6 dX0_value_76 ?_
      have e := Option.some.inj h
      subst e
      exact hret _ _ dX0_value_77
    replace h := am_in h c_5
    by_cases c_7 : x1 = 9
    · replace h := am_ip h c_7
      refine am_tabIn C0 dX0_value_11 (tgt := 78) (off := 67) (by rw [c_7]; decide) (by rw [c_7]; decide) (by rw [c_7]; first | done | rfl | decide) (by decide) ?_
      refine am_aload_n C0 dX0_value_78 0 rfl ?_
      refine am_getR C0 (j := a0 + 4) ff_RX0_25 (loC_0_4 ha0).1 (loC_0_4 ha0).2.1 (loC_0_4 ha0).2.2.1 (loC_0_4 ha0).2.2.2 dX0_value_79 ?_
      refine am_iload_n C0 dX0_value_82 2 rfl ?_
      obtain ⟨t_8, h_t_8, h⟩ := am_bind h
      refine am_iald C0 (ltC (tgC_0_4 ha0)) (tgC_0_4 ha0) (lnC_0_4 ha0) h_t_8 dX0_value_83 ?_
      have e := Option.some.inj h
      subst e
      exact hret _ _ dX0_value_84
    replace h := am_in h c_7
    by_cases c_9 : x1 = 10
    · replace h := am_ip h c_9
      refine am_tabIn C0 dX0_value_11 (tgt := 85) (off := 74) (by rw [c_9]; decide) (by rw [c_9]; decide) (by rw [c_9]; first | done | rfl | decide) (by decide) ?_
      refine am_aload_n C0 dX0_value_85 0 rfl ?_
      refine am_getR C0 (j := a0 + 6) ff_RX0_31 (loC_0_6 ha0).1 (loC_0_6 ha0).2.1 (loC_0_6 ha0).2.2.1 (loC_0_6 ha0).2.2.2 dX0_value_86 ?_
      refine am_iload_n C0 dX0_value_89 2 rfl ?_
      obtain ⟨t_10, h_t_10, h⟩ := am_bind h
      refine am_iald C0 (ltC (tgC_0_6 ha0)) (tgC_0_6 ha0) (lnC_0_6 ha0) h_t_10 dX0_value_90 ?_
      have e := Option.some.inj h
      subst e
      exact hret _ _ dX0_value_91
    replace h := am_in h c_9
    by_cases c_11 : x1 = 11
    · replace h := am_ip h c_11
      refine am_tabIn C0 dX0_value_11 (tgt := 92) (off := 81) (by rw [c_11]; decide) (by rw [c_11]; decide) (by rw [c_11]; first | done | rfl | decide) (by decide) ?_
      refine am_aload_n C0 dX0_value_92 0 rfl ?_
      refine am_iload_n C0 dX0_value_93 3 rfl ?_
      refine am_callV C0 (m_C_Front_hasBatman (σ := σ) (Nat.le_refl _) a0 x3 ha0 rfl) mm_yX0_hasBatman ln_RX0_65 (As := fun b => [.int x3]) (fun _ => rfl) (fun _ => rfl) (loC_0_0 ha0).1 (loC_0_0 ha0).2.1 rfl (Nat.le_trans (by decide) hd) rfl (Nat.le_of_ble_eq_true rfl) dX0_value_94 ?_
      refine am_ifB_eq C0 dX0_value_97 (tgt := 109) (by decide) (fun c_13 => ?_) (fun c_13 => ?_)
      · replace h := am_in h c_13
        refine am_iconst C0 dX0_value_109 ci_0 ?_
        have e := Option.some.inj h
        subst e
        exact hret _ _ dX0_value_110
      · replace h := am_ip h c_13
        refine am_aload_n C0 dX0_value_100 0 rfl ?_
        refine am_getR C0 (j := a0 + 9) ff_RX0_43 (loC_0_10 ha0).1 (loC_0_10 ha0).2.1 (loC_0_10 ha0).2.2.1 (loC_0_10 ha0).2.2.2 dX0_value_101 ?_
        refine am_iload_n C0 dX0_value_104 3 rfl ?_
        obtain ⟨t_14, h_t_14, h⟩ := am_bind h
        refine am_iald C0 (ltC (tgC_0_10 ha0)) (tgC_0_10 ha0) (lnC_0_10 ha0) h_t_14 dX0_value_105 ?_
        refine am_goto C0 dX0_value_106 (tgt := 110) (by decide) ?_
        have e := Option.some.inj h
        subst e
        exact hret _ _ dX0_value_110
    replace h := am_in h c_11
    by_cases c_15 : x1 = 12
    · replace h := am_ip h c_15
      refine am_tabIn C0 dX0_value_11 (tgt := 111) (off := 100) (by rw [c_15]; decide) (by rw [c_15]; decide) (by rw [c_15]; first | done | rfl | decide) (by decide) ?_
      refine am_aload_n C0 dX0_value_111 0 rfl ?_
      refine am_iload_n C0 dX0_value_112 3 rfl ?_
      refine am_callV C0 (m_C_Front_hasBatman (σ := σ) (Nat.le_refl _) a0 x3 ha0 rfl) mm_yX0_hasBatman ln_RX0_65 (As := fun b => [.int x3]) (fun _ => rfl) (fun _ => rfl) (loC_0_0 ha0).1 (loC_0_0 ha0).2.1 rfl (Nat.le_trans (by decide) hd) rfl (Nat.le_of_ble_eq_true rfl) dX0_value_113 ?_
      refine am_ifB_eq C0 dX0_value_116 (tgt := 128) (by decide) (fun c_17 => ?_) (fun c_17 => ?_)
      · replace h := am_in h c_17
        refine am_iconst C0 dX0_value_128 ci_0 ?_
        have e := Option.some.inj h
        subst e
        exact hret _ _ dX0_value_129
      · replace h := am_ip h c_17
        refine am_aload_n C0 dX0_value_119 0 rfl ?_
        refine am_getR C0 (j := a0 + 10) ff_RX0_46 (loC_0_11 ha0).1 (loC_0_11 ha0).2.1 (loC_0_11 ha0).2.2.1 (loC_0_11 ha0).2.2.2 dX0_value_120 ?_
        refine am_iload_n C0 dX0_value_123 3 rfl ?_
        obtain ⟨t_18, h_t_18, h⟩ := am_bind h
        refine am_iald C0 (ltC (tgC_0_11 ha0)) (tgC_0_11 ha0) (lnC_0_11 ha0) h_t_18 dX0_value_124 ?_
        refine am_goto C0 dX0_value_125 (tgt := 129) (by decide) ?_
        have e := Option.some.inj h
        subst e
        exact hret _ _ dX0_value_129
    replace h := am_in h c_15
    by_cases c_19 : x1 = 13
    · replace h := am_ip h c_19
      refine am_tabIn C0 dX0_value_11 (tgt := 130) (off := 119) (by rw [c_19]; decide) (by rw [c_19]; decide) (by rw [c_19]; first | done | rfl | decide) (by decide) ?_
      refine am_aload_n C0 dX0_value_130 0 rfl ?_
      refine am_getI C0 ff_RX0_49 (loC_0_12 ha0).1 (loC_0_12 ha0).2.1 (loC_0_12 ha0).2.2.1 (loC_0_12 ha0).2.2.2 dX0_value_131 ?_
      have e := Option.some.inj h
      subst e
      exact hret _ _ dX0_value_134
    replace h := am_in h c_19
    by_cases c_20 : x1 = 14
    · replace h := am_ip h c_20
      refine am_tabIn C0 dX0_value_11 (tgt := 135) (off := 124) (by rw [c_20]; decide) (by rw [c_20]; decide) (by rw [c_20]; first | done | rfl | decide) (by decide) ?_
      refine am_aload_n C0 dX0_value_135 0 rfl ?_
      refine am_getR C0 (j := a0 + 1) ff_RX0_15 (loC_0_1 ha0).1 (loC_0_1 ha0).2.1 (loC_0_1 ha0).2.2.1 (loC_0_1 ha0).2.2.2 dX0_value_136 ?_
      refine am_iload_n C0 dX0_value_139 2 rfl ?_
      obtain ⟨t_21, h_t_21, h⟩ := am_bind h
      refine am_iald C0 (ltC (tgC_0_1 ha0)) (tgC_0_1 ha0) (lnC_0_1 ha0) h_t_21 dX0_value_140 ?_
      have e := Option.some.inj h
      subst e
      exact hret _ _ dX0_value_141
    replace h := am_in h c_20
    by_cases c_22 : x1 = 15
    · replace h := am_ip h c_22
      refine am_tabIn C0 dX0_value_11 (tgt := 142) (off := 131) (by rw [c_22]; decide) (by rw [c_22]; decide) (by rw [c_22]; first | done | rfl | decide) (by decide) ?_
      refine am_aload_n C0 dX0_value_142 0 rfl ?_
      refine am_getR C0 (j := a0 + 7) ff_RX0_34 (loC_0_7 ha0).1 (loC_0_7 ha0).2.1 (loC_0_7 ha0).2.2.1 (loC_0_7 ha0).2.2.2 dX0_value_143 ?_
      refine am_iload_n C0 dX0_value_146 2 rfl ?_
      obtain ⟨t_23, h_t_23, h⟩ := am_bind h
      refine am_iald C0 (ltC (tgC_0_7 ha0)) (tgC_0_7 ha0) (lnC_0_7 ha0) h_t_23 dX0_value_147 ?_
      have e := Option.some.inj h
      subst e
      exact hret _ _ dX0_value_148
    replace h := am_in h c_22
    by_cases c_24 : x1 = 16
    · replace h := am_ip h c_24
      refine am_tabIn C0 dX0_value_11 (tgt := 149) (off := 138) (by rw [c_24]; decide) (by rw [c_24]; decide) (by rw [c_24]; first | done | rfl | decide) (by decide) ?_
      refine am_aload_n C0 dX0_value_149 0 rfl ?_
      refine am_getI C0 ff_RX0_55 (loC_0_14 ha0).1 (loC_0_14 ha0).2.1 (loC_0_14 ha0).2.2.1 (loC_0_14 ha0).2.2.2 dX0_value_150 ?_
      have e := Option.some.inj h
      subst e
      exact hret _ _ dX0_value_153
    replace h := am_in h c_24
    refine am_tabOut C0 dX0_value_11 (tgt := 154) (am_sw_7_16 c_3 c_5 c_7 c_9 c_11 c_15 c_19 c_20 c_22 c_24) (by decide) ?_
    refine am_iconst C0 dX0_value_154 ci_0 ?_
    have e := Option.some.inj h
    subst e
    exact hret _ _ dX0_value_155
  · replace h := am_in h c_2
    refine am_iconst C0 dX0_value_8 ci_0 ?_
    have e := Option.some.inj h
    subst e
    exact hret _ _ dX0_value_9
set_option maxRecDepth 100000 in
set_option maxHeartbeats 4000000 in
theorem m_C_Front_value {l : Launch} {d : Nat} {σ : am_SS} {q : Int32} (hd : 2 ≤ d) (a0 : Nat) (x1 : Int32) (x2 : Int32) (x3 : Int32) (ha0 : LC.1 a0 = 2) (h : C_Front_value a0 x1 x2 x3 σ = some q) : am_Met l yX0_value cX0_value 4 (some .int) d 0 0 LC (fun b => [.ref (b a0), .int x1, .int x2, .int x3]) σ (some (.int q)) σ :=
  am_metI (plainFor_of_name (by decide)) rfl (lv := fun b => [(0, .ref (b a0)), (1, .int x1), (2, .int x2), (3, .int x3)]) (fun _ => rfl) (fun _ => Nat.le_of_ble_eq_true rfl) (fun G C0 _ hret => k_C_Front_value C0 hd hret a0 x1 x2 x3 ha0 h)
set_option maxRecDepth 100000 in
set_option maxHeartbeats 4000000 in
theorem k_C_Front_total_l4 {G : am_T} {d0 : Nat} (C0 : am_C G cX0_total 4 RX0 LC d0) (hd : 1 ≤ d0) (F : Nat) {σ : am_SS} {q : Int32} (hret : am_retI G cX0_total 4 q σ) : ∀ (n : Nat) (a0 : Nat) (a1 : Nat) (x2 : Int32) (x3 : Int32) (ha0 : LC.1 a0 = 2) (ha1 : LC.1 a1 = 0) (h : C_Front_total_l4 F n a0 a1 x2 x3 σ = some q), am_K G 4 4 [(0, .ref (am_b G a0)), (1, .ref (am_b G a1)), (2, .int x2), (3, .int x3)] [] σ := by
  intro n
  induction n with
  | zero =>
    intro a0 a1 x2 x3 ha0 ha1 h
    rw [C_Front_total_l4] at h
    cases h
  | succ n ih =>
    intro a0 a1 x2 x3 ha0 ha1 h
    rw [C_Front_total_l4] at h
    refine am_iload_n C0 dX0_total_4 3 rfl ?_
    refine am_aload_n C0 dX0_total_5 0 rfl ?_
    refine am_getI C0 ff_RX0_9 (loC_0_0 ha0).1 (loC_0_0 ha0).2.1 (loC_0_0 ha0).2.2.1 (loC_0_0 ha0).2.2.2 dX0_total_6 ?_
    refine am_icmp_ge C0 dX0_total_9 (tgt := 30) (by decide) (fun c_1 => ?_) (fun c_1 => ?_)
    · replace h := am_in h c_1
      refine am_iload_n C0 dX0_total_30 2 rfl ?_
      have e := Option.some.inj h
      subst e
      exact hret _ _ dX0_total_31
    · replace h := am_ip h c_1
      refine am_iload_n C0 dX0_total_12 3 rfl ?_
      refine am_aload_n C0 dX0_total_13 1 rfl ?_
      refine am_alen C0 (ltC ha1) ha1 rfl rfl dX0_total_14 ?_
      refine am_icmp_ge C0 dX0_total_15 (tgt := 30) (by decide) (fun c_2 => ?_) (fun c_2 => ?_)
      · replace h := am_in h c_2
        refine am_iload_n C0 dX0_total_30 2 rfl ?_
        have e := Option.some.inj h
        subst e
        exact hret _ _ dX0_total_31
      · replace h := am_ip h c_2
        refine am_iload_n C0 dX0_total_18 2 rfl ?_
        refine am_aload_n C0 dX0_total_19 1 rfl ?_
        refine am_iload_n C0 dX0_total_20 3 rfl ?_
        obtain ⟨t_3, h_t_3, h⟩ := am_bind h
        refine am_iald C0 (ltC ha1) ha1 rfl h_t_3 dX0_total_21 ?_
        refine am_iadd C0 dX0_total_22 ?_
        obtain ⟨x2_4, e_x2_4, h⟩ := am_lt h
        refine am_top e_x2_4 ?_
        refine am_istore_n C0 dX0_total_23 rfl (by decide) rfl (lv' := [(0, .ref (am_b G a0)), (1, .ref (am_b G a1)), (2, .int x2_4), (3, .int x3)]) rfl ?_
        obtain ⟨x3_5, e_x3_5, h⟩ := am_lt h
        refine am_iinc C0 dX0_total_24 3 rfl (by rw [ci_1]; exact e_x3_5) (by decide) rfl (lv' := [(0, .ref (am_b G a0)), (1, .ref (am_b G a1)), (2, .int x2_4), (3, .int x3_5)]) rfl ?_
        refine am_goto C0 dX0_total_27 (tgt := 4) (by decide) ?_
        exact am_sub [0, 1, 2, 3] rfl (ih a0 a1 x2_4 x3_5 ha0 ha1 h)
set_option maxRecDepth 100000 in
set_option maxHeartbeats 4000000 in
theorem k_C_Front_total {G : am_T} {d0 : Nat} (C0 : am_C G cX0_total 4 RX0 LC d0) (hd : 1 ≤ d0) (F : Nat) {σ : am_SS} {q : Int32} (hret : am_retI G cX0_total 4 q σ) (a0 : Nat) (a1 : Nat) (ha0 : LC.1 a0 = 2) (ha1 : LC.1 a1 = 0) (h : C_Front_total F a0 a1 σ = some q) : am_K G 4 0 [(0, .ref (am_b G a0)), (1, .ref (am_b G a1))] [] σ := by
  unfold C_Front_total at h
  refine am_iconst C0 dX0_total_0 ci_0 ?_
  refine am_istore_n C0 dX0_total_1 rfl (by decide) rfl (lv' := [(0, .ref (am_b G a0)), (1, .ref (am_b G a1)), (2, .int 0)]) rfl ?_
  refine am_iconst C0 dX0_total_2 ci_0 ?_
  refine am_istore_n C0 dX0_total_3 rfl (by decide) rfl (lv' := [(0, .ref (am_b G a0)), (1, .ref (am_b G a1)), (2, .int 0), (3, .int 0)]) rfl ?_
  exact am_sub [0, 1, 2, 3] rfl (k_C_Front_total_l4 C0 hd F hret F a0 a1 0 0 ha0 ha1 h)
set_option maxRecDepth 100000 in
set_option maxHeartbeats 4000000 in
theorem m_C_Front_total {l : Launch} {d : Nat} {σ : am_SS} {q : Int32} (hd : 1 ≤ d) (F : Nat) (a0 : Nat) (a1 : Nat) (ha0 : LC.1 a0 = 2) (ha1 : LC.1 a1 = 0) (h : C_Front_total F a0 a1 σ = some q) : am_Met l yX0_total cX0_total 4 (some .int) d 0 0 LC (fun b => [.ref (b a0), .ref (b a1)]) σ (some (.int q)) σ :=
  am_metI (plainFor_of_name (by decide)) rfl (lv := fun b => [(0, .ref (b a0)), (1, .ref (b a1))]) (fun _ => rfl) (fun _ => Nat.le_of_ble_eq_true rfl) (fun G C0 _ hret => k_C_Front_total C0 hd F hret a0 a1 ha0 ha1 h)
set_option maxRecDepth 100000 in
set_option maxHeartbeats 4000000 in
theorem k_C_Front_whoIsRead_l4 {G : am_T} {d0 : Nat} (C0 : am_C G cX0_whoIsRead 3 RX0 LC d0) (hd : 1 ≤ d0) (F : Nat) {σ : am_SS} {q : Int32} (hret : am_retI G cX0_whoIsRead 3 q σ) : ∀ (n : Nat) (a0 : Nat) (x1 : Int32) (x2 : Int32) (ha0 : LC.1 a0 = 2) (h : C_Front_whoIsRead_l4 F n a0 x1 x2 σ = some q), am_K G 3 4 [(0, .ref (am_b G a0)), (1, .int x1), (2, .int x2)] [] σ := by
  intro n
  induction n with
  | zero =>
    intro a0 x1 x2 ha0 h
    rw [C_Front_whoIsRead_l4] at h
    cases h
  | succ n ih =>
    intro a0 x1 x2 ha0 h
    rw [C_Front_whoIsRead_l4] at h
    refine am_iload_n C0 dX0_whoIsRead_4 2 rfl ?_
    refine am_aload_n C0 dX0_whoIsRead_5 0 rfl ?_
    refine am_getI C0 ff_RX0_9 (loC_0_0 ha0).1 (loC_0_0 ha0).2.1 (loC_0_0 ha0).2.2.1 (loC_0_0 ha0).2.2.2 dX0_whoIsRead_6 ?_
    refine am_icmp_ge C0 dX0_whoIsRead_9 (tgt := 35) (by decide) (fun c_1 => ?_) (fun c_1 => ?_)
    · replace h := am_in h c_1
      refine am_iload_n C0 dX0_whoIsRead_35 1 rfl ?_
      have e := Option.some.inj h
      subst e
      exact hret _ _ dX0_whoIsRead_36
    · replace h := am_ip h c_1
      refine am_iload_n C0 dX0_whoIsRead_12 2 rfl ?_
      refine am_bipush C0 dX0_whoIsRead_13 kb_12 ?_
      refine am_icmp_ge C0 dX0_whoIsRead_15 (tgt := 35) (by decide) (fun c_2 => ?_) (fun c_2 => ?_)
      · replace h := am_in h c_2
        refine am_iload_n C0 dX0_whoIsRead_35 1 rfl ?_
        have e := Option.some.inj h
        subst e
        exact hret _ _ dX0_whoIsRead_36
      · replace h := am_ip h c_2
        refine am_iload_n C0 dX0_whoIsRead_18 1 rfl ?_
        refine am_aload_n C0 dX0_whoIsRead_19 0 rfl ?_
        refine am_getR C0 (j := a0 + 5) ff_RX0_28 (loC_0_5 ha0).1 (loC_0_5 ha0).2.1 (loC_0_5 ha0).2.2.1 (loC_0_5 ha0).2.2.2 dX0_whoIsRead_20 ?_
        refine am_iload_n C0 dX0_whoIsRead_23 2 rfl ?_
        obtain ⟨t_3, h_t_3, h⟩ := am_bind h
        refine am_iald C0 (ltC (tgC_0_5 ha0)) (tgC_0_5 ha0) (lnC_0_5 ha0) h_t_3 dX0_whoIsRead_24 ?_
        refine am_iload_n C0 dX0_whoIsRead_25 2 rfl ?_
        refine am_ishl C0 dX0_whoIsRead_26 ?_
        refine am_ior C0 dX0_whoIsRead_27 ?_
        obtain ⟨x1_4, e_x1_4, h⟩ := am_lt h
        refine am_top e_x1_4 ?_
        refine am_istore_n C0 dX0_whoIsRead_28 rfl (by decide) rfl (lv' := [(0, .ref (am_b G a0)), (1, .int x1_4), (2, .int x2)]) rfl ?_
        obtain ⟨x2_5, e_x2_5, h⟩ := am_lt h
        refine am_iinc C0 dX0_whoIsRead_29 2 rfl (by rw [ci_1]; exact e_x2_5) (by decide) rfl (lv' := [(0, .ref (am_b G a0)), (1, .int x1_4), (2, .int x2_5)]) rfl ?_
        refine am_goto C0 dX0_whoIsRead_32 (tgt := 4) (by decide) ?_
        exact am_sub [0, 1, 2] rfl (ih a0 x1_4 x2_5 ha0 h)
set_option maxRecDepth 100000 in
set_option maxHeartbeats 4000000 in
theorem k_C_Front_whoIsRead {G : am_T} {d0 : Nat} (C0 : am_C G cX0_whoIsRead 3 RX0 LC d0) (hd : 1 ≤ d0) (F : Nat) {σ : am_SS} {q : Int32} (hret : am_retI G cX0_whoIsRead 3 q σ) (a0 : Nat) (ha0 : LC.1 a0 = 2) (h : C_Front_whoIsRead F a0 σ = some q) : am_K G 3 0 [(0, .ref (am_b G a0))] [] σ := by
  unfold C_Front_whoIsRead at h
  refine am_iconst C0 dX0_whoIsRead_0 ci_0 ?_
  refine am_istore_n C0 dX0_whoIsRead_1 rfl (by decide) rfl (lv' := [(0, .ref (am_b G a0)), (1, .int 0)]) rfl ?_
  refine am_iconst C0 dX0_whoIsRead_2 ci_0 ?_
  refine am_istore_n C0 dX0_whoIsRead_3 rfl (by decide) rfl (lv' := [(0, .ref (am_b G a0)), (1, .int 0), (2, .int 0)]) rfl ?_
  exact am_sub [0, 1, 2] rfl (k_C_Front_whoIsRead_l4 C0 hd F hret F a0 0 0 ha0 h)
set_option maxRecDepth 100000 in
set_option maxHeartbeats 4000000 in
theorem m_C_Front_whoIsRead {l : Launch} {d : Nat} {σ : am_SS} {q : Int32} (hd : 1 ≤ d) (F : Nat) (a0 : Nat) (ha0 : LC.1 a0 = 2) (h : C_Front_whoIsRead F a0 σ = some q) : am_Met l yX0_whoIsRead cX0_whoIsRead 3 (some .int) d 0 0 LC (fun b => [.ref (b a0)]) σ (some (.int q)) σ :=
  am_metI (plainFor_of_name (by decide)) rfl (lv := fun b => [(0, .ref (b a0))]) (fun _ => rfl) (fun _ => Nat.le_of_ble_eq_true rfl) (fun G C0 _ hret => k_C_Front_whoIsRead C0 hd F hret a0 ha0 h)
set_option maxRecDepth 100000 in
set_option maxHeartbeats 4000000 in
theorem k_C_copyRow_l2 {G : am_T} {d0 : Nat} (C0 : am_C G cX9_copyRow 3 RX9 LC d0) (hd : 1 ≤ d0) (F : Nat) {q : am_SS} (hret : am_retV G cX9_copyRow 3 q) : ∀ (n : Nat) (a0 : Nat) (a1 : Nat) (x2 : Int32) (σ : am_SS) (ha0 : LC.1 a0 = 0) (ha1 : LC.1 a1 = 0) (h : C_copyRow_l2 F n a0 a1 x2 σ = some q), am_K G 3 2 [(0, .ref (am_b G a0)), (1, .ref (am_b G a1)), (2, .int x2)] [] σ := by
  intro n
  induction n with
  | zero =>
    intro a0 a1 x2 σ ha0 ha1 h
    rw [C_copyRow_l2] at h
    cases h
  | succ n ih =>
    intro a0 a1 x2 σ ha0 ha1 h
    rw [C_copyRow_l2] at h
    refine am_iload_n C0 dX9_copyRow_2 2 rfl ?_
    refine am_aload_n C0 dX9_copyRow_3 0 rfl ?_
    refine am_alen C0 (ltC ha0) ha0 rfl rfl dX9_copyRow_4 ?_
    refine am_icmp_ge C0 dX9_copyRow_5 (tgt := 26) (by decide) (fun c_1 => ?_) (fun c_1 => ?_)
    · replace h := am_in h c_1
      have e := Option.some.inj h
      subst e
      exact hret _ _ dX9_copyRow_26
    · replace h := am_ip h c_1
      refine am_iload_n C0 dX9_copyRow_8 2 rfl ?_
      refine am_aload_n C0 dX9_copyRow_9 1 rfl ?_
      refine am_alen C0 (ltC ha1) ha1 rfl rfl dX9_copyRow_10 ?_
      refine am_icmp_ge C0 dX9_copyRow_11 (tgt := 26) (by decide) (fun c_2 => ?_) (fun c_2 => ?_)
      · replace h := am_in h c_2
        have e := Option.some.inj h
        subst e
        exact hret _ _ dX9_copyRow_26
      · replace h := am_ip h c_2
        refine am_aload_n C0 dX9_copyRow_14 1 rfl ?_
        refine am_iload_n C0 dX9_copyRow_15 2 rfl ?_
        refine am_aload_n C0 dX9_copyRow_16 0 rfl ?_
        refine am_iload_n C0 dX9_copyRow_17 2 rfl ?_
        obtain ⟨t_3, h_t_3, h⟩ := am_bind h
        refine am_iald C0 (ltC ha0) ha0 rfl h_t_3 dX9_copyRow_18 ?_
        obtain ⟨σ_4, h_σ_4, h⟩ := am_bind h
        refine am_iast C0 (ltC ha1) ha1 rfl h_σ_4 dX9_copyRow_19 ?_
        obtain ⟨x2_5, e_x2_5, h⟩ := am_lt h
        refine am_iinc C0 dX9_copyRow_20 2 rfl (by rw [ci_1]; exact e_x2_5) (by decide) rfl (lv' := [(0, .ref (am_b G a0)), (1, .ref (am_b G a1)), (2, .int x2_5)]) rfl ?_
        refine am_goto C0 dX9_copyRow_23 (tgt := 2) (by decide) ?_
        exact am_sub [0, 1, 2] rfl (ih a0 a1 x2_5 σ_4 ha0 ha1 h)
set_option maxRecDepth 100000 in
set_option maxHeartbeats 4000000 in
theorem k_C_copyRow {G : am_T} {d0 : Nat} (C0 : am_C G cX9_copyRow 3 RX9 LC d0) (hd : 1 ≤ d0) (F : Nat) {q : am_SS} (hret : am_retV G cX9_copyRow 3 q) (a0 : Nat) (a1 : Nat) (σ : am_SS) (ha0 : LC.1 a0 = 0) (ha1 : LC.1 a1 = 0) (h : C_copyRow F a0 a1 σ = some q) : am_K G 3 0 [(0, .ref (am_b G a0)), (1, .ref (am_b G a1))] [] σ := by
  unfold C_copyRow at h
  refine am_iconst C0 dX9_copyRow_0 ci_0 ?_
  refine am_istore_n C0 dX9_copyRow_1 rfl (by decide) rfl (lv' := [(0, .ref (am_b G a0)), (1, .ref (am_b G a1)), (2, .int 0)]) rfl ?_
  exact am_sub [0, 1, 2] rfl (k_C_copyRow_l2 C0 hd F hret F a0 a1 0 σ ha0 ha1 h)
set_option maxRecDepth 100000 in
set_option maxHeartbeats 4000000 in
theorem m_C_copyRow {l : Launch} {d : Nat} {σ : am_SS} {q : am_SS} (hd : 1 ≤ d) (F : Nat) (a0 : Nat) (a1 : Nat) (ha0 : LC.1 a0 = 0) (ha1 : LC.1 a1 = 0) (h : C_copyRow F a0 a1 σ = some q) : am_Met l yX9_copyRow cX9_copyRow 3 none d 0 0 LC (fun b => [.ref (b a0), .ref (b a1)]) σ none q :=
  am_metV (plainFor_of_name (by decide)) (lv := fun b => [(0, .ref (b a0)), (1, .ref (b a1))]) (fun _ => rfl) (fun _ => Nat.le_of_ble_eq_true rfl) (fun G C0 _ hret => k_C_copyRow C0 hd F hret a0 a1 σ ha0 ha1 h)
set_option maxRecDepth 100000 in
set_option maxHeartbeats 4000000 in
theorem k_C_Front_copyFrom {G : am_T} {d0 : Nat} (C0 : am_C G cX0_copyFrom 2 RX0 LC d0) (hd : 2 ≤ d0) (F : Nat) {q : am_SS} (hret : am_retV G cX0_copyFrom 2 q) (a0 : Nat) (a1 : Nat) (σ : am_SS) (ha0 : LC.1 a0 = 2) (ha1 : LC.1 a1 = 2) (h : C_Front_copyFrom F a0 a1 σ = some q) : am_K G 2 0 [(0, .ref (am_b G a0)), (1, .ref (am_b G a1))] [] σ := by
  unfold C_Front_copyFrom at h
  refine am_aload_n C0 dX0_copyFrom_0 0 rfl ?_
  refine am_aload_n C0 dX0_copyFrom_1 1 rfl ?_
  refine am_getI C0 ff_RX0_9 (loC_0_0 ha1).1 (loC_0_0 ha1).2.1 (loC_0_0 ha1).2.2.1 (loC_0_0 ha1).2.2.2 dX0_copyFrom_2 ?_
  obtain ⟨σ_1, e_σ_1, h⟩ := am_lt h
  refine am_putI C0 e_σ_1 fp_RX0_9 (loC_0_0 ha0).1 (loC_0_0 ha0).2.1 (loC_0_0 ha0).2.2.1 (loC_0_0 ha0).2.2.2 rfl rfl dX0_copyFrom_5 ?_
  refine am_aload_n C0 dX0_copyFrom_8 1 rfl ?_
  refine am_getR C0 (j := a1 + 1) ff_RX0_15 (loC_0_1 ha1).1 (loC_0_1 ha1).2.1 (loC_0_1 ha1).2.2.1 (loC_0_1 ha1).2.2.2 dX0_copyFrom_9 ?_
  refine am_aload_n C0 dX0_copyFrom_12 0 rfl ?_
  refine am_getR C0 (j := a0 + 1) ff_RX0_15 (loC_0_1 ha0).1 (loC_0_1 ha0).2.1 (loC_0_1 ha0).2.2.1 (loC_0_1 ha0).2.2.2 dX0_copyFrom_13 ?_
  obtain ⟨q_2, h_q_2, h⟩ := am_bind h
  refine am_callSN C0 (m_C_copyRow (σ := σ_1) (Nat.le_refl _) F (a1 + 1) (a0 + 1) (tgC_0_1 ha1) (tgC_0_1 ha0) h_q_2) mm_yX9_copyRow nl_RX0_70 (fun _ => rfl) (Nat.le_trans (by decide) hd) rfl (Nat.le_of_ble_eq_true rfl) dX0_copyFrom_16 ?_
  refine am_aload_n C0 dX0_copyFrom_19 1 rfl ?_
  refine am_getR C0 (j := a1 + 2) ff_RX0_19 (loC_0_2 ha1).1 (loC_0_2 ha1).2.1 (loC_0_2 ha1).2.2.1 (loC_0_2 ha1).2.2.2 dX0_copyFrom_20 ?_
  refine am_aload_n C0 dX0_copyFrom_23 0 rfl ?_
  refine am_getR C0 (j := a0 + 2) ff_RX0_19 (loC_0_2 ha0).1 (loC_0_2 ha0).2.1 (loC_0_2 ha0).2.2.1 (loC_0_2 ha0).2.2.2 dX0_copyFrom_24 ?_
  obtain ⟨q_3, h_q_3, h⟩ := am_bind h
  refine am_callSN C0 (m_C_copyRow (σ := q_2) (Nat.le_refl _) F (a1 + 2) (a0 + 2) (tgC_0_2 ha1) (tgC_0_2 ha0) h_q_3) mm_yX9_copyRow nl_RX0_70 (fun _ => rfl) (Nat.le_trans (by decide) hd) rfl (Nat.le_of_ble_eq_true rfl) dX0_copyFrom_27 ?_
  refine am_aload_n C0 dX0_copyFrom_30 1 rfl ?_
  refine am_getR C0 (j := a1 + 3) ff_RX0_22 (loC_0_3 ha1).1 (loC_0_3 ha1).2.1 (loC_0_3 ha1).2.2.1 (loC_0_3 ha1).2.2.2 dX0_copyFrom_31 ?_
  refine am_aload_n C0 dX0_copyFrom_34 0 rfl ?_
  refine am_getR C0 (j := a0 + 3) ff_RX0_22 (loC_0_3 ha0).1 (loC_0_3 ha0).2.1 (loC_0_3 ha0).2.2.1 (loC_0_3 ha0).2.2.2 dX0_copyFrom_35 ?_
  obtain ⟨q_4, h_q_4, h⟩ := am_bind h
  refine am_callSN C0 (m_C_copyRow (σ := q_3) (Nat.le_refl _) F (a1 + 3) (a0 + 3) (tgC_0_3 ha1) (tgC_0_3 ha0) h_q_4) mm_yX9_copyRow nl_RX0_70 (fun _ => rfl) (Nat.le_trans (by decide) hd) rfl (Nat.le_of_ble_eq_true rfl) dX0_copyFrom_38 ?_
  refine am_aload_n C0 dX0_copyFrom_41 1 rfl ?_
  refine am_getR C0 (j := a1 + 4) ff_RX0_25 (loC_0_4 ha1).1 (loC_0_4 ha1).2.1 (loC_0_4 ha1).2.2.1 (loC_0_4 ha1).2.2.2 dX0_copyFrom_42 ?_
  refine am_aload_n C0 dX0_copyFrom_45 0 rfl ?_
  refine am_getR C0 (j := a0 + 4) ff_RX0_25 (loC_0_4 ha0).1 (loC_0_4 ha0).2.1 (loC_0_4 ha0).2.2.1 (loC_0_4 ha0).2.2.2 dX0_copyFrom_46 ?_
  obtain ⟨q_5, h_q_5, h⟩ := am_bind h
  refine am_callSN C0 (m_C_copyRow (σ := q_4) (Nat.le_refl _) F (a1 + 4) (a0 + 4) (tgC_0_4 ha1) (tgC_0_4 ha0) h_q_5) mm_yX9_copyRow nl_RX0_70 (fun _ => rfl) (Nat.le_trans (by decide) hd) rfl (Nat.le_of_ble_eq_true rfl) dX0_copyFrom_49 ?_
  refine am_aload_n C0 dX0_copyFrom_52 1 rfl ?_
  refine am_getR C0 (j := a1 + 5) ff_RX0_28 (loC_0_5 ha1).1 (loC_0_5 ha1).2.1 (loC_0_5 ha1).2.2.1 (loC_0_5 ha1).2.2.2 dX0_copyFrom_53 ?_
  refine am_aload_n C0 dX0_copyFrom_56 0 rfl ?_
  refine am_getR C0 (j := a0 + 5) ff_RX0_28 (loC_0_5 ha0).1 (loC_0_5 ha0).2.1 (loC_0_5 ha0).2.2.1 (loC_0_5 ha0).2.2.2 dX0_copyFrom_57 ?_
  obtain ⟨q_6, h_q_6, h⟩ := am_bind h
  refine am_callSN C0 (m_C_copyRow (σ := q_5) (Nat.le_refl _) F (a1 + 5) (a0 + 5) (tgC_0_5 ha1) (tgC_0_5 ha0) h_q_6) mm_yX9_copyRow nl_RX0_70 (fun _ => rfl) (Nat.le_trans (by decide) hd) rfl (Nat.le_of_ble_eq_true rfl) dX0_copyFrom_60 ?_
  refine am_aload_n C0 dX0_copyFrom_63 1 rfl ?_
  refine am_getR C0 (j := a1 + 6) ff_RX0_31 (loC_0_6 ha1).1 (loC_0_6 ha1).2.1 (loC_0_6 ha1).2.2.1 (loC_0_6 ha1).2.2.2 dX0_copyFrom_64 ?_
  refine am_aload_n C0 dX0_copyFrom_67 0 rfl ?_
  refine am_getR C0 (j := a0 + 6) ff_RX0_31 (loC_0_6 ha0).1 (loC_0_6 ha0).2.1 (loC_0_6 ha0).2.2.1 (loC_0_6 ha0).2.2.2 dX0_copyFrom_68 ?_
  obtain ⟨q_7, h_q_7, h⟩ := am_bind h
  refine am_callSN C0 (m_C_copyRow (σ := q_6) (Nat.le_refl _) F (a1 + 6) (a0 + 6) (tgC_0_6 ha1) (tgC_0_6 ha0) h_q_7) mm_yX9_copyRow nl_RX0_70 (fun _ => rfl) (Nat.le_trans (by decide) hd) rfl (Nat.le_of_ble_eq_true rfl) dX0_copyFrom_71 ?_
  refine am_aload_n C0 dX0_copyFrom_74 1 rfl ?_
  refine am_getR C0 (j := a1 + 7) ff_RX0_34 (loC_0_7 ha1).1 (loC_0_7 ha1).2.1 (loC_0_7 ha1).2.2.1 (loC_0_7 ha1).2.2.2 dX0_copyFrom_75 ?_
  refine am_aload_n C0 dX0_copyFrom_78 0 rfl ?_
  refine am_getR C0 (j := a0 + 7) ff_RX0_34 (loC_0_7 ha0).1 (loC_0_7 ha0).2.1 (loC_0_7 ha0).2.2.1 (loC_0_7 ha0).2.2.2 dX0_copyFrom_79 ?_
  obtain ⟨q_8, h_q_8, h⟩ := am_bind h
  refine am_callSN C0 (m_C_copyRow (σ := q_7) (Nat.le_refl _) F (a1 + 7) (a0 + 7) (tgC_0_7 ha1) (tgC_0_7 ha0) h_q_8) mm_yX9_copyRow nl_RX0_70 (fun _ => rfl) (Nat.le_trans (by decide) hd) rfl (Nat.le_of_ble_eq_true rfl) dX0_copyFrom_82 ?_
  refine am_aload_n C0 dX0_copyFrom_85 0 rfl ?_
  refine am_aload_n C0 dX0_copyFrom_86 1 rfl ?_
  refine am_getI C0 ff_RX0_37 (loC_0_8 ha1).1 (loC_0_8 ha1).2.1 (loC_0_8 ha1).2.2.1 (loC_0_8 ha1).2.2.2 dX0_copyFrom_87 ?_
  obtain ⟨σ_9, e_σ_9, h⟩ := am_lt h
  refine am_putI C0 e_σ_9 fp_RX0_37 (loC_0_8 ha0).1 (loC_0_8 ha0).2.1 (loC_0_8 ha0).2.2.1 (loC_0_8 ha0).2.2.2 rfl rfl dX0_copyFrom_90 ?_
  refine am_aload_n C0 dX0_copyFrom_93 1 rfl ?_
  refine am_getR C0 (j := a1 + 8) ff_RX0_40 (loC_0_9 ha1).1 (loC_0_9 ha1).2.1 (loC_0_9 ha1).2.2.1 (loC_0_9 ha1).2.2.2 dX0_copyFrom_94 ?_
  refine am_aload_n C0 dX0_copyFrom_97 0 rfl ?_
  refine am_getR C0 (j := a0 + 8) ff_RX0_40 (loC_0_9 ha0).1 (loC_0_9 ha0).2.1 (loC_0_9 ha0).2.2.1 (loC_0_9 ha0).2.2.2 dX0_copyFrom_98 ?_
  obtain ⟨q_10, h_q_10, h⟩ := am_bind h
  refine am_callSN C0 (m_C_copyRow (σ := σ_9) (Nat.le_refl _) F (a1 + 8) (a0 + 8) (tgC_0_9 ha1) (tgC_0_9 ha0) h_q_10) mm_yX9_copyRow nl_RX0_70 (fun _ => rfl) (Nat.le_trans (by decide) hd) rfl (Nat.le_of_ble_eq_true rfl) dX0_copyFrom_101 ?_
  refine am_aload_n C0 dX0_copyFrom_104 1 rfl ?_
  refine am_getR C0 (j := a1 + 9) ff_RX0_43 (loC_0_10 ha1).1 (loC_0_10 ha1).2.1 (loC_0_10 ha1).2.2.1 (loC_0_10 ha1).2.2.2 dX0_copyFrom_105 ?_
  refine am_aload_n C0 dX0_copyFrom_108 0 rfl ?_
  refine am_getR C0 (j := a0 + 9) ff_RX0_43 (loC_0_10 ha0).1 (loC_0_10 ha0).2.1 (loC_0_10 ha0).2.2.1 (loC_0_10 ha0).2.2.2 dX0_copyFrom_109 ?_
  obtain ⟨q_11, h_q_11, h⟩ := am_bind h
  refine am_callSN C0 (m_C_copyRow (σ := q_10) (Nat.le_refl _) F (a1 + 9) (a0 + 9) (tgC_0_10 ha1) (tgC_0_10 ha0) h_q_11) mm_yX9_copyRow nl_RX0_70 (fun _ => rfl) (Nat.le_trans (by decide) hd) rfl (Nat.le_of_ble_eq_true rfl) dX0_copyFrom_112 ?_
  refine am_aload_n C0 dX0_copyFrom_115 1 rfl ?_
  refine am_getR C0 (j := a1 + 10) ff_RX0_46 (loC_0_11 ha1).1 (loC_0_11 ha1).2.1 (loC_0_11 ha1).2.2.1 (loC_0_11 ha1).2.2.2 dX0_copyFrom_116 ?_
  refine am_aload_n C0 dX0_copyFrom_119 0 rfl ?_
  refine am_getR C0 (j := a0 + 10) ff_RX0_46 (loC_0_11 ha0).1 (loC_0_11 ha0).2.1 (loC_0_11 ha0).2.2.1 (loC_0_11 ha0).2.2.2 dX0_copyFrom_120 ?_
  obtain ⟨q_12, h_q_12, h⟩ := am_bind h
  refine am_callSN C0 (m_C_copyRow (σ := q_11) (Nat.le_refl _) F (a1 + 10) (a0 + 10) (tgC_0_11 ha1) (tgC_0_11 ha0) h_q_12) mm_yX9_copyRow nl_RX0_70 (fun _ => rfl) (Nat.le_trans (by decide) hd) rfl (Nat.le_of_ble_eq_true rfl) dX0_copyFrom_123 ?_
  refine am_aload_n C0 dX0_copyFrom_126 0 rfl ?_
  refine am_aload_n C0 dX0_copyFrom_127 1 rfl ?_
  refine am_getI C0 ff_RX0_49 (loC_0_12 ha1).1 (loC_0_12 ha1).2.1 (loC_0_12 ha1).2.2.1 (loC_0_12 ha1).2.2.2 dX0_copyFrom_128 ?_
  obtain ⟨σ_13, e_σ_13, h⟩ := am_lt h
  refine am_putI C0 e_σ_13 fp_RX0_49 (loC_0_12 ha0).1 (loC_0_12 ha0).2.1 (loC_0_12 ha0).2.2.1 (loC_0_12 ha0).2.2.2 rfl rfl dX0_copyFrom_131 ?_
  refine am_aload_n C0 dX0_copyFrom_134 0 rfl ?_
  refine am_aload_n C0 dX0_copyFrom_135 1 rfl ?_
  refine am_getI C0 ff_RX0_52 (loC_0_13 ha1).1 (loC_0_13 ha1).2.1 (loC_0_13 ha1).2.2.1 (loC_0_13 ha1).2.2.2 dX0_copyFrom_136 ?_
  obtain ⟨σ_14, e_σ_14, h⟩ := am_lt h
  refine am_putI C0 e_σ_14 fp_RX0_52 (loC_0_13 ha0).1 (loC_0_13 ha0).2.1 (loC_0_13 ha0).2.2.1 (loC_0_13 ha0).2.2.2 rfl rfl dX0_copyFrom_139 ?_
  refine am_aload_n C0 dX0_copyFrom_142 0 rfl ?_
  refine am_aload_n C0 dX0_copyFrom_143 1 rfl ?_
  refine am_getI C0 ff_RX0_55 (loC_0_14 ha1).1 (loC_0_14 ha1).2.1 (loC_0_14 ha1).2.2.1 (loC_0_14 ha1).2.2.2 dX0_copyFrom_144 ?_
  obtain ⟨σ_15, e_σ_15, h⟩ := am_lt h
  refine am_putI C0 e_σ_15 fp_RX0_55 (loC_0_14 ha0).1 (loC_0_14 ha0).2.1 (loC_0_14 ha0).2.2.1 (loC_0_14 ha0).2.2.2 rfl rfl dX0_copyFrom_147 ?_
  refine am_aload_n C0 dX0_copyFrom_150 0 rfl ?_
  refine am_aload_n C0 dX0_copyFrom_151 1 rfl ?_
  refine am_getI C0 ff_RX0_58 (loC_0_15 ha1).1 (loC_0_15 ha1).2.1 (loC_0_15 ha1).2.2.1 (loC_0_15 ha1).2.2.2 dX0_copyFrom_152 ?_
  obtain ⟨σ_16, e_σ_16, h⟩ := am_lt h
  refine am_putI C0 e_σ_16 fp_RX0_58 (loC_0_15 ha0).1 (loC_0_15 ha0).2.1 (loC_0_15 ha0).2.2.1 (loC_0_15 ha0).2.2.2 rfl rfl dX0_copyFrom_155 ?_
  have e := Option.some.inj h
  subst e
  exact hret _ _ dX0_copyFrom_158
set_option maxRecDepth 100000 in
set_option maxHeartbeats 4000000 in
theorem m_C_Front_copyFrom {l : Launch} {d : Nat} {σ : am_SS} {q : am_SS} (hd : 2 ≤ d) (F : Nat) (a0 : Nat) (a1 : Nat) (ha0 : LC.1 a0 = 2) (ha1 : LC.1 a1 = 2) (h : C_Front_copyFrom F a0 a1 σ = some q) : am_Met l yX0_copyFrom cX0_copyFrom 2 none d 0 0 LC (fun b => [.ref (b a0), .ref (b a1)]) σ none q :=
  am_metV (plainFor_of_name (by decide)) (lv := fun b => [(0, .ref (b a0)), (1, .ref (b a1))]) (fun _ => rfl) (fun _ => Nat.le_of_ble_eq_true rfl) (fun G C0 _ hret => k_C_Front_copyFrom C0 hd F hret a0 a1 σ ha0 ha1 h)
set_option maxRecDepth 100000 in
set_option maxHeartbeats 4000000 in
theorem k_C_Table_clear {G : am_T} {d0 : Nat} (C0 : am_C G cX6_clear 1 RX6 LC d0) (hd : 1 ≤ d0) {q : Int32 × am_SS} (hret : am_retI G cX6_clear 1 q.1 q.2) (a0 : Nat) (σ : am_SS) (ha0 : LC.1 a0 = 6) (h : C_Table_clear a0 σ = q) : am_K G 1 0 [(0, .ref (am_b G a0))] [] σ := by
  unfold C_Table_clear at h
  refine am_aload_n C0 dX6_clear_0 0 rfl ?_
  refine am_iconst C0 dX6_clear_1 ci_0 ?_
  obtain ⟨σ_1, e_σ_1, h⟩ := am_lt h
  refine am_putI C0 e_σ_1 fp_RX6_9 (loC_4_2 ha0).1 (loC_4_2 ha0).2.1 (loC_4_2 ha0).2.2.1 (loC_4_2 ha0).2.2.2 rfl rfl dX6_clear_2 ?_
  refine am_iconst C0 dX6_clear_5 ci_0 ?_
  have e := h
  subst e
  exact hret _ _ dX6_clear_6
set_option maxRecDepth 100000 in
set_option maxHeartbeats 4000000 in
theorem m_C_Table_clear {l : Launch} {d : Nat} {σ : am_SS} {q : Int32 × am_SS} (hd : 1 ≤ d) (a0 : Nat) (ha0 : LC.1 a0 = 6) (h : C_Table_clear a0 σ = q) : am_Met l yX6_clear cX6_clear 1 (some .int) d 0 0 LC (fun b => [.ref (b a0)]) σ (some (.int q.1)) q.2 :=
  am_metI (plainFor_of_name (by decide)) rfl (lv := fun b => [(0, .ref (b a0))]) (fun _ => rfl) (fun _ => Nat.le_of_ble_eq_true rfl) (fun G C0 _ hret => k_C_Table_clear C0 hd hret a0 σ ha0 h)
set_option maxRecDepth 100000 in
set_option maxHeartbeats 4000000 in
theorem k_C_Law_clear {G : am_T} {d0 : Nat} (C0 : am_C G cX1_clear 1 RX1 LC d0) (hd : 2 ≤ d0) {q : am_SS} (hret : am_retV G cX1_clear 1 q) (a0 : Nat) (σ : am_SS) (ha0 : LC.1 a0 = 3) (h : C_Law_clear a0 σ = q) : am_K G 1 0 [(0, .ref (am_b G a0))] [] σ := by
  unfold C_Law_clear at h
  refine am_aload_n C0 dX1_clear_0 0 rfl ?_
  refine am_getR C0 (j := a0 + 1) ff_RX1_14 (loC_1_0 ha0).1 (loC_1_0 ha0).2.1 (loC_1_0 ha0).2.2.1 (loC_1_0 ha0).2.2.2 dX1_clear_1 ?_
  obtain ⟨q_1, h_q_1, h⟩ := am_lt h
  refine am_callV C0 (m_C_Table_clear (σ := σ) (Nat.le_refl _) (a0 + 1) (tgC_1_0 ha0) h_q_1) mm_yX6_clear ln_RX1_27 (As := fun b => []) (fun _ => rfl) (fun _ => rfl) (loC_4_0 (tgC_1_0 ha0)).1 (loC_4_0 (tgC_1_0 ha0)).2.1 rfl (Nat.le_trans (by decide) hd) rfl (Nat.le_of_ble_eq_true rfl) dX1_clear_4 ?_
  refine am_pop C0 dX1_clear_7 rfl ?_
  refine am_aload_n C0 dX1_clear_8 0 rfl ?_
  refine am_getR C0 (j := a0 + 3) ff_RX1_20 (loC_1_1 ha0).1 (loC_1_1 ha0).2.1 (loC_1_1 ha0).2.2.1 (loC_1_1 ha0).2.2.2 dX1_clear_9 ?_
  obtain ⟨q_2, h_q_2, h⟩ := am_lt h
  refine am_callV C0 (m_C_Table_clear (σ := q_1.2) (Nat.le_refl _) (a0 + 3) (tgC_1_1 ha0) h_q_2) mm_yX6_clear ln_RX1_27 (As := fun b => []) (fun _ => rfl) (fun _ => rfl) (loC_4_0 (tgC_1_1 ha0)).1 (loC_4_0 (tgC_1_1 ha0)).2.1 rfl (Nat.le_trans (by decide) hd) rfl (Nat.le_of_ble_eq_true rfl) dX1_clear_12 ?_
  refine am_pop C0 dX1_clear_15 rfl ?_
  have e := h
  subst e
  exact hret _ _ dX1_clear_16
set_option maxRecDepth 100000 in
set_option maxHeartbeats 4000000 in
theorem m_C_Law_clear {l : Launch} {d : Nat} {σ : am_SS} {q : am_SS} (hd : 2 ≤ d) (a0 : Nat) (ha0 : LC.1 a0 = 3) (h : C_Law_clear a0 σ = q) : am_Met l yX1_clear cX1_clear 1 none d 0 0 LC (fun b => [.ref (b a0)]) σ none q :=
  am_metV (plainFor_of_name (by decide)) (lv := fun b => [(0, .ref (b a0))]) (fun _ => rfl) (fun _ => Nat.le_of_ble_eq_true rfl) (fun G C0 _ hret => k_C_Law_clear C0 hd hret a0 σ ha0 h)
set_option maxRecDepth 100000 in
set_option maxHeartbeats 4000000 in
theorem k_C_Table_copyFrom {G : am_T} {d0 : Nat} (C0 : am_C G cX6_copyFrom 2 RX6 LC d0) (hd : 2 ≤ d0) (F : Nat) {q : am_SS} (hret : am_retV G cX6_copyFrom 2 q) (a0 : Nat) (a1 : Nat) (σ : am_SS) (ha0 : LC.1 a0 = 6) (ha1 : LC.1 a1 = 6) (h : C_Table_copyFrom F a0 a1 σ = some q) : am_K G 2 0 [(0, .ref (am_b G a0)), (1, .ref (am_b G a1))] [] σ := by
  unfold C_Table_copyFrom at h
  refine am_aload_n C0 dX6_copyFrom_0 0 rfl ?_
  refine am_aload_n C0 dX6_copyFrom_1 1 rfl ?_
  refine am_getI C0 ff_RX6_9 (loC_4_2 ha1).1 (loC_4_2 ha1).2.1 (loC_4_2 ha1).2.2.1 (loC_4_2 ha1).2.2.2 dX6_copyFrom_2 ?_
  obtain ⟨σ_1, e_σ_1, h⟩ := am_lt h
  refine am_putI C0 e_σ_1 fp_RX6_9 (loC_4_2 ha0).1 (loC_4_2 ha0).2.1 (loC_4_2 ha0).2.2.1 (loC_4_2 ha0).2.2.2 rfl rfl dX6_copyFrom_5 ?_
  refine am_aload_n C0 dX6_copyFrom_8 1 rfl ?_
  refine am_getR C0 (j := a1 + 1) ff_RX6_27 (loC_4_1 ha1).1 (loC_4_1 ha1).2.1 (loC_4_1 ha1).2.2.1 (loC_4_1 ha1).2.2.2 dX6_copyFrom_9 ?_
  refine am_aload_n C0 dX6_copyFrom_12 0 rfl ?_
  refine am_getR C0 (j := a0 + 1) ff_RX6_27 (loC_4_1 ha0).1 (loC_4_1 ha0).2.1 (loC_4_1 ha0).2.2.1 (loC_4_1 ha0).2.2.2 dX6_copyFrom_13 ?_
  obtain ⟨q_2, h_q_2, h⟩ := am_bind h
  refine am_callSN C0 (m_C_copyRow (σ := σ_1) (Nat.le_refl _) F (a1 + 1) (a0 + 1) (tgC_4_1 ha1) (tgC_4_1 ha0) h_q_2) mm_yX9_copyRow nl_RX6_34 (fun _ => rfl) (Nat.le_trans (by decide) hd) rfl (Nat.le_of_ble_eq_true rfl) dX6_copyFrom_16 ?_
  have e := Option.some.inj h
  subst e
  exact hret _ _ dX6_copyFrom_19
set_option maxRecDepth 100000 in
set_option maxHeartbeats 4000000 in
theorem m_C_Table_copyFrom {l : Launch} {d : Nat} {σ : am_SS} {q : am_SS} (hd : 2 ≤ d) (F : Nat) (a0 : Nat) (a1 : Nat) (ha0 : LC.1 a0 = 6) (ha1 : LC.1 a1 = 6) (h : C_Table_copyFrom F a0 a1 σ = some q) : am_Met l yX6_copyFrom cX6_copyFrom 2 none d 0 0 LC (fun b => [.ref (b a0), .ref (b a1)]) σ none q :=
  am_metV (plainFor_of_name (by decide)) (lv := fun b => [(0, .ref (b a0)), (1, .ref (b a1))]) (fun _ => rfl) (fun _ => Nat.le_of_ble_eq_true rfl) (fun G C0 _ hret => k_C_Table_copyFrom C0 hd F hret a0 a1 σ ha0 ha1 h)
set_option maxRecDepth 100000 in
set_option maxHeartbeats 4000000 in
theorem k_C_Law_copyFrom {G : am_T} {d0 : Nat} (C0 : am_C G cX1_copyFrom 2 RX1 LC d0) (hd : 3 ≤ d0) (F : Nat) {q : am_SS} (hret : am_retV G cX1_copyFrom 2 q) (a0 : Nat) (a1 : Nat) (σ : am_SS) (ha0 : LC.1 a0 = 3) (ha1 : LC.1 a1 = 3) (h : C_Law_copyFrom F a0 a1 σ = some q) : am_K G 2 0 [(0, .ref (am_b G a0)), (1, .ref (am_b G a1))] [] σ := by
  unfold C_Law_copyFrom at h
  refine am_aload_n C0 dX1_copyFrom_0 0 rfl ?_
  refine am_getR C0 (j := a0 + 1) ff_RX1_14 (loC_1_0 ha0).1 (loC_1_0 ha0).2.1 (loC_1_0 ha0).2.2.1 (loC_1_0 ha0).2.2.2 dX1_copyFrom_1 ?_
  refine am_aload_n C0 dX1_copyFrom_4 1 rfl ?_
  refine am_getR C0 (j := a1 + 1) ff_RX1_14 (loC_1_0 ha1).1 (loC_1_0 ha1).2.1 (loC_1_0 ha1).2.2.1 (loC_1_0 ha1).2.2.2 dX1_copyFrom_5 ?_
  obtain ⟨q_1, h_q_1, h⟩ := am_bind h
  refine am_callV C0 (m_C_Table_copyFrom (σ := σ) (Nat.le_refl _) F (a0 + 1) (a1 + 1) (tgC_1_0 ha0) (tgC_1_0 ha1) h_q_1) mm_yX6_copyFrom ln_RX1_31 (As := fun b => [.ref (b (a1 + 1))]) (fun _ => rfl) (fun _ => rfl) (loC_4_0 (tgC_1_0 ha0)).1 (loC_4_0 (tgC_1_0 ha0)).2.1 rfl (Nat.le_trans (by decide) hd) rfl (Nat.le_of_ble_eq_true rfl) dX1_copyFrom_8 ?_
  refine am_aload_n C0 dX1_copyFrom_11 0 rfl ?_
  refine am_getR C0 (j := a0 + 3) ff_RX1_20 (loC_1_1 ha0).1 (loC_1_1 ha0).2.1 (loC_1_1 ha0).2.2.1 (loC_1_1 ha0).2.2.2 dX1_copyFrom_12 ?_
  refine am_aload_n C0 dX1_copyFrom_15 1 rfl ?_
  refine am_getR C0 (j := a1 + 3) ff_RX1_20 (loC_1_1 ha1).1 (loC_1_1 ha1).2.1 (loC_1_1 ha1).2.2.1 (loC_1_1 ha1).2.2.2 dX1_copyFrom_16 ?_
  obtain ⟨q_2, h_q_2, h⟩ := am_bind h
  refine am_callV C0 (m_C_Table_copyFrom (σ := q_1) (Nat.le_refl _) F (a0 + 3) (a1 + 3) (tgC_1_1 ha0) (tgC_1_1 ha1) h_q_2) mm_yX6_copyFrom ln_RX1_31 (As := fun b => [.ref (b (a1 + 3))]) (fun _ => rfl) (fun _ => rfl) (loC_4_0 (tgC_1_1 ha0)).1 (loC_4_0 (tgC_1_1 ha0)).2.1 rfl (Nat.le_trans (by decide) hd) rfl (Nat.le_of_ble_eq_true rfl) dX1_copyFrom_19 ?_
  have e := Option.some.inj h
  subst e
  exact hret _ _ dX1_copyFrom_22
set_option maxRecDepth 100000 in
set_option maxHeartbeats 4000000 in
theorem m_C_Law_copyFrom {l : Launch} {d : Nat} {σ : am_SS} {q : am_SS} (hd : 3 ≤ d) (F : Nat) (a0 : Nat) (a1 : Nat) (ha0 : LC.1 a0 = 3) (ha1 : LC.1 a1 = 3) (h : C_Law_copyFrom F a0 a1 σ = some q) : am_Met l yX1_copyFrom cX1_copyFrom 2 none d 0 0 LC (fun b => [.ref (b a0), .ref (b a1)]) σ none q :=
  am_metV (plainFor_of_name (by decide)) (lv := fun b => [(0, .ref (b a0)), (1, .ref (b a1))]) (fun _ => rfl) (fun _ => Nat.le_of_ble_eq_true rfl) (fun G C0 _ hret => k_C_Law_copyFrom C0 hd F hret a0 a1 σ ha0 ha1 h)
set_option maxRecDepth 100000 in
set_option maxHeartbeats 4000000 in
theorem k_C_Table_at {G : am_T} {d0 : Nat} (C0 : am_C G cX6_at 4 RX6 LC d0) (hd : 1 ≤ d0) {σ : am_SS} {q : Int32} (hret : am_retI G cX6_at 4 q σ) (a0 : Nat) (x1 : Int32) (x2 : Int32) (ha0 : LC.1 a0 = 6) (h : C_Table_at a0 x1 x2 σ = some q) : am_K G 4 0 [(0, .ref (am_b G a0)), (1, .int x1), (2, .int x2)] [] σ := by
  unfold C_Table_at at h
  refine am_iload_n C0 dX6_at_0 1 rfl ?_
  refine am_if_lt C0 dX6_at_1 (tgt := 24) (by decide) (fun c_1 => ?_) (fun c_1 => ?_)
  · replace h := am_ip h c_1
    refine am_iconst C0 dX6_at_24 ci_m1 ?_
    have e := Option.some.inj h
    subst e
    exact hret _ _ dX6_at_25
  · replace h := am_in h c_1
    refine am_iload_n C0 dX6_at_4 1 rfl ?_
    refine am_aload_n C0 dX6_at_5 0 rfl ?_
    refine am_getI C0 ff_RX6_9 (loC_4_2 ha0).1 (loC_4_2 ha0).2.1 (loC_4_2 ha0).2.2.1 (loC_4_2 ha0).2.2.2 dX6_at_6 ?_
    refine am_icmp_ge C0 dX6_at_9 (tgt := 24) (by decide) (fun c_2 => ?_) (fun c_2 => ?_)
    · replace h := am_in h c_2
      refine am_iconst C0 dX6_at_24 ci_m1 ?_
      have e := Option.some.inj h
      subst e
      exact hret _ _ dX6_at_25
    · replace h := am_ip h c_2
      refine am_iload_n C0 dX6_at_12 2 rfl ?_
      refine am_if_lt C0 dX6_at_13 (tgt := 24) (by decide) (fun c_3 => ?_) (fun c_3 => ?_)
      · replace h := am_ip h c_3
        refine am_iconst C0 dX6_at_24 ci_m1 ?_
        have e := Option.some.inj h
        subst e
        exact hret _ _ dX6_at_25
      · replace h := am_in h c_3
        refine am_iload_n C0 dX6_at_16 2 rfl ?_
        refine am_aload_n C0 dX6_at_17 0 rfl ?_
        refine am_getI C0 ff_RX6_24 (loC_4_0 ha0).1 (loC_4_0 ha0).2.1 (loC_4_0 ha0).2.2.1 (loC_4_0 ha0).2.2.2 dX6_at_18 ?_
        refine am_icmp_lt C0 dX6_at_21 (tgt := 26) (by decide) (fun c_4 => ?_) (fun c_4 => ?_)
        · replace h := am_ip h c_4
          refine am_iload_n C0 dX6_at_26 1 rfl ?_
          refine am_aload_n C0 dX6_at_27 0 rfl ?_
          refine am_getI C0 ff_RX6_24 (loC_4_0 ha0).1 (loC_4_0 ha0).2.1 (loC_4_0 ha0).2.2.1 (loC_4_0 ha0).2.2.2 dX6_at_28 ?_
          refine am_imul C0 dX6_at_31 ?_
          refine am_iload_n C0 dX6_at_32 2 rfl ?_
          refine am_iadd C0 dX6_at_33 ?_
          obtain ⟨x3_5, e_x3_5, h⟩ := am_lt h
          refine am_top e_x3_5 ?_
          refine am_istore_n C0 dX6_at_34 rfl (by decide) rfl (lv' := [(0, .ref (am_b G a0)), (1, .int x1), (2, .int x2), (3, .int x3_5)]) rfl ?_
          refine am_iload_n C0 dX6_at_35 3 rfl ?_
          refine am_aload_n C0 dX6_at_36 0 rfl ?_
          refine am_getR C0 (j := a0 + 1) ff_RX6_27 (loC_4_1 ha0).1 (loC_4_1 ha0).2.1 (loC_4_1 ha0).2.2.1 (loC_4_1 ha0).2.2.2 dX6_at_37 ?_
          refine am_alen C0 (ltC (tgC_4_1 ha0)) (tgC_4_1 ha0) rfl rfl dX6_at_40 ?_
          refine am_icmp_ge C0 dX6_at_41 (tgt := 53) (by decide) (fun c_6 => ?_) (fun c_6 => ?_)
          · replace h := am_in h c_6
            refine am_iconst C0 dX6_at_53 ci_m1 ?_
            have e := Option.some.inj h
            subst e
            exact hret _ _ dX6_at_54
          · replace h := am_ip h c_6
            refine am_aload_n C0 dX6_at_44 0 rfl ?_
            refine am_getR C0 (j := a0 + 1) ff_RX6_27 (loC_4_1 ha0).1 (loC_4_1 ha0).2.1 (loC_4_1 ha0).2.2.1 (loC_4_1 ha0).2.2.2 dX6_at_45 ?_
            refine am_iload_n C0 dX6_at_48 3 rfl ?_
            obtain ⟨t_7, h_t_7, h⟩ := am_bind h
            refine am_iald C0 (ltC (tgC_4_1 ha0)) (tgC_4_1 ha0) rfl h_t_7 dX6_at_49 ?_
            refine am_goto C0 dX6_at_50 (tgt := 54) (by decide) ?_
            have e := Option.some.inj h
            subst e
            exact hret _ _ dX6_at_54
        · replace h := am_in h c_4
          refine am_iconst C0 dX6_at_24 ci_m1 ?_
          have e := Option.some.inj h
          subst e
          exact hret _ _ dX6_at_25
set_option maxRecDepth 100000 in
set_option maxHeartbeats 4000000 in
theorem m_C_Table_at {l : Launch} {d : Nat} {σ : am_SS} {q : Int32} (hd : 1 ≤ d) (a0 : Nat) (x1 : Int32) (x2 : Int32) (ha0 : LC.1 a0 = 6) (h : C_Table_at a0 x1 x2 σ = some q) : am_Met l yX6_at cX6_at 4 (some .int) d 0 0 LC (fun b => [.ref (b a0), .int x1, .int x2]) σ (some (.int q)) σ :=
  am_metI (plainFor_of_name (by decide)) rfl (lv := fun b => [(0, .ref (b a0)), (1, .int x1), (2, .int x2)]) (fun _ => rfl) (fun _ => Nat.le_of_ble_eq_true rfl) (fun G C0 _ hret => k_C_Table_at C0 hd hret a0 x1 x2 ha0 h)
set_option maxRecDepth 100000 in
set_option maxHeartbeats 4000000 in
theorem k_C_Law_joined {G : am_T} {d0 : Nat} (C0 : am_C G cX1_joined 3 RX1 LC d0) (hd : 1 ≤ d0) {σ0 : am_SS} {q : Int32} (hret : am_retI G cX1_joined 3 q σ0) (x0 : Int32) (x1 : Int32) (x2 : Int32) (h : C_Law_joined x0 x1 x2 = q) : am_K G 3 0 [(0, .int x0), (1, .int x1), (2, .int x2)] [] σ0 := by
  unfold C_Law_joined at h
  refine am_iload_n C0 dX1_joined_0 0 rfl ?_
  by_cases c_1 : x0 = 5
  · replace h := am_ip h c_1
    refine am_lookup C0 dX1_joined_1 (tgt := 113) (off := 112) (by decide) (by rw [c_1]; first | done | rfl | decide) (by decide) ?_
    refine am_iload_n C0 dX1_joined_113 1 rfl ?_
    refine am_iload_n C0 dX1_joined_114 2 rfl ?_
    refine am_iand C0 dX1_joined_115 ?_
    have e := h
    subst e
    exact hret _ _ dX1_joined_116
  replace h := am_in h c_1
  by_cases c_2 : x0 = 42
  · replace h := am_ip h c_2
    refine am_lookup C0 dX1_joined_1 (tgt := 76) (off := 75) (by decide) (by rw [c_2]; first | done | rfl | decide) (by decide) ?_
    refine am_iload_n C0 dX1_joined_76 1 rfl ?_
    refine am_iload_n C0 dX1_joined_77 2 rfl ?_
    refine am_imul C0 dX1_joined_78 ?_
    have e := h
    subst e
    exact hret _ _ dX1_joined_79
  replace h := am_in h c_2
  by_cases c_3 : x0 = 43
  · replace h := am_ip h c_3
    refine am_lookup C0 dX1_joined_1 (tgt := 68) (off := 67) (by decide) (by rw [c_3]; first | done | rfl | decide) (by decide) ?_
    refine am_iload_n C0 dX1_joined_68 1 rfl ?_
    refine am_iload_n C0 dX1_joined_69 2 rfl ?_
    refine am_iadd C0 dX1_joined_70 ?_
    have e := h
    subst e
    exact hret _ _ dX1_joined_71
  replace h := am_in h c_3
  by_cases c_4 : x0 = 45
  · replace h := am_ip h c_4
    refine am_lookup C0 dX1_joined_1 (tgt := 72) (off := 71) (by decide) (by rw [c_4]; first | done | rfl | decide) (by decide) ?_
    refine am_iload_n C0 dX1_joined_72 1 rfl ?_
    refine am_iload_n C0 dX1_joined_73 2 rfl ?_
    refine am_isub C0 dX1_joined_74 ?_
    have e := h
    subst e
    exact hret _ _ dX1_joined_75
  replace h := am_in h c_4
  by_cases c_5 : x0 = 60
  · replace h := am_ip h c_5
    refine am_lookup C0 dX1_joined_1 (tgt := 80) (off := 79) (by decide) (by rw [c_5]; first | done | rfl | decide) (by decide) ?_
    refine am_iload_n C0 dX1_joined_80 1 rfl ?_
    refine am_iload_n C0 dX1_joined_81 2 rfl ?_
    refine am_icmp_ge C0 dX1_joined_82 (tgt := 89) (by decide) (fun c_6 => ?_) (fun c_6 => ?_)
    · replace h := am_in h c_6
      refine am_iconst C0 dX1_joined_89 ci_0 ?_
      have e := h
      subst e
      exact hret _ _ dX1_joined_90
    · replace h := am_ip h c_6
      refine am_iconst C0 dX1_joined_85 ci_1 ?_
      refine am_goto C0 dX1_joined_86 (tgt := 90) (by decide) ?_
      have e := h
      subst e
      exact hret _ _ dX1_joined_90
  replace h := am_in h c_5
  by_cases c_7 : x0 = 61
  · replace h := am_ip h c_7
    refine am_lookup C0 dX1_joined_1 (tgt := 91) (off := 90) (by decide) (by rw [c_7]; first | done | rfl | decide) (by decide) ?_
    refine am_iload_n C0 dX1_joined_91 1 rfl ?_
    refine am_iload_n C0 dX1_joined_92 2 rfl ?_
    refine am_icmp_ne C0 dX1_joined_93 (tgt := 100) (by decide) (fun c_8 => ?_) (fun c_8 => ?_)
    · replace h := am_in h c_8
      refine am_iconst C0 dX1_joined_100 ci_0 ?_
      have e := h
      subst e
      exact hret _ _ dX1_joined_101
    · replace h := am_ip h c_8
      refine am_iconst C0 dX1_joined_96 ci_1 ?_
      refine am_goto C0 dX1_joined_97 (tgt := 101) (by decide) ?_
      have e := h
      subst e
      exact hret _ _ dX1_joined_101
  replace h := am_in h c_7
  by_cases c_9 : x0 = 62
  · replace h := am_ip h c_9
    refine am_lookup C0 dX1_joined_1 (tgt := 102) (off := 101) (by decide) (by rw [c_9]; first | done | rfl | decide) (by decide) ?_
    refine am_iload_n C0 dX1_joined_102 1 rfl ?_
    refine am_iload_n C0 dX1_joined_103 2 rfl ?_
    refine am_icmp_le C0 dX1_joined_104 (tgt := 111) (by decide) (fun c_10 => ?_) (fun c_10 => ?_)
    · replace h := am_in h c_10
      refine am_iconst C0 dX1_joined_111 ci_0 ?_
      have e := h
      subst e
      exact hret _ _ dX1_joined_112
    · replace h := am_ip h c_10
      refine am_iconst C0 dX1_joined_107 ci_1 ?_
      refine am_goto C0 dX1_joined_108 (tgt := 112) (by decide) ?_
      have e := h
      subst e
      exact hret _ _ dX1_joined_112
  replace h := am_in h c_9
  refine am_lookup C0 dX1_joined_1 (tgt := 117) (off := 116) (by decide) (by have z0 : x0.toInt ≠ 5 := fun e => c_1 (Int32.toInt_inj.mp e); have z1 : x0.toInt ≠ 42 := fun e => c_2 (Int32.toInt_inj.mp e); have z2 : x0.toInt ≠ 43 := fun e => c_3 (Int32.toInt_inj.mp e); have z3 : x0.toInt ≠ 45 := fun e => c_4 (Int32.toInt_inj.mp e); have z4 : x0.toInt ≠ 60 := fun e => c_5 (Int32.toInt_inj.mp e); have z5 : x0.toInt ≠ 61 := fun e => c_7 (Int32.toInt_inj.mp e); have z6 : x0.toInt ≠ 62 := fun e => c_9 (Int32.toInt_inj.mp e); simp [Op.lookupswitch.offset, List.find?, z0, Ne.symm z0, z1, Ne.symm z1, z2, Ne.symm z2, z3, Ne.symm z3, z4, Ne.symm z4, z5, Ne.symm z5, z6, Ne.symm z6]) (by decide) ?_
  refine am_iload_n C0 dX1_joined_117 1 rfl ?_
  refine am_iload_n C0 dX1_joined_118 2 rfl ?_
  refine am_ior C0 dX1_joined_119 ?_
  have e := h
  subst e
  exact hret _ _ dX1_joined_120
set_option maxRecDepth 100000 in
set_option maxHeartbeats 4000000 in
theorem m_C_Law_joined {l : Launch} {d : Nat} {σ : am_SS} {q : Int32} (hd : 1 ≤ d) (x0 : Int32) (x1 : Int32) (x2 : Int32) (h : C_Law_joined x0 x1 x2 = q) : am_Met l yX1_joined cX1_joined 3 (some .int) d 0 0 LC (fun b => [.int x0, .int x1, .int x2]) σ (some (.int q)) σ :=
  am_metI (plainFor_of_name (by decide)) rfl (lv := fun b => [(0, .int x0), (1, .int x1), (2, .int x2)]) (fun _ => rfl) (fun _ => Nat.le_of_ble_eq_true rfl) (fun G C0 _ hret => k_C_Law_joined C0 hd hret x0 x1 x2  h)
set_option maxRecDepth 100000 in
set_option maxHeartbeats 4000000 in
theorem k_C_Law_quotient {G : am_T} {d0 : Nat} (C0 : am_C G cX1_quotient 2 RX1 LC d0) (hd : 1 ≤ d0) {σ0 : am_SS} {q : Int32} (hret : am_retI G cX1_quotient 2 q σ0) (x0 : Int32) (x1 : Int32) (h : C_Law_quotient x0 x1 = some q) : am_K G 2 0 [(0, .int x0), (1, .int x1)] [] σ0 := by
  unfold C_Law_quotient at h
  refine am_iload_n C0 dX1_quotient_0 1 rfl ?_
  refine am_if_ne C0 dX1_quotient_1 (tgt := 8) (by decide) (fun c_1 => ?_) (fun c_1 => ?_)
  · replace h := am_in h c_1
    refine am_iload_n C0 dX1_quotient_8 0 rfl ?_
    refine am_iload_n C0 dX1_quotient_9 1 rfl ?_
    obtain ⟨hz_2, h⟩ := am_gd h
    refine am_idiv C0 dX1_quotient_10 hz_2 ?_
    have e := Option.some.inj h
    subst e
    exact hret _ _ dX1_quotient_11
  · replace h := am_ip h c_1
    refine am_iconst C0 dX1_quotient_4 ci_0 ?_
    refine am_goto C0 dX1_quotient_5 (tgt := 11) (by decide) ?_
    have e := Option.some.inj h
    subst e
    exact hret _ _ dX1_quotient_11
set_option maxRecDepth 100000 in
set_option maxHeartbeats 4000000 in
theorem m_C_Law_quotient {l : Launch} {d : Nat} {σ : am_SS} {q : Int32} (hd : 1 ≤ d) (x0 : Int32) (x1 : Int32) (h : C_Law_quotient x0 x1 = some q) : am_Met l yX1_quotient cX1_quotient 2 (some .int) d 0 0 LC (fun b => [.int x0, .int x1]) σ (some (.int q)) σ :=
  am_metI (plainFor_of_name (by decide)) rfl (lv := fun b => [(0, .int x0), (1, .int x1)]) (fun _ => rfl) (fun _ => Nat.le_of_ble_eq_true rfl) (fun G C0 _ hret => k_C_Law_quotient C0 hd hret x0 x1  h)
set_option maxRecDepth 100000 in
set_option maxHeartbeats 4000000 in
theorem k_C_Law_run_p220 {G : am_T} {d0 : Nat} (C0 : am_C G cX1_run 10 RX1 LC d0) (hd : 3 ≤ d0) (rec7 : Nat → Nat → Int32 → Int32 → Int32 → Int32 → Int32 → am_SS → Option (Int32 × am_SS)) (F : Nat) {q : Int32 × am_SS} (hret : am_retI G cX1_run 10 q.1 q.2) (hrec7 : ∀ (a0 : Nat) (a1 : Nat) (x2 : Int32) (x3 : Int32) (x5 : Int32) (x6 : Int32) (x7 : Int32) (σ : am_SS), LC.1 a0 = 3 → LC.1 a1 = 2 → rec7 a0 a1 x2 x3 x5 x6 x7 σ = some q → am_K G 10 7 [(0, .ref (am_b G a0)), (1, .ref (am_b G a1)), (2, .int x2), (3, .int x3), (5, .int x5), (6, .int x6), (7, .int x7)] [] σ) (a0 : Nat) (a1 : Nat) (x2 : Int32) (x3 : Int32) (x5 : Int32) (x6 : Int32) (x7 : Int32) (σ : am_SS) (ha0 : LC.1 a0 = 3) (ha1 : LC.1 a1 = 2) (h : C_Law_run_p220 rec7 F a0 a1 x2 x3 x5 x6 x7 σ = some q) : am_K G 10 220 [(0, .ref (am_b G a0)), (1, .ref (am_b G a1)), (2, .int x2), (3, .int x3), (5, .int x5), (6, .int x6), (7, .int x7)] [] σ := by
  unfold C_Law_run_p220 at h
  obtain ⟨x7_1, e_x7_1, h⟩ := am_lt h
  refine am_iinc C0 dX1_run_220 6 rfl (by rw [ci_1]; exact e_x7_1) (by decide) rfl (lv' := [(0, .ref (am_b G a0)), (1, .ref (am_b G a1)), (2, .int x2), (3, .int x3), (5, .int x5), (6, .int x6), (7, .int x7_1)]) rfl ?_
  refine am_goto C0 dX1_run_223 (tgt := 7) (by decide) ?_
  exact am_sub [0, 1, 2, 3, 4, 5, 6] rfl (hrec7 a0 a1 x2 x3 x5 x6 x7_1 σ ha0 ha1 h)
set_option maxRecDepth 100000 in
set_option maxHeartbeats 4000000 in
theorem k_C_Law_run_p94 {G : am_T} {d0 : Nat} (C0 : am_C G cX1_run 10 RX1 LC d0) (hd : 3 ≤ d0) (rec7 : Nat → Nat → Int32 → Int32 → Int32 → Int32 → Int32 → am_SS → Option (Int32 × am_SS)) (F : Nat) {q : Int32 × am_SS} (hret : am_retI G cX1_run 10 q.1 q.2) (hrec7 : ∀ (a0 : Nat) (a1 : Nat) (x2 : Int32) (x3 : Int32) (x5 : Int32) (x6 : Int32) (x7 : Int32) (σ : am_SS), LC.1 a0 = 3 → LC.1 a1 = 2 → rec7 a0 a1 x2 x3 x5 x6 x7 σ = some q → am_K G 10 7 [(0, .ref (am_b G a0)), (1, .ref (am_b G a1)), (2, .int x2), (3, .int x3), (5, .int x5), (6, .int x6), (7, .int x7)] [] σ) (a0 : Nat) (a1 : Nat) (x2 : Int32) (x3 : Int32) (x5 : Int32) (x6 : Int32) (x7 : Int32) (t0 : Nat) (s1 : Int32) (s2 : Int32) (σ : am_SS) (ha0 : LC.1 a0 = 3) (ha1 : LC.1 a1 = 2) (ht0 : LC.1 t0 = 0) (h : C_Law_run_p94 rec7 F a0 a1 x2 x3 x5 x6 x7 t0 s1 s2 σ = some q) : am_K G 10 94 [(0, .ref (am_b G a0)), (1, .ref (am_b G a1)), (2, .int x2), (3, .int x3), (5, .int x5), (6, .int x6), (7, .int x7)] [.int s2, .int s1, .ref (am_b G t0)] σ := by
  unfold C_Law_run_p94 at h
  obtain ⟨σ_1, h_σ_1, h⟩ := am_bind h
  refine am_iast C0 (ltC ht0) ht0 rfl h_σ_1 dX1_run_94 ?_
  obtain ⟨x6_2, e_x6_2, h⟩ := am_lt h
  refine am_iinc C0 dX1_run_95 5 rfl (by rw [ci_1]; exact e_x6_2) (by decide) rfl (lv' := [(0, .ref (am_b G a0)), (1, .ref (am_b G a1)), (2, .int x2), (3, .int x3), (5, .int x5), (6, .int x6_2), (7, .int x7)]) rfl ?_
  refine am_goto C0 dX1_run_98 (tgt := 220) (by decide) ?_
  exact am_sub [0, 1, 2, 3, 4, 5, 6] rfl (k_C_Law_run_p220 C0 hd rec7 F hret hrec7 a0 a1 x2 x3 x5 x6_2 x7 σ_1 ha0 ha1 h)
set_option maxRecDepth 100000 in
set_option maxHeartbeats 4000000 in
theorem k_C_Law_run_p60 {G : am_T} {d0 : Nat} (C0 : am_C G cX1_run 10 RX1 LC d0) (hd : 3 ≤ d0) (rec7 : Nat → Nat → Int32 → Int32 → Int32 → Int32 → Int32 → am_SS → Option (Int32 × am_SS)) (F : Nat) {q : Int32 × am_SS} (hret : am_retI G cX1_run 10 q.1 q.2) (hrec7 : ∀ (a0 : Nat) (a1 : Nat) (x2 : Int32) (x3 : Int32) (x5 : Int32) (x6 : Int32) (x7 : Int32) (σ : am_SS), LC.1 a0 = 3 → LC.1 a1 = 2 → rec7 a0 a1 x2 x3 x5 x6 x7 σ = some q → am_K G 10 7 [(0, .ref (am_b G a0)), (1, .ref (am_b G a1)), (2, .int x2), (3, .int x3), (5, .int x5), (6, .int x6), (7, .int x7)] [] σ) (a0 : Nat) (a1 : Nat) (x2 : Int32) (x3 : Int32) (x5 : Int32) (x6 : Int32) (x7 : Int32) (x8 : Int32) (x9 : Int32) (σ : am_SS) (ha0 : LC.1 a0 = 3) (ha1 : LC.1 a1 = 2) (h : C_Law_run_p60 rec7 F a0 a1 x2 x3 x5 x6 x7 x8 x9 σ = some q) : am_K G 10 60 [(0, .ref (am_b G a0)), (1, .ref (am_b G a1)), (2, .int x2), (3, .int x3), (5, .int x5), (6, .int x6), (7, .int x7), (8, .int x8), (9, .int x9)] [] σ := by
  unfold C_Law_run_p60 at h
  refine am_iload C0 dX1_run_60 5 rfl ?_
  refine am_bipush C0 dX1_run_62 kb_64 ?_
  refine am_icmp_ge C0 dX1_run_64 (tgt := 220) (by decide) (fun c_1 => ?_) (fun c_1 => ?_)
  · replace h := am_in h c_1
    exact am_sub [0, 1, 2, 3, 4, 5, 6] rfl (k_C_Law_run_p220 C0 hd rec7 F hret hrec7 a0 a1 x2 x3 x5 x6 x7 σ ha0 ha1 h)
  · replace h := am_ip h c_1
    refine am_aload_n C0 dX1_run_67 0 rfl ?_
    refine am_getR C0 (j := a0 + 5) ff_RX1_23 (loC_1_2 ha0).1 (loC_1_2 ha0).2.1 (loC_1_2 ha0).2.2.1 (loC_1_2 ha0).2.2.2 dX1_run_68 ?_
    refine am_iload C0 dX1_run_71 5 rfl ?_
    refine am_iload C0 dX1_run_73 7 rfl ?_
    refine am_sipush C0 dX1_run_75 cs_1000 ?_
    refine am_icmp_ne C0 dX1_run_78 (tgt := 86) (by decide) (fun c_2 => ?_) (fun c_2 => ?_)
    · replace h := am_in h c_2
      refine am_aload_n C0 dX1_run_86 1 rfl ?_
      refine am_iload C0 dX1_run_87 7 rfl ?_
      refine am_iload_n C0 dX1_run_89 2 rfl ?_
      refine am_iload_n C0 dX1_run_90 3 rfl ?_
      obtain ⟨q_3, h_q_3, h⟩ := am_bind h
      refine am_callV C0 (m_C_Front_value (σ := σ) (Nat.le_refl _) a1 x8 x2 x3 ha1 h_q_3) mm_yX0_value ln_RX1_54 (As := fun b => [.int x8, .int x2, .int x3]) (fun _ => rfl) (fun _ => rfl) (loC_0_0 ha1).1 (loC_0_0 ha1).2.1 rfl (Nat.le_trans (by decide) hd) rfl (Nat.le_of_ble_eq_true rfl) dX1_run_91 ?_
      exact am_sub [0, 1, 2, 3, 4, 5, 6] rfl (k_C_Law_run_p94 C0 hd rec7 F hret hrec7 a0 a1 x2 x3 x5 x6 x7 (a0 + 5) x6 q_3 σ ha0 ha1 (tgC_1_2 ha0) h)
    · replace h := am_ip h c_2
      refine am_iload C0 dX1_run_81 8 rfl ?_
      refine am_goto C0 dX1_run_83 (tgt := 94) (by decide) ?_
      exact am_sub [0, 1, 2, 3, 4, 5, 6] rfl (k_C_Law_run_p94 C0 hd rec7 F hret hrec7 a0 a1 x2 x3 x5 x6 x7 (a0 + 5) x6 x9 σ ha0 ha1 (tgC_1_2 ha0) h)
set_option maxRecDepth 100000 in
set_option maxHeartbeats 4000000 in
theorem k_C_Law_run_p170 {G : am_T} {d0 : Nat} (C0 : am_C G cX1_run 10 RX1 LC d0) (hd : 3 ≤ d0) (rec7 : Nat → Nat → Int32 → Int32 → Int32 → Int32 → Int32 → am_SS → Option (Int32 × am_SS)) (F : Nat) {q : Int32 × am_SS} (hret : am_retI G cX1_run 10 q.1 q.2) (hrec7 : ∀ (a0 : Nat) (a1 : Nat) (x2 : Int32) (x3 : Int32) (x5 : Int32) (x6 : Int32) (x7 : Int32) (σ : am_SS), LC.1 a0 = 3 → LC.1 a1 = 2 → rec7 a0 a1 x2 x3 x5 x6 x7 σ = some q → am_K G 10 7 [(0, .ref (am_b G a0)), (1, .ref (am_b G a1)), (2, .int x2), (3, .int x3), (5, .int x5), (6, .int x6), (7, .int x7)] [] σ) (a0 : Nat) (a1 : Nat) (x2 : Int32) (x3 : Int32) (x5 : Int32) (x6 : Int32) (x7 : Int32) (t0 : Nat) (s1 : Int32) (s2 : Int32) (σ : am_SS) (ha0 : LC.1 a0 = 3) (ha1 : LC.1 a1 = 2) (ht0 : LC.1 t0 = 0) (h : C_Law_run_p170 rec7 F a0 a1 x2 x3 x5 x6 x7 t0 s1 s2 σ = some q) : am_K G 10 170 [(0, .ref (am_b G a0)), (1, .ref (am_b G a1)), (2, .int x2), (3, .int x3), (5, .int x5), (6, .int x6), (7, .int x7)] [.int s2, .int s1, .ref (am_b G t0)] σ := by
  unfold C_Law_run_p170 at h
  obtain ⟨σ_1, h_σ_1, h⟩ := am_bind h
  refine am_iast C0 (ltC ht0) ht0 rfl h_σ_1 dX1_run_170 ?_
  refine am_goto C0 dX1_run_171 (tgt := 220) (by decide) ?_
  exact am_sub [0, 1, 2, 3, 4, 5, 6] rfl (k_C_Law_run_p220 C0 hd rec7 F hret hrec7 a0 a1 x2 x3 x5 x6 x7 σ_1 ha0 ha1 h)
set_option maxRecDepth 100000 in
set_option maxHeartbeats 4000000 in
theorem k_C_Law_run_p115 {G : am_T} {d0 : Nat} (C0 : am_C G cX1_run 10 RX1 LC d0) (hd : 3 ≤ d0) (rec7 : Nat → Nat → Int32 → Int32 → Int32 → Int32 → Int32 → am_SS → Option (Int32 × am_SS)) (F : Nat) {q : Int32 × am_SS} (hret : am_retI G cX1_run 10 q.1 q.2) (hrec7 : ∀ (a0 : Nat) (a1 : Nat) (x2 : Int32) (x3 : Int32) (x5 : Int32) (x6 : Int32) (x7 : Int32) (σ : am_SS), LC.1 a0 = 3 → LC.1 a1 = 2 → rec7 a0 a1 x2 x3 x5 x6 x7 σ = some q → am_K G 10 7 [(0, .ref (am_b G a0)), (1, .ref (am_b G a1)), (2, .int x2), (3, .int x3), (5, .int x5), (6, .int x6), (7, .int x7)] [] σ) (a0 : Nat) (a1 : Nat) (x2 : Int32) (x3 : Int32) (x5 : Int32) (x6 : Int32) (x7 : Int32) (x8 : Int32) (x9 : Int32) (σ : am_SS) (ha0 : LC.1 a0 = 3) (ha1 : LC.1 a1 = 2) (h : C_Law_run_p115 rec7 F a0 a1 x2 x3 x5 x6 x7 x8 x9 σ = some q) : am_K G 10 115 [(0, .ref (am_b G a0)), (1, .ref (am_b G a1)), (2, .int x2), (3, .int x3), (5, .int x5), (6, .int x6), (7, .int x7), (8, .int x8), (9, .int x9)] [] σ := by
  unfold C_Law_run_p115 at h
  refine am_iload C0 dX1_run_115 5 rfl ?_
  refine am_if_le C0 dX1_run_117 (tgt := 220) (by decide) (fun c_1 => ?_) (fun c_1 => ?_)
  · replace h := am_in h c_1
    exact am_sub [0, 1, 2, 3, 4, 5, 6] rfl (k_C_Law_run_p220 C0 hd rec7 F hret hrec7 a0 a1 x2 x3 x5 x6 x7 σ ha0 ha1 h)
  · replace h := am_ip h c_1
    refine am_iload C0 dX1_run_120 5 rfl ?_
    refine am_bipush C0 dX1_run_122 kb_64 ?_
    refine am_icmp_gt C0 dX1_run_124 (tgt := 220) (by decide) (fun c_2 => ?_) (fun c_2 => ?_)
    · replace h := am_ip h c_2
      exact am_sub [0, 1, 2, 3, 4, 5, 6] rfl (k_C_Law_run_p220 C0 hd rec7 F hret hrec7 a0 a1 x2 x3 x5 x6 x7 σ ha0 ha1 h)
    · replace h := am_in h c_2
      refine am_aload_n C0 dX1_run_127 0 rfl ?_
      refine am_getR C0 (j := a0 + 5) ff_RX1_23 (loC_1_2 ha0).1 (loC_1_2 ha0).2.1 (loC_1_2 ha0).2.2.1 (loC_1_2 ha0).2.2.2 dX1_run_128 ?_
      refine am_iload C0 dX1_run_131 5 rfl ?_
      refine am_iconst C0 dX1_run_133 ci_1 ?_
      refine am_isub C0 dX1_run_134 ?_
      refine am_iload C0 dX1_run_135 7 rfl ?_
      refine am_bipush C0 dX1_run_137 kb_6 ?_
      refine am_icmp_ne C0 dX1_run_139 (tgt := 156) (by decide) (fun c_3 => ?_) (fun c_3 => ?_)
      · replace h := am_in h c_3
        refine am_aload_n C0 dX1_run_156 0 rfl ?_
        refine am_getR C0 (j := a0 + 5) ff_RX1_23 (loC_1_2 ha0).1 (loC_1_2 ha0).2.1 (loC_1_2 ha0).2.2.1 (loC_1_2 ha0).2.2.2 dX1_run_157 ?_
        refine am_iload C0 dX1_run_160 5 rfl ?_
        refine am_iconst C0 dX1_run_162 ci_1 ?_
        refine am_isub C0 dX1_run_163 ?_
        obtain ⟨t_4, h_t_4, h⟩ := am_bind h
        refine am_iald C0 (ltC (tgC_1_2 ha0)) (tgC_1_2 ha0) (lnC_1_2 ha0) h_t_4 dX1_run_164 ?_
        refine am_iload C0 dX1_run_165 8 rfl ?_
        obtain ⟨q_5, h_q_5, h⟩ := am_bind h
        refine am_callS C0 (m_C_Law_quotient (σ := σ) (Nat.le_refl _) t_4 x9  h_q_5) mm_yX1_quotient ln_RX1_68 (fun _ => rfl) (Nat.le_trans (by decide) hd) rfl (Nat.le_of_ble_eq_true rfl) dX1_run_167 ?_
        exact am_sub [0, 1, 2, 3, 4, 5, 6] rfl (k_C_Law_run_p170 C0 hd rec7 F hret hrec7 a0 a1 x2 x3 x5 x6 x7 (a0 + 5) (x6 - 1) q_5 σ ha0 ha1 (tgC_1_2 ha0) h)
      · replace h := am_ip h c_3
        refine am_iconst C0 dX1_run_142 ci_1 ?_
        refine am_aload_n C0 dX1_run_143 0 rfl ?_
        refine am_getR C0 (j := a0 + 5) ff_RX1_23 (loC_1_2 ha0).1 (loC_1_2 ha0).2.1 (loC_1_2 ha0).2.2.1 (loC_1_2 ha0).2.2.2 dX1_run_144 ?_
        refine am_iload C0 dX1_run_147 5 rfl ?_
        refine am_iconst C0 dX1_run_149 ci_1 ?_
        refine am_isub C0 dX1_run_150 ?_
        obtain ⟨t_6, h_t_6, h⟩ := am_bind h
        refine am_iald C0 (ltC (tgC_1_2 ha0)) (tgC_1_2 ha0) (lnC_1_2 ha0) h_t_6 dX1_run_151 ?_
        refine am_isub C0 dX1_run_152 ?_
        refine am_goto C0 dX1_run_153 (tgt := 170) (by decide) ?_
        exact am_sub [0, 1, 2, 3, 4, 5, 6] rfl (k_C_Law_run_p170 C0 hd rec7 F hret hrec7 a0 a1 x2 x3 x5 x6 x7 (a0 + 5) (x6 - 1) (1 - t_6) σ ha0 ha1 (tgC_1_2 ha0) h)
set_option maxRecDepth 100000 in
set_option maxHeartbeats 4000000 in
theorem k_C_Law_run_p101 {G : am_T} {d0 : Nat} (C0 : am_C G cX1_run 10 RX1 LC d0) (hd : 3 ≤ d0) (rec7 : Nat → Nat → Int32 → Int32 → Int32 → Int32 → Int32 → am_SS → Option (Int32 × am_SS)) (F : Nat) {q : Int32 × am_SS} (hret : am_retI G cX1_run 10 q.1 q.2) (hrec7 : ∀ (a0 : Nat) (a1 : Nat) (x2 : Int32) (x3 : Int32) (x5 : Int32) (x6 : Int32) (x7 : Int32) (σ : am_SS), LC.1 a0 = 3 → LC.1 a1 = 2 → rec7 a0 a1 x2 x3 x5 x6 x7 σ = some q → am_K G 10 7 [(0, .ref (am_b G a0)), (1, .ref (am_b G a1)), (2, .int x2), (3, .int x3), (5, .int x5), (6, .int x6), (7, .int x7)] [] σ) (a0 : Nat) (a1 : Nat) (x2 : Int32) (x3 : Int32) (x5 : Int32) (x6 : Int32) (x7 : Int32) (x8 : Int32) (x9 : Int32) (σ : am_SS) (ha0 : LC.1 a0 = 3) (ha1 : LC.1 a1 = 2) (h : C_Law_run_p101 rec7 F a0 a1 x2 x3 x5 x6 x7 x8 x9 σ = some q) : am_K G 10 101 [(0, .ref (am_b G a0)), (1, .ref (am_b G a1)), (2, .int x2), (3, .int x3), (5, .int x5), (6, .int x6), (7, .int x7), (8, .int x8), (9, .int x9)] [] σ := by
  unfold C_Law_run_p101 at h
  refine am_iload C0 dX1_run_101 7 rfl ?_
  refine am_bipush C0 dX1_run_103 kb_6 ?_
  refine am_icmp_eq C0 dX1_run_105 (tgt := 115) (by decide) (fun c_1 => ?_) (fun c_1 => ?_)
  · replace h := am_ip h c_1
    exact am_sub [0, 1, 2, 3, 4, 5, 6, 7, 8] rfl (k_C_Law_run_p115 C0 hd rec7 F hret hrec7 a0 a1 x2 x3 x5 x6 x7 x8 x9 σ ha0 ha1 h)
  · replace h := am_in h c_1
    refine am_iload C0 dX1_run_108 7 rfl ?_
    refine am_bipush C0 dX1_run_110 kb_47 ?_
    refine am_icmp_ne C0 dX1_run_112 (tgt := 174) (by decide) (fun c_2 => ?_) (fun c_2 => ?_)
    · replace h := am_in h c_2
      refine am_iload C0 dX1_run_174 5 rfl ?_
      refine am_iconst C0 dX1_run_176 ci_1 ?_
      refine am_icmp_le C0 dX1_run_177 (tgt := 220) (by decide) (fun c_3 => ?_) (fun c_3 => ?_)
      · replace h := am_in h c_3
        exact am_sub [0, 1, 2, 3, 4, 5, 6] rfl (k_C_Law_run_p220 C0 hd rec7 F hret hrec7 a0 a1 x2 x3 x5 x6 x7 σ ha0 ha1 h)
      · replace h := am_ip h c_3
        refine am_iload C0 dX1_run_180 5 rfl ?_
        refine am_bipush C0 dX1_run_182 kb_64 ?_
        refine am_icmp_gt C0 dX1_run_184 (tgt := 220) (by decide) (fun c_4 => ?_) (fun c_4 => ?_)
        · replace h := am_ip h c_4
          exact am_sub [0, 1, 2, 3, 4, 5, 6] rfl (k_C_Law_run_p220 C0 hd rec7 F hret hrec7 a0 a1 x2 x3 x5 x6 x7 σ ha0 ha1 h)
        · replace h := am_in h c_4
          obtain ⟨x6_5, e_x6_5, h⟩ := am_lt h
          refine am_iinc C0 dX1_run_187 5 rfl (by rw [ci_m1]; exact e_x6_5) (by decide) rfl (lv' := [(0, .ref (am_b G a0)), (1, .ref (am_b G a1)), (2, .int x2), (3, .int x3), (5, .int x5), (6, .int x6_5), (7, .int x7), (8, .int x8), (9, .int x9)]) rfl ?_
          refine am_aload_n C0 dX1_run_190 0 rfl ?_
          refine am_getR C0 (j := a0 + 5) ff_RX1_23 (loC_1_2 ha0).1 (loC_1_2 ha0).2.1 (loC_1_2 ha0).2.2.1 (loC_1_2 ha0).2.2.2 dX1_run_191 ?_
          refine am_iload C0 dX1_run_194 5 rfl ?_
          refine am_iconst C0 dX1_run_196 ci_1 ?_
          refine am_isub C0 dX1_run_197 ?_
          refine am_iload C0 dX1_run_198 7 rfl ?_
          refine am_aload_n C0 dX1_run_200 0 rfl ?_
          refine am_getR C0 (j := a0 + 5) ff_RX1_23 (loC_1_2 ha0).1 (loC_1_2 ha0).2.1 (loC_1_2 ha0).2.2.1 (loC_1_2 ha0).2.2.2 dX1_run_201 ?_
          refine am_iload C0 dX1_run_204 5 rfl ?_
          refine am_iconst C0 dX1_run_206 ci_1 ?_
          refine am_isub C0 dX1_run_207 ?_
          obtain ⟨t_6, h_t_6, h⟩ := am_bind h
          refine am_iald C0 (ltC (tgC_1_2 ha0)) (tgC_1_2 ha0) (lnC_1_2 ha0) h_t_6 dX1_run_208 ?_
          refine am_aload_n C0 dX1_run_209 0 rfl ?_
          refine am_getR C0 (j := a0 + 5) ff_RX1_23 (loC_1_2 ha0).1 (loC_1_2 ha0).2.1 (loC_1_2 ha0).2.2.1 (loC_1_2 ha0).2.2.2 dX1_run_210 ?_
          refine am_iload C0 dX1_run_213 5 rfl ?_
          obtain ⟨t_7, h_t_7, h⟩ := am_bind h
          refine am_iald C0 (ltC (tgC_1_2 ha0)) (tgC_1_2 ha0) (lnC_1_2 ha0) h_t_7 dX1_run_215 ?_
          refine am_callS C0 (m_C_Law_joined (σ := σ) (Nat.le_refl _) x8 t_6 t_7  rfl) mm_yX1_joined ln_RX1_71 (fun _ => rfl) (Nat.le_trans (by decide) hd) rfl (Nat.le_of_ble_eq_true rfl) dX1_run_216 ?_
          obtain ⟨σ_9, h_σ_9, h⟩ := am_bind h
          refine am_iast C0 (ltC (tgC_1_2 ha0)) (tgC_1_2 ha0) (lnC_1_2 ha0) h_σ_9 dX1_run_219 ?_
          exact am_sub [0, 1, 2, 3, 4, 5, 6] rfl (k_C_Law_run_p220 C0 hd rec7 F hret hrec7 a0 a1 x2 x3 x5 x6_5 x7 σ_9 ha0 ha1 h)
    · replace h := am_ip h c_2
      exact am_sub [0, 1, 2, 3, 4, 5, 6, 7, 8] rfl (k_C_Law_run_p115 C0 hd rec7 F hret hrec7 a0 a1 x2 x3 x5 x6 x7 x8 x9 σ ha0 ha1 h)
set_option maxRecDepth 100000 in
set_option maxHeartbeats 4000000 in
theorem k_C_Law_run_l7 {G : am_T} {d0 : Nat} (C0 : am_C G cX1_run 10 RX1 LC d0) (hd : 3 ≤ d0) (F : Nat) {q : Int32 × am_SS} (hret : am_retI G cX1_run 10 q.1 q.2) : ∀ (n : Nat) (a0 : Nat) (a1 : Nat) (x2 : Int32) (x3 : Int32) (x5 : Int32) (x6 : Int32) (x7 : Int32) (σ : am_SS) (ha0 : LC.1 a0 = 3) (ha1 : LC.1 a1 = 2) (h : C_Law_run_l7 F n a0 a1 x2 x3 x5 x6 x7 σ = some q), am_K G 10 7 [(0, .ref (am_b G a0)), (1, .ref (am_b G a1)), (2, .int x2), (3, .int x3), (5, .int x5), (6, .int x6), (7, .int x7)] [] σ := by
  intro n
  induction n with
  | zero =>
    intro a0 a1 x2 x3 x5 x6 x7 σ ha0 ha1 h
    rw [C_Law_run_l7] at h
    cases h
  | succ n ih =>
    intro a0 a1 x2 x3 x5 x6 x7 σ ha0 ha1 h
    rw [C_Law_run_l7] at h
    refine am_iload C0 dX1_run_7 6 rfl ?_
    refine am_iload C0 dX1_run_9 4 rfl ?_
    refine am_icmp_ge C0 dX1_run_11 (tgt := 226) (by decide) (fun c_1 => ?_) (fun c_1 => ?_)
    · replace h := am_in h c_1
      refine am_iload C0 dX1_run_226 5 rfl ?_
      refine am_if_le C0 dX1_run_228 (tgt := 240) (by decide) (fun c_2 => ?_) (fun c_2 => ?_)
      · replace h := am_in h c_2
        refine am_iconst C0 dX1_run_240 ci_0 ?_
        have e := Option.some.inj h
        subst e
        exact hret _ _ dX1_run_241
      · replace h := am_ip h c_2
        refine am_aload_n C0 dX1_run_231 0 rfl ?_
        refine am_getR C0 (j := a0 + 5) ff_RX1_23 (loC_1_2 ha0).1 (loC_1_2 ha0).2.1 (loC_1_2 ha0).2.2.1 (loC_1_2 ha0).2.2.2 dX1_run_232 ?_
        refine am_iconst C0 dX1_run_235 ci_0 ?_
        obtain ⟨t_3, h_t_3, h⟩ := am_bind h
        refine am_iald C0 (ltC (tgC_1_2 ha0)) (tgC_1_2 ha0) (lnC_1_2 ha0) h_t_3 dX1_run_236 ?_
        refine am_goto C0 dX1_run_237 (tgt := 241) (by decide) ?_
        have e := Option.some.inj h
        subst e
        exact hret _ _ dX1_run_241
    · replace h := am_ip h c_1
      refine am_aload_n C0 dX1_run_14 0 rfl ?_
      refine am_getR C0 (j := a0 + 3) ff_RX1_20 (loC_1_1 ha0).1 (loC_1_1 ha0).2.1 (loC_1_1 ha0).2.2.1 (loC_1_1 ha0).2.2.2 dX1_run_15 ?_
      refine am_iload C0 dX1_run_18 6 rfl ?_
      refine am_iconst C0 dX1_run_20 ci_0 ?_
      obtain ⟨q_4, h_q_4, h⟩ := am_bind h
      refine am_callV C0 (m_C_Table_at (σ := σ) (Nat.le_refl _) (a0 + 3) x7 0 (tgC_1_1 ha0) h_q_4) mm_yX6_at ln_RX1_39 (As := fun b => [.int x7, .int 0]) (fun _ => rfl) (fun _ => rfl) (loC_4_0 (tgC_1_1 ha0)).1 (loC_4_0 (tgC_1_1 ha0)).2.1 rfl (Nat.le_trans (by decide) hd) rfl (Nat.le_of_ble_eq_true rfl) dX1_run_21 ?_
      refine am_istore C0 dX1_run_24 (by decide) rfl (lv' := [(0, .ref (am_b G a0)), (1, .ref (am_b G a1)), (2, .int x2), (3, .int x3), (5, .int x5), (6, .int x6), (7, .int x7), (8, .int q_4)]) rfl ?_
      refine am_aload_n C0 dX1_run_26 0 rfl ?_
      refine am_getR C0 (j := a0 + 3) ff_RX1_20 (loC_1_1 ha0).1 (loC_1_1 ha0).2.1 (loC_1_1 ha0).2.2.1 (loC_1_1 ha0).2.2.2 dX1_run_27 ?_
      refine am_iload C0 dX1_run_30 6 rfl ?_
      refine am_iconst C0 dX1_run_32 ci_1 ?_
      obtain ⟨q_5, h_q_5, h⟩ := am_bind h
      refine am_callV C0 (m_C_Table_at (σ := σ) (Nat.le_refl _) (a0 + 3) x7 1 (tgC_1_1 ha0) h_q_5) mm_yX6_at ln_RX1_39 (As := fun b => [.int x7, .int 1]) (fun _ => rfl) (fun _ => rfl) (loC_4_0 (tgC_1_1 ha0)).1 (loC_4_0 (tgC_1_1 ha0)).2.1 rfl (Nat.le_trans (by decide) hd) rfl (Nat.le_of_ble_eq_true rfl) dX1_run_33 ?_
      refine am_istore C0 dX1_run_36 (by decide) rfl (lv' := [(0, .ref (am_b G a0)), (1, .ref (am_b G a1)), (2, .int x2), (3, .int x3), (5, .int x5), (6, .int x6), (7, .int x7), (8, .int q_4), (9, .int q_5)]) rfl ?_
      refine am_iload C0 dX1_run_38 7 rfl ?_
      refine am_sipush C0 dX1_run_40 cs_1000 ?_
      refine am_icmp_eq C0 dX1_run_43 (tgt := 60) (by decide) (fun c_6 => ?_) (fun c_6 => ?_)
      · replace h := am_ip h c_6
        exact am_sub [0, 1, 2, 3, 4, 5, 6, 7, 8] rfl (k_C_Law_run_p60 C0 hd _ F hret (fun z0 z1 z2 z3 z4 z5 z6 zs zh0 zh1 z => ih z0 z1 z2 z3 z4 z5 z6 zs zh0 zh1 z) a0 a1 x2 x3 x5 x6 x7 q_4 q_5 σ ha0 ha1 h)
      · replace h := am_in h c_6
        refine am_iload C0 dX1_run_46 7 rfl ?_
        refine am_bipush C0 dX1_run_48 kb_7 ?_
        refine am_icmp_lt C0 dX1_run_50 (tgt := 101) (by decide) (fun c_7 => ?_) (fun c_7 => ?_)
        · replace h := am_ip h c_7
          exact am_sub [0, 1, 2, 3, 4, 5, 6, 7, 8] rfl (k_C_Law_run_p101 C0 hd _ F hret (fun z0 z1 z2 z3 z4 z5 z6 zs zh0 zh1 z => ih z0 z1 z2 z3 z4 z5 z6 zs zh0 zh1 z) a0 a1 x2 x3 x5 x6 x7 q_4 q_5 σ ha0 ha1 h)
        · replace h := am_in h c_7
          refine am_iload C0 dX1_run_53 7 rfl ?_
          refine am_bipush C0 dX1_run_55 kb_16 ?_
          refine am_icmp_gt C0 dX1_run_57 (tgt := 101) (by decide) (fun c_8 => ?_) (fun c_8 => ?_)
          · replace h := am_ip h c_8
            exact am_sub [0, 1, 2, 3, 4, 5, 6, 7, 8] rfl (k_C_Law_run_p101 C0 hd _ F hret (fun z0 z1 z2 z3 z4 z5 z6 zs zh0 zh1 z => ih z0 z1 z2 z3 z4 z5 z6 zs zh0 zh1 z) a0 a1 x2 x3 x5 x6 x7 q_4 q_5 σ ha0 ha1 h)
          · replace h := am_in h c_8
            exact am_sub [0, 1, 2, 3, 4, 5, 6, 7, 8] rfl (k_C_Law_run_p60 C0 hd _ F hret (fun z0 z1 z2 z3 z4 z5 z6 zs zh0 zh1 z => ih z0 z1 z2 z3 z4 z5 z6 zs zh0 zh1 z) a0 a1 x2 x3 x5 x6 x7 q_4 q_5 σ ha0 ha1 h)
set_option maxRecDepth 100000 in
set_option maxHeartbeats 4000000 in
theorem k_C_Law_run {G : am_T} {d0 : Nat} (C0 : am_C G cX1_run 10 RX1 LC d0) (hd : 3 ≤ d0) (F : Nat) {q : Int32 × am_SS} (hret : am_retI G cX1_run 10 q.1 q.2) (a0 : Nat) (a1 : Nat) (x2 : Int32) (x3 : Int32) (x4 : Int32) (x5 : Int32) (σ : am_SS) (ha0 : LC.1 a0 = 3) (ha1 : LC.1 a1 = 2) (h : C_Law_run F a0 a1 x2 x3 x4 x5 σ = some q) : am_K G 10 0 [(0, .ref (am_b G a0)), (1, .ref (am_b G a1)), (2, .int x2), (3, .int x3), (4, .int x4), (5, .int x5)] [] σ := by
  unfold C_Law_run at h
  refine am_iconst C0 dX1_run_0 ci_0 ?_
  refine am_istore C0 dX1_run_1 (by decide) rfl (lv' := [(0, .ref (am_b G a0)), (1, .ref (am_b G a1)), (2, .int x2), (3, .int x3), (4, .int x4), (5, .int x5), (6, .int 0)]) rfl ?_
  refine am_iload C0 dX1_run_3 4 rfl ?_
  refine am_istore C0 dX1_run_5 (by decide) rfl (lv' := [(0, .ref (am_b G a0)), (1, .ref (am_b G a1)), (2, .int x2), (3, .int x3), (4, .int x4), (5, .int x5), (6, .int 0), (7, .int x4)]) rfl ?_
  exact am_sub [0, 1, 2, 3, 5, 6, 7] rfl (k_C_Law_run_l7 C0 hd F hret F a0 a1 x2 x3 x5 0 x4 σ ha0 ha1 h)
set_option maxRecDepth 100000 in
set_option maxHeartbeats 4000000 in
theorem m_C_Law_run {l : Launch} {d : Nat} {σ : am_SS} {q : Int32 × am_SS} (hd : 3 ≤ d) (F : Nat) (a0 : Nat) (a1 : Nat) (x2 : Int32) (x3 : Int32) (x4 : Int32) (x5 : Int32) (ha0 : LC.1 a0 = 3) (ha1 : LC.1 a1 = 2) (h : C_Law_run F a0 a1 x2 x3 x4 x5 σ = some q) : am_Met l yX1_run cX1_run 10 (some .int) d 0 0 LC (fun b => [.ref (b a0), .ref (b a1), .int x2, .int x3, .int x4, .int x5]) σ (some (.int q.1)) q.2 :=
  am_metI (plainFor_of_name (by decide)) rfl (lv := fun b => [(0, .ref (b a0)), (1, .ref (b a1)), (2, .int x2), (3, .int x3), (4, .int x4), (5, .int x5)]) (fun _ => rfl) (fun _ => Nat.le_of_ble_eq_true rfl) (fun G C0 _ hret => k_C_Law_run C0 hd F hret a0 a1 x2 x3 x4 x5 σ ha0 ha1 h)
set_option maxRecDepth 100000 in
set_option maxHeartbeats 4000000 in
theorem k_C_Law_held_p22 {G : am_T} {d0 : Nat} (C0 : am_C G cX1_held 3 RX1 LC d0) (hd : 2 ≤ d0) {σ0 : am_SS} {q : Int32} (hret : am_retI G cX1_held 3 q σ0) (x1 : Int32) (s0 : Int32) (h : C_Law_held_p22 x1 s0 = q) : am_K G 3 22 [(1, .int x1)] [.int s0] σ0 := by
  unfold C_Law_held_p22 at h
  refine am_istore_n C0 dX1_held_22 rfl (by decide) rfl (lv' := [(1, .int x1), (2, .int s0)]) rfl ?_
  refine am_iconst C0 dX1_held_23 ci_0 ?_
  refine am_iload_n C0 dX1_held_24 1 rfl ?_
  refine am_iload_n C0 dX1_held_25 0 rfl ?_
  refine am_callS C0 (m_J_min (σ := σ0) (Nat.le_refl _) s0 x1  rfl) mm_yJ9_min_7cf53 ln_RX1_60 (fun _ => rfl) (Nat.le_trans (by decide) hd) rfl (Nat.le_of_ble_eq_true rfl) dX1_held_26 ?_
  refine am_callS C0 (m_J_max (σ := σ0) (Nat.le_refl _) 0 (J_min s0 x1)  rfl) mm_yJ9_max_7cf53 ln_RX1_65 (fun _ => rfl) (Nat.le_trans (by decide) hd) rfl (Nat.le_of_ble_eq_true rfl) dX1_held_29 ?_
  have e := h
  subst e
  exact hret _ _ dX1_held_32
set_option maxRecDepth 100000 in
set_option maxHeartbeats 4000000 in
theorem k_C_Law_held {G : am_T} {d0 : Nat} (C0 : am_C G cX1_held 3 RX1 LC d0) (hd : 2 ≤ d0) {σ0 : am_SS} {q : Int32} (hret : am_retI G cX1_held 3 q σ0) (x0 : Int32) (x1 : Int32) (h : C_Law_held x0 x1 = q) : am_K G 3 0 [(0, .int x0), (1, .int x1)] [] σ0 := by
  unfold C_Law_held at h
  refine am_iload_n C0 dX1_held_0 0 rfl ?_
  refine am_if_ne C0 dX1_held_1 (tgt := 9) (by decide) (fun c_1 => ?_) (fun c_1 => ?_)
  · replace h := am_in h c_1
    refine am_iload_n C0 dX1_held_9 0 rfl ?_
    refine am_iconst C0 dX1_held_10 ci_1 ?_
    refine am_icmp_ne C0 dX1_held_11 (tgt := 19) (by decide) (fun c_2 => ?_) (fun c_2 => ?_)
    · replace h := am_in h c_2
      refine am_sipush C0 dX1_held_19 cs_1000 ?_
      exact am_sub [1] rfl (k_C_Law_held_p22 C0 hd hret x1 1000  h)
    · replace h := am_ip h c_2
      refine am_bipush C0 dX1_held_14 kb_99 ?_
      refine am_goto C0 dX1_held_16 (tgt := 22) (by decide) ?_
      exact am_sub [1] rfl (k_C_Law_held_p22 C0 hd hret x1 99  h)
  · replace h := am_ip h c_1
    refine am_bipush C0 dX1_held_4 kb_20 ?_
    refine am_goto C0 dX1_held_6 (tgt := 22) (by decide) ?_
    exact am_sub [1] rfl (k_C_Law_held_p22 C0 hd hret x1 20  h)
set_option maxRecDepth 100000 in
set_option maxHeartbeats 4000000 in
theorem m_C_Law_held {l : Launch} {d : Nat} {σ : am_SS} {q : Int32} (hd : 2 ≤ d) (x0 : Int32) (x1 : Int32) (h : C_Law_held x0 x1 = q) : am_Met l yX1_held cX1_held 3 (some .int) d 0 0 LC (fun b => [.int x0, .int x1]) σ (some (.int q)) σ :=
  am_metI (plainFor_of_name (by decide)) rfl (lv := fun b => [(0, .int x0), (1, .int x1)]) (fun _ => rfl) (fun _ => Nat.le_of_ble_eq_true rfl) (fun G C0 _ hret => k_C_Law_held C0 hd hret x0 x1  h)
set_option maxRecDepth 100000 in
set_option maxHeartbeats 4000000 in
theorem k_C_Law_untold {G : am_T} {d0 : Nat} (C0 : am_C G cX1_untold 5 RX1 LC d0) (hd : 3 ≤ d0) {σ : am_SS} {q : Int32} (hret : am_retI G cX1_untold 5 q σ) (a0 : Nat) (x1 : Int32) (x2 : Int32) (x3 : Int32) (ha0 : LC.1 a0 = 2) (h : C_Law_untold a0 x1 x2 x3 σ = some q) : am_K G 5 0 [(0, .ref (am_b G a0)), (1, .int x1), (2, .int x2), (3, .int x3)] [] σ := by
  unfold C_Law_untold at h
  refine am_aload_n C0 dX1_untold_0 0 rfl ?_
  refine am_bipush C0 dX1_untold_1 kb_11 ?_
  refine am_iload_n C0 dX1_untold_3 1 rfl ?_
  refine am_iload_n C0 dX1_untold_4 2 rfl ?_
  obtain ⟨q_1, h_q_1, h⟩ := am_bind h
  refine am_callV C0 (m_C_Front_value (σ := σ) (Nat.le_refl _) a0 11 x1 x2 ha0 h_q_1) mm_yX0_value ln_RX1_54 (As := fun b => [.int 11, .int x1, .int x2]) (fun _ => rfl) (fun _ => rfl) (loC_0_0 ha0).1 (loC_0_0 ha0).2.1 rfl (Nat.le_trans (by decide) hd) rfl (Nat.le_of_ble_eq_true rfl) dX1_untold_5 ?_
  refine am_istore C0 dX1_untold_8 (by decide) rfl (lv' := [(0, .ref (am_b G a0)), (1, .int x1), (2, .int x2), (3, .int x3), (4, .int q_1)]) rfl ?_
  refine am_iload_n C0 dX1_untold_10 3 rfl ?_
  by_cases c_2 : x3 = 0
  · replace h := am_ip h c_2
    refine am_lookup C0 dX1_untold_11 (tgt := 36) (off := 25) (by decide) (by rw [c_2]; first | done | rfl | decide) (by decide) ?_
    refine am_aload_n C0 dX1_untold_36 0 rfl ?_
    refine am_bipush C0 dX1_untold_37 kb_7 ?_
    refine am_iload_n C0 dX1_untold_39 1 rfl ?_
    refine am_iload_n C0 dX1_untold_40 2 rfl ?_
    obtain ⟨q_3, h_q_3, h⟩ := am_bind h
    refine am_callV C0 (m_C_Front_value (σ := σ) (Nat.le_refl _) a0 7 x1 x2 ha0 h_q_3) mm_yX0_value ln_RX1_54 (As := fun b => [.int 7, .int x1, .int x2]) (fun _ => rfl) (fun _ => rfl) (loC_0_0 ha0).1 (loC_0_0 ha0).2.1 rfl (Nat.le_trans (by decide) hd) rfl (Nat.le_of_ble_eq_true rfl) dX1_untold_41 ?_
    have e := Option.some.inj h
    subst e
    exact hret _ _ dX1_untold_44
  replace h := am_in h c_2
  by_cases c_4 : x3 = 1
  · replace h := am_ip h c_4
    refine am_lookup C0 dX1_untold_11 (tgt := 45) (off := 34) (by decide) (by rw [c_4]; first | done | rfl | decide) (by decide) ?_
    refine am_bipush C0 dX1_untold_45 kb_10 ?_
    refine am_iconst C0 dX1_untold_47 ci_5 ?_
    refine am_iload C0 dX1_untold_48 4 rfl ?_
    refine am_imul C0 dX1_untold_50 ?_
    refine am_iadd C0 dX1_untold_51 ?_
    have e := Option.some.inj h
    subst e
    exact hret _ _ dX1_untold_52
  replace h := am_in h c_4
  refine am_lookup C0 dX1_untold_11 (tgt := 53) (off := 42) (by decide) (by have z0 : x3.toInt ≠ 0 := fun e => c_2 (Int32.toInt_inj.mp e); have z1 : x3.toInt ≠ 1 := fun e => c_4 (Int32.toInt_inj.mp e); simp [Op.lookupswitch.offset, List.find?, z0, Ne.symm z0, z1, Ne.symm z1]) (by decide) ?_
  refine am_bipush C0 dX1_untold_53 kb_40 ?_
  refine am_iload C0 dX1_untold_55 4 rfl ?_
  refine am_imul C0 dX1_untold_57 ?_
  refine am_aload_n C0 dX1_untold_58 0 rfl ?_
  refine am_bipush C0 dX1_untold_59 kb_12 ?_
  refine am_iload_n C0 dX1_untold_61 1 rfl ?_
  refine am_iload_n C0 dX1_untold_62 2 rfl ?_
  obtain ⟨q_5, h_q_5, h⟩ := am_bind h
  refine am_callV C0 (m_C_Front_value (σ := σ) (Nat.le_refl _) a0 12 x1 x2 ha0 h_q_5) mm_yX0_value ln_RX1_54 (As := fun b => [.int 12, .int x1, .int x2]) (fun _ => rfl) (fun _ => rfl) (loC_0_0 ha0).1 (loC_0_0 ha0).2.1 rfl (Nat.le_trans (by decide) hd) rfl (Nat.le_of_ble_eq_true rfl) dX1_untold_63 ?_
  refine am_iadd C0 dX1_untold_66 ?_
  have e := Option.some.inj h
  subst e
  exact hret _ _ dX1_untold_67
set_option maxRecDepth 100000 in
set_option maxHeartbeats 4000000 in
theorem m_C_Law_untold {l : Launch} {d : Nat} {σ : am_SS} {q : Int32} (hd : 3 ≤ d) (a0 : Nat) (x1 : Int32) (x2 : Int32) (x3 : Int32) (ha0 : LC.1 a0 = 2) (h : C_Law_untold a0 x1 x2 x3 σ = some q) : am_Met l yX1_untold cX1_untold 5 (some .int) d 0 0 LC (fun b => [.ref (b a0), .int x1, .int x2, .int x3]) σ (some (.int q)) σ :=
  am_metI (plainFor_of_name (by decide)) rfl (lv := fun b => [(0, .ref (b a0)), (1, .int x1), (2, .int x2), (3, .int x3)]) (fun _ => rfl) (fun _ => Nat.le_of_ble_eq_true rfl) (fun G C0 _ hret => k_C_Law_untold C0 hd hret a0 x1 x2 x3 ha0 h)
set_option maxRecDepth 100000 in
set_option maxHeartbeats 4000000 in
theorem k_C_Law_tells_p104 {G : am_T} {d0 : Nat} (C0 : am_C G cX1_tells 9 RX1 LC d0) (hd : 4 ≤ d0) (rec3 : Nat → Nat → Int32 → Int32 → Int32 → Int32 → am_SS → Option (Int32 × am_SS)) (F : Nat) {q : Int32 × am_SS} (hret : am_retI G cX1_tells 9 q.1 q.2) (hrec3 : ∀ (a0 : Nat) (a1 : Nat) (x2 : Int32) (x3 : Int32) (x4 : Int32) (x5 : Int32) (σ : am_SS), LC.1 a0 = 3 → LC.1 a1 = 2 → rec3 a0 a1 x2 x3 x4 x5 σ = some q → am_K G 9 3 [(0, .ref (am_b G a0)), (1, .ref (am_b G a1)), (2, .int x2), (3, .int x3), (4, .int x4), (5, .int x5)] [] σ) (a0 : Nat) (a1 : Nat) (x2 : Int32) (x3 : Int32) (x4 : Int32) (x5 : Int32) (σ : am_SS) (ha0 : LC.1 a0 = 3) (ha1 : LC.1 a1 = 2) (h : C_Law_tells_p104 rec3 F a0 a1 x2 x3 x4 x5 σ = some q) : am_K G 9 104 [(0, .ref (am_b G a0)), (1, .ref (am_b G a1)), (2, .int x2), (3, .int x3), (4, .int x4), (5, .int x5)] [] σ := by
  unfold C_Law_tells_p104 at h
  obtain ⟨x5_1, e_x5_1, h⟩ := am_lt h
  refine am_iinc C0 dX1_tells_104 5 rfl (by rw [ci_1]; exact e_x5_1) (by decide) rfl (lv' := [(0, .ref (am_b G a0)), (1, .ref (am_b G a1)), (2, .int x2), (3, .int x3), (4, .int x4), (5, .int x5_1)]) rfl ?_
  refine am_goto C0 dX1_tells_107 (tgt := 3) (by decide) ?_
  exact am_sub [0, 1, 2, 3, 4, 5] rfl (hrec3 a0 a1 x2 x3 x4 x5_1 σ ha0 ha1 h)
set_option maxRecDepth 100000 in
set_option maxHeartbeats 4000000 in
theorem k_C_Law_tells_p87 {G : am_T} {d0 : Nat} (C0 : am_C G cX1_tells 9 RX1 LC d0) (hd : 4 ≤ d0) (F : Nat) {q : Int32 × am_SS} (hret : am_retI G cX1_tells 9 q.1 q.2) (a0 : Nat) (a1 : Nat) (x2 : Int32) (x3 : Int32) (x4 : Int32) (x6 : Int32) (x7 : Int32) (σ : am_SS) (ha0 : LC.1 a0 = 3) (ha1 : LC.1 a1 = 2) (h : C_Law_tells_p87 F a0 a1 x2 x3 x4 x6 x7 σ = some q) : am_K G 9 87 [(0, .ref (am_b G a0)), (1, .ref (am_b G a1)), (2, .int x2), (3, .int x3), (4, .int x4), (6, .int x6), (7, .int x7)] [] σ := by
  unfold C_Law_tells_p87 at h
  refine am_iload C0 dX1_tells_87 4 rfl ?_
  refine am_aload_n C0 dX1_tells_89 0 rfl ?_
  refine am_aload_n C0 dX1_tells_90 1 rfl ?_
  refine am_iload_n C0 dX1_tells_91 2 rfl ?_
  refine am_iload_n C0 dX1_tells_92 3 rfl ?_
  refine am_iload C0 dX1_tells_93 5 rfl ?_
  refine am_iload C0 dX1_tells_95 6 rfl ?_
  obtain ⟨q_1, h_q_1, h⟩ := am_bind h
  refine am_callV C0 (m_C_Law_run (σ := σ) (Nat.le_refl _) F a0 a1 x2 x3 x6 x7 ha0 ha1 h_q_1) mm_yX1_run ln_RX1_43 (As := fun b => [.ref (b a1), .int x2, .int x3, .int x6, .int x7]) (fun _ => rfl) (fun _ => rfl) (loC_1_0 ha0).1 (loC_1_0 ha0).2.1 rfl (Nat.le_trans (by decide) hd) rfl (Nat.le_of_ble_eq_true rfl) dX1_tells_97 ?_
  refine am_callS C0 (m_C_Law_held (σ := q_1.2) (Nat.le_refl _) x4 q_1.1  rfl) mm_yX1_held ln_RX1_47 (fun _ => rfl) (Nat.le_trans (by decide) hd) rfl (Nat.le_of_ble_eq_true rfl) dX1_tells_100 ?_
  have e := Option.some.inj h
  subst e
  exact hret _ _ dX1_tells_103
set_option maxRecDepth 100000 in
set_option maxHeartbeats 4000000 in
theorem k_C_Law_tells_l3 {G : am_T} {d0 : Nat} (C0 : am_C G cX1_tells 9 RX1 LC d0) (hd : 4 ≤ d0) (F : Nat) {q : Int32 × am_SS} (hret : am_retI G cX1_tells 9 q.1 q.2) : ∀ (n : Nat) (a0 : Nat) (a1 : Nat) (x2 : Int32) (x3 : Int32) (x4 : Int32) (x5 : Int32) (σ : am_SS) (ha0 : LC.1 a0 = 3) (ha1 : LC.1 a1 = 2) (h : C_Law_tells_l3 F n a0 a1 x2 x3 x4 x5 σ = some q), am_K G 9 3 [(0, .ref (am_b G a0)), (1, .ref (am_b G a1)), (2, .int x2), (3, .int x3), (4, .int x4), (5, .int x5)] [] σ := by
  intro n
  induction n with
  | zero =>
    intro a0 a1 x2 x3 x4 x5 σ ha0 ha1 h
    rw [C_Law_tells_l3] at h
    cases h
  | succ n ih =>
    intro a0 a1 x2 x3 x4 x5 σ ha0 ha1 h
    rw [C_Law_tells_l3] at h
    refine am_iload C0 dX1_tells_3 5 rfl ?_
    refine am_aload_n C0 dX1_tells_5 0 rfl ?_
    refine am_getR C0 (j := a0 + 1) ff_RX1_14 (loC_1_0 ha0).1 (loC_1_0 ha0).2.1 (loC_1_0 ha0).2.2.1 (loC_1_0 ha0).2.2.2 dX1_tells_6 ?_
    refine am_getI C0 ff_RX1_35 (loC_4_2 (tgC_1_0 ha0)).1 (loC_4_2 (tgC_1_0 ha0)).2.1 (loC_4_2 (tgC_1_0 ha0)).2.2.1 (loC_4_2 (tgC_1_0 ha0)).2.2.2 dX1_tells_9 ?_
    refine am_icmp_ge C0 dX1_tells_12 (tgt := 110) (by decide) (fun c_1 => ?_) (fun c_1 => ?_)
    · replace h := am_in h c_1
      refine am_iload C0 dX1_tells_110 4 rfl ?_
      refine am_aload_n C0 dX1_tells_112 1 rfl ?_
      refine am_iload_n C0 dX1_tells_113 2 rfl ?_
      refine am_iload_n C0 dX1_tells_114 3 rfl ?_
      refine am_iload C0 dX1_tells_115 4 rfl ?_
      obtain ⟨q_2, h_q_2, h⟩ := am_bind h
      refine am_callS C0 (m_C_Law_untold (σ := σ) (Nat.le_refl _) a1 x2 x3 x4 ha1 h_q_2) mm_yX1_untold ln_RX1_50 (fun _ => rfl) (Nat.le_trans (by decide) hd) rfl (Nat.le_of_ble_eq_true rfl) dX1_tells_117 ?_
      refine am_callS C0 (m_C_Law_held (σ := σ) (Nat.le_refl _) x4 q_2  rfl) mm_yX1_held ln_RX1_47 (fun _ => rfl) (Nat.le_trans (by decide) hd) rfl (Nat.le_of_ble_eq_true rfl) dX1_tells_120 ?_
      have e := Option.some.inj h
      subst e
      exact hret _ _ dX1_tells_123
    · replace h := am_ip h c_1
      refine am_aload_n C0 dX1_tells_15 0 rfl ?_
      refine am_getR C0 (j := a0 + 1) ff_RX1_14 (loC_1_0 ha0).1 (loC_1_0 ha0).2.1 (loC_1_0 ha0).2.2.1 (loC_1_0 ha0).2.2.2 dX1_tells_16 ?_
      refine am_iload C0 dX1_tells_19 5 rfl ?_
      refine am_iconst C0 dX1_tells_21 ci_1 ?_
      obtain ⟨q_4, h_q_4, h⟩ := am_bind h
      refine am_callV C0 (m_C_Table_at (σ := σ) (Nat.le_refl _) (a0 + 1) x5 1 (tgC_1_0 ha0) h_q_4) mm_yX6_at ln_RX1_39 (As := fun b => [.int x5, .int 1]) (fun _ => rfl) (fun _ => rfl) (loC_4_0 (tgC_1_0 ha0)).1 (loC_4_0 (tgC_1_0 ha0)).2.1 rfl (Nat.le_trans (by decide) hd) rfl (Nat.le_of_ble_eq_true rfl) dX1_tells_22 ?_
      refine am_istore C0 dX1_tells_25 (by decide) rfl (lv' := [(0, .ref (am_b G a0)), (1, .ref (am_b G a1)), (2, .int x2), (3, .int x3), (4, .int x4), (5, .int x5), (6, .int q_4)]) rfl ?_
      refine am_aload_n C0 dX1_tells_27 0 rfl ?_
      refine am_getR C0 (j := a0 + 1) ff_RX1_14 (loC_1_0 ha0).1 (loC_1_0 ha0).2.1 (loC_1_0 ha0).2.2.1 (loC_1_0 ha0).2.2.2 dX1_tells_28 ?_
      refine am_iload C0 dX1_tells_31 5 rfl ?_
      refine am_iconst C0 dX1_tells_33 ci_2 ?_
      obtain ⟨q_5, h_q_5, h⟩ := am_bind h
      refine am_callV C0 (m_C_Table_at (σ := σ) (Nat.le_refl _) (a0 + 1) x5 2 (tgC_1_0 ha0) h_q_5) mm_yX6_at ln_RX1_39 (As := fun b => [.int x5, .int 2]) (fun _ => rfl) (fun _ => rfl) (loC_4_0 (tgC_1_0 ha0)).1 (loC_4_0 (tgC_1_0 ha0)).2.1 rfl (Nat.le_trans (by decide) hd) rfl (Nat.le_of_ble_eq_true rfl) dX1_tells_34 ?_
      refine am_istore C0 dX1_tells_37 (by decide) rfl (lv' := [(0, .ref (am_b G a0)), (1, .ref (am_b G a1)), (2, .int x2), (3, .int x3), (4, .int x4), (5, .int x5), (6, .int q_4), (7, .int q_5)]) rfl ?_
      refine am_aload_n C0 dX1_tells_39 0 rfl ?_
      refine am_getR C0 (j := a0 + 1) ff_RX1_14 (loC_1_0 ha0).1 (loC_1_0 ha0).2.1 (loC_1_0 ha0).2.2.1 (loC_1_0 ha0).2.2.2 dX1_tells_40 ?_
      refine am_iload C0 dX1_tells_43 5 rfl ?_
      refine am_iconst C0 dX1_tells_45 ci_3 ?_
      obtain ⟨q_6, h_q_6, h⟩ := am_bind h
      refine am_callV C0 (m_C_Table_at (σ := σ) (Nat.le_refl _) (a0 + 1) x5 3 (tgC_1_0 ha0) h_q_6) mm_yX6_at ln_RX1_39 (As := fun b => [.int x5, .int 3]) (fun _ => rfl) (fun _ => rfl) (loC_4_0 (tgC_1_0 ha0)).1 (loC_4_0 (tgC_1_0 ha0)).2.1 rfl (Nat.le_trans (by decide) hd) rfl (Nat.le_of_ble_eq_true rfl) dX1_tells_46 ?_
      refine am_istore C0 dX1_tells_49 (by decide) rfl (lv' := [(0, .ref (am_b G a0)), (1, .ref (am_b G a1)), (2, .int x2), (3, .int x3), (4, .int x4), (5, .int x5), (6, .int q_4), (7, .int q_5), (8, .int q_6)]) rfl ?_
      refine am_aload_n C0 dX1_tells_51 0 rfl ?_
      refine am_getR C0 (j := a0 + 1) ff_RX1_14 (loC_1_0 ha0).1 (loC_1_0 ha0).2.1 (loC_1_0 ha0).2.2.1 (loC_1_0 ha0).2.2.2 dX1_tells_52 ?_
      refine am_iload C0 dX1_tells_55 5 rfl ?_
      refine am_iconst C0 dX1_tells_57 ci_0 ?_
      obtain ⟨q_7, h_q_7, h⟩ := am_bind h
      refine am_callV C0 (m_C_Table_at (σ := σ) (Nat.le_refl _) (a0 + 1) x5 0 (tgC_1_0 ha0) h_q_7) mm_yX6_at ln_RX1_39 (As := fun b => [.int x5, .int 0]) (fun _ => rfl) (fun _ => rfl) (loC_4_0 (tgC_1_0 ha0)).1 (loC_4_0 (tgC_1_0 ha0)).2.1 rfl (Nat.le_trans (by decide) hd) rfl (Nat.le_of_ble_eq_true rfl) dX1_tells_58 ?_
      refine am_iload C0 dX1_tells_61 4 rfl ?_
      refine am_icmp_ne C0 dX1_tells_63 (tgt := 104) (by decide) (fun c_8 => ?_) (fun c_8 => ?_)
      · replace h := am_in h c_8
        exact am_sub [0, 1, 2, 3, 4, 5] rfl (k_C_Law_tells_p104 C0 hd _ F hret (fun z0 z1 z2 z3 z4 z5 zs zh0 zh1 z => ih z0 z1 z2 z3 z4 z5 zs zh0 zh1 z) a0 a1 x2 x3 x4 x5 σ ha0 ha1 h)
      · replace h := am_ip h c_8
        refine am_iload C0 dX1_tells_66 7 rfl ?_
        refine am_iload C0 dX1_tells_68 8 rfl ?_
        refine am_icmp_eq C0 dX1_tells_70 (tgt := 87) (by decide) (fun c_9 => ?_) (fun c_9 => ?_)
        · replace h := am_ip h c_9
          exact am_sub [0, 1, 2, 3, 4, 6, 7] rfl (k_C_Law_tells_p87 C0 hd F hret a0 a1 x2 x3 x4 q_4 q_5 σ ha0 ha1 h)
        · replace h := am_in h c_9
          refine am_aload_n C0 dX1_tells_73 0 rfl ?_
          refine am_aload_n C0 dX1_tells_74 1 rfl ?_
          refine am_iload_n C0 dX1_tells_75 2 rfl ?_
          refine am_iload_n C0 dX1_tells_76 3 rfl ?_
          refine am_iload C0 dX1_tells_77 7 rfl ?_
          refine am_iload C0 dX1_tells_79 8 rfl ?_
          obtain ⟨q_10, h_q_10, h⟩ := am_bind h
          refine am_callV C0 (m_C_Law_run (σ := σ) (Nat.le_refl _) F a0 a1 x2 x3 q_5 q_6 ha0 ha1 h_q_10) mm_yX1_run ln_RX1_43 (As := fun b => [.ref (b a1), .int x2, .int x3, .int q_5, .int q_6]) (fun _ => rfl) (fun _ => rfl) (loC_1_0 ha0).1 (loC_1_0 ha0).2.1 rfl (Nat.le_trans (by decide) hd) rfl (Nat.le_of_ble_eq_true rfl) dX1_tells_81 ?_
          refine am_if_eq C0 dX1_tells_84 (tgt := 104) (by decide) (fun c_11 => ?_) (fun c_11 => ?_)
          · replace h := am_ip h c_11
            exact am_sub [0, 1, 2, 3, 4, 5] rfl (k_C_Law_tells_p104 C0 hd _ F hret (fun z0 z1 z2 z3 z4 z5 zs zh0 zh1 z => ih z0 z1 z2 z3 z4 z5 zs zh0 zh1 z) a0 a1 x2 x3 x4 x5 q_10.2 ha0 ha1 h)
          · replace h := am_in h c_11
            exact am_sub [0, 1, 2, 3, 4, 6, 7] rfl (k_C_Law_tells_p87 C0 hd F hret a0 a1 x2 x3 x4 q_4 q_5 q_10.2 ha0 ha1 h)
set_option maxRecDepth 100000 in
set_option maxHeartbeats 4000000 in
theorem k_C_Law_tells {G : am_T} {d0 : Nat} (C0 : am_C G cX1_tells 9 RX1 LC d0) (hd : 4 ≤ d0) (F : Nat) {q : Int32 × am_SS} (hret : am_retI G cX1_tells 9 q.1 q.2) (a0 : Nat) (a1 : Nat) (x2 : Int32) (x3 : Int32) (x4 : Int32) (σ : am_SS) (ha0 : LC.1 a0 = 3) (ha1 : LC.1 a1 = 2) (h : C_Law_tells F a0 a1 x2 x3 x4 σ = some q) : am_K G 9 0 [(0, .ref (am_b G a0)), (1, .ref (am_b G a1)), (2, .int x2), (3, .int x3), (4, .int x4)] [] σ := by
  unfold C_Law_tells at h
  refine am_iconst C0 dX1_tells_0 ci_0 ?_
  refine am_istore C0 dX1_tells_1 (by decide) rfl (lv' := [(0, .ref (am_b G a0)), (1, .ref (am_b G a1)), (2, .int x2), (3, .int x3), (4, .int x4), (5, .int 0)]) rfl ?_
  exact am_sub [0, 1, 2, 3, 4, 5] rfl (k_C_Law_tells_l3 C0 hd F hret F a0 a1 x2 x3 x4 0 σ ha0 ha1 h)
set_option maxRecDepth 100000 in
set_option maxHeartbeats 4000000 in
theorem m_C_Law_tells {l : Launch} {d : Nat} {σ : am_SS} {q : Int32 × am_SS} (hd : 4 ≤ d) (F : Nat) (a0 : Nat) (a1 : Nat) (x2 : Int32) (x3 : Int32) (x4 : Int32) (ha0 : LC.1 a0 = 3) (ha1 : LC.1 a1 = 2) (h : C_Law_tells F a0 a1 x2 x3 x4 σ = some q) : am_Met l yX1_tells cX1_tells 9 (some .int) d 0 0 LC (fun b => [.ref (b a0), .ref (b a1), .int x2, .int x3, .int x4]) σ (some (.int q.1)) q.2 :=
  am_metI (plainFor_of_name (by decide)) rfl (lv := fun b => [(0, .ref (b a0)), (1, .ref (b a1)), (2, .int x2), (3, .int x3), (4, .int x4)]) (fun _ => rfl) (fun _ => Nat.le_of_ble_eq_true rfl) (fun G C0 _ hret => k_C_Law_tells C0 hd F hret a0 a1 x2 x3 x4 σ ha0 ha1 h)
set_option maxRecDepth 100000 in
set_option maxHeartbeats 4000000 in
theorem k_C_Nights_word {G : am_T} {d0 : Nat} (C0 : am_C G cX2_word 1 RX2 LC d0) (hd : 1 ≤ d0) {σ0 : am_SS} {q : Int32} (hret : am_retI G cX2_word 1 q σ0) (x0 : Int32) (h : C_Nights_word x0 = q) : am_K G 1 0 [(0, .int x0)] [] σ0 := by
  unfold C_Nights_word at h
  refine am_iload_n C0 dX2_word_0 0 rfl ?_
  refine am_sipush C0 dX2_word_1 cs_216 ?_
  refine am_idiv C0 dX2_word_4 nz_216 ?_
  refine am_bipush C0 dX2_word_5 kb_6 ?_
  refine am_irem C0 dX2_word_7 nz_6 ?_
  refine am_sipush C0 dX2_word_8 cs_1000 ?_
  refine am_imul C0 dX2_word_11 ?_
  refine am_iload_n C0 dX2_word_12 0 rfl ?_
  refine am_bipush C0 dX2_word_13 kb_36 ?_
  refine am_idiv C0 dX2_word_15 nz_36 ?_
  refine am_bipush C0 dX2_word_16 kb_6 ?_
  refine am_irem C0 dX2_word_18 nz_6 ?_
  refine am_bipush C0 dX2_word_19 kb_100 ?_
  refine am_imul C0 dX2_word_21 ?_
  refine am_iadd C0 dX2_word_22 ?_
  refine am_iload_n C0 dX2_word_23 0 rfl ?_
  refine am_bipush C0 dX2_word_24 kb_6 ?_
  refine am_idiv C0 dX2_word_26 nz_6 ?_
  refine am_bipush C0 dX2_word_27 kb_6 ?_
  refine am_irem C0 dX2_word_29 nz_6 ?_
  refine am_bipush C0 dX2_word_30 kb_10 ?_
  refine am_imul C0 dX2_word_32 ?_
  refine am_iadd C0 dX2_word_33 ?_
  refine am_iload_n C0 dX2_word_34 0 rfl ?_
  refine am_bipush C0 dX2_word_35 kb_6 ?_
  refine am_irem C0 dX2_word_37 nz_6 ?_
  refine am_iadd C0 dX2_word_38 ?_
  have e := h
  subst e
  exact hret _ _ dX2_word_39
set_option maxRecDepth 100000 in
set_option maxHeartbeats 4000000 in
theorem m_C_Nights_word {l : Launch} {d : Nat} {σ : am_SS} {q : Int32} (hd : 1 ≤ d) (x0 : Int32) (h : C_Nights_word x0 = q) : am_Met l yX2_word cX2_word 1 (some .int) d 0 0 LC (fun b => [.int x0]) σ (some (.int q)) σ :=
  am_metI (plainFor_of_name (by decide)) rfl (lv := fun b => [(0, .int x0)]) (fun _ => rfl) (fun _ => Nat.le_of_ble_eq_true rfl) (fun G C0 _ hret => k_C_Nights_word C0 hd hret x0  h)
set_option maxRecDepth 100000 in
set_option maxHeartbeats 4000000 in
theorem k_C_Nights_isWord {G : am_T} {d0 : Nat} (C0 : am_C G cX2_isWord 1 RX2 LC d0) (hd : 1 ≤ d0) {σ0 : am_SS} {q : Bool} (hret : am_retI G cX2_isWord 1 (am_bI q) σ0) (x0 : Int32) (h : C_Nights_isWord x0 = q) : am_K G 1 0 [(0, .int x0)] [] σ0 := by
  unfold C_Nights_isWord at h
  refine am_iload_n C0 dX2_isWord_0 0 rfl ?_
  refine am_if_lt C0 dX2_isWord_1 (tgt := 48) (by decide) (fun c_1 => ?_) (fun c_1 => ?_)
  · replace h := am_ip h c_1
    refine am_iconst C0 dX2_isWord_48 ci_0 ?_
    have e := h
    subst e
    exact hret _ _ dX2_isWord_49
  · replace h := am_in h c_1
    refine am_iload_n C0 dX2_isWord_4 0 rfl ?_
    refine am_sipush C0 dX2_isWord_5 cs_5555 ?_
    refine am_icmp_gt C0 dX2_isWord_8 (tgt := 48) (by decide) (fun c_2 => ?_) (fun c_2 => ?_)
    · replace h := am_ip h c_2
      refine am_iconst C0 dX2_isWord_48 ci_0 ?_
      have e := h
      subst e
      exact hret _ _ dX2_isWord_49
    · replace h := am_in h c_2
      refine am_iload_n C0 dX2_isWord_11 0 rfl ?_
      refine am_bipush C0 dX2_isWord_12 kb_10 ?_
      refine am_irem C0 dX2_isWord_14 nz_10 ?_
      refine am_bipush C0 dX2_isWord_15 kb_6 ?_
      refine am_icmp_ge C0 dX2_isWord_17 (tgt := 48) (by decide) (fun c_3 => ?_) (fun c_3 => ?_)
      · replace h := am_in h c_3
        refine am_iconst C0 dX2_isWord_48 ci_0 ?_
        have e := h
        subst e
        exact hret _ _ dX2_isWord_49
      · replace h := am_ip h c_3
        refine am_iload_n C0 dX2_isWord_20 0 rfl ?_
        refine am_bipush C0 dX2_isWord_21 kb_10 ?_
        refine am_idiv C0 dX2_isWord_23 nz_10 ?_
        refine am_bipush C0 dX2_isWord_24 kb_10 ?_
        refine am_irem C0 dX2_isWord_26 nz_10 ?_
        refine am_bipush C0 dX2_isWord_27 kb_6 ?_
        refine am_icmp_ge C0 dX2_isWord_29 (tgt := 48) (by decide) (fun c_4 => ?_) (fun c_4 => ?_)
        · replace h := am_in h c_4
          refine am_iconst C0 dX2_isWord_48 ci_0 ?_
          have e := h
          subst e
          exact hret _ _ dX2_isWord_49
        · replace h := am_ip h c_4
          refine am_iload_n C0 dX2_isWord_32 0 rfl ?_
          refine am_bipush C0 dX2_isWord_33 kb_100 ?_
          refine am_idiv C0 dX2_isWord_35 nz_100 ?_
          refine am_bipush C0 dX2_isWord_36 kb_10 ?_
          refine am_irem C0 dX2_isWord_38 nz_10 ?_
          refine am_bipush C0 dX2_isWord_39 kb_6 ?_
          refine am_icmp_ge C0 dX2_isWord_41 (tgt := 48) (by decide) (fun c_5 => ?_) (fun c_5 => ?_)
          · replace h := am_in h c_5
            refine am_iconst C0 dX2_isWord_48 ci_0 ?_
            have e := h
            subst e
            exact hret _ _ dX2_isWord_49
          · replace h := am_ip h c_5
            refine am_iconst C0 dX2_isWord_44 ci_1 ?_
            refine am_goto C0 dX2_isWord_45 (tgt := 49) (by decide) ?_
            have e := h
            subst e
            exact hret _ _ dX2_isWord_49
set_option maxRecDepth 100000 in
set_option maxHeartbeats 4000000 in
theorem m_C_Nights_isWord {l : Launch} {d : Nat} {σ : am_SS} {q : Bool} (hd : 1 ≤ d) (x0 : Int32) (h : C_Nights_isWord x0 = q) : am_Met l yX2_isWord cX2_isWord 1 (some .boolean) d 0 0 LC (fun b => [.int x0]) σ (some (.int (am_bI q))) σ :=
  am_metI (plainFor_of_name (by decide)) (am_bI_nr _) (lv := fun b => [(0, .int x0)]) (fun _ => rfl) (fun _ => Nat.le_of_ble_eq_true rfl) (fun G C0 _ hret => k_C_Nights_isWord C0 hd hret x0  h)
set_option maxRecDepth 100000 in
set_option maxHeartbeats 4000000 in
theorem k_C_Nights_right_p32 {G : am_T} {d0 : Nat} (C0 : am_C G cX2_right 4 RX2 LC d0) (hd : 1 ≤ d0) (rec4 : Int32 → Int32 → Int32 → Int32 → Option Int32) (F : Nat) {σ0 : am_SS} {q : Int32} (hret : am_retI G cX2_right 4 q σ0) (hrec4 : ∀ (x0 : Int32) (x1 : Int32) (x2 : Int32) (x3 : Int32), rec4 x0 x1 x2 x3 = some q → am_K G 4 4 [(0, .int x0), (1, .int x1), (2, .int x2), (3, .int x3)] [] σ0) (x0 : Int32) (x1 : Int32) (x3 : Int32) (s0 : Int32) (s1 : Bool) (h : C_Nights_right_p32 rec4 F x0 x1 x3 s0 s1 = some q) : am_K G 4 32 [(0, .int x0), (1, .int x1), (3, .int x3)] [.int (am_bI s1), .int s0] σ0 := by
  unfold C_Nights_right_p32 at h
  refine am_iadd C0 dX2_right_32 ?_
  obtain ⟨x2_1, e_x2_1, h⟩ := am_lt h
  refine am_top e_x2_1 ?_
  refine am_istore_n C0 dX2_right_33 rfl (by decide) rfl (lv' := [(0, .int x0), (1, .int x1), (3, .int x3), (2, .int x2_1)]) rfl ?_
  refine am_iload_n C0 dX2_right_34 2 rfl ?_
  refine am_bipush C0 dX2_right_35 kb_10 ?_
  refine am_imul C0 dX2_right_37 ?_
  obtain ⟨x3_2, e_x3_2, h⟩ := am_lt h
  refine am_top e_x3_2 ?_
  refine am_istore_n C0 dX2_right_38 rfl (by decide) rfl (lv' := [(0, .int x0), (1, .int x1), (3, .int x3_2), (2, .int x2_1)]) rfl ?_
  refine am_goto C0 dX2_right_39 (tgt := 4) (by decide) ?_
  exact am_sub [0, 1, 3, 2] rfl (hrec4 x0 x1 x2_1 x3_2  h)
set_option maxRecDepth 100000 in
set_option maxHeartbeats 4000000 in
theorem k_C_Nights_right_l4 {G : am_T} {d0 : Nat} (C0 : am_C G cX2_right 4 RX2 LC d0) (hd : 1 ≤ d0) (F : Nat) {σ0 : am_SS} {q : Int32} (hret : am_retI G cX2_right 4 q σ0) : ∀ (n : Nat) (x0 : Int32) (x1 : Int32) (x2 : Int32) (x3 : Int32) (h : C_Nights_right_l4 F n x0 x1 x2 x3 = some q), am_K G 4 4 [(0, .int x0), (1, .int x1), (2, .int x2), (3, .int x3)] [] σ0 := by
  intro n
  induction n with
  | zero =>
    intro x0 x1 x2 x3 h
    rw [C_Nights_right_l4] at h
    cases h
  | succ n ih =>
    intro x0 x1 x2 x3 h
    rw [C_Nights_right_l4] at h
    refine am_iload_n C0 dX2_right_4 3 rfl ?_
    refine am_sipush C0 dX2_right_5 cs_1000 ?_
    refine am_icmp_gt C0 dX2_right_8 (tgt := 42) (by decide) (fun c_1 => ?_) (fun c_1 => ?_)
    · replace h := am_ip h c_1
      refine am_iload_n C0 dX2_right_42 2 rfl ?_
      have e := Option.some.inj h
      subst e
      exact hret _ _ dX2_right_43
    · replace h := am_in h c_1
      refine am_iload_n C0 dX2_right_11 2 rfl ?_
      refine am_iload_n C0 dX2_right_12 0 rfl ?_
      refine am_iload_n C0 dX2_right_13 3 rfl ?_
      obtain ⟨hz_2, h⟩ := am_gd h
      refine am_idiv C0 dX2_right_14 hz_2 ?_
      refine am_bipush C0 dX2_right_15 kb_10 ?_
      refine am_irem C0 dX2_right_17 nz_10 ?_
      refine am_iload_n C0 dX2_right_18 1 rfl ?_
      refine am_iload_n C0 dX2_right_19 3 rfl ?_
      obtain ⟨hz_3, h⟩ := am_gd h
      refine am_idiv C0 dX2_right_20 hz_3 ?_
      refine am_bipush C0 dX2_right_21 kb_10 ?_
      refine am_irem C0 dX2_right_23 nz_10 ?_
      refine am_icmp_ne C0 dX2_right_24 (tgt := 31) (by decide) (fun c_4 => ?_) (fun c_4 => ?_)
      · replace h := am_in h c_4
        refine am_iconst C0 dX2_right_31 ci_0 ?_
        exact am_sub [0, 1, 3] rfl (k_C_Nights_right_p32 C0 hd _ F hret (fun z0 z1 z2 z3 z => ih z0 z1 z2 z3 z) x0 x1 x3 x2 false  h)
      · replace h := am_ip h c_4
        refine am_iconst C0 dX2_right_27 ci_1 ?_
        refine am_goto C0 dX2_right_28 (tgt := 32) (by decide) ?_
        exact am_sub [0, 1, 3] rfl (k_C_Nights_right_p32 C0 hd _ F hret (fun z0 z1 z2 z3 z => ih z0 z1 z2 z3 z) x0 x1 x3 x2 true  h)
set_option maxRecDepth 100000 in
set_option maxHeartbeats 4000000 in
theorem k_C_Nights_right {G : am_T} {d0 : Nat} (C0 : am_C G cX2_right 4 RX2 LC d0) (hd : 1 ≤ d0) (F : Nat) {σ0 : am_SS} {q : Int32} (hret : am_retI G cX2_right 4 q σ0) (x0 : Int32) (x1 : Int32) (h : C_Nights_right F x0 x1 = some q) : am_K G 4 0 [(0, .int x0), (1, .int x1)] [] σ0 := by
  unfold C_Nights_right at h
  refine am_iconst C0 dX2_right_0 ci_0 ?_
  refine am_istore_n C0 dX2_right_1 rfl (by decide) rfl (lv' := [(0, .int x0), (1, .int x1), (2, .int 0)]) rfl ?_
  refine am_iconst C0 dX2_right_2 ci_1 ?_
  refine am_istore_n C0 dX2_right_3 rfl (by decide) rfl (lv' := [(0, .int x0), (1, .int x1), (2, .int 0), (3, .int 1)]) rfl ?_
  exact am_sub [0, 1, 2, 3] rfl (k_C_Nights_right_l4 C0 hd F hret F x0 x1 0 1  h)
set_option maxRecDepth 100000 in
set_option maxHeartbeats 4000000 in
theorem m_C_Nights_right {l : Launch} {d : Nat} {σ : am_SS} {q : Int32} (hd : 1 ≤ d) (F : Nat) (x0 : Int32) (x1 : Int32) (h : C_Nights_right F x0 x1 = some q) : am_Met l yX2_right cX2_right 4 (some .int) d 0 0 LC (fun b => [.int x0, .int x1]) σ (some (.int q)) σ :=
  am_metI (plainFor_of_name (by decide)) rfl (lv := fun b => [(0, .int x0), (1, .int x1)]) (fun _ => rfl) (fun _ => Nat.le_of_ble_eq_true rfl) (fun G C0 _ hret => k_C_Nights_right C0 hd F hret x0 x1  h)
set_option maxRecDepth 100000 in
set_option maxHeartbeats 4000000 in
theorem k_C_Nights_times_p27 {G : am_T} {d0 : Nat} (C0 : am_C G cX2_times 4 RX2 LC d0) (hd : 1 ≤ d0) (rec4 : Int32 → Int32 → Int32 → Int32 → Option Int32) (F : Nat) {σ0 : am_SS} {q : Int32} (hret : am_retI G cX2_times 4 q σ0) (hrec4 : ∀ (x0 : Int32) (x1 : Int32) (x2 : Int32) (x3 : Int32), rec4 x0 x1 x2 x3 = some q → am_K G 4 4 [(0, .int x0), (1, .int x1), (2, .int x2), (3, .int x3)] [] σ0) (x0 : Int32) (x1 : Int32) (x3 : Int32) (s0 : Int32) (s1 : Bool) (h : C_Nights_times_p27 rec4 F x0 x1 x3 s0 s1 = some q) : am_K G 4 27 [(0, .int x0), (1, .int x1), (3, .int x3)] [.int (am_bI s1), .int s0] σ0 := by
  unfold C_Nights_times_p27 at h
  refine am_iadd C0 dX2_times_27 ?_
  obtain ⟨x2_1, e_x2_1, h⟩ := am_lt h
  refine am_top e_x2_1 ?_
  refine am_istore_n C0 dX2_times_28 rfl (by decide) rfl (lv' := [(0, .int x0), (1, .int x1), (3, .int x3), (2, .int x2_1)]) rfl ?_
  refine am_iload_n C0 dX2_times_29 2 rfl ?_
  refine am_bipush C0 dX2_times_30 kb_10 ?_
  refine am_imul C0 dX2_times_32 ?_
  obtain ⟨x3_2, e_x3_2, h⟩ := am_lt h
  refine am_top e_x3_2 ?_
  refine am_istore_n C0 dX2_times_33 rfl (by decide) rfl (lv' := [(0, .int x0), (1, .int x1), (3, .int x3_2), (2, .int x2_1)]) rfl ?_
  refine am_goto C0 dX2_times_34 (tgt := 4) (by decide) ?_
  exact am_sub [0, 1, 3, 2] rfl (hrec4 x0 x1 x2_1 x3_2  h)
set_option maxRecDepth 100000 in
set_option maxHeartbeats 4000000 in
theorem k_C_Nights_times_l4 {G : am_T} {d0 : Nat} (C0 : am_C G cX2_times 4 RX2 LC d0) (hd : 1 ≤ d0) (F : Nat) {σ0 : am_SS} {q : Int32} (hret : am_retI G cX2_times 4 q σ0) : ∀ (n : Nat) (x0 : Int32) (x1 : Int32) (x2 : Int32) (x3 : Int32) (h : C_Nights_times_l4 F n x0 x1 x2 x3 = some q), am_K G 4 4 [(0, .int x0), (1, .int x1), (2, .int x2), (3, .int x3)] [] σ0 := by
  intro n
  induction n with
  | zero =>
    intro x0 x1 x2 x3 h
    rw [C_Nights_times_l4] at h
    cases h
  | succ n ih =>
    intro x0 x1 x2 x3 h
    rw [C_Nights_times_l4] at h
    refine am_iload_n C0 dX2_times_4 3 rfl ?_
    refine am_sipush C0 dX2_times_5 cs_1000 ?_
    refine am_icmp_gt C0 dX2_times_8 (tgt := 37) (by decide) (fun c_1 => ?_) (fun c_1 => ?_)
    · replace h := am_ip h c_1
      refine am_iload_n C0 dX2_times_37 2 rfl ?_
      have e := Option.some.inj h
      subst e
      exact hret _ _ dX2_times_38
    · replace h := am_in h c_1
      refine am_iload_n C0 dX2_times_11 2 rfl ?_
      refine am_iload_n C0 dX2_times_12 1 rfl ?_
      refine am_iload_n C0 dX2_times_13 3 rfl ?_
      obtain ⟨hz_2, h⟩ := am_gd h
      refine am_idiv C0 dX2_times_14 hz_2 ?_
      refine am_bipush C0 dX2_times_15 kb_10 ?_
      refine am_irem C0 dX2_times_17 nz_10 ?_
      refine am_iload_n C0 dX2_times_18 0 rfl ?_
      refine am_icmp_ne C0 dX2_times_19 (tgt := 26) (by decide) (fun c_3 => ?_) (fun c_3 => ?_)
      · replace h := am_in h c_3
        refine am_iconst C0 dX2_times_26 ci_0 ?_
        exact am_sub [0, 1, 3] rfl (k_C_Nights_times_p27 C0 hd _ F hret (fun z0 z1 z2 z3 z => ih z0 z1 z2 z3 z) x0 x1 x3 x2 false  h)
      · replace h := am_ip h c_3
        refine am_iconst C0 dX2_times_22 ci_1 ?_
        refine am_goto C0 dX2_times_23 (tgt := 27) (by decide) ?_
        exact am_sub [0, 1, 3] rfl (k_C_Nights_times_p27 C0 hd _ F hret (fun z0 z1 z2 z3 z => ih z0 z1 z2 z3 z) x0 x1 x3 x2 true  h)
set_option maxRecDepth 100000 in
set_option maxHeartbeats 4000000 in
theorem k_C_Nights_times {G : am_T} {d0 : Nat} (C0 : am_C G cX2_times 4 RX2 LC d0) (hd : 1 ≤ d0) (F : Nat) {σ0 : am_SS} {q : Int32} (hret : am_retI G cX2_times 4 q σ0) (x0 : Int32) (x1 : Int32) (h : C_Nights_times F x0 x1 = some q) : am_K G 4 0 [(0, .int x0), (1, .int x1)] [] σ0 := by
  unfold C_Nights_times at h
  refine am_iconst C0 dX2_times_0 ci_0 ?_
  refine am_istore_n C0 dX2_times_1 rfl (by decide) rfl (lv' := [(0, .int x0), (1, .int x1), (2, .int 0)]) rfl ?_
  refine am_iconst C0 dX2_times_2 ci_1 ?_
  refine am_istore_n C0 dX2_times_3 rfl (by decide) rfl (lv' := [(0, .int x0), (1, .int x1), (2, .int 0), (3, .int 1)]) rfl ?_
  exact am_sub [0, 1, 2, 3] rfl (k_C_Nights_times_l4 C0 hd F hret F x0 x1 0 1  h)
set_option maxRecDepth 100000 in
set_option maxHeartbeats 4000000 in
theorem m_C_Nights_times {l : Launch} {d : Nat} {σ : am_SS} {q : Int32} (hd : 1 ≤ d) (F : Nat) (x0 : Int32) (x1 : Int32) (h : C_Nights_times F x0 x1 = some q) : am_Met l yX2_times cX2_times 4 (some .int) d 0 0 LC (fun b => [.int x0, .int x1]) σ (some (.int q)) σ :=
  am_metI (plainFor_of_name (by decide)) rfl (lv := fun b => [(0, .int x0), (1, .int x1)]) (fun _ => rfl) (fun _ => Nat.le_of_ble_eq_true rfl) (fun G C0 _ hret => k_C_Nights_times C0 hd F hret x0 x1  h)
set_option maxRecDepth 100000 in
set_option maxHeartbeats 4000000 in
theorem k_C_Nights_common_l4 {G : am_T} {d0 : Nat} (C0 : am_C G cX2_common 4 RX2 LC d0) (hd : 2 ≤ d0) (F : Nat) {σ0 : am_SS} {q : Int32} (hret : am_retI G cX2_common 4 q σ0) : ∀ (n : Nat) (x0 : Int32) (x1 : Int32) (x2 : Int32) (x3 : Int32) (h : C_Nights_common_l4 F n x0 x1 x2 x3 = some q), am_K G 4 4 [(0, .int x0), (1, .int x1), (2, .int x2), (3, .int x3)] [] σ0 := by
  intro n
  induction n with
  | zero =>
    intro x0 x1 x2 x3 h
    rw [C_Nights_common_l4] at h
    cases h
  | succ n ih =>
    intro x0 x1 x2 x3 h
    rw [C_Nights_common_l4] at h
    refine am_iload_n C0 dX2_common_4 3 rfl ?_
    refine am_bipush C0 dX2_common_5 kb_6 ?_
    refine am_icmp_ge C0 dX2_common_7 (tgt := 32) (by decide) (fun c_1 => ?_) (fun c_1 => ?_)
    · replace h := am_in h c_1
      refine am_iload_n C0 dX2_common_32 2 rfl ?_
      have e := Option.some.inj h
      subst e
      exact hret _ _ dX2_common_33
    · replace h := am_ip h c_1
      refine am_iload_n C0 dX2_common_10 2 rfl ?_
      refine am_iload_n C0 dX2_common_11 3 rfl ?_
      refine am_iload_n C0 dX2_common_12 0 rfl ?_
      obtain ⟨q_2, h_q_2, h⟩ := am_bind h
      refine am_callS C0 (m_C_Nights_times (σ := σ0) (Nat.le_refl _) F x3 x0  h_q_2) mm_yX2_times ln_RX2_27 (fun _ => rfl) (Nat.le_trans (by decide) hd) rfl (Nat.le_of_ble_eq_true rfl) dX2_common_13 ?_
      refine am_iload_n C0 dX2_common_16 3 rfl ?_
      refine am_iload_n C0 dX2_common_17 1 rfl ?_
      obtain ⟨q_3, h_q_3, h⟩ := am_bind h
      refine am_callS C0 (m_C_Nights_times (σ := σ0) (Nat.le_refl _) F x3 x1  h_q_3) mm_yX2_times ln_RX2_27 (fun _ => rfl) (Nat.le_trans (by decide) hd) rfl (Nat.le_of_ble_eq_true rfl) dX2_common_18 ?_
      refine am_callS C0 (m_J_min (σ := σ0) (Nat.le_refl _) q_2 q_3  rfl) mm_yJ9_min_7cf53 ln_RX2_30 (fun _ => rfl) (Nat.le_trans (by decide) hd) rfl (Nat.le_of_ble_eq_true rfl) dX2_common_21 ?_
      refine am_iadd C0 dX2_common_24 ?_
      obtain ⟨x2_5, e_x2_5, h⟩ := am_lt h
      refine am_top e_x2_5 ?_
      refine am_istore_n C0 dX2_common_25 rfl (by decide) rfl (lv' := [(0, .int x0), (1, .int x1), (2, .int x2_5), (3, .int x3)]) rfl ?_
      obtain ⟨x3_6, e_x3_6, h⟩ := am_lt h
      refine am_iinc C0 dX2_common_26 3 rfl (by rw [ci_1]; exact e_x3_6) (by decide) rfl (lv' := [(0, .int x0), (1, .int x1), (2, .int x2_5), (3, .int x3_6)]) rfl ?_
      refine am_goto C0 dX2_common_29 (tgt := 4) (by decide) ?_
      exact am_sub [0, 1, 2, 3] rfl (ih x0 x1 x2_5 x3_6  h)
set_option maxRecDepth 100000 in
set_option maxHeartbeats 4000000 in
theorem k_C_Nights_common {G : am_T} {d0 : Nat} (C0 : am_C G cX2_common 4 RX2 LC d0) (hd : 2 ≤ d0) (F : Nat) {σ0 : am_SS} {q : Int32} (hret : am_retI G cX2_common 4 q σ0) (x0 : Int32) (x1 : Int32) (h : C_Nights_common F x0 x1 = some q) : am_K G 4 0 [(0, .int x0), (1, .int x1)] [] σ0 := by
  unfold C_Nights_common at h
  refine am_iconst C0 dX2_common_0 ci_0 ?_
  refine am_istore_n C0 dX2_common_1 rfl (by decide) rfl (lv' := [(0, .int x0), (1, .int x1), (2, .int 0)]) rfl ?_
  refine am_iconst C0 dX2_common_2 ci_0 ?_
  refine am_istore_n C0 dX2_common_3 rfl (by decide) rfl (lv' := [(0, .int x0), (1, .int x1), (2, .int 0), (3, .int 0)]) rfl ?_
  exact am_sub [0, 1, 2, 3] rfl (k_C_Nights_common_l4 C0 hd F hret F x0 x1 0 0  h)
set_option maxRecDepth 100000 in
set_option maxHeartbeats 4000000 in
theorem m_C_Nights_common {l : Launch} {d : Nat} {σ : am_SS} {q : Int32} (hd : 2 ≤ d) (F : Nat) (x0 : Int32) (x1 : Int32) (h : C_Nights_common F x0 x1 = some q) : am_Met l yX2_common cX2_common 4 (some .int) d 0 0 LC (fun b => [.int x0, .int x1]) σ (some (.int q)) σ :=
  am_metI (plainFor_of_name (by decide)) rfl (lv := fun b => [(0, .int x0), (1, .int x1)]) (fun _ => rfl) (fun _ => Nat.le_of_ble_eq_true rfl) (fun G C0 _ hret => k_C_Nights_common C0 hd F hret x0 x1  h)
set_option maxRecDepth 100000 in
set_option maxHeartbeats 4000000 in
theorem k_C_Nights_fits_l2 {G : am_T} {d0 : Nat} (C0 : am_C G cX2_fits 5 RX2 LC d0) (hd : 3 ≤ d0) (F : Nat) {σ : am_SS} {q : Bool} (hret : am_retI G cX2_fits 5 (am_bI q) σ) : ∀ (n : Nat) (a0 : Nat) (x1 : Int32) (x2 : Int32) (ha0 : LC.1 a0 = 6) (h : C_Nights_fits_l2 F n a0 x1 x2 σ = some q), am_K G 5 2 [(0, .ref (am_b G a0)), (1, .int x1), (2, .int x2)] [] σ := by
  intro n
  induction n with
  | zero =>
    intro a0 x1 x2 ha0 h
    rw [C_Nights_fits_l2] at h
    cases h
  | succ n ih =>
    intro a0 x1 x2 ha0 h
    rw [C_Nights_fits_l2] at h
    refine am_iload_n C0 dX2_fits_2 2 rfl ?_
    refine am_aload_n C0 dX2_fits_3 0 rfl ?_
    refine am_getI C0 ff_RX2_9 (loC_4_2 ha0).1 (loC_4_2 ha0).2.1 (loC_4_2 ha0).2.2.1 (loC_4_2 ha0).2.2.2 dX2_fits_4 ?_
    refine am_icmp_ge C0 dX2_fits_7 (tgt := 60) (by decide) (fun c_1 => ?_) (fun c_1 => ?_)
    · replace h := am_in h c_1
      refine am_iconst C0 dX2_fits_60 ci_1 ?_
      have e := Option.some.inj h
      subst e
      exact hret _ _ dX2_fits_61
    · replace h := am_ip h c_1
      refine am_aload_n C0 dX2_fits_10 0 rfl ?_
      refine am_iload_n C0 dX2_fits_11 2 rfl ?_
      refine am_iconst C0 dX2_fits_12 ci_0 ?_
      obtain ⟨q_2, h_q_2, h⟩ := am_bind h
      refine am_callV C0 (m_C_Table_at (σ := σ) (Nat.le_refl _) a0 x2 0 ha0 h_q_2) mm_yX6_at ln_RX2_15 (As := fun b => [.int x2, .int 0]) (fun _ => rfl) (fun _ => rfl) (loC_4_0 ha0).1 (loC_4_0 ha0).2.1 rfl (Nat.le_trans (by decide) hd) rfl (Nat.le_of_ble_eq_true rfl) dX2_fits_13 ?_
      refine am_istore_n C0 dX2_fits_16 rfl (by decide) rfl (lv' := [(0, .ref (am_b G a0)), (1, .int x1), (2, .int x2), (3, .int q_2)]) rfl ?_
      refine am_iload_n C0 dX2_fits_17 3 rfl ?_
      refine am_iload_n C0 dX2_fits_18 1 rfl ?_
      obtain ⟨q_3, h_q_3, h⟩ := am_bind h
      refine am_callS C0 (m_C_Nights_right (σ := σ) (Nat.le_refl _) F q_2 x1  h_q_3) mm_yX2_right ln_RX2_19 (fun _ => rfl) (Nat.le_trans (by decide) hd) rfl (Nat.le_of_ble_eq_true rfl) dX2_fits_19 ?_
      refine am_istore C0 dX2_fits_22 (by decide) rfl (lv' := [(0, .ref (am_b G a0)), (1, .int x1), (2, .int x2), (3, .int q_2), (4, .int q_3)]) rfl ?_
      refine am_iload C0 dX2_fits_24 4 rfl ?_
      refine am_aload_n C0 dX2_fits_26 0 rfl ?_
      refine am_iload_n C0 dX2_fits_27 2 rfl ?_
      refine am_iconst C0 dX2_fits_28 ci_1 ?_
      obtain ⟨q_4, h_q_4, h⟩ := am_bind h
      refine am_callV C0 (m_C_Table_at (σ := σ) (Nat.le_refl _) a0 x2 1 ha0 h_q_4) mm_yX6_at ln_RX2_15 (As := fun b => [.int x2, .int 1]) (fun _ => rfl) (fun _ => rfl) (loC_4_0 ha0).1 (loC_4_0 ha0).2.1 rfl (Nat.le_trans (by decide) hd) rfl (Nat.le_of_ble_eq_true rfl) dX2_fits_29 ?_
      refine am_icmp_ne C0 dX2_fits_32 (tgt := 52) (by decide) (fun c_5 => ?_) (fun c_5 => ?_)
      · replace h := am_in h c_5
        refine am_iconst C0 dX2_fits_52 ci_0 ?_
        have e := Option.some.inj h
        subst e
        exact hret _ _ dX2_fits_53
      · replace h := am_ip h c_5
        refine am_iload_n C0 dX2_fits_35 3 rfl ?_
        refine am_iload_n C0 dX2_fits_36 1 rfl ?_
        obtain ⟨q_6, h_q_6, h⟩ := am_bind h
        refine am_callS C0 (m_C_Nights_common (σ := σ) (Nat.le_refl _) F q_2 x1  h_q_6) mm_yX2_common ln_RX2_24 (fun _ => rfl) (Nat.le_trans (by decide) hd) rfl (Nat.le_of_ble_eq_true rfl) dX2_fits_37 ?_
        refine am_iload C0 dX2_fits_40 4 rfl ?_
        refine am_isub C0 dX2_fits_42 ?_
        refine am_aload_n C0 dX2_fits_43 0 rfl ?_
        refine am_iload_n C0 dX2_fits_44 2 rfl ?_
        refine am_iconst C0 dX2_fits_45 ci_2 ?_
        obtain ⟨q_7, h_q_7, h⟩ := am_bind h
        refine am_callV C0 (m_C_Table_at (σ := σ) (Nat.le_refl _) a0 x2 2 ha0 h_q_7) mm_yX6_at ln_RX2_15 (As := fun b => [.int x2, .int 2]) (fun _ => rfl) (fun _ => rfl) (loC_4_0 ha0).1 (loC_4_0 ha0).2.1 rfl (Nat.le_trans (by decide) hd) rfl (Nat.le_of_ble_eq_true rfl) dX2_fits_46 ?_
        refine am_icmp_eq C0 dX2_fits_49 (tgt := 54) (by decide) (fun c_8 => ?_) (fun c_8 => ?_)
        · replace h := am_ip h c_8
          obtain ⟨x2_9, e_x2_9, h⟩ := am_lt h
          refine am_iinc C0 dX2_fits_54 2 rfl (by rw [ci_1]; exact e_x2_9) (by decide) rfl (lv' := [(0, .ref (am_b G a0)), (1, .int x1), (2, .int x2_9), (3, .int q_2), (4, .int q_3)]) rfl ?_
          refine am_goto C0 dX2_fits_57 (tgt := 2) (by decide) ?_
          exact am_sub [0, 1, 2] rfl (ih a0 x1 x2_9 ha0 h)
        · replace h := am_in h c_8
          refine am_iconst C0 dX2_fits_52 ci_0 ?_
          have e := Option.some.inj h
          subst e
          exact hret _ _ dX2_fits_53
set_option maxRecDepth 100000 in
set_option maxHeartbeats 4000000 in
theorem k_C_Nights_fits {G : am_T} {d0 : Nat} (C0 : am_C G cX2_fits 5 RX2 LC d0) (hd : 3 ≤ d0) (F : Nat) {σ : am_SS} {q : Bool} (hret : am_retI G cX2_fits 5 (am_bI q) σ) (a0 : Nat) (x1 : Int32) (ha0 : LC.1 a0 = 6) (h : C_Nights_fits F a0 x1 σ = some q) : am_K G 5 0 [(0, .ref (am_b G a0)), (1, .int x1)] [] σ := by
  unfold C_Nights_fits at h
  refine am_iconst C0 dX2_fits_0 ci_0 ?_
  refine am_istore_n C0 dX2_fits_1 rfl (by decide) rfl (lv' := [(0, .ref (am_b G a0)), (1, .int x1), (2, .int 0)]) rfl ?_
  exact am_sub [0, 1, 2] rfl (k_C_Nights_fits_l2 C0 hd F hret F a0 x1 0 ha0 h)
set_option maxRecDepth 100000 in
set_option maxHeartbeats 4000000 in
theorem m_C_Nights_fits {l : Launch} {d : Nat} {σ : am_SS} {q : Bool} (hd : 3 ≤ d) (F : Nat) (a0 : Nat) (x1 : Int32) (ha0 : LC.1 a0 = 6) (h : C_Nights_fits F a0 x1 σ = some q) : am_Met l yX2_fits cX2_fits 5 (some .boolean) d 0 0 LC (fun b => [.ref (b a0), .int x1]) σ (some (.int (am_bI q))) σ :=
  am_metI (plainFor_of_name (by decide)) (am_bI_nr _) (lv := fun b => [(0, .ref (b a0)), (1, .int x1)]) (fun _ => rfl) (fun _ => Nat.le_of_ble_eq_true rfl) (fun G C0 _ hret => k_C_Nights_fits C0 hd F hret a0 x1 ha0 h)
set_option maxRecDepth 100000 in
set_option maxHeartbeats 4000000 in
theorem k_C_Nights_rail {G : am_T} {d0 : Nat} (C0 : am_C G cX2_rail 4 RX2 LC d0) (hd : 1 ≤ d0) {σ0 : am_SS} {q : Int32} (hret : am_retI G cX2_rail 4 q σ0) (x0 : Int32) (x1 : Int32) (h : C_Nights_rail x0 x1 = some q) : am_K G 4 0 [(0, .int x0), (1, .int x1)] [] σ0 := by
  unfold C_Nights_rail at h
  refine am_iconst C0 dX2_rail_0 ci_2 ?_
  refine am_iload_n C0 dX2_rail_1 1 rfl ?_
  refine am_iconst C0 dX2_rail_2 ci_1 ?_
  refine am_isub C0 dX2_rail_3 ?_
  refine am_imul C0 dX2_rail_4 ?_
  obtain ⟨x2_1, e_x2_1, h⟩ := am_lt h
  refine am_top e_x2_1 ?_
  refine am_istore_n C0 dX2_rail_5 rfl (by decide) rfl (lv' := [(0, .int x0), (1, .int x1), (2, .int x2_1)]) rfl ?_
  refine am_iload_n C0 dX2_rail_6 2 rfl ?_
  refine am_iconst C0 dX2_rail_7 ci_1 ?_
  refine am_icmp_ge C0 dX2_rail_8 (tgt := 13) (by decide) (fun c_2 => ?_) (fun c_2 => ?_)
  · replace h := am_in h c_2
    refine am_iload_n C0 dX2_rail_13 0 rfl ?_
    refine am_iload_n C0 dX2_rail_14 2 rfl ?_
    obtain ⟨hz_3, h⟩ := am_gd h
    refine am_irem C0 dX2_rail_15 hz_3 ?_
    obtain ⟨x3_4, e_x3_4, h⟩ := am_lt h
    refine am_top e_x3_4 ?_
    refine am_istore_n C0 dX2_rail_16 rfl (by decide) rfl (lv' := [(0, .int x0), (1, .int x1), (2, .int x2_1), (3, .int x3_4)]) rfl ?_
    refine am_iload_n C0 dX2_rail_17 3 rfl ?_
    refine am_iload_n C0 dX2_rail_18 1 rfl ?_
    refine am_icmp_ge C0 dX2_rail_19 (tgt := 26) (by decide) (fun c_5 => ?_) (fun c_5 => ?_)
    · replace h := am_in h c_5
      refine am_iload_n C0 dX2_rail_26 2 rfl ?_
      refine am_iload_n C0 dX2_rail_27 3 rfl ?_
      refine am_isub C0 dX2_rail_28 ?_
      have e := Option.some.inj h
      subst e
      exact hret _ _ dX2_rail_29
    · replace h := am_ip h c_5
      refine am_iload_n C0 dX2_rail_22 3 rfl ?_
      refine am_goto C0 dX2_rail_23 (tgt := 29) (by decide) ?_
      have e := Option.some.inj h
      subst e
      exact hret _ _ dX2_rail_29
  · replace h := am_ip h c_2
    refine am_iconst C0 dX2_rail_11 ci_0 ?_
    have e := Option.some.inj h
    subst e
    exact hret _ _ dX2_rail_12
set_option maxRecDepth 100000 in
set_option maxHeartbeats 4000000 in
theorem m_C_Nights_rail {l : Launch} {d : Nat} {σ : am_SS} {q : Int32} (hd : 1 ≤ d) (x0 : Int32) (x1 : Int32) (h : C_Nights_rail x0 x1 = some q) : am_Met l yX2_rail cX2_rail 4 (some .int) d 0 0 LC (fun b => [.int x0, .int x1]) σ (some (.int q)) σ :=
  am_metI (plainFor_of_name (by decide)) rfl (lv := fun b => [(0, .int x0), (1, .int x1)]) (fun _ => rfl) (fun _ => Nat.le_of_ble_eq_true rfl) (fun G C0 _ hret => k_C_Nights_rail C0 hd hret x0 x1  h)
