set_option maxRecDepth 100000 in
set_option maxHeartbeats 4000000 in
theorem k_C_Nights_byRails_p42 {G : am_T} {d0 : Nat} (C0 : am_C G cX2_byRails 6 RX2 LC d0) (hd : 2 ≤ d0) (rec5 : Int32 → Int32 → Int32 → Int32 → Int32 → Option Int32) (rec14 : Int32 → Int32 → Int32 → Int32 → Int32 → Int32 → Option Int32) (F : Nat) {σ0 : am_SS} {q : Int32} (hret : am_retI G cX2_byRails 6 q σ0) (hrec5 : ∀ (x0 : Int32) (x1 : Int32) (x2 : Int32) (x3 : Int32) (x4 : Int32), rec5 x0 x1 x2 x3 x4 = some q → am_K G 6 5 [(0, .int x0), (1, .int x1), (2, .int x2), (3, .int x3), (4, .int x4)] [] σ0) (hrec14 : ∀ (x0 : Int32) (x1 : Int32) (x2 : Int32) (x3 : Int32) (x4 : Int32) (x5 : Int32), rec14 x0 x1 x2 x3 x4 x5 = some q → am_K G 6 14 [(0, .int x0), (1, .int x1), (2, .int x2), (3, .int x3), (4, .int x4), (5, .int x5)] [] σ0) (x0 : Int32) (x1 : Int32) (x2 : Int32) (x3 : Int32) (x4 : Int32) (x5 : Int32) (h : C_Nights_byRails_p42 rec5 rec14 F x0 x1 x2 x3 x4 x5 = some q) : am_K G 6 42 [(0, .int x0), (1, .int x1), (2, .int x2), (3, .int x3), (4, .int x4), (5, .int x5)] [] σ0 := by
  unfold C_Nights_byRails_p42 at h
  obtain ⟨x5_1, e_x5_1, h⟩ := am_lt h
  refine am_iinc C0 dX2_byRails_42 5 rfl (by rw [ci_1]; exact e_x5_1) (by decide) rfl (lv' := [(0, .int x0), (1, .int x1), (2, .int x2), (3, .int x3), (4, .int x4), (5, .int x5_1)]) rfl ?_
  refine am_goto C0 dX2_byRails_45 (tgt := 14) (by decide) ?_
  exact am_sub [0, 1, 2, 3, 4, 5] rfl (hrec14 x0 x1 x2 x3 x4 x5_1  h)
set_option maxRecDepth 100000 in
set_option maxHeartbeats 4000000 in
theorem k_C_Nights_byRails_l14 {G : am_T} {d0 : Nat} (C0 : am_C G cX2_byRails 6 RX2 LC d0) (hd : 2 ≤ d0) (rec5 : Int32 → Int32 → Int32 → Int32 → Int32 → Option Int32) (F : Nat) {σ0 : am_SS} {q : Int32} (hret : am_retI G cX2_byRails 6 q σ0) (hrec5 : ∀ (x0 : Int32) (x1 : Int32) (x2 : Int32) (x3 : Int32) (x4 : Int32), rec5 x0 x1 x2 x3 x4 = some q → am_K G 6 5 [(0, .int x0), (1, .int x1), (2, .int x2), (3, .int x3), (4, .int x4)] [] σ0) : ∀ (n : Nat) (x0 : Int32) (x1 : Int32) (x2 : Int32) (x3 : Int32) (x4 : Int32) (x5 : Int32) (h : C_Nights_byRails_l14 rec5 F n x0 x1 x2 x3 x4 x5 = some q), am_K G 6 14 [(0, .int x0), (1, .int x1), (2, .int x2), (3, .int x3), (4, .int x4), (5, .int x5)] [] σ0 := by
  intro n
  induction n with
  | zero =>
    intro x0 x1 x2 x3 x4 x5 h
    rw [C_Nights_byRails_l14] at h
    cases h
  | succ n ih =>
    intro x0 x1 x2 x3 x4 x5 h
    rw [C_Nights_byRails_l14] at h
    refine am_iload C0 dX2_byRails_14 5 rfl ?_
    refine am_iload_n C0 dX2_byRails_16 0 rfl ?_
    refine am_icmp_ge C0 dX2_byRails_17 (tgt := 48) (by decide) (fun c_1 => ?_) (fun c_1 => ?_)
    · replace h := am_in h c_1
      obtain ⟨x4_2, e_x4_2, h⟩ := am_lt h
      refine am_iinc C0 dX2_byRails_48 4 rfl (by rw [ci_1]; exact e_x4_2) (by decide) rfl (lv' := [(0, .int x0), (1, .int x1), (2, .int x2), (3, .int x3), (4, .int x4_2), (5, .int x5)]) rfl ?_
      refine am_goto C0 dX2_byRails_51 (tgt := 5) (by decide) ?_
      exact am_sub [0, 1, 2, 3, 4] rfl (hrec5 x0 x1 x2 x3 x4_2  h)
    · replace h := am_ip h c_1
      refine am_iload C0 dX2_byRails_20 5 rfl ?_
      refine am_iload_n C0 dX2_byRails_22 1 rfl ?_
      obtain ⟨q_3, h_q_3, h⟩ := am_bind h
      refine am_callS C0 (m_C_Nights_rail (σ := σ0) (Nat.le_refl _) x5 x1  h_q_3) mm_yX2_rail ln_RX2_35 (fun _ => rfl) (Nat.le_trans (by decide) hd) rfl (Nat.le_of_ble_eq_true rfl) dX2_byRails_23 ?_
      refine am_iload C0 dX2_byRails_26 4 rfl ?_
      refine am_icmp_ne C0 dX2_byRails_28 (tgt := 42) (by decide) (fun c_4 => ?_) (fun c_4 => ?_)
      · replace h := am_in h c_4
        exact am_sub [0, 1, 2, 3, 4, 5] rfl (k_C_Nights_byRails_p42 C0 hd rec5 _ F hret hrec5 (fun z0 z1 z2 z3 z4 z5 z => ih z0 z1 z2 z3 z4 z5 z) x0 x1 x2 x3 x4 x5  h)
      · replace h := am_ip h c_4
        refine am_iload_n C0 dX2_byRails_31 3 rfl ?_
        refine am_iload_n C0 dX2_byRails_32 2 rfl ?_
        refine am_icmp_ne C0 dX2_byRails_33 (tgt := 39) (by decide) (fun c_5 => ?_) (fun c_5 => ?_)
        · replace h := am_in h c_5
          obtain ⟨x3_6, e_x3_6, h⟩ := am_lt h
          refine am_iinc C0 dX2_byRails_39 3 rfl (by rw [ci_1]; exact e_x3_6) (by decide) rfl (lv' := [(0, .int x0), (1, .int x1), (2, .int x2), (3, .int x3_6), (4, .int x4), (5, .int x5)]) rfl ?_
          exact am_sub [0, 1, 2, 3, 4, 5] rfl (k_C_Nights_byRails_p42 C0 hd rec5 _ F hret hrec5 (fun z0 z1 z2 z3 z4 z5 z => ih z0 z1 z2 z3 z4 z5 z) x0 x1 x2 x3_6 x4 x5  h)
        · replace h := am_ip h c_5
          refine am_iload C0 dX2_byRails_36 5 rfl ?_
          have e := Option.some.inj h
          subst e
          exact hret _ _ dX2_byRails_38
set_option maxRecDepth 100000 in
set_option maxHeartbeats 4000000 in
theorem k_C_Nights_byRails_l5 {G : am_T} {d0 : Nat} (C0 : am_C G cX2_byRails 6 RX2 LC d0) (hd : 2 ≤ d0) (F : Nat) {σ0 : am_SS} {q : Int32} (hret : am_retI G cX2_byRails 6 q σ0) : ∀ (n : Nat) (x0 : Int32) (x1 : Int32) (x2 : Int32) (x3 : Int32) (x4 : Int32) (h : C_Nights_byRails_l5 F n x0 x1 x2 x3 x4 = some q), am_K G 6 5 [(0, .int x0), (1, .int x1), (2, .int x2), (3, .int x3), (4, .int x4)] [] σ0 := by
  intro n
  induction n with
  | zero =>
    intro x0 x1 x2 x3 x4 h
    rw [C_Nights_byRails_l5] at h
    cases h
  | succ n ih =>
    intro x0 x1 x2 x3 x4 h
    rw [C_Nights_byRails_l5] at h
    refine am_iload C0 dX2_byRails_5 4 rfl ?_
    refine am_iload_n C0 dX2_byRails_7 1 rfl ?_
    refine am_icmp_ge C0 dX2_byRails_8 (tgt := 54) (by decide) (fun c_1 => ?_) (fun c_1 => ?_)
    · replace h := am_in h c_1
      refine am_iconst C0 dX2_byRails_54 ci_m1 ?_
      have e := Option.some.inj h
      subst e
      exact hret _ _ dX2_byRails_55
    · replace h := am_ip h c_1
      refine am_iconst C0 dX2_byRails_11 ci_0 ?_
      refine am_istore C0 dX2_byRails_12 (by decide) rfl (lv' := [(0, .int x0), (1, .int x1), (2, .int x2), (3, .int x3), (4, .int x4), (5, .int 0)]) rfl ?_
      exact am_sub [0, 1, 2, 3, 4, 5] rfl (k_C_Nights_byRails_l14 C0 hd _ F hret (fun z0 z1 z2 z3 z4 z => ih z0 z1 z2 z3 z4 z) F x0 x1 x2 x3 x4 0  h)
set_option maxRecDepth 100000 in
set_option maxHeartbeats 4000000 in
theorem k_C_Nights_byRails {G : am_T} {d0 : Nat} (C0 : am_C G cX2_byRails 6 RX2 LC d0) (hd : 2 ≤ d0) (F : Nat) {σ0 : am_SS} {q : Int32} (hret : am_retI G cX2_byRails 6 q σ0) (x0 : Int32) (x1 : Int32) (x2 : Int32) (h : C_Nights_byRails F x0 x1 x2 = some q) : am_K G 6 0 [(0, .int x0), (1, .int x1), (2, .int x2)] [] σ0 := by
  unfold C_Nights_byRails at h
  refine am_iconst C0 dX2_byRails_0 ci_0 ?_
  refine am_istore_n C0 dX2_byRails_1 rfl (by decide) rfl (lv' := [(0, .int x0), (1, .int x1), (2, .int x2), (3, .int 0)]) rfl ?_
  refine am_iconst C0 dX2_byRails_2 ci_0 ?_
  refine am_istore C0 dX2_byRails_3 (by decide) rfl (lv' := [(0, .int x0), (1, .int x1), (2, .int x2), (3, .int 0), (4, .int 0)]) rfl ?_
  exact am_sub [0, 1, 2, 3, 4] rfl (k_C_Nights_byRails_l5 C0 hd F hret F x0 x1 x2 0 0  h)
set_option maxRecDepth 100000 in
set_option maxHeartbeats 4000000 in
theorem m_C_Nights_byRails {l : Launch} {d : Nat} {σ : am_SS} {q : Int32} (hd : 2 ≤ d) (F : Nat) (x0 : Int32) (x1 : Int32) (x2 : Int32) (h : C_Nights_byRails F x0 x1 x2 = some q) : am_Met l yX2_byRails cX2_byRails 6 (some .int) d 0 0 LC (fun b => [.int x0, .int x1, .int x2]) σ (some (.int q)) σ :=
  am_metI (plainFor_of_name (by decide)) rfl (lv := fun b => [(0, .int x0), (1, .int x1), (2, .int x2)]) (fun _ => rfl) (fun _ => Nat.le_of_ble_eq_true rfl) (fun G C0 _ hret => k_C_Nights_byRails C0 hd F hret x0 x1 x2  h)
set_option maxRecDepth 100000 in
set_option maxHeartbeats 4000000 in
theorem k_C_Nights_readsAlike_l2 {G : am_T} {d0 : Nat} (C0 : am_C G cX2_readsAlike 4 RX2 LC d0) (hd : 2 ≤ d0) (F : Nat) {σ : am_SS} {q : Bool} (hret : am_retI G cX2_readsAlike 4 (am_bI q) σ) : ∀ (n : Nat) (a0 : Nat) (x1 : Int32) (x2 : Int32) (x3 : Int32) (ha0 : LC.1 a0 = 6) (h : C_Nights_readsAlike_l2 F n a0 x1 x2 x3 σ = some q), am_K G 4 2 [(0, .ref (am_b G a0)), (1, .int x1), (2, .int x2), (3, .int x3)] [] σ := by
  intro n
  induction n with
  | zero =>
    intro a0 x1 x2 x3 ha0 h
    rw [C_Nights_readsAlike_l2] at h
    cases h
  | succ n ih =>
    intro a0 x1 x2 x3 ha0 h
    rw [C_Nights_readsAlike_l2] at h
    refine am_iload_n C0 dX2_readsAlike_2 1 rfl ?_
    refine am_iload_n C0 dX2_readsAlike_3 3 rfl ?_
    refine am_iadd C0 dX2_readsAlike_4 ?_
    refine am_iload_n C0 dX2_readsAlike_5 2 rfl ?_
    refine am_iload_n C0 dX2_readsAlike_6 3 rfl ?_
    refine am_isub C0 dX2_readsAlike_7 ?_
    refine am_icmp_ge C0 dX2_readsAlike_8 (tgt := 38) (by decide) (fun c_1 => ?_) (fun c_1 => ?_)
    · replace h := am_in h c_1
      refine am_iconst C0 dX2_readsAlike_38 ci_1 ?_
      have e := Option.some.inj h
      subst e
      exact hret _ _ dX2_readsAlike_39
    · replace h := am_ip h c_1
      refine am_aload_n C0 dX2_readsAlike_11 0 rfl ?_
      refine am_iload_n C0 dX2_readsAlike_12 1 rfl ?_
      refine am_iload_n C0 dX2_readsAlike_13 3 rfl ?_
      refine am_iadd C0 dX2_readsAlike_14 ?_
      refine am_iconst C0 dX2_readsAlike_15 ci_0 ?_
      obtain ⟨q_2, h_q_2, h⟩ := am_bind h
      refine am_callV C0 (m_C_Table_at (σ := σ) (Nat.le_refl _) a0 (x1 + x3) 0 ha0 h_q_2) mm_yX6_at ln_RX2_15 (As := fun b => [.int (x1 + x3), .int 0]) (fun _ => rfl) (fun _ => rfl) (loC_4_0 ha0).1 (loC_4_0 ha0).2.1 rfl (Nat.le_trans (by decide) hd) rfl (Nat.le_of_ble_eq_true rfl) dX2_readsAlike_16 ?_
      refine am_aload_n C0 dX2_readsAlike_19 0 rfl ?_
      refine am_iload_n C0 dX2_readsAlike_20 2 rfl ?_
      refine am_iload_n C0 dX2_readsAlike_21 3 rfl ?_
      refine am_isub C0 dX2_readsAlike_22 ?_
      refine am_iconst C0 dX2_readsAlike_23 ci_0 ?_
      obtain ⟨q_3, h_q_3, h⟩ := am_bind h
      refine am_callV C0 (m_C_Table_at (σ := σ) (Nat.le_refl _) a0 (x2 - x3) 0 ha0 h_q_3) mm_yX6_at ln_RX2_15 (As := fun b => [.int (x2 - x3), .int 0]) (fun _ => rfl) (fun _ => rfl) (loC_4_0 ha0).1 (loC_4_0 ha0).2.1 rfl (Nat.le_trans (by decide) hd) rfl (Nat.le_of_ble_eq_true rfl) dX2_readsAlike_24 ?_
      refine am_icmp_eq C0 dX2_readsAlike_27 (tgt := 32) (by decide) (fun c_4 => ?_) (fun c_4 => ?_)
      · replace h := am_ip h c_4
        obtain ⟨x3_5, e_x3_5, h⟩ := am_lt h
        refine am_iinc C0 dX2_readsAlike_32 3 rfl (by rw [ci_1]; exact e_x3_5) (by decide) rfl (lv' := [(0, .ref (am_b G a0)), (1, .int x1), (2, .int x2), (3, .int x3_5)]) rfl ?_
        refine am_goto C0 dX2_readsAlike_35 (tgt := 2) (by decide) ?_
        exact am_sub [0, 1, 2, 3] rfl (ih a0 x1 x2 x3_5 ha0 h)
      · replace h := am_in h c_4
        refine am_iconst C0 dX2_readsAlike_30 ci_0 ?_
        have e := Option.some.inj h
        subst e
        exact hret _ _ dX2_readsAlike_31
set_option maxRecDepth 100000 in
set_option maxHeartbeats 4000000 in
theorem k_C_Nights_readsAlike {G : am_T} {d0 : Nat} (C0 : am_C G cX2_readsAlike 4 RX2 LC d0) (hd : 2 ≤ d0) (F : Nat) {σ : am_SS} {q : Bool} (hret : am_retI G cX2_readsAlike 4 (am_bI q) σ) (a0 : Nat) (x1 : Int32) (x2 : Int32) (ha0 : LC.1 a0 = 6) (h : C_Nights_readsAlike F a0 x1 x2 σ = some q) : am_K G 4 0 [(0, .ref (am_b G a0)), (1, .int x1), (2, .int x2)] [] σ := by
  unfold C_Nights_readsAlike at h
  refine am_iconst C0 dX2_readsAlike_0 ci_0 ?_
  refine am_istore_n C0 dX2_readsAlike_1 rfl (by decide) rfl (lv' := [(0, .ref (am_b G a0)), (1, .int x1), (2, .int x2), (3, .int 0)]) rfl ?_
  exact am_sub [0, 1, 2, 3] rfl (k_C_Nights_readsAlike_l2 C0 hd F hret F a0 x1 x2 0 ha0 h)
set_option maxRecDepth 100000 in
set_option maxHeartbeats 4000000 in
theorem m_C_Nights_readsAlike {l : Launch} {d : Nat} {σ : am_SS} {q : Bool} (hd : 2 ≤ d) (F : Nat) (a0 : Nat) (x1 : Int32) (x2 : Int32) (ha0 : LC.1 a0 = 6) (h : C_Nights_readsAlike F a0 x1 x2 σ = some q) : am_Met l yX2_readsAlike cX2_readsAlike 4 (some .boolean) d 0 0 LC (fun b => [.ref (b a0), .int x1, .int x2]) σ (some (.int (am_bI q))) σ :=
  am_metI (plainFor_of_name (by decide)) (am_bI_nr _) (lv := fun b => [(0, .ref (b a0)), (1, .int x1), (2, .int x2)]) (fun _ => rfl) (fun _ => Nat.le_of_ble_eq_true rfl) (fun G C0 _ hret => k_C_Nights_readsAlike C0 hd F hret a0 x1 x2 ha0 h)
set_option maxRecDepth 100000 in
set_option maxHeartbeats 4000000 in
theorem k_C_Nights_firstAlike_l2 {G : am_T} {d0 : Nat} (C0 : am_C G cX2_firstAlike 3 RX2 LC d0) (hd : 3 ≤ d0) (F : Nat) {σ : am_SS} {q : Int32} (hret : am_retI G cX2_firstAlike 3 q σ) : ∀ (n : Nat) (a0 : Nat) (x1 : Int32) (x2 : Int32) (ha0 : LC.1 a0 = 6) (h : C_Nights_firstAlike_l2 F n a0 x1 x2 σ = some q), am_K G 3 2 [(0, .ref (am_b G a0)), (1, .int x1), (2, .int x2)] [] σ := by
  intro n
  induction n with
  | zero =>
    intro a0 x1 x2 ha0 h
    rw [C_Nights_firstAlike_l2] at h
    cases h
  | succ n ih =>
    intro a0 x1 x2 ha0 h
    rw [C_Nights_firstAlike_l2] at h
    refine am_iload_n C0 dX2_firstAlike_2 1 rfl ?_
    refine am_if_le C0 dX2_firstAlike_3 (tgt := 37) (by decide) (fun c_1 => ?_) (fun c_1 => ?_)
    · replace h := am_in h c_1
      refine am_iconst C0 dX2_firstAlike_37 ci_m1 ?_
      have e := Option.some.inj h
      subst e
      exact hret _ _ dX2_firstAlike_38
    · replace h := am_ip h c_1
      refine am_iload_n C0 dX2_firstAlike_6 2 rfl ?_
      refine am_iload_n C0 dX2_firstAlike_7 1 rfl ?_
      refine am_iadd C0 dX2_firstAlike_8 ?_
      refine am_aload_n C0 dX2_firstAlike_9 0 rfl ?_
      refine am_getI C0 ff_RX2_9 (loC_4_2 ha0).1 (loC_4_2 ha0).2.1 (loC_4_2 ha0).2.2.1 (loC_4_2 ha0).2.2.2 dX2_firstAlike_10 ?_
      refine am_icmp_gt C0 dX2_firstAlike_13 (tgt := 37) (by decide) (fun c_2 => ?_) (fun c_2 => ?_)
      · replace h := am_ip h c_2
        refine am_iconst C0 dX2_firstAlike_37 ci_m1 ?_
        have e := Option.some.inj h
        subst e
        exact hret _ _ dX2_firstAlike_38
      · replace h := am_in h c_2
        refine am_aload_n C0 dX2_firstAlike_16 0 rfl ?_
        refine am_iload_n C0 dX2_firstAlike_17 2 rfl ?_
        refine am_iload_n C0 dX2_firstAlike_18 2 rfl ?_
        refine am_iload_n C0 dX2_firstAlike_19 1 rfl ?_
        refine am_iadd C0 dX2_firstAlike_20 ?_
        refine am_iconst C0 dX2_firstAlike_21 ci_1 ?_
        refine am_isub C0 dX2_firstAlike_22 ?_
        obtain ⟨q_3, h_q_3, h⟩ := am_bind h
        refine am_callS C0 (m_C_Nights_readsAlike (σ := σ) (Nat.le_refl _) F a0 x2 ((x2 + x1) - 1) ha0 h_q_3) mm_yX2_readsAlike ln_RX2_46 (fun _ => rfl) (Nat.le_trans (by decide) hd) rfl (Nat.le_of_ble_eq_true rfl) dX2_firstAlike_23 ?_
        refine am_ifB_eq C0 dX2_firstAlike_26 (tgt := 31) (by decide) (fun c_4 => ?_) (fun c_4 => ?_)
        · replace h := am_in h c_4
          obtain ⟨x2_5, e_x2_5, h⟩ := am_lt h
          refine am_iinc C0 dX2_firstAlike_31 2 rfl (by rw [ci_1]; exact e_x2_5) (by decide) rfl (lv' := [(0, .ref (am_b G a0)), (1, .int x1), (2, .int x2_5)]) rfl ?_
          refine am_goto C0 dX2_firstAlike_34 (tgt := 2) (by decide) ?_
          exact am_sub [0, 1, 2] rfl (ih a0 x1 x2_5 ha0 h)
        · replace h := am_ip h c_4
          refine am_iload_n C0 dX2_firstAlike_29 2 rfl ?_
          have e := Option.some.inj h
          subst e
          exact hret _ _ dX2_firstAlike_30
set_option maxRecDepth 100000 in
set_option maxHeartbeats 4000000 in
theorem k_C_Nights_firstAlike {G : am_T} {d0 : Nat} (C0 : am_C G cX2_firstAlike 3 RX2 LC d0) (hd : 3 ≤ d0) (F : Nat) {σ : am_SS} {q : Int32} (hret : am_retI G cX2_firstAlike 3 q σ) (a0 : Nat) (x1 : Int32) (ha0 : LC.1 a0 = 6) (h : C_Nights_firstAlike F a0 x1 σ = some q) : am_K G 3 0 [(0, .ref (am_b G a0)), (1, .int x1)] [] σ := by
  unfold C_Nights_firstAlike at h
  refine am_iconst C0 dX2_firstAlike_0 ci_0 ?_
  refine am_istore_n C0 dX2_firstAlike_1 rfl (by decide) rfl (lv' := [(0, .ref (am_b G a0)), (1, .int x1), (2, .int 0)]) rfl ?_
  exact am_sub [0, 1, 2] rfl (k_C_Nights_firstAlike_l2 C0 hd F hret F a0 x1 0 ha0 h)
set_option maxRecDepth 100000 in
set_option maxHeartbeats 4000000 in
theorem m_C_Nights_firstAlike {l : Launch} {d : Nat} {σ : am_SS} {q : Int32} (hd : 3 ≤ d) (F : Nat) (a0 : Nat) (x1 : Int32) (ha0 : LC.1 a0 = 6) (h : C_Nights_firstAlike F a0 x1 σ = some q) : am_Met l yX2_firstAlike cX2_firstAlike 3 (some .int) d 0 0 LC (fun b => [.ref (b a0), .int x1]) σ (some (.int q)) σ :=
  am_metI (plainFor_of_name (by decide)) rfl (lv := fun b => [(0, .ref (b a0)), (1, .int x1)]) (fun _ => rfl) (fun _ => Nat.le_of_ble_eq_true rfl) (fun G C0 _ hret => k_C_Nights_firstAlike C0 hd F hret a0 x1 ha0 h)
set_option maxRecDepth 100000 in
set_option maxHeartbeats 4000000 in
theorem k_C_Nights_longestAlike_l5 {G : am_T} {d0 : Nat} (C0 : am_C G cX2_longestAlike 2 RX2 LC d0) (hd : 4 ≤ d0) (F : Nat) {σ : am_SS} {q : Int32} (hret : am_retI G cX2_longestAlike 2 q σ) : ∀ (n : Nat) (a0 : Nat) (x1 : Int32) (ha0 : LC.1 a0 = 6) (h : C_Nights_longestAlike_l5 F n a0 x1 σ = some q), am_K G 2 5 [(0, .ref (am_b G a0)), (1, .int x1)] [] σ := by
  intro n
  induction n with
  | zero =>
    intro a0 x1 ha0 h
    rw [C_Nights_longestAlike_l5] at h
    cases h
  | succ n ih =>
    intro a0 x1 ha0 h
    rw [C_Nights_longestAlike_l5] at h
    refine am_iload_n C0 dX2_longestAlike_5 1 rfl ?_
    refine am_if_le C0 dX2_longestAlike_6 (tgt := 26) (by decide) (fun c_1 => ?_) (fun c_1 => ?_)
    · replace h := am_in h c_1
      refine am_iconst C0 dX2_longestAlike_26 ci_0 ?_
      have e := Option.some.inj h
      subst e
      exact hret _ _ dX2_longestAlike_27
    · replace h := am_ip h c_1
      refine am_aload_n C0 dX2_longestAlike_9 0 rfl ?_
      refine am_iload_n C0 dX2_longestAlike_10 1 rfl ?_
      obtain ⟨q_2, h_q_2, h⟩ := am_bind h
      refine am_callS C0 (m_C_Nights_firstAlike (σ := σ) (Nat.le_refl _) F a0 x1 ha0 h_q_2) mm_yX2_firstAlike ln_RX2_42 (fun _ => rfl) (Nat.le_trans (by decide) hd) rfl (Nat.le_of_ble_eq_true rfl) dX2_longestAlike_11 ?_
      refine am_iconst C0 dX2_longestAlike_14 ci_m1 ?_
      refine am_icmp_eq C0 dX2_longestAlike_15 (tgt := 20) (by decide) (fun c_3 => ?_) (fun c_3 => ?_)
      · replace h := am_ip h c_3
        obtain ⟨x1_4, e_x1_4, h⟩ := am_lt h
        refine am_iinc C0 dX2_longestAlike_20 1 rfl (by rw [ci_m1]; exact e_x1_4) (by decide) rfl (lv' := [(0, .ref (am_b G a0)), (1, .int x1_4)]) rfl ?_
        refine am_goto C0 dX2_longestAlike_23 (tgt := 5) (by decide) ?_
        exact am_sub [0, 1] rfl (ih a0 x1_4 ha0 h)
      · replace h := am_in h c_3
        refine am_iload_n C0 dX2_longestAlike_18 1 rfl ?_
        have e := Option.some.inj h
        subst e
        exact hret _ _ dX2_longestAlike_19
set_option maxRecDepth 100000 in
set_option maxHeartbeats 4000000 in
theorem k_C_Nights_longestAlike {G : am_T} {d0 : Nat} (C0 : am_C G cX2_longestAlike 2 RX2 LC d0) (hd : 4 ≤ d0) (F : Nat) {σ : am_SS} {q : Int32} (hret : am_retI G cX2_longestAlike 2 q σ) (a0 : Nat) (ha0 : LC.1 a0 = 6) (h : C_Nights_longestAlike F a0 σ = some q) : am_K G 2 0 [(0, .ref (am_b G a0))] [] σ := by
  unfold C_Nights_longestAlike at h
  refine am_aload_n C0 dX2_longestAlike_0 0 rfl ?_
  refine am_getI C0 ff_RX2_9 (loC_4_2 ha0).1 (loC_4_2 ha0).2.1 (loC_4_2 ha0).2.2.1 (loC_4_2 ha0).2.2.2 dX2_longestAlike_1 ?_
  obtain ⟨x1_1, e_x1_1, h⟩ := am_lt h
  refine am_top e_x1_1 ?_
  refine am_istore_n C0 dX2_longestAlike_4 rfl (by decide) rfl (lv' := [(0, .ref (am_b G a0)), (1, .int x1_1)]) rfl ?_
  exact am_sub [0, 1] rfl (k_C_Nights_longestAlike_l5 C0 hd F hret F a0 x1_1 ha0 h)
set_option maxRecDepth 100000 in
set_option maxHeartbeats 4000000 in
theorem m_C_Nights_longestAlike {l : Launch} {d : Nat} {σ : am_SS} {q : Int32} (hd : 4 ≤ d) (F : Nat) (a0 : Nat) (ha0 : LC.1 a0 = 6) (h : C_Nights_longestAlike F a0 σ = some q) : am_Met l yX2_longestAlike cX2_longestAlike 2 (some .int) d 0 0 LC (fun b => [.ref (b a0)]) σ (some (.int q)) σ :=
  am_metI (plainFor_of_name (by decide)) rfl (lv := fun b => [(0, .ref (b a0))]) (fun _ => rfl) (fun _ => Nat.le_of_ble_eq_true rfl) (fun G C0 _ hret => k_C_Nights_longestAlike C0 hd F hret a0 ha0 h)
set_option maxRecDepth 100000 in
set_option maxHeartbeats 4000000 in
theorem k_C_Table_has_p32 {G : am_T} {d0 : Nat} (C0 : am_C G cX6_has 4 RX6 LC d0) (hd : 2 ≤ d0) (rec2 : Nat → Int32 → Int32 → Int32 → am_SS → Option Bool) (F : Nat) {σ : am_SS} {q : Bool} (hret : am_retI G cX6_has 4 (am_bI q) σ) (hrec2 : ∀ (a0 : Nat) (x1 : Int32) (x2 : Int32) (x3 : Int32), LC.1 a0 = 6 → rec2 a0 x1 x2 x3 σ = some q → am_K G 4 2 [(0, .ref (am_b G a0)), (1, .int x1), (2, .int x2), (3, .int x3)] [] σ) (a0 : Nat) (x1 : Int32) (x2 : Int32) (x3 : Int32) (ha0 : LC.1 a0 = 6) (h : C_Table_has_p32 rec2 F a0 x1 x2 x3 σ = some q) : am_K G 4 32 [(0, .ref (am_b G a0)), (1, .int x1), (2, .int x2), (3, .int x3)] [] σ := by
  unfold C_Table_has_p32 at h
  obtain ⟨x3_1, e_x3_1, h⟩ := am_lt h
  refine am_iinc C0 dX6_has_32 3 rfl (by rw [ci_1]; exact e_x3_1) (by decide) rfl (lv' := [(0, .ref (am_b G a0)), (1, .int x1), (2, .int x2), (3, .int x3_1)]) rfl ?_
  refine am_goto C0 dX6_has_35 (tgt := 2) (by decide) ?_
  exact am_sub [0, 1, 2, 3] rfl (hrec2 a0 x1 x2 x3_1 ha0 h)
set_option maxRecDepth 100000 in
set_option maxHeartbeats 4000000 in
theorem k_C_Table_has_l2 {G : am_T} {d0 : Nat} (C0 : am_C G cX6_has 4 RX6 LC d0) (hd : 2 ≤ d0) (F : Nat) {σ : am_SS} {q : Bool} (hret : am_retI G cX6_has 4 (am_bI q) σ) : ∀ (n : Nat) (a0 : Nat) (x1 : Int32) (x2 : Int32) (x3 : Int32) (ha0 : LC.1 a0 = 6) (h : C_Table_has_l2 F n a0 x1 x2 x3 σ = some q), am_K G 4 2 [(0, .ref (am_b G a0)), (1, .int x1), (2, .int x2), (3, .int x3)] [] σ := by
  intro n
  induction n with
  | zero =>
    intro a0 x1 x2 x3 ha0 h
    rw [C_Table_has_l2] at h
    cases h
  | succ n ih =>
    intro a0 x1 x2 x3 ha0 h
    rw [C_Table_has_l2] at h
    refine am_iload_n C0 dX6_has_2 3 rfl ?_
    refine am_aload_n C0 dX6_has_3 0 rfl ?_
    refine am_getI C0 ff_RX6_9 (loC_4_2 ha0).1 (loC_4_2 ha0).2.1 (loC_4_2 ha0).2.2.1 (loC_4_2 ha0).2.2.2 dX6_has_4 ?_
    refine am_icmp_ge C0 dX6_has_7 (tgt := 38) (by decide) (fun c_1 => ?_) (fun c_1 => ?_)
    · replace h := am_in h c_1
      refine am_iconst C0 dX6_has_38 ci_0 ?_
      have e := Option.some.inj h
      subst e
      exact hret _ _ dX6_has_39
    · replace h := am_ip h c_1
      refine am_aload_n C0 dX6_has_10 0 rfl ?_
      refine am_iload_n C0 dX6_has_11 3 rfl ?_
      refine am_iconst C0 dX6_has_12 ci_0 ?_
      obtain ⟨q_2, h_q_2, h⟩ := am_bind h
      refine am_callV C0 (m_C_Table_at (σ := σ) (Nat.le_refl _) a0 x3 0 ha0 h_q_2) mm_yX6_at ln_RX6_31 (As := fun b => [.int x3, .int 0]) (fun _ => rfl) (fun _ => rfl) (loC_4_0 ha0).1 (loC_4_0 ha0).2.1 rfl (Nat.le_trans (by decide) hd) rfl (Nat.le_of_ble_eq_true rfl) dX6_has_13 ?_
      refine am_iload_n C0 dX6_has_16 1 rfl ?_
      refine am_icmp_ne C0 dX6_has_17 (tgt := 32) (by decide) (fun c_3 => ?_) (fun c_3 => ?_)
      · replace h := am_in h c_3
        exact am_sub [0, 1, 2, 3] rfl (k_C_Table_has_p32 C0 hd _ F hret (fun z0 z1 z2 z3 zh0 z => ih z0 z1 z2 z3 zh0 z) a0 x1 x2 x3 ha0 h)
      · replace h := am_ip h c_3
        refine am_aload_n C0 dX6_has_20 0 rfl ?_
        refine am_iload_n C0 dX6_has_21 3 rfl ?_
        refine am_iconst C0 dX6_has_22 ci_1 ?_
        obtain ⟨q_4, h_q_4, h⟩ := am_bind h
        refine am_callV C0 (m_C_Table_at (σ := σ) (Nat.le_refl _) a0 x3 1 ha0 h_q_4) mm_yX6_at ln_RX6_31 (As := fun b => [.int x3, .int 1]) (fun _ => rfl) (fun _ => rfl) (loC_4_0 ha0).1 (loC_4_0 ha0).2.1 rfl (Nat.le_trans (by decide) hd) rfl (Nat.le_of_ble_eq_true rfl) dX6_has_23 ?_
        refine am_iload_n C0 dX6_has_26 2 rfl ?_
        refine am_icmp_ne C0 dX6_has_27 (tgt := 32) (by decide) (fun c_5 => ?_) (fun c_5 => ?_)
        · replace h := am_in h c_5
          exact am_sub [0, 1, 2, 3] rfl (k_C_Table_has_p32 C0 hd _ F hret (fun z0 z1 z2 z3 zh0 z => ih z0 z1 z2 z3 zh0 z) a0 x1 x2 x3 ha0 h)
        · replace h := am_ip h c_5
          refine am_iconst C0 dX6_has_30 ci_1 ?_
          have e := Option.some.inj h
          subst e
          exact hret _ _ dX6_has_31
set_option maxRecDepth 100000 in
set_option maxHeartbeats 4000000 in
theorem k_C_Table_has {G : am_T} {d0 : Nat} (C0 : am_C G cX6_has 4 RX6 LC d0) (hd : 2 ≤ d0) (F : Nat) {σ : am_SS} {q : Bool} (hret : am_retI G cX6_has 4 (am_bI q) σ) (a0 : Nat) (x1 : Int32) (x2 : Int32) (ha0 : LC.1 a0 = 6) (h : C_Table_has F a0 x1 x2 σ = some q) : am_K G 4 0 [(0, .ref (am_b G a0)), (1, .int x1), (2, .int x2)] [] σ := by
  unfold C_Table_has at h
  refine am_iconst C0 dX6_has_0 ci_0 ?_
  refine am_istore_n C0 dX6_has_1 rfl (by decide) rfl (lv' := [(0, .ref (am_b G a0)), (1, .int x1), (2, .int x2), (3, .int 0)]) rfl ?_
  exact am_sub [0, 1, 2, 3] rfl (k_C_Table_has_l2 C0 hd F hret F a0 x1 x2 0 ha0 h)
set_option maxRecDepth 100000 in
set_option maxHeartbeats 4000000 in
theorem m_C_Table_has {l : Launch} {d : Nat} {σ : am_SS} {q : Bool} (hd : 2 ≤ d) (F : Nat) (a0 : Nat) (x1 : Int32) (x2 : Int32) (ha0 : LC.1 a0 = 6) (h : C_Table_has F a0 x1 x2 σ = some q) : am_Met l yX6_has cX6_has 4 (some .boolean) d 0 0 LC (fun b => [.ref (b a0), .int x1, .int x2]) σ (some (.int (am_bI q))) σ :=
  am_metI (plainFor_of_name (by decide)) (am_bI_nr _) (lv := fun b => [(0, .ref (b a0)), (1, .int x1), (2, .int x2)]) (fun _ => rfl) (fun _ => Nat.le_of_ble_eq_true rfl) (fun G C0 _ hret => k_C_Table_has C0 hd F hret a0 x1 x2 ha0 h)
set_option maxRecDepth 100000 in
set_option maxHeartbeats 4000000 in
theorem k_C_Nights_toldOn_p28 {G : am_T} {d0 : Nat} (C0 : am_C G cX2_toldOn 5 RX2 LC d0) (hd : 3 ≤ d0) (rec5 : Nat → Int32 → Int32 → Int32 → Int32 → am_SS → Option Int32) (F : Nat) {σ : am_SS} {q : Int32} (hret : am_retI G cX2_toldOn 5 q σ) (hrec5 : ∀ (a0 : Nat) (x1 : Int32) (x2 : Int32) (x3 : Int32) (x4 : Int32), LC.1 a0 = 6 → rec5 a0 x1 x2 x3 x4 σ = some q → am_K G 5 5 [(0, .ref (am_b G a0)), (1, .int x1), (2, .int x2), (3, .int x3), (4, .int x4)] [] σ) (a0 : Nat) (x1 : Int32) (x2 : Int32) (x3 : Int32) (x4 : Int32) (ha0 : LC.1 a0 = 6) (h : C_Nights_toldOn_p28 rec5 F a0 x1 x2 x3 x4 σ = some q) : am_K G 5 28 [(0, .ref (am_b G a0)), (1, .int x1), (2, .int x2), (3, .int x3), (4, .int x4)] [] σ := by
  unfold C_Nights_toldOn_p28 at h
  obtain ⟨x4_1, e_x4_1, h⟩ := am_lt h
  refine am_iinc C0 dX2_toldOn_28 4 rfl (by rw [ci_1]; exact e_x4_1) (by decide) rfl (lv' := [(0, .ref (am_b G a0)), (1, .int x1), (2, .int x2), (3, .int x3), (4, .int x4_1)]) rfl ?_
  refine am_goto C0 dX2_toldOn_31 (tgt := 5) (by decide) ?_
  exact am_sub [0, 1, 2, 3, 4] rfl (hrec5 a0 x1 x2 x3 x4_1 ha0 h)
set_option maxRecDepth 100000 in
set_option maxHeartbeats 4000000 in
theorem k_C_Nights_toldOn_l5 {G : am_T} {d0 : Nat} (C0 : am_C G cX2_toldOn 5 RX2 LC d0) (hd : 3 ≤ d0) (F : Nat) {σ : am_SS} {q : Int32} (hret : am_retI G cX2_toldOn 5 q σ) : ∀ (n : Nat) (a0 : Nat) (x1 : Int32) (x2 : Int32) (x3 : Int32) (x4 : Int32) (ha0 : LC.1 a0 = 6) (h : C_Nights_toldOn_l5 F n a0 x1 x2 x3 x4 σ = some q), am_K G 5 5 [(0, .ref (am_b G a0)), (1, .int x1), (2, .int x2), (3, .int x3), (4, .int x4)] [] σ := by
  intro n
  induction n with
  | zero =>
    intro a0 x1 x2 x3 x4 ha0 h
    rw [C_Nights_toldOn_l5] at h
    cases h
  | succ n ih =>
    intro a0 x1 x2 x3 x4 ha0 h
    rw [C_Nights_toldOn_l5] at h
    refine am_iload C0 dX2_toldOn_5 4 rfl ?_
    refine am_iload_n C0 dX2_toldOn_7 1 rfl ?_
    refine am_icmp_ge C0 dX2_toldOn_8 (tgt := 34) (by decide) (fun c_1 => ?_) (fun c_1 => ?_)
    · replace h := am_in h c_1
      refine am_iload_n C0 dX2_toldOn_34 3 rfl ?_
      have e := Option.some.inj h
      subst e
      exact hret _ _ dX2_toldOn_35
    · replace h := am_ip h c_1
      refine am_aload_n C0 dX2_toldOn_11 0 rfl ?_
      refine am_iload_n C0 dX2_toldOn_12 2 rfl ?_
      refine am_iload C0 dX2_toldOn_13 4 rfl ?_
      obtain ⟨q_2, h_q_2, h⟩ := am_bind h
      refine am_callV C0 (m_C_Table_has (σ := σ) (Nat.le_refl _) F a0 x2 x4 ha0 h_q_2) mm_yX6_has ln_RX2_58 (As := fun b => [.int x2, .int x4]) (fun _ => rfl) (fun _ => rfl) (loC_4_0 ha0).1 (loC_4_0 ha0).2.1 rfl (Nat.le_trans (by decide) hd) rfl (Nat.le_of_ble_eq_true rfl) dX2_toldOn_15 ?_
      refine am_ifB_eq C0 dX2_toldOn_18 (tgt := 28) (by decide) (fun c_3 => ?_) (fun c_3 => ?_)
      · replace h := am_in h c_3
        exact am_sub [0, 1, 2, 3, 4] rfl (k_C_Nights_toldOn_p28 C0 hd _ F hret (fun z0 z1 z2 z3 z4 zh0 z => ih z0 z1 z2 z3 z4 zh0 z) a0 x1 x2 x3 x4 ha0 h)
      · replace h := am_ip h c_3
        refine am_iload_n C0 dX2_toldOn_21 3 rfl ?_
        refine am_iconst C0 dX2_toldOn_22 ci_1 ?_
        refine am_iload C0 dX2_toldOn_23 4 rfl ?_
        refine am_ishl C0 dX2_toldOn_25 ?_
        refine am_ior C0 dX2_toldOn_26 ?_
        obtain ⟨x3_4, e_x3_4, h⟩ := am_lt h
        refine am_top e_x3_4 ?_
        refine am_istore_n C0 dX2_toldOn_27 rfl (by decide) rfl (lv' := [(0, .ref (am_b G a0)), (1, .int x1), (2, .int x2), (3, .int x3_4), (4, .int x4)]) rfl ?_
        exact am_sub [0, 1, 2, 3, 4] rfl (k_C_Nights_toldOn_p28 C0 hd _ F hret (fun z0 z1 z2 z3 z4 zh0 z => ih z0 z1 z2 z3 z4 zh0 z) a0 x1 x2 x3_4 x4 ha0 h)
set_option maxRecDepth 100000 in
set_option maxHeartbeats 4000000 in
theorem k_C_Nights_toldOn {G : am_T} {d0 : Nat} (C0 : am_C G cX2_toldOn 5 RX2 LC d0) (hd : 3 ≤ d0) (F : Nat) {σ : am_SS} {q : Int32} (hret : am_retI G cX2_toldOn 5 q σ) (a0 : Nat) (x1 : Int32) (x2 : Int32) (ha0 : LC.1 a0 = 6) (h : C_Nights_toldOn F a0 x1 x2 σ = some q) : am_K G 5 0 [(0, .ref (am_b G a0)), (1, .int x1), (2, .int x2)] [] σ := by
  unfold C_Nights_toldOn at h
  refine am_iconst C0 dX2_toldOn_0 ci_0 ?_
  refine am_istore_n C0 dX2_toldOn_1 rfl (by decide) rfl (lv' := [(0, .ref (am_b G a0)), (1, .int x1), (2, .int x2), (3, .int 0)]) rfl ?_
  refine am_iconst C0 dX2_toldOn_2 ci_0 ?_
  refine am_istore C0 dX2_toldOn_3 (by decide) rfl (lv' := [(0, .ref (am_b G a0)), (1, .int x1), (2, .int x2), (3, .int 0), (4, .int 0)]) rfl ?_
  exact am_sub [0, 1, 2, 3, 4] rfl (k_C_Nights_toldOn_l5 C0 hd F hret F a0 x1 x2 0 0 ha0 h)
set_option maxRecDepth 100000 in
set_option maxHeartbeats 4000000 in
theorem m_C_Nights_toldOn {l : Launch} {d : Nat} {σ : am_SS} {q : Int32} (hd : 3 ≤ d) (F : Nat) (a0 : Nat) (x1 : Int32) (x2 : Int32) (ha0 : LC.1 a0 = 6) (h : C_Nights_toldOn F a0 x1 x2 σ = some q) : am_Met l yX2_toldOn cX2_toldOn 5 (some .int) d 0 0 LC (fun b => [.ref (b a0), .int x1, .int x2]) σ (some (.int q)) σ :=
  am_metI (plainFor_of_name (by decide)) rfl (lv := fun b => [(0, .ref (b a0)), (1, .int x1), (2, .int x2)]) (fun _ => rfl) (fun _ => Nat.le_of_ble_eq_true rfl) (fun G C0 _ hret => k_C_Nights_toldOn C0 hd F hret a0 x1 x2 ha0 h)
set_option maxRecDepth 100000 in
set_option maxHeartbeats 4000000 in
theorem k_C_Nights_stand_o_p132 {G : am_T} {d0 : Nat} (C0 : am_C G cX2_stand 13 RX2 LC d0) (hd : 4 ≤ d0) {dR : Nat} (hdR : dR + 1 ≤ d0) (R_stand : Nat → Int32 → Int32 → Int32 → Int32 → Int32 → am_SS → Option Int32) (hR_stand : ∀ (y1 : Nat) (y2 : Int32) (y3 : Int32) (y4 : Int32) (y5 : Int32) (y6 : Int32) (σ : am_SS) (q : Int32), LC.1 y1 = 6 → R_stand y1 y2 y3 y4 y5 y6 σ = some q → am_Met (am_l G) yX2_stand cX2_stand 13 (some .int) dR 0 0 LC (fun b => [.ref (b y1), .int y2, .int y3, .int y4, .int y5, .int y6]) σ (some (.int q)) σ) (rec27 : Nat → Int32 → Int32 → Int32 → Int32 → Int32 → Int32 → Int32 → Int32 → am_SS → Option Int32) (F : Nat) {σ : am_SS} {q : Int32} (hret : am_retI G cX2_stand 13 q σ) (hrec27 : ∀ (a0 : Nat) (x1 : Int32) (x2 : Int32) (x3 : Int32) (x4 : Int32) (x5 : Int32) (x6 : Int32) (x7 : Int32) (x8 : Int32), LC.1 a0 = 6 → rec27 a0 x1 x2 x3 x4 x5 x6 x7 x8 σ = some q → am_K G 13 27 [(0, .ref (am_b G a0)), (1, .int x1), (2, .int x2), (3, .int x3), (4, .int x4), (5, .int x5), (6, .int x6), (7, .int x7), (8, .int x8)] [] σ) (a0 : Nat) (x1 : Int32) (x2 : Int32) (x3 : Int32) (x4 : Int32) (x5 : Int32) (x6 : Int32) (x7 : Int32) (x8 : Int32) (ha0 : LC.1 a0 = 6) (h : C_Nights_stand_o_p132 R_stand rec27 F a0 x1 x2 x3 x4 x5 x6 x7 x8 σ = some q) : am_K G 13 132 [(0, .ref (am_b G a0)), (1, .int x1), (2, .int x2), (3, .int x3), (4, .int x4), (5, .int x5), (6, .int x6), (7, .int x7), (8, .int x8)] [] σ := by
  unfold C_Nights_stand_o_p132 at h
  obtain ⟨x8_1, e_x8_1, h⟩ := am_lt h
  refine am_iinc C0 dX2_stand_132 8 rfl (by rw [ci_1]; exact e_x8_1) (by decide) rfl (lv' := [(0, .ref (am_b G a0)), (1, .int x1), (2, .int x2), (3, .int x3), (4, .int x4), (5, .int x5), (6, .int x6), (7, .int x7), (8, .int x8_1)]) rfl ?_
  refine am_goto C0 dX2_stand_135 (tgt := 27) (by decide) ?_
  exact am_sub [0, 1, 2, 3, 4, 5, 6, 7, 8] rfl (hrec27 a0 x1 x2 x3 x4 x5 x6 x7 x8_1 ha0 h)
set_option maxRecDepth 100000 in
set_option maxHeartbeats 4000000 in
theorem k_C_Nights_stand_o_p105 {G : am_T} {d0 : Nat} (C0 : am_C G cX2_stand 13 RX2 LC d0) (hd : 4 ≤ d0) {dR : Nat} (hdR : dR + 1 ≤ d0) (R_stand : Nat → Int32 → Int32 → Int32 → Int32 → Int32 → am_SS → Option Int32) (hR_stand : ∀ (y1 : Nat) (y2 : Int32) (y3 : Int32) (y4 : Int32) (y5 : Int32) (y6 : Int32) (σ : am_SS) (q : Int32), LC.1 y1 = 6 → R_stand y1 y2 y3 y4 y5 y6 σ = some q → am_Met (am_l G) yX2_stand cX2_stand 13 (some .int) dR 0 0 LC (fun b => [.ref (b y1), .int y2, .int y3, .int y4, .int y5, .int y6]) σ (some (.int q)) σ) (rec27 : Nat → Int32 → Int32 → Int32 → Int32 → Int32 → Int32 → Int32 → Int32 → am_SS → Option Int32) (F : Nat) {σ : am_SS} {q : Int32} (hret : am_retI G cX2_stand 13 q σ) (hrec27 : ∀ (a0 : Nat) (x1 : Int32) (x2 : Int32) (x3 : Int32) (x4 : Int32) (x5 : Int32) (x6 : Int32) (x7 : Int32) (x8 : Int32), LC.1 a0 = 6 → rec27 a0 x1 x2 x3 x4 x5 x6 x7 x8 σ = some q → am_K G 13 27 [(0, .ref (am_b G a0)), (1, .int x1), (2, .int x2), (3, .int x3), (4, .int x4), (5, .int x5), (6, .int x6), (7, .int x7), (8, .int x8)] [] σ) (a0 : Nat) (x1 : Int32) (x2 : Int32) (x3 : Int32) (x4 : Int32) (x5 : Int32) (x6 : Int32) (x7 : Int32) (x8 : Int32) (x9 : Int32) (x10 : Int32) (x11 : Int32) (ha0 : LC.1 a0 = 6) (h : C_Nights_stand_o_p105 R_stand rec27 F a0 x1 x2 x3 x4 x5 x6 x7 x8 x9 x10 x11 σ = some q) : am_K G 13 105 [(0, .ref (am_b G a0)), (1, .int x1), (2, .int x2), (3, .int x3), (4, .int x4), (5, .int x5), (6, .int x6), (7, .int x7), (8, .int x8), (9, .int x9), (10, .int x10), (11, .int x11)] [] σ := by
  unfold C_Nights_stand_o_p105 at h
  refine am_iload C0 dX2_stand_105 7 rfl ?_
  refine am_aload_n C0 dX2_stand_107 0 rfl ?_
  refine am_iload_n C0 dX2_stand_108 1 rfl ?_
  refine am_iload_n C0 dX2_stand_109 2 rfl ?_
  refine am_iconst C0 dX2_stand_110 ci_1 ?_
  refine am_iadd C0 dX2_stand_111 ?_
  refine am_iload_n C0 dX2_stand_112 3 rfl ?_
  refine am_iload C0 dX2_stand_113 9 rfl ?_
  refine am_ior C0 dX2_stand_115 ?_
  refine am_iload C0 dX2_stand_116 4 rfl ?_
  refine am_iload C0 dX2_stand_118 10 rfl ?_
  refine am_ior C0 dX2_stand_120 ?_
  refine am_iload C0 dX2_stand_121 5 rfl ?_
  refine am_iload C0 dX2_stand_123 11 rfl ?_
  refine am_ior C0 dX2_stand_125 ?_
  obtain ⟨q_1, h_q_1, h⟩ := am_bind h
  refine am_callS C0 (hR_stand a0 x1 (x2 + 1) (x3 ||| x9) (x4 ||| x10) (x5 ||| x11) σ _ ha0 h_q_1) mm_yX2_stand ln_RX2_54 (fun _ => rfl) hdR rfl (Nat.le_of_ble_eq_true rfl) dX2_stand_126 ?_
  refine am_iadd C0 dX2_stand_129 ?_
  obtain ⟨x7_2, e_x7_2, h⟩ := am_lt h
  refine am_top e_x7_2 ?_
  refine am_istore C0 dX2_stand_130 (by decide) rfl (lv' := [(0, .ref (am_b G a0)), (1, .int x1), (2, .int x2), (3, .int x3), (4, .int x4), (5, .int x5), (6, .int x6), (7, .int x7_2), (8, .int x8), (9, .int x9), (10, .int x10), (11, .int x11)]) rfl ?_
  exact am_sub [0, 1, 2, 3, 4, 5, 6, 7, 8] rfl (k_C_Nights_stand_o_p132 C0 hd hdR R_stand hR_stand rec27 F hret hrec27 a0 x1 x2 x3 x4 x5 x6 x7_2 x8 ha0 h)
set_option maxRecDepth 100000 in
set_option maxHeartbeats 4000000 in
theorem k_C_Nights_stand_o_p86 {G : am_T} {d0 : Nat} (C0 : am_C G cX2_stand 13 RX2 LC d0) (hd : 4 ≤ d0) {dR : Nat} (hdR : dR + 1 ≤ d0) (R_stand : Nat → Int32 → Int32 → Int32 → Int32 → Int32 → am_SS → Option Int32) (hR_stand : ∀ (y1 : Nat) (y2 : Int32) (y3 : Int32) (y4 : Int32) (y5 : Int32) (y6 : Int32) (σ : am_SS) (q : Int32), LC.1 y1 = 6 → R_stand y1 y2 y3 y4 y5 y6 σ = some q → am_Met (am_l G) yX2_stand cX2_stand 13 (some .int) dR 0 0 LC (fun b => [.ref (b y1), .int y2, .int y3, .int y4, .int y5, .int y6]) σ (some (.int q)) σ) (rec27 : Nat → Int32 → Int32 → Int32 → Int32 → Int32 → Int32 → Int32 → Int32 → am_SS → Option Int32) (F : Nat) {σ : am_SS} {q : Int32} (hret : am_retI G cX2_stand 13 q σ) (hrec27 : ∀ (a0 : Nat) (x1 : Int32) (x2 : Int32) (x3 : Int32) (x4 : Int32) (x5 : Int32) (x6 : Int32) (x7 : Int32) (x8 : Int32), LC.1 a0 = 6 → rec27 a0 x1 x2 x3 x4 x5 x6 x7 x8 σ = some q → am_K G 13 27 [(0, .ref (am_b G a0)), (1, .int x1), (2, .int x2), (3, .int x3), (4, .int x4), (5, .int x5), (6, .int x6), (7, .int x7), (8, .int x8)] [] σ) (a0 : Nat) (x1 : Int32) (x2 : Int32) (x3 : Int32) (x4 : Int32) (x5 : Int32) (x6 : Int32) (x7 : Int32) (x8 : Int32) (x9 : Int32) (x10 : Int32) (x11 : Int32) (s0 : Bool) (ha0 : LC.1 a0 = 6) (h : C_Nights_stand_o_p86 R_stand rec27 F a0 x1 x2 x3 x4 x5 x6 x7 x8 x9 x10 x11 s0 σ = some q) : am_K G 13 86 [(0, .ref (am_b G a0)), (1, .int x1), (2, .int x2), (3, .int x3), (4, .int x4), (5, .int x5), (6, .int x6), (7, .int x7), (8, .int x8), (9, .int x9), (10, .int x10), (11, .int x11)] [.int (am_bI s0)] σ := by
  unfold C_Nights_stand_o_p86 at h
  refine am_istore C0 dX2_stand_86 (by decide) rfl (lv' := [(0, .ref (am_b G a0)), (1, .int x1), (2, .int x2), (3, .int x3), (4, .int x4), (5, .int x5), (6, .int x6), (7, .int x7), (8, .int x8), (9, .int x9), (10, .int x10), (11, .int x11), (12, .int (am_bI s0))]) rfl ?_
  refine am_iload C0 dX2_stand_88 12 rfl ?_
  refine am_ifB_eq C0 dX2_stand_90 (tgt := 132) (by decide) (fun c_1 => ?_) (fun c_1 => ?_)
  · replace h := am_in h c_1
    exact am_sub [0, 1, 2, 3, 4, 5, 6, 7, 8] rfl (k_C_Nights_stand_o_p132 C0 hd hdR R_stand hR_stand rec27 F hret hrec27 a0 x1 x2 x3 x4 x5 x6 x7 x8 ha0 h)
  · replace h := am_ip h c_1
    refine am_iload C0 dX2_stand_93 6 rfl ?_
    refine am_if_eq C0 dX2_stand_95 (tgt := 105) (by decide) (fun c_2 => ?_) (fun c_2 => ?_)
    · replace h := am_ip h c_2
      exact am_sub [0, 1, 2, 3, 4, 5, 6, 7, 8, 9, 10, 11] rfl (k_C_Nights_stand_o_p105 C0 hd hdR R_stand hR_stand rec27 F hret hrec27 a0 x1 x2 x3 x4 x5 x6 x7 x8 x9 x10 x11 ha0 h)
    · replace h := am_in h c_2
      refine am_iload C0 dX2_stand_98 6 rfl ?_
      refine am_iload C0 dX2_stand_100 9 rfl ?_
      refine am_icmp_ne C0 dX2_stand_102 (tgt := 132) (by decide) (fun c_3 => ?_) (fun c_3 => ?_)
      · replace h := am_in h c_3
        exact am_sub [0, 1, 2, 3, 4, 5, 6, 7, 8] rfl (k_C_Nights_stand_o_p132 C0 hd hdR R_stand hR_stand rec27 F hret hrec27 a0 x1 x2 x3 x4 x5 x6 x7 x8 ha0 h)
      · replace h := am_ip h c_3
        exact am_sub [0, 1, 2, 3, 4, 5, 6, 7, 8, 9, 10, 11] rfl (k_C_Nights_stand_o_p105 C0 hd hdR R_stand hR_stand rec27 F hret hrec27 a0 x1 x2 x3 x4 x5 x6 x7 x8 x9 x10 x11 ha0 h)
set_option maxRecDepth 100000 in
set_option maxHeartbeats 4000000 in
theorem k_C_Nights_stand_o_p85 {G : am_T} {d0 : Nat} (C0 : am_C G cX2_stand 13 RX2 LC d0) (hd : 4 ≤ d0) {dR : Nat} (hdR : dR + 1 ≤ d0) (R_stand : Nat → Int32 → Int32 → Int32 → Int32 → Int32 → am_SS → Option Int32) (hR_stand : ∀ (y1 : Nat) (y2 : Int32) (y3 : Int32) (y4 : Int32) (y5 : Int32) (y6 : Int32) (σ : am_SS) (q : Int32), LC.1 y1 = 6 → R_stand y1 y2 y3 y4 y5 y6 σ = some q → am_Met (am_l G) yX2_stand cX2_stand 13 (some .int) dR 0 0 LC (fun b => [.ref (b y1), .int y2, .int y3, .int y4, .int y5, .int y6]) σ (some (.int q)) σ) (rec27 : Nat → Int32 → Int32 → Int32 → Int32 → Int32 → Int32 → Int32 → Int32 → am_SS → Option Int32) (F : Nat) {σ : am_SS} {q : Int32} (hret : am_retI G cX2_stand 13 q σ) (hrec27 : ∀ (a0 : Nat) (x1 : Int32) (x2 : Int32) (x3 : Int32) (x4 : Int32) (x5 : Int32) (x6 : Int32) (x7 : Int32) (x8 : Int32), LC.1 a0 = 6 → rec27 a0 x1 x2 x3 x4 x5 x6 x7 x8 σ = some q → am_K G 13 27 [(0, .ref (am_b G a0)), (1, .int x1), (2, .int x2), (3, .int x3), (4, .int x4), (5, .int x5), (6, .int x6), (7, .int x7), (8, .int x8)] [] σ) (a0 : Nat) (x1 : Int32) (x2 : Int32) (x3 : Int32) (x4 : Int32) (x5 : Int32) (x6 : Int32) (x7 : Int32) (x8 : Int32) (x9 : Int32) (x10 : Int32) (x11 : Int32) (ha0 : LC.1 a0 = 6) (h : C_Nights_stand_o_p85 R_stand rec27 F a0 x1 x2 x3 x4 x5 x6 x7 x8 x9 x10 x11 σ = some q) : am_K G 13 85 [(0, .ref (am_b G a0)), (1, .int x1), (2, .int x2), (3, .int x3), (4, .int x4), (5, .int x5), (6, .int x6), (7, .int x7), (8, .int x8), (9, .int x9), (10, .int x10), (11, .int x11)] [] σ := by
  unfold C_Nights_stand_o_p85 at h
  refine am_iconst C0 dX2_stand_85 ci_0 ?_
  exact am_sub [0, 1, 2, 3, 4, 5, 6, 7, 8, 9, 10, 11] rfl (k_C_Nights_stand_o_p86 C0 hd hdR R_stand hR_stand rec27 F hret hrec27 a0 x1 x2 x3 x4 x5 x6 x7 x8 x9 x10 x11 false ha0 h)
set_option maxRecDepth 100000 in
set_option maxHeartbeats 4000000 in
theorem k_C_Nights_stand_o_l27 {G : am_T} {d0 : Nat} (C0 : am_C G cX2_stand 13 RX2 LC d0) (hd : 4 ≤ d0) {dR : Nat} (hdR : dR + 1 ≤ d0) (R_stand : Nat → Int32 → Int32 → Int32 → Int32 → Int32 → am_SS → Option Int32) (hR_stand : ∀ (y1 : Nat) (y2 : Int32) (y3 : Int32) (y4 : Int32) (y5 : Int32) (y6 : Int32) (σ : am_SS) (q : Int32), LC.1 y1 = 6 → R_stand y1 y2 y3 y4 y5 y6 σ = some q → am_Met (am_l G) yX2_stand cX2_stand 13 (some .int) dR 0 0 LC (fun b => [.ref (b y1), .int y2, .int y3, .int y4, .int y5, .int y6]) σ (some (.int q)) σ) (F : Nat) {σ : am_SS} {q : Int32} (hret : am_retI G cX2_stand 13 q σ) : ∀ (n : Nat) (a0 : Nat) (x1 : Int32) (x2 : Int32) (x3 : Int32) (x4 : Int32) (x5 : Int32) (x6 : Int32) (x7 : Int32) (x8 : Int32) (ha0 : LC.1 a0 = 6) (h : C_Nights_stand_o_l27 R_stand F n a0 x1 x2 x3 x4 x5 x6 x7 x8 σ = some q), am_K G 13 27 [(0, .ref (am_b G a0)), (1, .int x1), (2, .int x2), (3, .int x3), (4, .int x4), (5, .int x5), (6, .int x6), (7, .int x7), (8, .int x8)] [] σ := by
  intro n
  induction n with
  | zero =>
    intro a0 x1 x2 x3 x4 x5 x6 x7 x8 ha0 h
    rw [C_Nights_stand_o_l27] at h
    cases h
  | succ n ih =>
    intro a0 x1 x2 x3 x4 x5 x6 x7 x8 ha0 h
    rw [C_Nights_stand_o_l27] at h
    refine am_iload C0 dX2_stand_27 8 rfl ?_
    refine am_iload_n C0 dX2_stand_29 1 rfl ?_
    refine am_icmp_ge C0 dX2_stand_30 (tgt := 138) (by decide) (fun c_1 => ?_) (fun c_1 => ?_)
    · replace h := am_in h c_1
      refine am_iload C0 dX2_stand_138 7 rfl ?_
      have e := Option.some.inj h
      subst e
      exact hret _ _ dX2_stand_140
    · replace h := am_ip h c_1
      refine am_iconst C0 dX2_stand_33 ci_1 ?_
      refine am_iload C0 dX2_stand_34 8 rfl ?_
      refine am_ishl C0 dX2_stand_36 ?_
      obtain ⟨x9_2, e_x9_2, h⟩ := am_lt h
      refine am_top e_x9_2 ?_
      refine am_istore C0 dX2_stand_37 (by decide) rfl (lv' := [(0, .ref (am_b G a0)), (1, .int x1), (2, .int x2), (3, .int x3), (4, .int x4), (5, .int x5), (6, .int x6), (7, .int x7), (8, .int x8), (9, .int x9_2)]) rfl ?_
      refine am_iconst C0 dX2_stand_39 ci_1 ?_
      refine am_iload_n C0 dX2_stand_40 2 rfl ?_
      refine am_iload C0 dX2_stand_41 8 rfl ?_
      refine am_iadd C0 dX2_stand_43 ?_
      refine am_ishl C0 dX2_stand_44 ?_
      obtain ⟨x10_3, e_x10_3, h⟩ := am_lt h
      refine am_top e_x10_3 ?_
      refine am_istore C0 dX2_stand_45 (by decide) rfl (lv' := [(0, .ref (am_b G a0)), (1, .int x1), (2, .int x2), (3, .int x3), (4, .int x4), (5, .int x5), (6, .int x6), (7, .int x7), (8, .int x8), (9, .int x9_2), (10, .int x10_3)]) rfl ?_
      refine am_iconst C0 dX2_stand_47 ci_1 ?_
      refine am_iload_n C0 dX2_stand_48 2 rfl ?_
      refine am_iload C0 dX2_stand_49 8 rfl ?_
      refine am_isub C0 dX2_stand_51 ?_
      refine am_bipush C0 dX2_stand_52 kb_7 ?_
      refine am_iadd C0 dX2_stand_54 ?_
      refine am_ishl C0 dX2_stand_55 ?_
      obtain ⟨x11_4, e_x11_4, h⟩ := am_lt h
      refine am_top e_x11_4 ?_
      refine am_istore C0 dX2_stand_56 (by decide) rfl (lv' := [(0, .ref (am_b G a0)), (1, .int x1), (2, .int x2), (3, .int x3), (4, .int x4), (5, .int x5), (6, .int x6), (7, .int x7), (8, .int x8), (9, .int x9_2), (10, .int x10_3), (11, .int x11_4)]) rfl ?_
      refine am_iload_n C0 dX2_stand_58 3 rfl ?_
      refine am_iload C0 dX2_stand_59 9 rfl ?_
      refine am_iand C0 dX2_stand_61 ?_
      refine am_if_ne C0 dX2_stand_62 (tgt := 85) (by decide) (fun c_5 => ?_) (fun c_5 => ?_)
      · replace h := am_in h c_5
        exact am_sub [0, 1, 2, 3, 4, 5, 6, 7, 8, 9, 10, 11] rfl (k_C_Nights_stand_o_p85 C0 hd hdR R_stand hR_stand _ F hret (fun z0 z1 z2 z3 z4 z5 z6 z7 z8 zh0 z => ih z0 z1 z2 z3 z4 z5 z6 z7 z8 zh0 z) a0 x1 x2 x3 x4 x5 x6 x7 x8 x9_2 x10_3 x11_4 ha0 h)
      · replace h := am_ip h c_5
        refine am_iload C0 dX2_stand_65 4 rfl ?_
        refine am_iload C0 dX2_stand_67 10 rfl ?_
        refine am_iand C0 dX2_stand_69 ?_
        refine am_if_ne C0 dX2_stand_70 (tgt := 85) (by decide) (fun c_6 => ?_) (fun c_6 => ?_)
        · replace h := am_in h c_6
          exact am_sub [0, 1, 2, 3, 4, 5, 6, 7, 8, 9, 10, 11] rfl (k_C_Nights_stand_o_p85 C0 hd hdR R_stand hR_stand _ F hret (fun z0 z1 z2 z3 z4 z5 z6 z7 z8 zh0 z => ih z0 z1 z2 z3 z4 z5 z6 z7 z8 zh0 z) a0 x1 x2 x3 x4 x5 x6 x7 x8 x9_2 x10_3 x11_4 ha0 h)
        · replace h := am_ip h c_6
          refine am_iload C0 dX2_stand_73 5 rfl ?_
          refine am_iload C0 dX2_stand_75 11 rfl ?_
          refine am_iand C0 dX2_stand_77 ?_
          refine am_if_ne C0 dX2_stand_78 (tgt := 85) (by decide) (fun c_7 => ?_) (fun c_7 => ?_)
          · replace h := am_in h c_7
            exact am_sub [0, 1, 2, 3, 4, 5, 6, 7, 8, 9, 10, 11] rfl (k_C_Nights_stand_o_p85 C0 hd hdR R_stand hR_stand _ F hret (fun z0 z1 z2 z3 z4 z5 z6 z7 z8 zh0 z => ih z0 z1 z2 z3 z4 z5 z6 z7 z8 zh0 z) a0 x1 x2 x3 x4 x5 x6 x7 x8 x9_2 x10_3 x11_4 ha0 h)
          · replace h := am_ip h c_7
            refine am_iconst C0 dX2_stand_81 ci_1 ?_
            refine am_goto C0 dX2_stand_82 (tgt := 86) (by decide) ?_
            exact am_sub [0, 1, 2, 3, 4, 5, 6, 7, 8, 9, 10, 11] rfl (k_C_Nights_stand_o_p86 C0 hd hdR R_stand hR_stand _ F hret (fun z0 z1 z2 z3 z4 z5 z6 z7 z8 zh0 z => ih z0 z1 z2 z3 z4 z5 z6 z7 z8 zh0 z) a0 x1 x2 x3 x4 x5 x6 x7 x8 x9_2 x10_3 x11_4 true ha0 h)
set_option maxRecDepth 100000 in
set_option maxHeartbeats 4000000 in
theorem k_C_Nights_stand_o {G : am_T} {d0 : Nat} (C0 : am_C G cX2_stand 13 RX2 LC d0) (hd : 4 ≤ d0) {dR : Nat} (hdR : dR + 1 ≤ d0) (R_stand : Nat → Int32 → Int32 → Int32 → Int32 → Int32 → am_SS → Option Int32) (hR_stand : ∀ (y1 : Nat) (y2 : Int32) (y3 : Int32) (y4 : Int32) (y5 : Int32) (y6 : Int32) (σ : am_SS) (q : Int32), LC.1 y1 = 6 → R_stand y1 y2 y3 y4 y5 y6 σ = some q → am_Met (am_l G) yX2_stand cX2_stand 13 (some .int) dR 0 0 LC (fun b => [.ref (b y1), .int y2, .int y3, .int y4, .int y5, .int y6]) σ (some (.int q)) σ) (F : Nat) {σ : am_SS} {q : Int32} (hret : am_retI G cX2_stand 13 q σ) (a0 : Nat) (x1 : Int32) (x2 : Int32) (x3 : Int32) (x4 : Int32) (x5 : Int32) (ha0 : LC.1 a0 = 6) (h : C_Nights_stand_o R_stand F a0 x1 x2 x3 x4 x5 σ = some q) : am_K G 13 0 [(0, .ref (am_b G a0)), (1, .int x1), (2, .int x2), (3, .int x3), (4, .int x4), (5, .int x5)] [] σ := by
  unfold C_Nights_stand_o at h
  refine am_iload_n C0 dX2_stand_0 2 rfl ?_
  refine am_iload_n C0 dX2_stand_1 1 rfl ?_
  refine am_icmp_ge C0 dX2_stand_2 (tgt := 11) (by decide) (fun c_1 => ?_) (fun c_1 => ?_)
  · replace h := am_in h c_1
    refine am_iconst C0 dX2_stand_11 ci_1 ?_
    have e := Option.some.inj h
    subst e
    exact hret _ _ dX2_stand_12
  · replace h := am_ip h c_1
    refine am_iload_n C0 dX2_stand_5 2 rfl ?_
    refine am_bipush C0 dX2_stand_6 kb_7 ?_
    refine am_icmp_le C0 dX2_stand_8 (tgt := 13) (by decide) (fun c_2 => ?_) (fun c_2 => ?_)
    · replace h := am_in h c_2
      refine am_aload_n C0 dX2_stand_13 0 rfl ?_
      refine am_iload_n C0 dX2_stand_14 1 rfl ?_
      refine am_iload_n C0 dX2_stand_15 2 rfl ?_
      obtain ⟨q_3, h_q_3, h⟩ := am_bind h
      refine am_callS C0 (m_C_Nights_toldOn (σ := σ) (Nat.le_refl _) F a0 x1 x2 ha0 h_q_3) mm_yX2_toldOn ln_RX2_50 (fun _ => rfl) (Nat.le_trans (by decide) hd) rfl (Nat.le_of_ble_eq_true rfl) dX2_stand_16 ?_
      refine am_istore C0 dX2_stand_19 (by decide) rfl (lv' := [(0, .ref (am_b G a0)), (1, .int x1), (2, .int x2), (3, .int x3), (4, .int x4), (5, .int x5), (6, .int q_3)]) rfl ?_
      refine am_iconst C0 dX2_stand_21 ci_0 ?_
      refine am_istore C0 dX2_stand_22 (by decide) rfl (lv' := [(0, .ref (am_b G a0)), (1, .int x1), (2, .int x2), (3, .int x3), (4, .int x4), (5, .int x5), (6, .int q_3), (7, .int 0)]) rfl ?_
      refine am_iconst C0 dX2_stand_24 ci_0 ?_
      refine am_istore C0 dX2_stand_25 (by decide) rfl (lv' := [(0, .ref (am_b G a0)), (1, .int x1), (2, .int x2), (3, .int x3), (4, .int x4), (5, .int x5), (6, .int q_3), (7, .int 0), (8, .int 0)]) rfl ?_
      exact am_sub [0, 1, 2, 3, 4, 5, 6, 7, 8] rfl (k_C_Nights_stand_o_l27 C0 hd hdR R_stand hR_stand F hret F a0 x1 x2 x3 x4 x5 q_3 0 0 ha0 h)
    · replace h := am_ip h c_2
      refine am_iconst C0 dX2_stand_11 ci_1 ?_
      have e := Option.some.inj h
      subst e
      exact hret _ _ dX2_stand_12
set_option maxRecDepth 100000 in
set_option maxHeartbeats 4000000 in
theorem m_C_Nights_stand_n {l : Launch} (F : Nat) : ∀ (n d : Nat) (hd : 4 + n ≤ d) (a0 : Nat) (x1 : Int32) (x2 : Int32) (x3 : Int32) (x4 : Int32) (x5 : Int32) (σ : am_SS) (q : Int32) (ha0 : LC.1 a0 = 6) (h : C_Nights_stand_n F n a0 x1 x2 x3 x4 x5 σ = some q), am_Met l yX2_stand cX2_stand 13 (some .int) d 0 0 LC (fun b => [.ref (b a0), .int x1, .int x2, .int x3, .int x4, .int x5]) σ (some (.int q)) σ := by
  intro n
  induction n with
  | zero =>
    intro d hd a0 x1 x2 x3 x4 x5 σ q ha0 h
    rw [C_Nights_stand_n] at h; cases h
  | succ n ih =>
    intro d hd a0 x1 x2 x3 x4 x5 σ q ha0 h
    rw [C_Nights_stand_n] at h
    refine am_metI (plainFor_of_name (by decide)) rfl (lv := fun b => [(0, .ref (b a0)), (1, .int x1), (2, .int x2), (3, .int x3), (4, .int x4), (5, .int x5)]) (fun _ => rfl) (fun _ => Nat.le_of_ble_eq_true rfl) (fun G C0 hl hret => ?_)
    refine k_C_Nights_stand_o C0 (by omega) (dR := d - 1) (by omega) (C_Nights_stand_n F n) ?_ F hret a0 x1 x2 x3 x4 x5 ha0 h
    intro a0 x1 x2 x3 x4 x5 σ q ha0 h1
    rw [hl]
    exact ih (d - 1) (by omega) a0 x1 x2 x3 x4 x5 σ q ha0 h1
set_option maxRecDepth 100000 in
set_option maxHeartbeats 4000000 in
theorem m_C_Nights_stand {l : Launch} {d : Nat} {σ : am_SS} {q : Int32} (hd : 14 ≤ d) (F : Nat) (a0 : Nat) (x1 : Int32) (x2 : Int32) (x3 : Int32) (x4 : Int32) (x5 : Int32) (ha0 : LC.1 a0 = 6) (h : C_Nights_stand F a0 x1 x2 x3 x4 x5 σ = some q) : am_Met l yX2_stand cX2_stand 13 (some .int) d 0 0 LC (fun b => [.ref (b a0), .int x1, .int x2, .int x3, .int x4, .int x5]) σ (some (.int q)) σ := m_C_Nights_stand_n F 10 d hd a0 x1 x2 x3 x4 x5 σ q ha0 h
set_option maxRecDepth 100000 in
set_option maxHeartbeats 4000000 in
theorem k_C_Past_keep_p47 {G : am_T} {d0 : Nat} (C0 : am_C G cX3_keep 4 RX3 LC d0) (hd : 3 ≤ d0) (F : Nat) {q : am_SS} (hret : am_retV G cX3_keep 4 q) (a0 : Nat) (x2 : Int32) (σ : am_SS) (ha0 : LC.1 a0 = 4) (h : C_Past_keep_p47 F a0 x2 σ = some q) : am_K G 4 47 [(0, .ref (am_b G a0)), (2, .int x2)] [] σ := by
  unfold C_Past_keep_p47 at h
  refine am_aload_n C0 dX3_keep_47 0 rfl ?_
  refine am_getR C0 (j := a0 + 2) ff_RX3_17 (loC_2_1 ha0).1 (loC_2_1 ha0).2.1 (loC_2_1 ha0).2.2.1 (loC_2_1 ha0).2.2.2 dX3_keep_48 ?_
  refine am_aload_n C0 dX3_keep_51 0 rfl ?_
  refine am_getI C0 ff_RX3_21 (loC_2_2 ha0).1 (loC_2_2 ha0).2.1 (loC_2_2 ha0).2.2.1 (loC_2_2 ha0).2.2.2 dX3_keep_52 ?_
  refine am_iload_n C0 dX3_keep_55 1 rfl ?_
  obtain ⟨σ_1, h_σ_1, h⟩ := am_bind h
  refine am_iast C0 (ltC (tgC_2_1 ha0)) (tgC_2_1 ha0) (lnC_2_1 ha0) h_σ_1 dX3_keep_56 ?_
  have e := Option.some.inj h
  subst e
  exact hret _ _ dX3_keep_57
set_option maxRecDepth 100000 in
set_option maxHeartbeats 4000000 in
theorem k_C_Past_keep {G : am_T} {d0 : Nat} (C0 : am_C G cX3_keep 4 RX3 LC d0) (hd : 3 ≤ d0) (F : Nat) {q : am_SS} (hret : am_retV G cX3_keep 4 q) (a0 : Nat) (a1 : Nat) (x2 : Int32) (σ : am_SS) (ha0 : LC.1 a0 = 4) (ha1 : LC.1 a1 = 2) (h : C_Past_keep F a0 a1 x2 σ = some q) : am_K G 4 0 [(0, .ref (am_b G a0)), (1, .ref (am_b G a1)), (2, .int x2)] [] σ := by
  unfold C_Past_keep at h
  refine am_aload_n C0 dX3_keep_0 0 rfl ?_
  refine am_aload_n C0 dX3_keep_1 0 rfl ?_
  refine am_getI C0 ff_RX3_21 (loC_2_2 ha0).1 (loC_2_2 ha0).2.1 (loC_2_2 ha0).2.2.1 (loC_2_2 ha0).2.2.2 dX3_keep_2 ?_
  refine am_iconst C0 dX3_keep_5 ci_1 ?_
  refine am_iadd C0 dX3_keep_6 ?_
  refine am_bipush C0 dX3_keep_7 kb_6 ?_
  refine am_irem C0 dX3_keep_9 nz_6 ?_
  obtain ⟨σ_1, e_σ_1, h⟩ := am_lt h
  refine am_putI C0 e_σ_1 fp_RX3_21 (loC_2_2 ha0).1 (loC_2_2 ha0).2.1 (loC_2_2 ha0).2.2.1 (loC_2_2 ha0).2.2.2 rfl rfl dX3_keep_10 ?_
  refine am_aload_n C0 dX3_keep_13 0 rfl ?_
  refine am_bipush C0 dX3_keep_14 kb_6 ?_
  refine am_aload_n C0 dX3_keep_16 0 rfl ?_
  refine am_getI C0 ff_RX3_25 (loC_2_3 ha0).1 (loC_2_3 ha0).2.1 (loC_2_3 ha0).2.2.1 (loC_2_3 ha0).2.2.2 dX3_keep_17 ?_
  refine am_iconst C0 dX3_keep_20 ci_1 ?_
  refine am_iadd C0 dX3_keep_21 ?_
  refine am_callS C0 (m_J_min (σ := σ_1) (Nat.le_refl _) 6 ((σ_1 a0 3) + 1)  rfl) mm_yJ9_min_7cf53 ln_RX3_29 (fun _ => rfl) (Nat.le_trans (by decide) hd) rfl (Nat.le_of_ble_eq_true rfl) dX3_keep_22 ?_
  obtain ⟨σ_3, e_σ_3, h⟩ := am_lt h
  refine am_putI C0 e_σ_3 fp_RX3_25 (loC_2_3 ha0).1 (loC_2_3 ha0).2.1 (loC_2_3 ha0).2.2.1 (loC_2_3 ha0).2.2.2 rfl rfl dX3_keep_25 ?_
  refine am_aload_n C0 dX3_keep_28 0 rfl ?_
  refine am_getR C0 (j := a0 + 1) ff_RX3_11 (loC_2_0 ha0).1 (loC_2_0 ha0).2.1 (loC_2_0 ha0).2.2.1 (loC_2_0 ha0).2.2.2 dX3_keep_29 ?_
  refine am_aload_n C0 dX3_keep_32 0 rfl ?_
  refine am_getI C0 ff_RX3_21 (loC_2_2 ha0).1 (loC_2_2 ha0).2.1 (loC_2_2 ha0).2.2.1 (loC_2_2 ha0).2.2.2 dX3_keep_33 ?_
  obtain ⟨hz_4, h⟩ := am_gd h
  refine am_aald C0 (j := a0 + 1 + 2 + 11 * (σ_3 a0 2).toNatClampNeg) (ltC1 (tgC_2_0 ha0)) (tgC_2_0 ha0) (lnC_2_0 ha0) hz_4 (frC (tgC_2_0 ha0) hz_4) dX3_keep_36 ?_
  refine am_astore_n C0 dX3_keep_37 rfl (by decide) rfl (lv' := [(0, .ref (am_b G a0)), (1, .ref (am_b G a1)), (2, .int x2), (3, .ref (am_b G (a0 + 1 + 2 + 11 * (σ_3 a0 2).toNatClampNeg)))]) rfl ?_
  refine am_aload_n C0 dX3_keep_38 3 rfl ?_
  refine am_ifnullR C0 dX3_keep_39 ?_
  refine am_aload_n C0 dX3_keep_42 3 rfl ?_
  refine am_aload_n C0 dX3_keep_43 1 rfl ?_
  obtain ⟨q_5, h_q_5, h⟩ := am_bind h
  refine am_callV C0 (m_C_Front_copyFrom (σ := σ_3) (Nat.le_refl _) F (a0 + 1 + 2 + 11 * (σ_3 a0 2).toNatClampNeg) a1 (frK (tgC_2_0 ha0) hz_4) ha1 h_q_5) mm_yX0_copyFrom ln_RX3_35 (As := fun b => [.ref (b a1)]) (fun _ => rfl) (fun _ => rfl) (loC_0_0 (frK (tgC_2_0 ha0) hz_4)).1 (loC_0_0 (frK (tgC_2_0 ha0) hz_4)).2.1 rfl (Nat.le_trans (by decide) hd) rfl (Nat.le_of_ble_eq_true rfl) dX3_keep_44 ?_
  exact am_sub [0, 2] rfl (k_C_Past_keep_p47 C0 hd F hret a0 x2 q_5 ha0 h)
set_option maxRecDepth 100000 in
set_option maxHeartbeats 4000000 in
theorem m_C_Past_keep {l : Launch} {d : Nat} {σ : am_SS} {q : am_SS} (hd : 3 ≤ d) (F : Nat) (a0 : Nat) (a1 : Nat) (x2 : Int32) (ha0 : LC.1 a0 = 4) (ha1 : LC.1 a1 = 2) (h : C_Past_keep F a0 a1 x2 σ = some q) : am_Met l yX3_keep cX3_keep 4 none d 0 0 LC (fun b => [.ref (b a0), .ref (b a1), .int x2]) σ none q :=
  am_metV (plainFor_of_name (by decide)) (lv := fun b => [(0, .ref (b a0)), (1, .ref (b a1)), (2, .int x2)]) (fun _ => rfl) (fun _ => Nat.le_of_ble_eq_true rfl) (fun G C0 _ hret => k_C_Past_keep C0 hd F hret a0 a1 x2 σ ha0 ha1 h)
set_option maxRecDepth 100000 in
set_option maxHeartbeats 4000000 in
theorem k_C_Table_keepFirst {G : am_T} {d0 : Nat} (C0 : am_C G cX6_keepFirst 2 RX6 LC d0) (hd : 2 ≤ d0) {q : am_SS} (hret : am_retV G cX6_keepFirst 2 q) (a0 : Nat) (x1 : Int32) (σ : am_SS) (ha0 : LC.1 a0 = 6) (h : C_Table_keepFirst a0 x1 σ = q) : am_K G 2 0 [(0, .ref (am_b G a0)), (1, .int x1)] [] σ := by
  unfold C_Table_keepFirst at h
  refine am_aload_n C0 dX6_keepFirst_0 0 rfl ?_
  refine am_iconst C0 dX6_keepFirst_1 ci_0 ?_
  refine am_aload_n C0 dX6_keepFirst_2 0 rfl ?_
  refine am_getI C0 ff_RX6_9 (loC_4_2 ha0).1 (loC_4_2 ha0).2.1 (loC_4_2 ha0).2.2.1 (loC_4_2 ha0).2.2.2 dX6_keepFirst_3 ?_
  refine am_iload_n C0 dX6_keepFirst_6 1 rfl ?_
  refine am_callS C0 (m_J_min (σ := σ) (Nat.le_refl _) (σ a0 2) x1  rfl) mm_yJ9_min_7cf53 ln_RX6_15 (fun _ => rfl) (Nat.le_trans (by decide) hd) rfl (Nat.le_of_ble_eq_true rfl) dX6_keepFirst_7 ?_
  refine am_callS C0 (m_J_max (σ := σ) (Nat.le_refl _) 0 (J_min (σ a0 2) x1)  rfl) mm_yJ9_max_7cf53 ln_RX6_21 (fun _ => rfl) (Nat.le_trans (by decide) hd) rfl (Nat.le_of_ble_eq_true rfl) dX6_keepFirst_10 ?_
  obtain ⟨σ_3, e_σ_3, h⟩ := am_lt h
  refine am_putI C0 e_σ_3 fp_RX6_9 (loC_4_2 ha0).1 (loC_4_2 ha0).2.1 (loC_4_2 ha0).2.2.1 (loC_4_2 ha0).2.2.2 rfl rfl dX6_keepFirst_13 ?_
  have e := h
  subst e
  exact hret _ _ dX6_keepFirst_16
set_option maxRecDepth 100000 in
set_option maxHeartbeats 4000000 in
theorem m_C_Table_keepFirst {l : Launch} {d : Nat} {σ : am_SS} {q : am_SS} (hd : 2 ≤ d) (a0 : Nat) (x1 : Int32) (ha0 : LC.1 a0 = 6) (h : C_Table_keepFirst a0 x1 σ = q) : am_Met l yX6_keepFirst cX6_keepFirst 2 none d 0 0 LC (fun b => [.ref (b a0), .int x1]) σ none q :=
  am_metV (plainFor_of_name (by decide)) (lv := fun b => [(0, .ref (b a0)), (1, .int x1)]) (fun _ => rfl) (fun _ => Nat.le_of_ble_eq_true rfl) (fun G C0 _ hret => k_C_Table_keepFirst C0 hd hret a0 x1 σ ha0 h)
set_option maxRecDepth 100000 in
set_option maxHeartbeats 4000000 in
theorem k_C_Past_goBack {G : am_T} {d0 : Nat} (C0 : am_C G cX3_goBack 3 RX3 LC d0) (hd : 3 ≤ d0) (F : Nat) {q : Bool × am_SS} (hret : am_retI G cX3_goBack 3 (am_bI q.1) q.2) (a0 : Nat) (a1 : Nat) (σ : am_SS) (ha0 : LC.1 a0 = 4) (ha1 : LC.1 a1 = 7) (h : C_Past_goBack F a0 a1 σ = some q) : am_K G 3 0 [(0, .ref (am_b G a0)), (1, .ref (am_b G a1))] [] σ := by
  unfold C_Past_goBack at h
  refine am_aload_n C0 dX3_goBack_0 0 rfl ?_
  refine am_getR C0 (j := a0 + 1) ff_RX3_11 (loC_2_0 ha0).1 (loC_2_0 ha0).2.1 (loC_2_0 ha0).2.2.1 (loC_2_0 ha0).2.2.2 dX3_goBack_1 ?_
  refine am_aload_n C0 dX3_goBack_4 0 rfl ?_
  refine am_getI C0 ff_RX3_21 (loC_2_2 ha0).1 (loC_2_2 ha0).2.1 (loC_2_2 ha0).2.2.1 (loC_2_2 ha0).2.2.2 dX3_goBack_5 ?_
  obtain ⟨hz_1, h⟩ := am_gd h
  refine am_aald C0 (j := a0 + 1 + 2 + 11 * (σ a0 2).toNatClampNeg) (ltC1 (tgC_2_0 ha0)) (tgC_2_0 ha0) (lnC_2_0 ha0) hz_1 (frC (tgC_2_0 ha0) hz_1) dX3_goBack_8 ?_
  refine am_astore_n C0 dX3_goBack_9 rfl (by decide) rfl (lv' := [(0, .ref (am_b G a0)), (1, .ref (am_b G a1)), (2, .ref (am_b G (a0 + 1 + 2 + 11 * (σ a0 2).toNatClampNeg)))]) rfl ?_
  refine am_aload_n C0 dX3_goBack_10 0 rfl ?_
  refine am_getI C0 ff_RX3_25 (loC_2_3 ha0).1 (loC_2_3 ha0).2.1 (loC_2_3 ha0).2.2.1 (loC_2_3 ha0).2.2.2 dX3_goBack_11 ?_
  refine am_if_eq C0 dX3_goBack_14 (tgt := 21) (by decide) (fun c_2 => ?_) (fun c_2 => ?_)
  · replace h := am_ip h c_2
    refine am_iconst C0 dX3_goBack_21 ci_0 ?_
    have e := Option.some.inj h
    subst e
    exact hret _ _ dX3_goBack_22
  · replace h := am_in h c_2
    refine am_aload_n C0 dX3_goBack_17 2 rfl ?_
    refine am_ifnonnullR C0 dX3_goBack_18 (tgt := 23) (by decide) ?_
    refine am_aload_n C0 dX3_goBack_23 1 rfl ?_
    refine am_getR C0 (j := a1 + 1) ff_RX3_39 (loC_5_0 ha1).1 (loC_5_0 ha1).2.1 (loC_5_0 ha1).2.2.1 (loC_5_0 ha1).2.2.2 dX3_goBack_24 ?_
    refine am_aload_n C0 dX3_goBack_27 2 rfl ?_
    obtain ⟨q_3, h_q_3, h⟩ := am_bind h
    refine am_callV C0 (m_C_Front_copyFrom (σ := σ) (Nat.le_refl _) F (a1 + 1) (a0 + 1 + 2 + 11 * (σ a0 2).toNatClampNeg) (tgC_5_0 ha1) (frK (tgC_2_0 ha0) hz_1) h_q_3) mm_yX0_copyFrom ln_RX3_35 (As := fun b => [.ref (b (a0 + 1 + 2 + 11 * (σ a0 2).toNatClampNeg))]) (fun _ => rfl) (fun _ => rfl) (loC_0_0 (tgC_5_0 ha1)).1 (loC_0_0 (tgC_5_0 ha1)).2.1 rfl (Nat.le_trans (by decide) hd) rfl (Nat.le_of_ble_eq_true rfl) dX3_goBack_28 ?_
    refine am_aload_n C0 dX3_goBack_31 1 rfl ?_
    refine am_getR C0 (j := a1 + 12) ff_RX3_45 (loC_5_1 ha1).1 (loC_5_1 ha1).2.1 (loC_5_1 ha1).2.2.1 (loC_5_1 ha1).2.2.2 dX3_goBack_32 ?_
    refine am_aload_n C0 dX3_goBack_35 0 rfl ?_
    refine am_getR C0 (j := a0 + 2) ff_RX3_17 (loC_2_1 ha0).1 (loC_2_1 ha0).2.1 (loC_2_1 ha0).2.2.1 (loC_2_1 ha0).2.2.2 dX3_goBack_36 ?_
    refine am_aload_n C0 dX3_goBack_39 0 rfl ?_
    refine am_getI C0 ff_RX3_21 (loC_2_2 ha0).1 (loC_2_2 ha0).2.1 (loC_2_2 ha0).2.2.1 (loC_2_2 ha0).2.2.2 dX3_goBack_40 ?_
    obtain ⟨t_4, h_t_4, h⟩ := am_bind h
    refine am_iald C0 (ltC (tgC_2_1 ha0)) (tgC_2_1 ha0) (lnC_2_1 ha0) h_t_4 dX3_goBack_43 ?_
    obtain ⟨q_5, h_q_5, h⟩ := am_lt h
    refine am_callV C0 (m_C_Table_keepFirst (σ := q_3) (Nat.le_refl _) (a1 + 12) t_4 (tgC_5_1 ha1) h_q_5) mm_yX6_keepFirst ln_RX3_49 (As := fun b => [.int t_4]) (fun _ => rfl) (fun _ => rfl) (loC_4_0 (tgC_5_1 ha1)).1 (loC_4_0 (tgC_5_1 ha1)).2.1 rfl (Nat.le_trans (by decide) hd) rfl (Nat.le_of_ble_eq_true rfl) dX3_goBack_44 ?_
    refine am_aload_n C0 dX3_goBack_47 0 rfl ?_
    refine am_aload_n C0 dX3_goBack_48 0 rfl ?_
    refine am_getI C0 ff_RX3_21 (loC_2_2 ha0).1 (loC_2_2 ha0).2.1 (loC_2_2 ha0).2.2.1 (loC_2_2 ha0).2.2.2 dX3_goBack_49 ?_
    refine am_bipush C0 dX3_goBack_52 kb_6 ?_
    refine am_iadd C0 dX3_goBack_54 ?_
    refine am_iconst C0 dX3_goBack_55 ci_1 ?_
    refine am_isub C0 dX3_goBack_56 ?_
    refine am_bipush C0 dX3_goBack_57 kb_6 ?_
    refine am_irem C0 dX3_goBack_59 nz_6 ?_
    obtain ⟨σ_6, e_σ_6, h⟩ := am_lt h
    refine am_putI C0 e_σ_6 fp_RX3_21 (loC_2_2 ha0).1 (loC_2_2 ha0).2.1 (loC_2_2 ha0).2.2.1 (loC_2_2 ha0).2.2.2 rfl rfl dX3_goBack_60 ?_
    refine am_aload_n C0 dX3_goBack_63 0 rfl ?_
    refine am_dup C0 dX3_goBack_64 rfl ?_
    refine am_getI C0 ff_RX3_25 (loC_2_3 ha0).1 (loC_2_3 ha0).2.1 (loC_2_3 ha0).2.2.1 (loC_2_3 ha0).2.2.2 dX3_goBack_65 ?_
    refine am_iconst C0 dX3_goBack_68 ci_1 ?_
    refine am_isub C0 dX3_goBack_69 ?_
    obtain ⟨σ_7, e_σ_7, h⟩ := am_lt h
    refine am_putI C0 e_σ_7 fp_RX3_25 (loC_2_3 ha0).1 (loC_2_3 ha0).2.1 (loC_2_3 ha0).2.2.1 (loC_2_3 ha0).2.2.2 rfl rfl dX3_goBack_70 ?_
    refine am_iconst C0 dX3_goBack_73 ci_1 ?_
    have e := Option.some.inj h
    subst e
    exact hret _ _ dX3_goBack_74
set_option maxRecDepth 100000 in
set_option maxHeartbeats 4000000 in
theorem m_C_Past_goBack {l : Launch} {d : Nat} {σ : am_SS} {q : Bool × am_SS} (hd : 3 ≤ d) (F : Nat) (a0 : Nat) (a1 : Nat) (ha0 : LC.1 a0 = 4) (ha1 : LC.1 a1 = 7) (h : C_Past_goBack F a0 a1 σ = some q) : am_Met l yX3_goBack cX3_goBack 3 (some .boolean) d 0 0 LC (fun b => [.ref (b a0), .ref (b a1)]) σ (some (.int (am_bI q.1))) q.2 :=
  am_metI (plainFor_of_name (by decide)) (am_bI_nr _) (lv := fun b => [(0, .ref (b a0)), (1, .ref (b a1))]) (fun _ => rfl) (fun _ => Nat.le_of_ble_eq_true rfl) (fun G C0 _ hret => k_C_Past_goBack C0 hd F hret a0 a1 σ ha0 ha1 h)
set_option maxRecDepth 100000 in
set_option maxHeartbeats 4000000 in
theorem k_C_Past_forget {G : am_T} {d0 : Nat} (C0 : am_C G cX3_forget 1 RX3 LC d0) (hd : 1 ≤ d0) {q : am_SS} (hret : am_retV G cX3_forget 1 q) (a0 : Nat) (σ : am_SS) (ha0 : LC.1 a0 = 4) (h : C_Past_forget a0 σ = q) : am_K G 1 0 [(0, .ref (am_b G a0))] [] σ := by
  unfold C_Past_forget at h
  refine am_aload_n C0 dX3_forget_0 0 rfl ?_
  refine am_iconst C0 dX3_forget_1 ci_0 ?_
  obtain ⟨σ_1, e_σ_1, h⟩ := am_lt h
  refine am_putI C0 e_σ_1 fp_RX3_25 (loC_2_3 ha0).1 (loC_2_3 ha0).2.1 (loC_2_3 ha0).2.2.1 (loC_2_3 ha0).2.2.2 rfl rfl dX3_forget_2 ?_
  have e := h
  subst e
  exact hret _ _ dX3_forget_5
set_option maxRecDepth 100000 in
set_option maxHeartbeats 4000000 in
theorem m_C_Past_forget {l : Launch} {d : Nat} {σ : am_SS} {q : am_SS} (hd : 1 ≤ d) (a0 : Nat) (ha0 : LC.1 a0 = 4) (h : C_Past_forget a0 σ = q) : am_Met l yX3_forget cX3_forget 1 none d 0 0 LC (fun b => [.ref (b a0)]) σ none q :=
  am_metV (plainFor_of_name (by decide)) (lv := fun b => [(0, .ref (b a0))]) (fun _ => rfl) (fun _ => Nat.le_of_ble_eq_true rfl) (fun G C0 _ hret => k_C_Past_forget C0 hd hret a0 σ ha0 h)
set_option maxRecDepth 100000 in
set_option maxHeartbeats 4000000 in
theorem k_C_Reader_put_l3 {G : am_T} {d0 : Nat} (C0 : am_C G cX4_put 3 RX4 LC d0) (hd : 1 ≤ d0) (F : Nat) {q : am_SS} (hret : am_retV G cX4_put 3 q) : ∀ (n : Nat) (a0 : Nat) (x1 : Int32) (x2 : Int32) (σ : am_SS) (ha0 : LC.1 a0 = 5) (h : C_Reader_put_l3 F n a0 x1 x2 σ = some q), am_K G 3 3 [(0, .ref (am_b G a0)), (1, .int x1), (2, .int x2)] [] σ := by
  intro n
  induction n with
  | zero =>
    intro a0 x1 x2 σ ha0 h
    rw [C_Reader_put_l3] at h
    cases h
  | succ n ih =>
    intro a0 x1 x2 σ ha0 h
    rw [C_Reader_put_l3] at h
    refine am_iload_n C0 dX4_put_3 2 rfl ?_
    refine am_if_lt C0 dX4_put_4 (tgt := 49) (by decide) (fun c_1 => ?_) (fun c_1 => ?_)
    · replace h := am_ip h c_1
      have e := Option.some.inj h
      subst e
      exact hret _ _ dX4_put_49
    · replace h := am_in h c_1
      refine am_aload_n C0 dX4_put_7 0 rfl ?_
      refine am_getI C0 ff_RX4_15 (loC_3_1 ha0).1 (loC_3_1 ha0).2.1 (loC_3_1 ha0).2.2.1 (loC_3_1 ha0).2.2.2 dX4_put_8 ?_
      refine am_sipush C0 dX4_put_11 cs_400 ?_
      refine am_icmp_ge C0 dX4_put_14 (tgt := 49) (by decide) (fun c_2 => ?_) (fun c_2 => ?_)
      · replace h := am_in h c_2
        have e := Option.some.inj h
        subst e
        exact hret _ _ dX4_put_49
      · replace h := am_ip h c_2
        refine am_aload_n C0 dX4_put_17 0 rfl ?_
        refine am_getR C0 (j := a0 + 1) ff_RX4_9 (loC_3_0 ha0).1 (loC_3_0 ha0).2.1 (loC_3_0 ha0).2.2.1 (loC_3_0 ha0).2.2.2 dX4_put_18 ?_
        refine am_aload_n C0 dX4_put_21 0 rfl ?_
        refine am_getI C0 ff_RX4_15 (loC_3_1 ha0).1 (loC_3_1 ha0).2.1 (loC_3_1 ha0).2.2.1 (loC_3_1 ha0).2.2.2 dX4_put_22 ?_
        refine am_iload_n C0 dX4_put_25 1 rfl ?_
        refine am_iload_n C0 dX4_put_26 2 rfl ?_
        refine am_iushr C0 dX4_put_27 ?_
        refine am_sipush C0 dX4_put_28 cs_255 ?_
        refine am_iand C0 dX4_put_31 ?_
        obtain ⟨σ_3, h_σ_3, h⟩ := am_bind h
        refine am_iast C0 (ltC (tgC_3_0 ha0)) (tgC_3_0 ha0) (lnC_3_0 ha0) h_σ_3 dX4_put_32 ?_
        refine am_aload_n C0 dX4_put_33 0 rfl ?_
        refine am_dup C0 dX4_put_34 rfl ?_
        refine am_getI C0 ff_RX4_15 (loC_3_1 ha0).1 (loC_3_1 ha0).2.1 (loC_3_1 ha0).2.2.1 (loC_3_1 ha0).2.2.2 dX4_put_35 ?_
        refine am_iconst C0 dX4_put_38 ci_1 ?_
        refine am_iadd C0 dX4_put_39 ?_
        obtain ⟨σ_4, e_σ_4, h⟩ := am_lt h
        refine am_putI C0 e_σ_4 fp_RX4_15 (loC_3_1 ha0).1 (loC_3_1 ha0).2.1 (loC_3_1 ha0).2.2.1 (loC_3_1 ha0).2.2.2 rfl rfl dX4_put_40 ?_
        obtain ⟨x2_5, e_x2_5, h⟩ := am_lt h
        refine am_iinc C0 dX4_put_43 2 rfl (by rw [ci_m8]; exact e_x2_5) (by decide) rfl (lv' := [(0, .ref (am_b G a0)), (1, .int x1), (2, .int x2_5)]) rfl ?_
        refine am_goto C0 dX4_put_46 (tgt := 3) (by decide) ?_
        exact am_sub [0, 1, 2] rfl (ih a0 x1 x2_5 σ_4 ha0 h)
set_option maxRecDepth 100000 in
set_option maxHeartbeats 4000000 in
theorem k_C_Reader_put {G : am_T} {d0 : Nat} (C0 : am_C G cX4_put 3 RX4 LC d0) (hd : 1 ≤ d0) (F : Nat) {q : am_SS} (hret : am_retV G cX4_put 3 q) (a0 : Nat) (x1 : Int32) (σ : am_SS) (ha0 : LC.1 a0 = 5) (h : C_Reader_put F a0 x1 σ = some q) : am_K G 3 0 [(0, .ref (am_b G a0)), (1, .int x1)] [] σ := by
  unfold C_Reader_put at h
  refine am_bipush C0 dX4_put_0 kb_24 ?_
  refine am_istore_n C0 dX4_put_2 rfl (by decide) rfl (lv' := [(0, .ref (am_b G a0)), (1, .int x1), (2, .int 24)]) rfl ?_
  exact am_sub [0, 1, 2] rfl (k_C_Reader_put_l3 C0 hd F hret F a0 x1 24 σ ha0 h)
set_option maxRecDepth 100000 in
set_option maxHeartbeats 4000000 in
theorem m_C_Reader_put {l : Launch} {d : Nat} {σ : am_SS} {q : am_SS} (hd : 1 ≤ d) (F : Nat) (a0 : Nat) (x1 : Int32) (ha0 : LC.1 a0 = 5) (h : C_Reader_put F a0 x1 σ = some q) : am_Met l yX4_put cX4_put 3 none d 0 0 LC (fun b => [.ref (b a0), .int x1]) σ none q :=
  am_metV (plainFor_of_name (by decide)) (lv := fun b => [(0, .ref (b a0)), (1, .int x1)]) (fun _ => rfl) (fun _ => Nat.le_of_ble_eq_true rfl) (fun G C0 _ hret => k_C_Reader_put C0 hd F hret a0 x1 σ ha0 h)
set_option maxRecDepth 100000 in
set_option maxHeartbeats 4000000 in
theorem k_C_Reader_kindOf_p40 {G : am_T} {d0 : Nat} (C0 : am_C G cX4_kindOf 1 RX4 LC d0) (hd : 1 ≤ d0) {σ0 : am_SS} {q : Int32} (hret : am_retI G cX4_kindOf 1 q σ0) (x0 : Int32) (h : C_Reader_kindOf_p40 x0 = q) : am_K G 1 40 [(0, .int x0)] [] σ0 := by
  unfold C_Reader_kindOf_p40 at h
  refine am_iload_n C0 dX4_kindOf_40 0 rfl ?_
  refine am_bipush C0 dX4_kindOf_41 kb_48 ?_
  refine am_icmp_lt C0 dX4_kindOf_43 (tgt := 56) (by decide) (fun c_1 => ?_) (fun c_1 => ?_)
  · replace h := am_ip h c_1
    refine am_iconst C0 dX4_kindOf_56 ci_4 ?_
    have e := h
    subst e
    exact hret _ _ dX4_kindOf_57
  · replace h := am_in h c_1
    refine am_iload_n C0 dX4_kindOf_46 0 rfl ?_
    refine am_bipush C0 dX4_kindOf_47 kb_57 ?_
    refine am_icmp_gt C0 dX4_kindOf_49 (tgt := 56) (by decide) (fun c_2 => ?_) (fun c_2 => ?_)
    · replace h := am_ip h c_2
      refine am_iconst C0 dX4_kindOf_56 ci_4 ?_
      have e := h
      subst e
      exact hret _ _ dX4_kindOf_57
    · replace h := am_in h c_2
      refine am_iconst C0 dX4_kindOf_52 ci_3 ?_
      refine am_goto C0 dX4_kindOf_53 (tgt := 57) (by decide) ?_
      have e := h
      subst e
      exact hret _ _ dX4_kindOf_57
set_option maxRecDepth 100000 in
set_option maxHeartbeats 4000000 in
theorem k_C_Reader_kindOf_p26 {G : am_T} {d0 : Nat} (C0 : am_C G cX4_kindOf 1 RX4 LC d0) (hd : 1 ≤ d0) {σ0 : am_SS} {q : Int32} (hret : am_retI G cX4_kindOf 1 q σ0) (x0 : Int32) (h : C_Reader_kindOf_p26 x0 = q) : am_K G 1 26 [(0, .int x0)] [] σ0 := by
  unfold C_Reader_kindOf_p26 at h
  refine am_iload_n C0 dX4_kindOf_26 0 rfl ?_
  refine am_bipush C0 dX4_kindOf_27 kb_65 ?_
  refine am_icmp_lt C0 dX4_kindOf_29 (tgt := 40) (by decide) (fun c_1 => ?_) (fun c_1 => ?_)
  · replace h := am_ip h c_1
    exact am_sub [0] rfl (k_C_Reader_kindOf_p40 C0 hd hret x0  h)
  · replace h := am_in h c_1
    refine am_iload_n C0 dX4_kindOf_32 0 rfl ?_
    refine am_bipush C0 dX4_kindOf_33 kb_90 ?_
    refine am_icmp_gt C0 dX4_kindOf_35 (tgt := 40) (by decide) (fun c_2 => ?_) (fun c_2 => ?_)
    · replace h := am_ip h c_2
      exact am_sub [0] rfl (k_C_Reader_kindOf_p40 C0 hd hret x0  h)
    · replace h := am_in h c_2
      refine am_iconst C0 dX4_kindOf_38 ci_2 ?_
      have e := h
      subst e
      exact hret _ _ dX4_kindOf_39
set_option maxRecDepth 100000 in
set_option maxHeartbeats 4000000 in
theorem k_C_Reader_kindOf {G : am_T} {d0 : Nat} (C0 : am_C G cX4_kindOf 1 RX4 LC d0) (hd : 1 ≤ d0) {σ0 : am_SS} {q : Int32} (hret : am_retI G cX4_kindOf 1 q σ0) (x0 : Int32) (h : C_Reader_kindOf x0 = q) : am_K G 1 0 [(0, .int x0)] [] σ0 := by
  unfold C_Reader_kindOf at h
  refine am_iload_n C0 dX4_kindOf_0 0 rfl ?_
  refine am_bipush C0 dX4_kindOf_1 kb_32 ?_
  refine am_icmp_eq C0 dX4_kindOf_3 (tgt := 12) (by decide) (fun c_1 => ?_) (fun c_1 => ?_)
  · replace h := am_ip h c_1
    refine am_iconst C0 dX4_kindOf_12 ci_1 ?_
    have e := h
    subst e
    exact hret _ _ dX4_kindOf_13
  · replace h := am_in h c_1
    refine am_iload_n C0 dX4_kindOf_6 0 rfl ?_
    refine am_bipush C0 dX4_kindOf_7 kb_10 ?_
    refine am_icmp_ne C0 dX4_kindOf_9 (tgt := 14) (by decide) (fun c_2 => ?_) (fun c_2 => ?_)
    · replace h := am_in h c_2
      refine am_iload_n C0 dX4_kindOf_14 0 rfl ?_
      refine am_bipush C0 dX4_kindOf_15 kb_97 ?_
      refine am_icmp_lt C0 dX4_kindOf_17 (tgt := 26) (by decide) (fun c_3 => ?_) (fun c_3 => ?_)
      · replace h := am_ip h c_3
        exact am_sub [0] rfl (k_C_Reader_kindOf_p26 C0 hd hret x0  h)
      · replace h := am_in h c_3
        refine am_iload_n C0 dX4_kindOf_20 0 rfl ?_
        refine am_bipush C0 dX4_kindOf_21 kb_122 ?_
        refine am_icmp_le C0 dX4_kindOf_23 (tgt := 38) (by decide) (fun c_4 => ?_) (fun c_4 => ?_)
        · replace h := am_in h c_4
          refine am_iconst C0 dX4_kindOf_38 ci_2 ?_
          have e := h
          subst e
          exact hret _ _ dX4_kindOf_39
        · replace h := am_ip h c_4
          exact am_sub [0] rfl (k_C_Reader_kindOf_p26 C0 hd hret x0  h)
    · replace h := am_ip h c_2
      refine am_iconst C0 dX4_kindOf_12 ci_1 ?_
      have e := h
      subst e
      exact hret _ _ dX4_kindOf_13
set_option maxRecDepth 100000 in
set_option maxHeartbeats 4000000 in
theorem m_C_Reader_kindOf {l : Launch} {d : Nat} {σ : am_SS} {q : Int32} (hd : 1 ≤ d) (x0 : Int32) (h : C_Reader_kindOf x0 = q) : am_Met l yX4_kindOf cX4_kindOf 1 (some .int) d 0 0 LC (fun b => [.int x0]) σ (some (.int q)) σ :=
  am_metI (plainFor_of_name (by decide)) rfl (lv := fun b => [(0, .int x0)]) (fun _ => rfl) (fun _ => Nat.le_of_ble_eq_true rfl) (fun G C0 _ hret => k_C_Reader_kindOf C0 hd hret x0  h)
set_option maxRecDepth 100000 in
set_option maxHeartbeats 4000000 in
theorem k_C_Reader_behind_l2 {G : am_T} {d0 : Nat} (C0 : am_C G cX4_behind 4 RX4 LC d0) (hd : 2 ≤ d0) (F : Nat) {σ : am_SS} {q : Int32} (hret : am_retI G cX4_behind 4 q σ) : ∀ (n : Nat) (a0 : Nat) (x2 : Int32) (x3 : Int32) (ha0 : LC.1 a0 = 5) (h : C_Reader_behind_l2 F n a0 x2 x3 σ = some q), am_K G 4 2 [(0, .ref (am_b G a0)), (2, .int x2), (3, .int x3)] [] σ := by
  intro n
  induction n with
  | zero =>
    intro a0 x2 x3 ha0 h
    rw [C_Reader_behind_l2] at h
    cases h
  | succ n ih =>
    intro a0 x2 x3 ha0 h
    rw [C_Reader_behind_l2] at h
    refine am_iload_n C0 dX4_behind_2 2 rfl ?_
    refine am_aload_n C0 dX4_behind_3 0 rfl ?_
    refine am_getI C0 ff_RX4_15 (loC_3_1 ha0).1 (loC_3_1 ha0).2.1 (loC_3_1 ha0).2.2.1 (loC_3_1 ha0).2.2.2 dX4_behind_4 ?_
    refine am_icmp_ge C0 dX4_behind_7 (tgt := 36) (by decide) (fun c_1 => ?_) (fun c_1 => ?_)
    · replace h := am_in h c_1
      refine am_iload_n C0 dX4_behind_36 2 rfl ?_
      have e := Option.some.inj h
      subst e
      exact hret _ _ dX4_behind_37
    · replace h := am_ip h c_1
      refine am_iload_n C0 dX4_behind_10 2 rfl ?_
      refine am_sipush C0 dX4_behind_11 cs_400 ?_
      refine am_icmp_ge C0 dX4_behind_14 (tgt := 36) (by decide) (fun c_2 => ?_) (fun c_2 => ?_)
      · replace h := am_in h c_2
        refine am_iload_n C0 dX4_behind_36 2 rfl ?_
        have e := Option.some.inj h
        subst e
        exact hret _ _ dX4_behind_37
      · replace h := am_ip h c_2
        refine am_aload_n C0 dX4_behind_17 0 rfl ?_
        refine am_getR C0 (j := a0 + 1) ff_RX4_9 (loC_3_0 ha0).1 (loC_3_0 ha0).2.1 (loC_3_0 ha0).2.2.1 (loC_3_0 ha0).2.2.2 dX4_behind_18 ?_
        refine am_iload_n C0 dX4_behind_21 2 rfl ?_
        obtain ⟨t_3, h_t_3, h⟩ := am_bind h
        refine am_iald C0 (ltC (tgC_3_0 ha0)) (tgC_3_0 ha0) (lnC_3_0 ha0) h_t_3 dX4_behind_22 ?_
        refine am_callS C0 (m_C_Reader_kindOf (σ := σ) (Nat.le_refl _) t_3  rfl) mm_yX4_kindOf ln_RX4_56 (fun _ => rfl) (Nat.le_trans (by decide) hd) rfl (Nat.le_of_ble_eq_true rfl) dX4_behind_23 ?_
        refine am_iload_n C0 dX4_behind_26 1 rfl ?_
        refine am_icmp_ne C0 dX4_behind_27 (tgt := 36) (by decide) (fun c_5 => ?_) (fun c_5 => ?_)
        · replace h := am_in h c_5
          refine am_iload_n C0 dX4_behind_36 2 rfl ?_
          have e := Option.some.inj h
          subst e
          exact hret _ _ dX4_behind_37
        · replace h := am_ip h c_5
          obtain ⟨x3_6, e_x3_6, h⟩ := am_lt h
          refine am_iinc C0 dX4_behind_30 2 rfl (by rw [ci_1]; exact e_x3_6) (by decide) rfl (lv' := [(0, .ref (am_b G a0)), (2, .int x2), (3, .int x3_6)]) rfl ?_
          refine am_goto C0 dX4_behind_33 (tgt := 2) (by decide) ?_
          exact am_sub [0, 1, 2] rfl (ih a0 x2 x3_6 ha0 h)
set_option maxRecDepth 100000 in
set_option maxHeartbeats 4000000 in
theorem k_C_Reader_behind {G : am_T} {d0 : Nat} (C0 : am_C G cX4_behind 4 RX4 LC d0) (hd : 2 ≤ d0) (F : Nat) {σ : am_SS} {q : Int32} (hret : am_retI G cX4_behind 4 q σ) (a0 : Nat) (x1 : Int32) (x2 : Int32) (ha0 : LC.1 a0 = 5) (h : C_Reader_behind F a0 x1 x2 σ = some q) : am_K G 4 0 [(0, .ref (am_b G a0)), (1, .int x1), (2, .int x2)] [] σ := by
  unfold C_Reader_behind at h
  refine am_iload_n C0 dX4_behind_0 1 rfl ?_
  refine am_istore_n C0 dX4_behind_1 rfl (by decide) rfl (lv' := [(0, .ref (am_b G a0)), (1, .int x1), (2, .int x2), (3, .int x1)]) rfl ?_
  exact am_sub [0, 2, 3] rfl (k_C_Reader_behind_l2 C0 hd F hret F a0 x2 x1 ha0 h)
set_option maxRecDepth 100000 in
set_option maxHeartbeats 4000000 in
theorem m_C_Reader_behind {l : Launch} {d : Nat} {σ : am_SS} {q : Int32} (hd : 2 ≤ d) (F : Nat) (a0 : Nat) (x1 : Int32) (x2 : Int32) (ha0 : LC.1 a0 = 5) (h : C_Reader_behind F a0 x1 x2 σ = some q) : am_Met l yX4_behind cX4_behind 4 (some .int) d 0 0 LC (fun b => [.ref (b a0), .int x1, .int x2]) σ (some (.int q)) σ :=
  am_metI (plainFor_of_name (by decide)) rfl (lv := fun b => [(0, .ref (b a0)), (1, .int x1), (2, .int x2)]) (fun _ => rfl) (fun _ => Nat.le_of_ble_eq_true rfl) (fun G C0 _ hret => k_C_Reader_behind C0 hd F hret a0 x1 x2 ha0 h)
set_option maxRecDepth 100000 in
set_option maxHeartbeats 4000000 in
theorem k_C_Reader_keyword_p102 {G : am_T} {d0 : Nat} (C0 : am_C G cX4_keyword 8 RX4 LC d0) (hd : 8 ≤ d0) (rec18 : Nat → Int32 → Int32 → Int32 → Int32 → Bool → Int32 → am_SS → Option Int32) (F : Nat) {σ : am_SS} {q : Int32} (hret : am_retI G cX4_keyword 8 q σ) (hrec18 : ∀ (a0 : Nat) (x1 : Int32) (x2 : Int32) (x3 : Int32) (x4 : Int32) (x5 : Bool) (x6 : Int32), LC.1 a0 = 5 → rec18 a0 x1 x2 x3 x4 x5 x6 σ = some q → am_K G 8 18 [(0, .ref (am_b G a0)), (1, .int x1), (2, .int x2), (3, .int x3), (4, .int x4), (5, .int (am_bI x5)), (6, .int x6)] [] σ) (a0 : Nat) (x1 : Int32) (x2 : Int32) (x3 : Int32) (x4 : Int32) (x5 : Bool) (x6 : Int32) (ha0 : LC.1 a0 = 5) (h : C_Reader_keyword_p102 rec18 F a0 x1 x2 x3 x4 x5 x6 σ = some q) : am_K G 8 102 [(0, .ref (am_b G a0)), (1, .int x1), (2, .int x2), (3, .int x3), (4, .int x4), (5, .int (am_bI x5)), (6, .int x6)] [] σ := by
  unfold C_Reader_keyword_p102 at h
  obtain ⟨x6_1, e_x6_1, h⟩ := am_lt h
  refine am_iinc C0 dX4_keyword_102 6 rfl (by rw [ci_1]; exact e_x6_1) (by decide) rfl (lv' := [(0, .ref (am_b G a0)), (1, .int x1), (2, .int x2), (3, .int x3), (4, .int x4), (5, .int (am_bI x5)), (6, .int x6_1)]) rfl ?_
  refine am_goto C0 dX4_keyword_105 (tgt := 18) (by decide) ?_
  exact am_sub [0, 1, 2, 3, 4, 5, 6] rfl (hrec18 a0 x1 x2 x3 x4 x5 x6_1 ha0 h)
set_option maxRecDepth 100000 in
set_option maxHeartbeats 4000000 in
theorem k_C_Reader_keyword_p93 {G : am_T} {d0 : Nat} (C0 : am_C G cX4_keyword 8 RX4 LC d0) (hd : 8 ≤ d0) (rec18 : Nat → Int32 → Int32 → Int32 → Int32 → Bool → Int32 → am_SS → Option Int32) (F : Nat) {σ : am_SS} {q : Int32} (hret : am_retI G cX4_keyword 8 q σ) (hrec18 : ∀ (a0 : Nat) (x1 : Int32) (x2 : Int32) (x3 : Int32) (x4 : Int32) (x5 : Bool) (x6 : Int32), LC.1 a0 = 5 → rec18 a0 x1 x2 x3 x4 x5 x6 σ = some q → am_K G 8 18 [(0, .ref (am_b G a0)), (1, .int x1), (2, .int x2), (3, .int x3), (4, .int x4), (5, .int (am_bI x5)), (6, .int x6)] [] σ) (a0 : Nat) (x1 : Int32) (x2 : Int32) (x3 : Int32) (x6 : Int32) (ha0 : LC.1 a0 = 5) (h : C_Reader_keyword_p93 rec18 F a0 x1 x2 x3 x6 σ = some q) : am_K G 8 93 [(0, .ref (am_b G a0)), (1, .int x1), (2, .int x2), (3, .int x3), (6, .int x6)] [] σ := by
  unfold C_Reader_keyword_p93 at h
  obtain ⟨x3_1, e_x3_1, h⟩ := am_lt h
  refine am_iinc C0 dX4_keyword_93 3 rfl (by rw [ci_1]; exact e_x3_1) (by decide) rfl (lv' := [(0, .ref (am_b G a0)), (1, .int x1), (2, .int x2), (3, .int x3_1), (6, .int x6)]) rfl ?_
  refine am_iload_n C0 dX4_keyword_96 1 rfl ?_
  refine am_istore C0 dX4_keyword_97 (by decide) rfl (lv' := [(0, .ref (am_b G a0)), (1, .int x1), (2, .int x2), (3, .int x3_1), (6, .int x6), (4, .int x1)]) rfl ?_
  refine am_iconst C0 dX4_keyword_99 ci_1 ?_
  refine am_istore C0 dX4_keyword_100 (by decide) rfl (lv' := [(0, .ref (am_b G a0)), (1, .int x1), (2, .int x2), (3, .int x3_1), (6, .int x6), (4, .int x1), (5, .int 1)]) rfl ?_
  exact am_sub [0, 1, 2, 3, 5, 6, 4] rfl (k_C_Reader_keyword_p102 C0 hd rec18 F hret hrec18 a0 x1 x2 x3_1 x1 true x6 ha0 h)
set_option maxRecDepth 100000 in
set_option maxHeartbeats 4000000 in
theorem k_C_Reader_keyword_p72 {G : am_T} {d0 : Nat} (C0 : am_C G cX4_keyword 8 RX4 LC d0) (hd : 8 ≤ d0) (rec18 : Nat → Int32 → Int32 → Int32 → Int32 → Bool → Int32 → am_SS → Option Int32) (F : Nat) {σ : am_SS} {q : Int32} (hret : am_retI G cX4_keyword 8 q σ) (hrec18 : ∀ (a0 : Nat) (x1 : Int32) (x2 : Int32) (x3 : Int32) (x4 : Int32) (x5 : Bool) (x6 : Int32), LC.1 a0 = 5 → rec18 a0 x1 x2 x3 x4 x5 x6 σ = some q → am_K G 8 18 [(0, .ref (am_b G a0)), (1, .int x1), (2, .int x2), (3, .int x3), (4, .int x4), (5, .int (am_bI x5)), (6, .int x6)] [] σ) (a0 : Nat) (x1 : Int32) (x2 : Int32) (x3 : Int32) (x4 : Int32) (x6 : Int32) (s0 : Bool) (ha0 : LC.1 a0 = 5) (h : C_Reader_keyword_p72 rec18 F a0 x1 x2 x3 x4 x6 s0 σ = some q) : am_K G 8 72 [(0, .ref (am_b G a0)), (1, .int x1), (2, .int x2), (3, .int x3), (4, .int x4), (6, .int x6)] [.int (am_bI s0)] σ := by
  unfold C_Reader_keyword_p72 at h
  refine am_istore C0 dX4_keyword_72 (by decide) rfl (lv' := [(0, .ref (am_b G a0)), (1, .int x1), (2, .int x2), (3, .int x3), (4, .int x4), (6, .int x6), (5, .int (am_bI s0))]) rfl ?_
  obtain ⟨x4_1, e_x4_1, h⟩ := am_lt h
  refine am_iinc C0 dX4_keyword_74 4 rfl (by rw [ci_1]; exact e_x4_1) (by decide) rfl (lv' := [(0, .ref (am_b G a0)), (1, .int x1), (2, .int x2), (3, .int x3), (4, .int x4_1), (6, .int x6), (5, .int (am_bI s0))]) rfl ?_
  refine am_goto C0 dX4_keyword_77 (tgt := 102) (by decide) ?_
  exact am_sub [0, 1, 2, 3, 4, 6, 5] rfl (k_C_Reader_keyword_p102 C0 hd rec18 F hret hrec18 a0 x1 x2 x3 x4_1 s0 x6 ha0 h)
set_option maxRecDepth 100000 in
set_option maxHeartbeats 4000000 in
theorem k_C_Reader_keyword_p71 {G : am_T} {d0 : Nat} (C0 : am_C G cX4_keyword 8 RX4 LC d0) (hd : 8 ≤ d0) (rec18 : Nat → Int32 → Int32 → Int32 → Int32 → Bool → Int32 → am_SS → Option Int32) (F : Nat) {σ : am_SS} {q : Int32} (hret : am_retI G cX4_keyword 8 q σ) (hrec18 : ∀ (a0 : Nat) (x1 : Int32) (x2 : Int32) (x3 : Int32) (x4 : Int32) (x5 : Bool) (x6 : Int32), LC.1 a0 = 5 → rec18 a0 x1 x2 x3 x4 x5 x6 σ = some q → am_K G 8 18 [(0, .ref (am_b G a0)), (1, .int x1), (2, .int x2), (3, .int x3), (4, .int x4), (5, .int (am_bI x5)), (6, .int x6)] [] σ) (a0 : Nat) (x1 : Int32) (x2 : Int32) (x3 : Int32) (x4 : Int32) (x6 : Int32) (ha0 : LC.1 a0 = 5) (h : C_Reader_keyword_p71 rec18 F a0 x1 x2 x3 x4 x6 σ = some q) : am_K G 8 71 [(0, .ref (am_b G a0)), (1, .int x1), (2, .int x2), (3, .int x3), (4, .int x4), (6, .int x6)] [] σ := by
  unfold C_Reader_keyword_p71 at h
  refine am_iconst C0 dX4_keyword_71 ci_0 ?_
  exact am_sub [0, 1, 2, 3, 4, 5] rfl (k_C_Reader_keyword_p72 C0 hd rec18 F hret hrec18 a0 x1 x2 x3 x4 x6 false ha0 h)
set_option maxRecDepth 100000 in
set_option maxHeartbeats 4000000 in
theorem k_C_Reader_keyword_l18 {G : am_T} {d0 : Nat} (C0 : am_C G cX4_keyword 8 RX4 LC d0) (hd : 8 ≤ d0) (F : Nat) {σ : am_SS} {q : Int32} (hret : am_retI G cX4_keyword 8 q σ) : ∀ (n : Nat) (a0 : Nat) (x1 : Int32) (x2 : Int32) (x3 : Int32) (x4 : Int32) (x5 : Bool) (x6 : Int32) (ha0 : LC.1 a0 = 5) (h : C_Reader_keyword_l18 F n a0 x1 x2 x3 x4 x5 x6 σ = some q), am_K G 8 18 [(0, .ref (am_b G a0)), (1, .int x1), (2, .int x2), (3, .int x3), (4, .int x4), (5, .int (am_bI x5)), (6, .int x6)] [] σ := by
  intro n
  induction n with
  | zero =>
    intro a0 x1 x2 x3 x4 x5 x6 ha0 h
    rw [C_Reader_keyword_l18] at h
    cases h
  | succ n ih =>
    intro a0 x1 x2 x3 x4 x5 x6 ha0 h
    rw [C_Reader_keyword_l18] at h
    refine am_iload C0 dX4_keyword_18 6 rfl ?_
    refine am_ldcS C0 dX4_keyword_20 (fun qs_1 h_qs_1 => ?_)
    refine am_strlen C0 h_qs_1 ln_RX4_72 (Nat.le_trans (by decide) hd) (Nat.le_of_ble_eq_true rfl) dX4_keyword_22 ?_
    refine am_icmp_ge C0 dX4_keyword_25 (tgt := 108) (by decide) (fun c_2 => ?_) (fun c_2 => ?_)
    · replace h := am_in h c_2
      refine am_iconst C0 dX4_keyword_108 ci_m1 ?_
      have e := Option.some.inj h
      subst e
      exact hret _ _ dX4_keyword_109
    · replace h := am_ip h c_2
      refine am_ldcS C0 dX4_keyword_28 (fun qs_3 h_qs_3 => ?_)
      refine am_iload C0 dX4_keyword_30 6 rfl ?_
      obtain ⟨t_4, h_t_4, h⟩ := am_bind h
      refine am_charAt C0 h_qs_3 ln_RX4_77 h_t_4 (Nat.le_trans (by decide) hd) (Nat.le_of_ble_eq_true rfl) dX4_keyword_32 ?_
      refine am_istore C0 dX4_keyword_35 (by decide) rfl (lv' := [(0, .ref (am_b G a0)), (1, .int x1), (2, .int x2), (3, .int x3), (4, .int x4), (5, .int (am_bI x5)), (6, .int x6), (7, .int t_4)]) rfl ?_
      refine am_iload C0 dX4_keyword_37 7 rfl ?_
      refine am_bipush C0 dX4_keyword_39 kb_32 ?_
      refine am_icmp_eq C0 dX4_keyword_41 (tgt := 80) (by decide) (fun c_5 => ?_) (fun c_5 => ?_)
      · replace h := am_ip h c_5
        refine am_iload C0 dX4_keyword_80 5 rfl ?_
        refine am_ifB_eq C0 dX4_keyword_82 (tgt := 93) (by decide) (fun c_6 => ?_) (fun c_6 => ?_)
        · replace h := am_in h c_6
          exact am_sub [0, 1, 2, 3, 6] rfl (k_C_Reader_keyword_p93 C0 hd _ F hret (fun z0 z1 z2 z3 z4 z5 z6 zh0 z => ih z0 z1 z2 z3 z4 z5 z6 zh0 z) a0 x1 x2 x3 x6 ha0 h)
        · replace h := am_ip h c_6
          refine am_iload C0 dX4_keyword_85 4 rfl ?_
          refine am_iload_n C0 dX4_keyword_87 2 rfl ?_
          refine am_icmp_ne C0 dX4_keyword_88 (tgt := 93) (by decide) (fun c_7 => ?_) (fun c_7 => ?_)
          · replace h := am_in h c_7
            exact am_sub [0, 1, 2, 3, 6] rfl (k_C_Reader_keyword_p93 C0 hd _ F hret (fun z0 z1 z2 z3 z4 z5 z6 zh0 z => ih z0 z1 z2 z3 z4 z5 z6 zh0 z) a0 x1 x2 x3 x6 ha0 h)
          · replace h := am_ip h c_7
            refine am_iload_n C0 dX4_keyword_91 3 rfl ?_
            have e := Option.some.inj h
            subst e
            exact hret _ _ dX4_keyword_92
      · replace h := am_in h c_5
        refine am_iload C0 dX4_keyword_44 5 rfl ?_
        refine am_ifB_eq C0 dX4_keyword_46 (tgt := 71) (by decide) (fun c_8 => ?_) (fun c_8 => ?_)
        · replace h := am_in h c_8
          exact am_sub [0, 1, 2, 3, 4, 6] rfl (k_C_Reader_keyword_p71 C0 hd _ F hret (fun z0 z1 z2 z3 z4 z5 z6 zh0 z => ih z0 z1 z2 z3 z4 z5 z6 zh0 z) a0 x1 x2 x3 x4 x6 ha0 h)
        · replace h := am_ip h c_8
          refine am_iload C0 dX4_keyword_49 4 rfl ?_
          refine am_iload_n C0 dX4_keyword_51 2 rfl ?_
          refine am_icmp_ge C0 dX4_keyword_52 (tgt := 71) (by decide) (fun c_9 => ?_) (fun c_9 => ?_)
          · replace h := am_in h c_9
            exact am_sub [0, 1, 2, 3, 4, 6] rfl (k_C_Reader_keyword_p71 C0 hd _ F hret (fun z0 z1 z2 z3 z4 z5 z6 zh0 z => ih z0 z1 z2 z3 z4 z5 z6 zh0 z) a0 x1 x2 x3 x4 x6 ha0 h)
          · replace h := am_ip h c_9
            refine am_aload_n C0 dX4_keyword_55 0 rfl ?_
            refine am_getR C0 (j := a0 + 1) ff_RX4_9 (loC_3_0 ha0).1 (loC_3_0 ha0).2.1 (loC_3_0 ha0).2.2.1 (loC_3_0 ha0).2.2.2 dX4_keyword_56 ?_
            refine am_iload C0 dX4_keyword_59 4 rfl ?_
            obtain ⟨t_10, h_t_10, h⟩ := am_bind h
            refine am_iald C0 (ltC (tgC_3_0 ha0)) (tgC_3_0 ha0) (lnC_3_0 ha0) h_t_10 dX4_keyword_61 ?_
            refine am_iload C0 dX4_keyword_62 7 rfl ?_
            refine am_icmp_ne C0 dX4_keyword_64 (tgt := 71) (by decide) (fun c_11 => ?_) (fun c_11 => ?_)
            · replace h := am_in h c_11
              exact am_sub [0, 1, 2, 3, 4, 6] rfl (k_C_Reader_keyword_p71 C0 hd _ F hret (fun z0 z1 z2 z3 z4 z5 z6 zh0 z => ih z0 z1 z2 z3 z4 z5 z6 zh0 z) a0 x1 x2 x3 x4 x6 ha0 h)
            · replace h := am_ip h c_11
              refine am_iconst C0 dX4_keyword_67 ci_1 ?_
              refine am_goto C0 dX4_keyword_68 (tgt := 72) (by decide) ?_
              exact am_sub [0, 1, 2, 3, 4, 6] rfl (k_C_Reader_keyword_p72 C0 hd _ F hret (fun z0 z1 z2 z3 z4 z5 z6 zh0 z => ih z0 z1 z2 z3 z4 z5 z6 zh0 z) a0 x1 x2 x3 x4 x6 true ha0 h)
set_option maxRecDepth 100000 in
set_option maxHeartbeats 4000000 in
theorem k_C_Reader_keyword {G : am_T} {d0 : Nat} (C0 : am_C G cX4_keyword 8 RX4 LC d0) (hd : 8 ≤ d0) (F : Nat) {σ : am_SS} {q : Int32} (hret : am_retI G cX4_keyword 8 q σ) (a0 : Nat) (x1 : Int32) (ha0 : LC.1 a0 = 5) (h : C_Reader_keyword F a0 x1 σ = some q) : am_K G 8 0 [(0, .ref (am_b G a0)), (1, .int x1)] [] σ := by
  unfold C_Reader_keyword at h
  refine am_aload_n C0 dX4_keyword_0 0 rfl ?_
  refine am_iload_n C0 dX4_keyword_1 1 rfl ?_
  refine am_iconst C0 dX4_keyword_2 ci_2 ?_
  obtain ⟨q_1, h_q_1, h⟩ := am_bind h
  refine am_callV C0 (m_C_Reader_behind (σ := σ) (Nat.le_refl _) F a0 x1 2 ha0 h_q_1) mm_yX4_behind ln_RX4_66 (As := fun b => [.int x1, .int 2]) (fun _ => rfl) (fun _ => rfl) (loC_3_0 ha0).1 (loC_3_0 ha0).2.1 rfl (Nat.le_trans (by decide) hd) rfl (Nat.le_of_ble_eq_true rfl) dX4_keyword_3 ?_
  refine am_istore_n C0 dX4_keyword_6 rfl (by decide) rfl (lv' := [(0, .ref (am_b G a0)), (1, .int x1), (2, .int q_1)]) rfl ?_
  refine am_iconst C0 dX4_keyword_7 ci_0 ?_
  refine am_istore_n C0 dX4_keyword_8 rfl (by decide) rfl (lv' := [(0, .ref (am_b G a0)), (1, .int x1), (2, .int q_1), (3, .int 0)]) rfl ?_
  refine am_iload_n C0 dX4_keyword_9 1 rfl ?_
  refine am_istore C0 dX4_keyword_10 (by decide) rfl (lv' := [(0, .ref (am_b G a0)), (1, .int x1), (2, .int q_1), (3, .int 0), (4, .int x1)]) rfl ?_
  refine am_iconst C0 dX4_keyword_12 ci_1 ?_
  refine am_istore C0 dX4_keyword_13 (by decide) rfl (lv' := [(0, .ref (am_b G a0)), (1, .int x1), (2, .int q_1), (3, .int 0), (4, .int x1), (5, .int 1)]) rfl ?_
  refine am_iconst C0 dX4_keyword_15 ci_0 ?_
  refine am_istore C0 dX4_keyword_16 (by decide) rfl (lv' := [(0, .ref (am_b G a0)), (1, .int x1), (2, .int q_1), (3, .int 0), (4, .int x1), (5, .int 1), (6, .int 0)]) rfl ?_
  exact am_sub [0, 1, 2, 3, 4, 5, 6] rfl (k_C_Reader_keyword_l18 C0 hd F hret F a0 x1 q_1 0 x1 true 0 ha0 h)
set_option maxRecDepth 100000 in
set_option maxHeartbeats 4000000 in
theorem m_C_Reader_keyword {l : Launch} {d : Nat} {σ : am_SS} {q : Int32} (hd : 8 ≤ d) (F : Nat) (a0 : Nat) (x1 : Int32) (ha0 : LC.1 a0 = 5) (h : C_Reader_keyword F a0 x1 σ = some q) : am_Met l yX4_keyword cX4_keyword 8 (some .int) d 0 0 LC (fun b => [.ref (b a0), .int x1]) σ (some (.int q)) σ :=
  am_metI (plainFor_of_name (by decide)) rfl (lv := fun b => [(0, .ref (b a0)), (1, .int x1)]) (fun _ => rfl) (fun _ => Nat.le_of_ble_eq_true rfl) (fun G C0 _ hret => k_C_Reader_keyword C0 hd F hret a0 x1 ha0 h)
set_option maxRecDepth 100000 in
set_option maxHeartbeats 4000000 in
theorem k_C_Reader_number_p48 {G : am_T} {d0 : Nat} (C0 : am_C G cX4_number 5 RX4 LC d0) (hd : 3 ≤ d0) (F : Nat) {σ : am_SS} {q : Int32} (hret : am_retI G cX4_number 5 q σ) (x1 : Int32) (x2 : Int32) (x3 : Int32) (h : C_Reader_number_p48 F x1 x2 x3 σ = some q) : am_K G 5 48 [(1, .int x1), (2, .int x2), (3, .int x3)] [] σ := by
  unfold C_Reader_number_p48 at h
  refine am_iload_n C0 dX4_number_48 1 rfl ?_
  refine am_iload_n C0 dX4_number_49 0 rfl ?_
  refine am_isub C0 dX4_number_50 ?_
  refine am_iconst C0 dX4_number_51 ci_4 ?_
  refine am_icmp_le C0 dX4_number_52 (tgt := 59) (by decide) (fun c_1 => ?_) (fun c_1 => ?_)
  · replace h := am_in h c_1
    refine am_iload_n C0 dX4_number_59 2 rfl ?_
    have e := Option.some.inj h
    subst e
    exact hret _ _ dX4_number_60
  · replace h := am_ip h c_1
    refine am_iconst C0 dX4_number_55 ci_m1 ?_
    refine am_goto C0 dX4_number_56 (tgt := 60) (by decide) ?_
    have e := Option.some.inj h
    subst e
    exact hret _ _ dX4_number_60
set_option maxRecDepth 100000 in
set_option maxHeartbeats 4000000 in
theorem k_C_Reader_number_l12 {G : am_T} {d0 : Nat} (C0 : am_C G cX4_number 5 RX4 LC d0) (hd : 3 ≤ d0) (F : Nat) {σ : am_SS} {q : Int32} (hret : am_retI G cX4_number 5 q σ) : ∀ (n : Nat) (a0 : Nat) (x1 : Int32) (x2 : Int32) (x3 : Int32) (x4 : Int32) (ha0 : LC.1 a0 = 5) (h : C_Reader_number_l12 F n a0 x1 x2 x3 x4 σ = some q), am_K G 5 12 [(0, .ref (am_b G a0)), (1, .int x1), (2, .int x2), (3, .int x3), (4, .int x4)] [] σ := by
  intro n
  induction n with
  | zero =>
    intro a0 x1 x2 x3 x4 ha0 h
    rw [C_Reader_number_l12] at h
    cases h
  | succ n ih =>
    intro a0 x1 x2 x3 x4 ha0 h
    rw [C_Reader_number_l12] at h
    refine am_iload C0 dX4_number_12 4 rfl ?_
    refine am_iload_n C0 dX4_number_14 2 rfl ?_
    refine am_icmp_ge C0 dX4_number_15 (tgt := 48) (by decide) (fun c_1 => ?_) (fun c_1 => ?_)
    · replace h := am_in h c_1
      exact am_sub [1, 2, 3] rfl (k_C_Reader_number_p48 C0 hd F hret x1 x2 x3  h)
    · replace h := am_ip h c_1
      refine am_iload C0 dX4_number_18 4 rfl ?_
      refine am_iload_n C0 dX4_number_20 1 rfl ?_
      refine am_iconst C0 dX4_number_21 ci_4 ?_
      refine am_iadd C0 dX4_number_22 ?_
      refine am_icmp_ge C0 dX4_number_23 (tgt := 48) (by decide) (fun c_2 => ?_) (fun c_2 => ?_)
      · replace h := am_in h c_2
        exact am_sub [1, 2, 3] rfl (k_C_Reader_number_p48 C0 hd F hret x1 x2 x3  h)
      · replace h := am_ip h c_2
        refine am_iload_n C0 dX4_number_26 3 rfl ?_
        refine am_bipush C0 dX4_number_27 kb_10 ?_
        refine am_imul C0 dX4_number_29 ?_
        refine am_aload_n C0 dX4_number_30 0 rfl ?_
        refine am_getR C0 (j := a0 + 1) ff_RX4_9 (loC_3_0 ha0).1 (loC_3_0 ha0).2.1 (loC_3_0 ha0).2.2.1 (loC_3_0 ha0).2.2.2 dX4_number_31 ?_
        refine am_iload C0 dX4_number_34 4 rfl ?_
        obtain ⟨t_3, h_t_3, h⟩ := am_bind h
        refine am_iald C0 (ltC (tgC_3_0 ha0)) (tgC_3_0 ha0) (lnC_3_0 ha0) h_t_3 dX4_number_36 ?_
        refine am_iadd C0 dX4_number_37 ?_
        refine am_bipush C0 dX4_number_38 kb_48 ?_
        refine am_isub C0 dX4_number_40 ?_
        obtain ⟨x3_4, e_x3_4, h⟩ := am_lt h
        refine am_top e_x3_4 ?_
        refine am_istore_n C0 dX4_number_41 rfl (by decide) rfl (lv' := [(0, .ref (am_b G a0)), (1, .int x1), (2, .int x2), (3, .int x3_4), (4, .int x4)]) rfl ?_
        obtain ⟨x4_5, e_x4_5, h⟩ := am_lt h
        refine am_iinc C0 dX4_number_42 4 rfl (by rw [ci_1]; exact e_x4_5) (by decide) rfl (lv' := [(0, .ref (am_b G a0)), (1, .int x1), (2, .int x2), (3, .int x3_4), (4, .int x4_5)]) rfl ?_
        refine am_goto C0 dX4_number_45 (tgt := 12) (by decide) ?_
        exact am_sub [0, 1, 2, 3, 4] rfl (ih a0 x1 x2 x3_4 x4_5 ha0 h)
set_option maxRecDepth 100000 in
set_option maxHeartbeats 4000000 in
theorem k_C_Reader_number {G : am_T} {d0 : Nat} (C0 : am_C G cX4_number 5 RX4 LC d0) (hd : 3 ≤ d0) (F : Nat) {σ : am_SS} {q : Int32} (hret : am_retI G cX4_number 5 q σ) (a0 : Nat) (x1 : Int32) (ha0 : LC.1 a0 = 5) (h : C_Reader_number F a0 x1 σ = some q) : am_K G 5 0 [(0, .ref (am_b G a0)), (1, .int x1)] [] σ := by
  unfold C_Reader_number at h
  refine am_aload_n C0 dX4_number_0 0 rfl ?_
  refine am_iload_n C0 dX4_number_1 1 rfl ?_
  refine am_iconst C0 dX4_number_2 ci_3 ?_
  obtain ⟨q_1, h_q_1, h⟩ := am_bind h
  refine am_callV C0 (m_C_Reader_behind (σ := σ) (Nat.le_refl _) F a0 x1 3 ha0 h_q_1) mm_yX4_behind ln_RX4_66 (As := fun b => [.int x1, .int 3]) (fun _ => rfl) (fun _ => rfl) (loC_3_0 ha0).1 (loC_3_0 ha0).2.1 rfl (Nat.le_trans (by decide) hd) rfl (Nat.le_of_ble_eq_true rfl) dX4_number_3 ?_
  refine am_istore_n C0 dX4_number_6 rfl (by decide) rfl (lv' := [(0, .ref (am_b G a0)), (1, .int x1), (2, .int q_1)]) rfl ?_
  refine am_iconst C0 dX4_number_7 ci_0 ?_
  refine am_istore_n C0 dX4_number_8 rfl (by decide) rfl (lv' := [(0, .ref (am_b G a0)), (1, .int x1), (2, .int q_1), (3, .int 0)]) rfl ?_
  refine am_iload_n C0 dX4_number_9 1 rfl ?_
  refine am_istore C0 dX4_number_10 (by decide) rfl (lv' := [(0, .ref (am_b G a0)), (1, .int x1), (2, .int q_1), (3, .int 0), (4, .int x1)]) rfl ?_
  exact am_sub [0, 1, 2, 3, 4] rfl (k_C_Reader_number_l12 C0 hd F hret F a0 x1 q_1 0 x1 ha0 h)
set_option maxRecDepth 100000 in
set_option maxHeartbeats 4000000 in
theorem m_C_Reader_number {l : Launch} {d : Nat} {σ : am_SS} {q : Int32} (hd : 3 ≤ d) (F : Nat) (a0 : Nat) (x1 : Int32) (ha0 : LC.1 a0 = 5) (h : C_Reader_number F a0 x1 σ = some q) : am_Met l yX4_number cX4_number 5 (some .int) d 0 0 LC (fun b => [.ref (b a0), .int x1]) σ (some (.int q)) σ :=
  am_metI (plainFor_of_name (by decide)) rfl (lv := fun b => [(0, .ref (b a0)), (1, .int x1)]) (fun _ => rfl) (fun _ => Nat.le_of_ble_eq_true rfl) (fun G C0 _ hret => k_C_Reader_number C0 hd F hret a0 x1 ha0 h)
set_option maxRecDepth 100000 in
set_option maxHeartbeats 4000000 in
theorem k_C_Reader_cut_p157 {G : am_T} {d0 : Nat} (C0 : am_C G cX4_cut 6 RX4 LC d0) (hd : 9 ≤ d0) (F : Nat) {q : am_SS} (hret : am_retV G cX4_cut 6 q) (a0 : Nat) (x1 : Int32) (σ : am_SS) (ha0 : LC.1 a0 = 5) (h : C_Reader_cut_p157 F a0 x1 σ = some q) : am_K G 6 157 [(0, .ref (am_b G a0)), (1, .int x1)] [] σ := by
  unfold C_Reader_cut_p157 at h
  refine am_aload_n C0 dX4_cut_157 0 rfl ?_
  refine am_getR C0 (j := a0 + 2) ff_RX4_19 (loC_3_2 ha0).1 (loC_3_2 ha0).2.1 (loC_3_2 ha0).2.2.1 (loC_3_2 ha0).2.2.2 dX4_cut_158 ?_
  refine am_iload_n C0 dX4_cut_161 1 rfl ?_
  refine am_aload_n C0 dX4_cut_162 0 rfl ?_
  refine am_getI C0 ff_RX4_15 (loC_3_1 ha0).1 (loC_3_1 ha0).2.1 (loC_3_1 ha0).2.2.1 (loC_3_1 ha0).2.2.2 dX4_cut_163 ?_
  obtain ⟨σ_1, h_σ_1, h⟩ := am_bind h
  refine am_iast C0 (ltC (tgC_3_2 ha0)) (tgC_3_2 ha0) (lnC_3_2 ha0) h_σ_1 dX4_cut_166 ?_
  refine am_aload_n C0 dX4_cut_167 0 rfl ?_
  refine am_getR C0 (j := a0 + 3) ff_RX4_22 (loC_3_3 ha0).1 (loC_3_3 ha0).2.1 (loC_3_3 ha0).2.2.1 (loC_3_3 ha0).2.2.2 dX4_cut_168 ?_
  refine am_iload_n C0 dX4_cut_171 1 rfl ?_
  refine am_iconst C0 dX4_cut_172 ci_0 ?_
  obtain ⟨σ_2, h_σ_2, h⟩ := am_bind h
  refine am_iast C0 (ltC (tgC_3_3 ha0)) (tgC_3_3 ha0) (lnC_3_3 ha0) h_σ_2 dX4_cut_173 ?_
  refine am_aload_n C0 dX4_cut_174 0 rfl ?_
  refine am_getR C0 (j := a0 + 4) ff_RX4_25 (loC_3_4 ha0).1 (loC_3_4 ha0).2.1 (loC_3_4 ha0).2.2.1 (loC_3_4 ha0).2.2.2 dX4_cut_175 ?_
  refine am_iload_n C0 dX4_cut_178 1 rfl ?_
  refine am_iconst C0 dX4_cut_179 ci_m1 ?_
  obtain ⟨σ_3, h_σ_3, h⟩ := am_bind h
  refine am_iast C0 (ltC (tgC_3_4 ha0)) (tgC_3_4 ha0) (lnC_3_4 ha0) h_σ_3 dX4_cut_180 ?_
  have e := Option.some.inj h
  subst e
  exact hret _ _ dX4_cut_181
set_option maxRecDepth 100000 in
set_option maxHeartbeats 4000000 in
theorem k_C_Reader_cut_p148 {G : am_T} {d0 : Nat} (C0 : am_C G cX4_cut 6 RX4 LC d0) (hd : 9 ≤ d0) (rec21 : Nat → Int32 → Int32 → Int32 → am_SS → Option am_SS) (F : Nat) {q : am_SS} (hret : am_retV G cX4_cut 6 q) (hrec21 : ∀ (a0 : Nat) (x1 : Int32) (x2 : Int32) (x3 : Int32) (σ : am_SS), LC.1 a0 = 5 → rec21 a0 x1 x2 x3 σ = some q → am_K G 6 21 [(0, .ref (am_b G a0)), (1, .int x1), (2, .int x2), (3, .int x3)] [] σ) (a0 : Nat) (x1 : Int32) (x3 : Int32) (x4 : Int32) (σ : am_SS) (ha0 : LC.1 a0 = 5) (h : C_Reader_cut_p148 rec21 F a0 x1 x3 x4 σ = some q) : am_K G 6 148 [(0, .ref (am_b G a0)), (1, .int x1), (3, .int x3), (4, .int x4)] [] σ := by
  unfold C_Reader_cut_p148 at h
  refine am_iload C0 dX4_cut_148 3 rfl ?_
  refine am_istore_n C0 dX4_cut_150 rfl (by decide) rfl (lv' := [(0, .ref (am_b G a0)), (1, .int x1), (3, .int x3), (4, .int x4), (2, .int x4)]) rfl ?_
  obtain ⟨x3_1, e_x3_1, h⟩ := am_lt h
  refine am_iinc C0 dX4_cut_151 2 rfl (by rw [ci_1]; exact e_x3_1) (by decide) rfl (lv' := [(0, .ref (am_b G a0)), (1, .int x1), (3, .int x3_1), (4, .int x4), (2, .int x4)]) rfl ?_
  refine am_goto C0 dX4_cut_154 (tgt := 21) (by decide) ?_
  exact am_sub [0, 1, 4, 2] rfl (hrec21 a0 x1 x4 x3_1 σ ha0 h)
set_option maxRecDepth 100000 in
set_option maxHeartbeats 4000000 in
theorem k_C_Reader_cut_p144 {G : am_T} {d0 : Nat} (C0 : am_C G cX4_cut 6 RX4 LC d0) (hd : 9 ≤ d0) (rec21 : Nat → Int32 → Int32 → Int32 → am_SS → Option am_SS) (F : Nat) {q : am_SS} (hret : am_retV G cX4_cut 6 q) (hrec21 : ∀ (a0 : Nat) (x1 : Int32) (x2 : Int32) (x3 : Int32) (σ : am_SS), LC.1 a0 = 5 → rec21 a0 x1 x2 x3 σ = some q → am_K G 6 21 [(0, .ref (am_b G a0)), (1, .int x1), (2, .int x2), (3, .int x3)] [] σ) (a0 : Nat) (x1 : Int32) (x3 : Int32) (x4 : Int32) (t0 : Nat) (s1 : Int32) (s2 : Int32) (σ : am_SS) (ha0 : LC.1 a0 = 5) (ht0 : LC.1 t0 = 0) (h : C_Reader_cut_p144 rec21 F a0 x1 x3 x4 t0 s1 s2 σ = some q) : am_K G 6 144 [(0, .ref (am_b G a0)), (1, .int x1), (3, .int x3), (4, .int x4)] [.int s2, .int s1, .ref (am_b G t0)] σ := by
  unfold C_Reader_cut_p144 at h
  obtain ⟨σ_1, h_σ_1, h⟩ := am_bind h
  refine am_iast C0 (ltC ht0) ht0 rfl h_σ_1 dX4_cut_144 ?_
  obtain ⟨x1_2, e_x1_2, h⟩ := am_lt h
  refine am_iinc C0 dX4_cut_145 1 rfl (by rw [ci_1]; exact e_x1_2) (by decide) rfl (lv' := [(0, .ref (am_b G a0)), (1, .int x1_2), (3, .int x3), (4, .int x4)]) rfl ?_
  exact am_sub [0, 1, 2, 3] rfl (k_C_Reader_cut_p148 C0 hd rec21 F hret hrec21 a0 x1_2 x3 x4 σ_1 ha0 h)
set_option maxRecDepth 100000 in
set_option maxHeartbeats 4000000 in
theorem k_C_Reader_cut_p70 {G : am_T} {d0 : Nat} (C0 : am_C G cX4_cut 6 RX4 LC d0) (hd : 9 ≤ d0) (rec21 : Nat → Int32 → Int32 → Int32 → am_SS → Option am_SS) (F : Nat) {q : am_SS} (hret : am_retV G cX4_cut 6 q) (hrec21 : ∀ (a0 : Nat) (x1 : Int32) (x2 : Int32) (x3 : Int32) (σ : am_SS), LC.1 a0 = 5 → rec21 a0 x1 x2 x3 σ = some q → am_K G 6 21 [(0, .ref (am_b G a0)), (1, .int x1), (2, .int x2), (3, .int x3)] [] σ) (a0 : Nat) (x1 : Int32) (x3 : Int32) (x4 : Int32) (s0 : Bool) (σ : am_SS) (ha0 : LC.1 a0 = 5) (h : C_Reader_cut_p70 rec21 F a0 x1 x3 x4 s0 σ = some q) : am_K G 6 70 [(0, .ref (am_b G a0)), (1, .int x1), (3, .int x3), (4, .int x4)] [.int (am_bI s0)] σ := by
  unfold C_Reader_cut_p70 at h
  refine am_istore C0 dX4_cut_70 (by decide) rfl (lv' := [(0, .ref (am_b G a0)), (1, .int x1), (3, .int x3), (4, .int x4), (5, .int (am_bI s0))]) rfl ?_
  refine am_iload C0 dX4_cut_72 3 rfl ?_
  refine am_iconst C0 dX4_cut_74 ci_1 ?_
  refine am_icmp_eq C0 dX4_cut_75 (tgt := 148) (by decide) (fun c_1 => ?_) (fun c_1 => ?_)
  · replace h := am_ip h c_1
    exact am_sub [0, 1, 2, 3] rfl (k_C_Reader_cut_p148 C0 hd rec21 F hret hrec21 a0 x1 x3 x4 σ ha0 h)
  · replace h := am_in h c_1
    refine am_iload C0 dX4_cut_78 4 rfl ?_
    refine am_ifB_ne C0 dX4_cut_80 (tgt := 148) (by decide) (fun c_2 => ?_) (fun c_2 => ?_)
    · replace h := am_ip h c_2
      exact am_sub [0, 1, 2, 3] rfl (k_C_Reader_cut_p148 C0 hd rec21 F hret hrec21 a0 x1 x3 x4 σ ha0 h)
    · replace h := am_in h c_2
      refine am_iload_n C0 dX4_cut_83 1 rfl ?_
      refine am_sipush C0 dX4_cut_84 cs_400 ?_
      refine am_icmp_ge C0 dX4_cut_87 (tgt := 148) (by decide) (fun c_3 => ?_) (fun c_3 => ?_)
      · replace h := am_in h c_3
        exact am_sub [0, 1, 2, 3] rfl (k_C_Reader_cut_p148 C0 hd rec21 F hret hrec21 a0 x1 x3 x4 σ ha0 h)
      · replace h := am_ip h c_3
        refine am_aload_n C0 dX4_cut_90 0 rfl ?_
        refine am_getR C0 (j := a0 + 2) ff_RX4_19 (loC_3_2 ha0).1 (loC_3_2 ha0).2.1 (loC_3_2 ha0).2.2.1 (loC_3_2 ha0).2.2.2 dX4_cut_91 ?_
        refine am_iload_n C0 dX4_cut_94 1 rfl ?_
        refine am_iload_n C0 dX4_cut_95 2 rfl ?_
        obtain ⟨σ_4, h_σ_4, h⟩ := am_bind h
        refine am_iast C0 (ltC (tgC_3_2 ha0)) (tgC_3_2 ha0) (lnC_3_2 ha0) h_σ_4 dX4_cut_96 ?_
        refine am_aload_n C0 dX4_cut_97 0 rfl ?_
        refine am_getR C0 (j := a0 + 3) ff_RX4_22 (loC_3_3 ha0).1 (loC_3_3 ha0).2.1 (loC_3_3 ha0).2.2.1 (loC_3_3 ha0).2.2.2 dX4_cut_98 ?_
        refine am_iload_n C0 dX4_cut_101 1 rfl ?_
        refine am_iload C0 dX4_cut_102 3 rfl ?_
        obtain ⟨σ_5, h_σ_5, h⟩ := am_bind h
        refine am_iast C0 (ltC (tgC_3_3 ha0)) (tgC_3_3 ha0) (lnC_3_3 ha0) h_σ_5 dX4_cut_104 ?_
        refine am_aload_n C0 dX4_cut_105 0 rfl ?_
        refine am_getR C0 (j := a0 + 4) ff_RX4_25 (loC_3_4 ha0).1 (loC_3_4 ha0).2.1 (loC_3_4 ha0).2.2.1 (loC_3_4 ha0).2.2.2 dX4_cut_106 ?_
        refine am_iload_n C0 dX4_cut_109 1 rfl ?_
        refine am_iload C0 dX4_cut_110 3 rfl ?_
        refine am_iconst C0 dX4_cut_112 ci_2 ?_
        refine am_icmp_ne C0 dX4_cut_113 (tgt := 124) (by decide) (fun c_6 => ?_) (fun c_6 => ?_)
        · replace h := am_in h c_6
          refine am_iload C0 dX4_cut_124 3 rfl ?_
          refine am_iconst C0 dX4_cut_126 ci_3 ?_
          refine am_icmp_ne C0 dX4_cut_127 (tgt := 138) (by decide) (fun c_7 => ?_) (fun c_7 => ?_)
          · replace h := am_in h c_7
            refine am_aload_n C0 dX4_cut_138 0 rfl ?_
            refine am_getR C0 (j := a0 + 1) ff_RX4_9 (loC_3_0 ha0).1 (loC_3_0 ha0).2.1 (loC_3_0 ha0).2.2.1 (loC_3_0 ha0).2.2.2 dX4_cut_139 ?_
            refine am_iload_n C0 dX4_cut_142 2 rfl ?_
            obtain ⟨t_8, h_t_8, h⟩ := am_bind h
            refine am_iald C0 (ltC (tgC_3_0 ha0)) (tgC_3_0 ha0) (lnC_3_0 ha0) h_t_8 dX4_cut_143 ?_
            exact am_sub [0, 1, 2, 3] rfl (k_C_Reader_cut_p144 C0 hd rec21 F hret hrec21 a0 x1 x3 x4 (a0 + 4) x1 t_8 σ_5 ha0 (tgC_3_4 ha0) h)
          · replace h := am_ip h c_7
            refine am_aload_n C0 dX4_cut_130 0 rfl ?_
            refine am_iload_n C0 dX4_cut_131 2 rfl ?_
            obtain ⟨q_9, h_q_9, h⟩ := am_bind h
            refine am_callV C0 (m_C_Reader_number (σ := σ_5) (Nat.le_refl _) F a0 x3 ha0 h_q_9) mm_yX4_number ln_RX4_63 (As := fun b => [.int x3]) (fun _ => rfl) (fun _ => rfl) (loC_3_0 ha0).1 (loC_3_0 ha0).2.1 rfl (Nat.le_trans (by decide) hd) rfl (Nat.le_of_ble_eq_true rfl) dX4_cut_132 ?_
            refine am_goto C0 dX4_cut_135 (tgt := 144) (by decide) ?_
            exact am_sub [0, 1, 2, 3] rfl (k_C_Reader_cut_p144 C0 hd rec21 F hret hrec21 a0 x1 x3 x4 (a0 + 4) x1 q_9 σ_5 ha0 (tgC_3_4 ha0) h)
        · replace h := am_ip h c_6
          refine am_aload_n C0 dX4_cut_116 0 rfl ?_
          refine am_iload_n C0 dX4_cut_117 2 rfl ?_
          obtain ⟨q_10, h_q_10, h⟩ := am_bind h
          refine am_callV C0 (m_C_Reader_keyword (σ := σ_5) (Nat.le_refl _) F a0 x3 ha0 h_q_10) mm_yX4_keyword ln_RX4_60 (As := fun b => [.int x3]) (fun _ => rfl) (fun _ => rfl) (loC_3_0 ha0).1 (loC_3_0 ha0).2.1 rfl (Nat.le_trans (by decide) hd) rfl (Nat.le_of_ble_eq_true rfl) dX4_cut_118 ?_
          refine am_goto C0 dX4_cut_121 (tgt := 144) (by decide) ?_
          exact am_sub [0, 1, 2, 3] rfl (k_C_Reader_cut_p144 C0 hd rec21 F hret hrec21 a0 x1 x3 x4 (a0 + 4) x1 q_10 σ_5 ha0 (tgC_3_4 ha0) h)
set_option maxRecDepth 100000 in
set_option maxHeartbeats 4000000 in
theorem k_C_Reader_cut_p69 {G : am_T} {d0 : Nat} (C0 : am_C G cX4_cut 6 RX4 LC d0) (hd : 9 ≤ d0) (rec21 : Nat → Int32 → Int32 → Int32 → am_SS → Option am_SS) (F : Nat) {q : am_SS} (hret : am_retV G cX4_cut 6 q) (hrec21 : ∀ (a0 : Nat) (x1 : Int32) (x2 : Int32) (x3 : Int32) (σ : am_SS), LC.1 a0 = 5 → rec21 a0 x1 x2 x3 σ = some q → am_K G 6 21 [(0, .ref (am_b G a0)), (1, .int x1), (2, .int x2), (3, .int x3)] [] σ) (a0 : Nat) (x1 : Int32) (x3 : Int32) (x4 : Int32) (σ : am_SS) (ha0 : LC.1 a0 = 5) (h : C_Reader_cut_p69 rec21 F a0 x1 x3 x4 σ = some q) : am_K G 6 69 [(0, .ref (am_b G a0)), (1, .int x1), (3, .int x3), (4, .int x4)] [] σ := by
  unfold C_Reader_cut_p69 at h
  refine am_iconst C0 dX4_cut_69 ci_0 ?_
  exact am_sub [0, 1, 2, 3] rfl (k_C_Reader_cut_p70 C0 hd rec21 F hret hrec21 a0 x1 x3 x4 false σ ha0 h)
set_option maxRecDepth 100000 in
set_option maxHeartbeats 4000000 in
theorem k_C_Reader_cut_p65 {G : am_T} {d0 : Nat} (C0 : am_C G cX4_cut 6 RX4 LC d0) (hd : 9 ≤ d0) (rec21 : Nat → Int32 → Int32 → Int32 → am_SS → Option am_SS) (F : Nat) {q : am_SS} (hret : am_retV G cX4_cut 6 q) (hrec21 : ∀ (a0 : Nat) (x1 : Int32) (x2 : Int32) (x3 : Int32) (σ : am_SS), LC.1 a0 = 5 → rec21 a0 x1 x2 x3 σ = some q → am_K G 6 21 [(0, .ref (am_b G a0)), (1, .int x1), (2, .int x2), (3, .int x3)] [] σ) (a0 : Nat) (x1 : Int32) (x3 : Int32) (x4 : Int32) (σ : am_SS) (ha0 : LC.1 a0 = 5) (h : C_Reader_cut_p65 rec21 F a0 x1 x3 x4 σ = some q) : am_K G 6 65 [(0, .ref (am_b G a0)), (1, .int x1), (3, .int x3), (4, .int x4)] [] σ := by
  unfold C_Reader_cut_p65 at h
  refine am_iconst C0 dX4_cut_65 ci_1 ?_
  refine am_goto C0 dX4_cut_66 (tgt := 70) (by decide) ?_
  exact am_sub [0, 1, 2, 3] rfl (k_C_Reader_cut_p70 C0 hd rec21 F hret hrec21 a0 x1 x3 x4 true σ ha0 h)
set_option maxRecDepth 100000 in
set_option maxHeartbeats 4000000 in
theorem k_C_Reader_cut_l21 {G : am_T} {d0 : Nat} (C0 : am_C G cX4_cut 6 RX4 LC d0) (hd : 9 ≤ d0) (F : Nat) {q : am_SS} (hret : am_retV G cX4_cut 6 q) : ∀ (n : Nat) (a0 : Nat) (x1 : Int32) (x2 : Int32) (x3 : Int32) (σ : am_SS) (ha0 : LC.1 a0 = 5) (h : C_Reader_cut_l21 F n a0 x1 x2 x3 σ = some q), am_K G 6 21 [(0, .ref (am_b G a0)), (1, .int x1), (2, .int x2), (3, .int x3)] [] σ := by
  intro n
  induction n with
  | zero =>
    intro a0 x1 x2 x3 σ ha0 h
    rw [C_Reader_cut_l21] at h
    cases h
  | succ n ih =>
    intro a0 x1 x2 x3 σ ha0 h
    rw [C_Reader_cut_l21] at h
    refine am_iload_n C0 dX4_cut_21 3 rfl ?_
    refine am_aload_n C0 dX4_cut_22 0 rfl ?_
    refine am_getI C0 ff_RX4_15 (loC_3_1 ha0).1 (loC_3_1 ha0).2.1 (loC_3_1 ha0).2.2.1 (loC_3_1 ha0).2.2.2 dX4_cut_23 ?_
    refine am_icmp_ge C0 dX4_cut_26 (tgt := 157) (by decide) (fun c_1 => ?_) (fun c_1 => ?_)
    · replace h := am_in h c_1
      exact am_sub [0, 1] rfl (k_C_Reader_cut_p157 C0 hd F hret a0 x1 σ ha0 h)
    · replace h := am_ip h c_1
      refine am_iload_n C0 dX4_cut_29 3 rfl ?_
      refine am_sipush C0 dX4_cut_30 cs_400 ?_
      refine am_icmp_ge C0 dX4_cut_33 (tgt := 157) (by decide) (fun c_2 => ?_) (fun c_2 => ?_)
      · replace h := am_in h c_2
        exact am_sub [0, 1] rfl (k_C_Reader_cut_p157 C0 hd F hret a0 x1 σ ha0 h)
      · replace h := am_ip h c_2
        refine am_aload_n C0 dX4_cut_36 0 rfl ?_
        refine am_getR C0 (j := a0 + 1) ff_RX4_9 (loC_3_0 ha0).1 (loC_3_0 ha0).2.1 (loC_3_0 ha0).2.2.1 (loC_3_0 ha0).2.2.2 dX4_cut_37 ?_
        refine am_iload_n C0 dX4_cut_40 3 rfl ?_
        obtain ⟨t_3, h_t_3, h⟩ := am_bind h
        refine am_iald C0 (ltC (tgC_3_0 ha0)) (tgC_3_0 ha0) (lnC_3_0 ha0) h_t_3 dX4_cut_41 ?_
        refine am_callS C0 (m_C_Reader_kindOf (σ := σ) (Nat.le_refl _) t_3  rfl) mm_yX4_kindOf ln_RX4_56 (fun _ => rfl) (Nat.le_trans (by decide) hd) rfl (Nat.le_of_ble_eq_true rfl) dX4_cut_42 ?_
        obtain ⟨x4_5, e_x4_5, h⟩ := am_lt h
        refine am_top e_x4_5 ?_
        refine am_istore C0 dX4_cut_45 (by decide) rfl (lv' := [(0, .ref (am_b G a0)), (1, .int x1), (2, .int x2), (3, .int x3), (4, .int x4_5)]) rfl ?_
        refine am_iload C0 dX4_cut_47 4 rfl ?_
        refine am_iload_n C0 dX4_cut_49 2 rfl ?_
        refine am_icmp_ne C0 dX4_cut_50 (tgt := 69) (by decide) (fun c_6 => ?_) (fun c_6 => ?_)
        · replace h := am_in h c_6
          exact am_sub [0, 1, 3, 4] rfl (k_C_Reader_cut_p69 C0 hd _ F hret (fun z0 z1 z2 z3 zs zh0 z => ih z0 z1 z2 z3 zs zh0 z) a0 x1 x3 x4_5 σ ha0 h)
        · replace h := am_ip h c_6
          refine am_iload C0 dX4_cut_53 4 rfl ?_
          refine am_iconst C0 dX4_cut_55 ci_2 ?_
          refine am_icmp_eq C0 dX4_cut_56 (tgt := 65) (by decide) (fun c_7 => ?_) (fun c_7 => ?_)
          · replace h := am_ip h c_7
            exact am_sub [0, 1, 3, 4] rfl (k_C_Reader_cut_p65 C0 hd _ F hret (fun z0 z1 z2 z3 zs zh0 z => ih z0 z1 z2 z3 zs zh0 z) a0 x1 x3 x4_5 σ ha0 h)
          · replace h := am_in h c_7
            refine am_iload C0 dX4_cut_59 4 rfl ?_
            refine am_iconst C0 dX4_cut_61 ci_3 ?_
            refine am_icmp_ne C0 dX4_cut_62 (tgt := 69) (by decide) (fun c_8 => ?_) (fun c_8 => ?_)
            · replace h := am_in h c_8
              exact am_sub [0, 1, 3, 4] rfl (k_C_Reader_cut_p69 C0 hd _ F hret (fun z0 z1 z2 z3 zs zh0 z => ih z0 z1 z2 z3 zs zh0 z) a0 x1 x3 x4_5 σ ha0 h)
            · replace h := am_ip h c_8
              exact am_sub [0, 1, 3, 4] rfl (k_C_Reader_cut_p65 C0 hd _ F hret (fun z0 z1 z2 z3 zs zh0 z => ih z0 z1 z2 z3 zs zh0 z) a0 x1 x3 x4_5 σ ha0 h)
set_option maxRecDepth 100000 in
set_option maxHeartbeats 4000000 in
theorem k_C_Reader_cut {G : am_T} {d0 : Nat} (C0 : am_C G cX4_cut 6 RX4 LC d0) (hd : 9 ≤ d0) (F : Nat) {q : am_SS} (hret : am_retV G cX4_cut 6 q) (a0 : Nat) (σ : am_SS) (ha0 : LC.1 a0 = 5) (h : C_Reader_cut F a0 σ = some q) : am_K G 6 0 [(0, .ref (am_b G a0))] [] σ := by
  unfold C_Reader_cut at h
  refine am_aload_n C0 dX4_cut_0 0 rfl ?_
  refine am_iconst C0 dX4_cut_1 ci_0 ?_
  obtain ⟨σ_1, e_σ_1, h⟩ := am_lt h
  refine am_putI C0 e_σ_1 fp_RX4_28 (loC_3_5 ha0).1 (loC_3_5 ha0).2.1 (loC_3_5 ha0).2.2.1 (loC_3_5 ha0).2.2.2 rfl rfl dX4_cut_2 ?_
  refine am_aload_n C0 dX4_cut_5 0 rfl ?_
  refine am_iconst C0 dX4_cut_6 ci_0 ?_
  obtain ⟨σ_2, e_σ_2, h⟩ := am_lt h
  refine am_putI C0 e_σ_2 fp_RX4_34 (loC_3_7 ha0).1 (loC_3_7 ha0).2.1 (loC_3_7 ha0).2.2.1 (loC_3_7 ha0).2.2.2 rfl rfl dX4_cut_7 ?_
  refine am_aload_n C0 dX4_cut_10 0 rfl ?_
  refine am_iconst C0 dX4_cut_11 ci_m1 ?_
  obtain ⟨σ_3, e_σ_3, h⟩ := am_lt h
  refine am_putI C0 e_σ_3 fp_RX4_37 (loC_3_8 ha0).1 (loC_3_8 ha0).2.1 (loC_3_8 ha0).2.2.1 (loC_3_8 ha0).2.2.2 rfl rfl dX4_cut_12 ?_
  refine am_iconst C0 dX4_cut_15 ci_0 ?_
  refine am_istore_n C0 dX4_cut_16 rfl (by decide) rfl (lv' := [(0, .ref (am_b G a0)), (1, .int 0)]) rfl ?_
  refine am_iconst C0 dX4_cut_17 ci_1 ?_
  refine am_istore_n C0 dX4_cut_18 rfl (by decide) rfl (lv' := [(0, .ref (am_b G a0)), (1, .int 0), (2, .int 1)]) rfl ?_
  refine am_iconst C0 dX4_cut_19 ci_0 ?_
  refine am_istore_n C0 dX4_cut_20 rfl (by decide) rfl (lv' := [(0, .ref (am_b G a0)), (1, .int 0), (2, .int 1), (3, .int 0)]) rfl ?_
  exact am_sub [0, 1, 2, 3] rfl (k_C_Reader_cut_l21 C0 hd F hret F a0 0 1 0 σ_3 ha0 h)
set_option maxRecDepth 100000 in
set_option maxHeartbeats 4000000 in
theorem m_C_Reader_cut {l : Launch} {d : Nat} {σ : am_SS} {q : am_SS} (hd : 9 ≤ d) (F : Nat) (a0 : Nat) (ha0 : LC.1 a0 = 5) (h : C_Reader_cut F a0 σ = some q) : am_Met l yX4_cut cX4_cut 6 none d 0 0 LC (fun b => [.ref (b a0)]) σ none q :=
  am_metV (plainFor_of_name (by decide)) (lv := fun b => [(0, .ref (b a0))]) (fun _ => rfl) (fun _ => Nat.le_of_ble_eq_true rfl) (fun G C0 _ hret => k_C_Reader_cut C0 hd F hret a0 σ ha0 h)
set_option maxRecDepth 100000 in
set_option maxHeartbeats 4000000 in
theorem k_C_Reader_kind {G : am_T} {d0 : Nat} (C0 : am_C G cX4_kind 1 RX4 LC d0) (hd : 1 ≤ d0) {σ : am_SS} {q : Int32} (hret : am_retI G cX4_kind 1 q σ) (a0 : Nat) (ha0 : LC.1 a0 = 5) (h : C_Reader_kind a0 σ = some q) : am_K G 1 0 [(0, .ref (am_b G a0))] [] σ := by
  unfold C_Reader_kind at h
  refine am_aload_n C0 dX4_kind_0 0 rfl ?_
  refine am_getI C0 ff_RX4_28 (loC_3_5 ha0).1 (loC_3_5 ha0).2.1 (loC_3_5 ha0).2.2.1 (loC_3_5 ha0).2.2.2 dX4_kind_1 ?_
  refine am_if_lt C0 dX4_kind_4 (tgt := 31) (by decide) (fun c_1 => ?_) (fun c_1 => ?_)
  · replace h := am_ip h c_1
    refine am_iconst C0 dX4_kind_31 ci_0 ?_
    have e := Option.some.inj h
    subst e
    exact hret _ _ dX4_kind_32
  · replace h := am_in h c_1
    refine am_aload_n C0 dX4_kind_7 0 rfl ?_
    refine am_getI C0 ff_RX4_28 (loC_3_5 ha0).1 (loC_3_5 ha0).2.1 (loC_3_5 ha0).2.2.1 (loC_3_5 ha0).2.2.2 dX4_kind_8 ?_
    refine am_aload_n C0 dX4_kind_11 0 rfl ?_
    refine am_getR C0 (j := a0 + 3) ff_RX4_22 (loC_3_3 ha0).1 (loC_3_3 ha0).2.1 (loC_3_3 ha0).2.2.1 (loC_3_3 ha0).2.2.2 dX4_kind_12 ?_
    refine am_alen C0 (ltC (tgC_3_3 ha0)) (tgC_3_3 ha0) (lnC_3_3 ha0) cn_401 dX4_kind_15 ?_
    refine am_icmp_ge C0 dX4_kind_16 (tgt := 31) (by decide) (fun c_2 => ?_) (fun c_2 => ?_)
    · replace h := am_in h c_2
      refine am_iconst C0 dX4_kind_31 ci_0 ?_
      have e := Option.some.inj h
      subst e
      exact hret _ _ dX4_kind_32
    · replace h := am_ip h c_2
      refine am_aload_n C0 dX4_kind_19 0 rfl ?_
      refine am_getR C0 (j := a0 + 3) ff_RX4_22 (loC_3_3 ha0).1 (loC_3_3 ha0).2.1 (loC_3_3 ha0).2.2.1 (loC_3_3 ha0).2.2.2 dX4_kind_20 ?_
      refine am_aload_n C0 dX4_kind_23 0 rfl ?_
      refine am_getI C0 ff_RX4_28 (loC_3_5 ha0).1 (loC_3_5 ha0).2.1 (loC_3_5 ha0).2.2.1 (loC_3_5 ha0).2.2.2 dX4_kind_24 ?_
      obtain ⟨t_3, h_t_3, h⟩ := am_bind h
      refine am_iald C0 (ltC (tgC_3_3 ha0)) (tgC_3_3 ha0) (lnC_3_3 ha0) h_t_3 dX4_kind_27 ?_
      refine am_goto C0 dX4_kind_28 (tgt := 32) (by decide) ?_
      have e := Option.some.inj h
      subst e
      exact hret _ _ dX4_kind_32
set_option maxRecDepth 100000 in
set_option maxHeartbeats 4000000 in
theorem m_C_Reader_kind {l : Launch} {d : Nat} {σ : am_SS} {q : Int32} (hd : 1 ≤ d) (a0 : Nat) (ha0 : LC.1 a0 = 5) (h : C_Reader_kind a0 σ = some q) : am_Met l yX4_kind cX4_kind 1 (some .int) d 0 0 LC (fun b => [.ref (b a0)]) σ (some (.int q)) σ :=
  am_metI (plainFor_of_name (by decide)) rfl (lv := fun b => [(0, .ref (b a0))]) (fun _ => rfl) (fun _ => Nat.le_of_ble_eq_true rfl) (fun G C0 _ hret => k_C_Reader_kind C0 hd hret a0 ha0 h)
set_option maxRecDepth 100000 in
set_option maxHeartbeats 4000000 in
theorem k_C_Reader_value {G : am_T} {d0 : Nat} (C0 : am_C G cX4_value 1 RX4 LC d0) (hd : 1 ≤ d0) {σ : am_SS} {q : Int32} (hret : am_retI G cX4_value 1 q σ) (a0 : Nat) (ha0 : LC.1 a0 = 5) (h : C_Reader_value a0 σ = some q) : am_K G 1 0 [(0, .ref (am_b G a0))] [] σ := by
  unfold C_Reader_value at h
  refine am_aload_n C0 dX4_value_0 0 rfl ?_
  refine am_getI C0 ff_RX4_28 (loC_3_5 ha0).1 (loC_3_5 ha0).2.1 (loC_3_5 ha0).2.2.1 (loC_3_5 ha0).2.2.2 dX4_value_1 ?_
  refine am_if_lt C0 dX4_value_4 (tgt := 31) (by decide) (fun c_1 => ?_) (fun c_1 => ?_)
  · replace h := am_ip h c_1
    refine am_iconst C0 dX4_value_31 ci_m1 ?_
    have e := Option.some.inj h
    subst e
    exact hret _ _ dX4_value_32
  · replace h := am_in h c_1
    refine am_aload_n C0 dX4_value_7 0 rfl ?_
    refine am_getI C0 ff_RX4_28 (loC_3_5 ha0).1 (loC_3_5 ha0).2.1 (loC_3_5 ha0).2.2.1 (loC_3_5 ha0).2.2.2 dX4_value_8 ?_
    refine am_aload_n C0 dX4_value_11 0 rfl ?_
    refine am_getR C0 (j := a0 + 4) ff_RX4_25 (loC_3_4 ha0).1 (loC_3_4 ha0).2.1 (loC_3_4 ha0).2.2.1 (loC_3_4 ha0).2.2.2 dX4_value_12 ?_
    refine am_alen C0 (ltC (tgC_3_4 ha0)) (tgC_3_4 ha0) (lnC_3_4 ha0) cn_401 dX4_value_15 ?_
    refine am_icmp_ge C0 dX4_value_16 (tgt := 31) (by decide) (fun c_2 => ?_) (fun c_2 => ?_)
    · replace h := am_in h c_2
      refine am_iconst C0 dX4_value_31 ci_m1 ?_
      have e := Option.some.inj h
      subst e
      exact hret _ _ dX4_value_32
    · replace h := am_ip h c_2
      refine am_aload_n C0 dX4_value_19 0 rfl ?_
      refine am_getR C0 (j := a0 + 4) ff_RX4_25 (loC_3_4 ha0).1 (loC_3_4 ha0).2.1 (loC_3_4 ha0).2.2.1 (loC_3_4 ha0).2.2.2 dX4_value_20 ?_
      refine am_aload_n C0 dX4_value_23 0 rfl ?_
      refine am_getI C0 ff_RX4_28 (loC_3_5 ha0).1 (loC_3_5 ha0).2.1 (loC_3_5 ha0).2.2.1 (loC_3_5 ha0).2.2.2 dX4_value_24 ?_
      obtain ⟨t_3, h_t_3, h⟩ := am_bind h
      refine am_iald C0 (ltC (tgC_3_4 ha0)) (tgC_3_4 ha0) (lnC_3_4 ha0) h_t_3 dX4_value_27 ?_
      refine am_goto C0 dX4_value_28 (tgt := 32) (by decide) ?_
      have e := Option.some.inj h
      subst e
      exact hret _ _ dX4_value_32
set_option maxRecDepth 100000 in
set_option maxHeartbeats 4000000 in
theorem m_C_Reader_value {l : Launch} {d : Nat} {σ : am_SS} {q : Int32} (hd : 1 ≤ d) (a0 : Nat) (ha0 : LC.1 a0 = 5) (h : C_Reader_value a0 σ = some q) : am_Met l yX4_value cX4_value 1 (some .int) d 0 0 LC (fun b => [.ref (b a0)]) σ (some (.int q)) σ :=
  am_metI (plainFor_of_name (by decide)) rfl (lv := fun b => [(0, .ref (b a0))]) (fun _ => rfl) (fun _ => Nat.le_of_ble_eq_true rfl) (fun G C0 _ hret => k_C_Reader_value C0 hd hret a0 ha0 h)
set_option maxRecDepth 100000 in
set_option maxHeartbeats 4000000 in
theorem k_C_Reader_isSign {G : am_T} {d0 : Nat} (C0 : am_C G cX4_isSign 2 RX4 LC d0) (hd : 2 ≤ d0) {σ : am_SS} {q : Bool} (hret : am_retI G cX4_isSign 2 (am_bI q) σ) (a0 : Nat) (x1 : Int32) (ha0 : LC.1 a0 = 5) (h : C_Reader_isSign a0 x1 σ = some q) : am_K G 2 0 [(0, .ref (am_b G a0)), (1, .int x1)] [] σ := by
  unfold C_Reader_isSign at h
  refine am_aload_n C0 dX4_isSign_0 0 rfl ?_
  obtain ⟨q_1, h_q_1, h⟩ := am_bind h
  refine am_callV C0 (m_C_Reader_kind (σ := σ) (Nat.le_refl _) a0 ha0 h_q_1) mm_yX4_kind ln_RX4_81 (As := fun b => []) (fun _ => rfl) (fun _ => rfl) (loC_3_0 ha0).1 (loC_3_0 ha0).2.1 rfl (Nat.le_trans (by decide) hd) rfl (Nat.le_of_ble_eq_true rfl) dX4_isSign_1 ?_
  refine am_iconst C0 dX4_isSign_4 ci_4 ?_
  refine am_icmp_ne C0 dX4_isSign_5 (tgt := 20) (by decide) (fun c_2 => ?_) (fun c_2 => ?_)
  · replace h := am_in h c_2
    refine am_iconst C0 dX4_isSign_20 ci_0 ?_
    have e := Option.some.inj h
    subst e
    exact hret _ _ dX4_isSign_21
  · replace h := am_ip h c_2
    refine am_aload_n C0 dX4_isSign_8 0 rfl ?_
    obtain ⟨q_3, h_q_3, h⟩ := am_bind h
    refine am_callV C0 (m_C_Reader_value (σ := σ) (Nat.le_refl _) a0 ha0 h_q_3) mm_yX4_value ln_RX4_84 (As := fun b => []) (fun _ => rfl) (fun _ => rfl) (loC_3_0 ha0).1 (loC_3_0 ha0).2.1 rfl (Nat.le_trans (by decide) hd) rfl (Nat.le_of_ble_eq_true rfl) dX4_isSign_9 ?_
    refine am_iload_n C0 dX4_isSign_12 1 rfl ?_
    refine am_icmp_ne C0 dX4_isSign_13 (tgt := 20) (by decide) (fun c_4 => ?_) (fun c_4 => ?_)
    · replace h := am_in h c_4
      refine am_iconst C0 dX4_isSign_20 ci_0 ?_
      have e := Option.some.inj h
      subst e
      exact hret _ _ dX4_isSign_21
    · replace h := am_ip h c_4
      refine am_iconst C0 dX4_isSign_16 ci_1 ?_
      refine am_goto C0 dX4_isSign_17 (tgt := 21) (by decide) ?_
      have e := Option.some.inj h
      subst e
      exact hret _ _ dX4_isSign_21
set_option maxRecDepth 100000 in
set_option maxHeartbeats 4000000 in
theorem m_C_Reader_isSign {l : Launch} {d : Nat} {σ : am_SS} {q : Bool} (hd : 2 ≤ d) (a0 : Nat) (x1 : Int32) (ha0 : LC.1 a0 = 5) (h : C_Reader_isSign a0 x1 σ = some q) : am_Met l yX4_isSign cX4_isSign 2 (some .boolean) d 0 0 LC (fun b => [.ref (b a0), .int x1]) σ (some (.int (am_bI q))) σ :=
  am_metI (plainFor_of_name (by decide)) (am_bI_nr _) (lv := fun b => [(0, .ref (b a0)), (1, .int x1)]) (fun _ => rfl) (fun _ => Nat.le_of_ble_eq_true rfl) (fun G C0 _ hret => k_C_Reader_isSign C0 hd hret a0 x1 ha0 h)
set_option maxRecDepth 100000 in
set_option maxHeartbeats 4000000 in
theorem k_C_Reader_isWord {G : am_T} {d0 : Nat} (C0 : am_C G cX4_isWord 2 RX4 LC d0) (hd : 2 ≤ d0) {σ : am_SS} {q : Bool} (hret : am_retI G cX4_isWord 2 (am_bI q) σ) (a0 : Nat) (x1 : Int32) (ha0 : LC.1 a0 = 5) (h : C_Reader_isWord a0 x1 σ = some q) : am_K G 2 0 [(0, .ref (am_b G a0)), (1, .int x1)] [] σ := by
  unfold C_Reader_isWord at h
  refine am_aload_n C0 dX4_isWord_0 0 rfl ?_
  obtain ⟨q_1, h_q_1, h⟩ := am_bind h
  refine am_callV C0 (m_C_Reader_kind (σ := σ) (Nat.le_refl _) a0 ha0 h_q_1) mm_yX4_kind ln_RX4_81 (As := fun b => []) (fun _ => rfl) (fun _ => rfl) (loC_3_0 ha0).1 (loC_3_0 ha0).2.1 rfl (Nat.le_trans (by decide) hd) rfl (Nat.le_of_ble_eq_true rfl) dX4_isWord_1 ?_
  refine am_iconst C0 dX4_isWord_4 ci_2 ?_
  refine am_icmp_ne C0 dX4_isWord_5 (tgt := 20) (by decide) (fun c_2 => ?_) (fun c_2 => ?_)
  · replace h := am_in h c_2
    refine am_iconst C0 dX4_isWord_20 ci_0 ?_
    have e := Option.some.inj h
    subst e
    exact hret _ _ dX4_isWord_21
  · replace h := am_ip h c_2
    refine am_aload_n C0 dX4_isWord_8 0 rfl ?_
    obtain ⟨q_3, h_q_3, h⟩ := am_bind h
    refine am_callV C0 (m_C_Reader_value (σ := σ) (Nat.le_refl _) a0 ha0 h_q_3) mm_yX4_value ln_RX4_84 (As := fun b => []) (fun _ => rfl) (fun _ => rfl) (loC_3_0 ha0).1 (loC_3_0 ha0).2.1 rfl (Nat.le_trans (by decide) hd) rfl (Nat.le_of_ble_eq_true rfl) dX4_isWord_9 ?_
    refine am_iload_n C0 dX4_isWord_12 1 rfl ?_
    refine am_icmp_ne C0 dX4_isWord_13 (tgt := 20) (by decide) (fun c_4 => ?_) (fun c_4 => ?_)
    · replace h := am_in h c_4
      refine am_iconst C0 dX4_isWord_20 ci_0 ?_
      have e := Option.some.inj h
      subst e
      exact hret _ _ dX4_isWord_21
    · replace h := am_ip h c_4
      refine am_iconst C0 dX4_isWord_16 ci_1 ?_
      refine am_goto C0 dX4_isWord_17 (tgt := 21) (by decide) ?_
      have e := Option.some.inj h
      subst e
      exact hret _ _ dX4_isWord_21
set_option maxRecDepth 100000 in
set_option maxHeartbeats 4000000 in
theorem m_C_Reader_isWord {l : Launch} {d : Nat} {σ : am_SS} {q : Bool} (hd : 2 ≤ d) (a0 : Nat) (x1 : Int32) (ha0 : LC.1 a0 = 5) (h : C_Reader_isWord a0 x1 σ = some q) : am_Met l yX4_isWord cX4_isWord 2 (some .boolean) d 0 0 LC (fun b => [.ref (b a0), .int x1]) σ (some (.int (am_bI q))) σ :=
  am_metI (plainFor_of_name (by decide)) (am_bI_nr _) (lv := fun b => [(0, .ref (b a0)), (1, .int x1)]) (fun _ => rfl) (fun _ => Nat.le_of_ble_eq_true rfl) (fun G C0 _ hret => k_C_Reader_isWord C0 hd hret a0 x1 ha0 h)
set_option maxRecDepth 100000 in
set_option maxHeartbeats 4000000 in
theorem k_C_Reader_fail_p32 {G : am_T} {d0 : Nat} (C0 : am_C G cX4_fail 3 RX4 LC d0) (hd : 1 ≤ d0) {q : Bool × am_SS} (hret : am_retI G cX4_fail 3 (am_bI q.1) q.2) (t0 : Nat) (s1 : Int32) (σ : am_SS) (ht0 : LC.1 t0 = 5) (h : C_Reader_fail_p32 t0 s1 σ = some q) : am_K G 3 32 [] [.int s1, .ref (am_b G t0)] σ := by
  unfold C_Reader_fail_p32 at h
  obtain ⟨σ_1, e_σ_1, h⟩ := am_lt h
  refine am_putI C0 e_σ_1 fp_RX4_37 (loC_3_8 ht0).1 (loC_3_8 ht0).2.1 (loC_3_8 ht0).2.2.1 (loC_3_8 ht0).2.2.2 rfl rfl dX4_fail_32 ?_
  refine am_iconst C0 dX4_fail_35 ci_0 ?_
  have e := Option.some.inj h
  subst e
  exact hret _ _ dX4_fail_36
set_option maxRecDepth 100000 in
set_option maxHeartbeats 4000000 in
theorem k_C_Reader_fail_p28 {G : am_T} {d0 : Nat} (C0 : am_C G cX4_fail 3 RX4 LC d0) (hd : 1 ≤ d0) {q : Bool × am_SS} (hret : am_retI G cX4_fail 3 (am_bI q.1) q.2) (a0 : Nat) (t0 : Nat) (σ : am_SS) (ha0 : LC.1 a0 = 5) (ht0 : LC.1 t0 = 5) (h : C_Reader_fail_p28 a0 t0 σ = some q) : am_K G 3 28 [(0, .ref (am_b G a0))] [.ref (am_b G t0)] σ := by
  unfold C_Reader_fail_p28 at h
  refine am_aload_n C0 dX4_fail_28 0 rfl ?_
  refine am_getI C0 ff_RX4_15 (loC_3_1 ha0).1 (loC_3_1 ha0).2.1 (loC_3_1 ha0).2.2.1 (loC_3_1 ha0).2.2.2 dX4_fail_29 ?_
  exact am_sub [] rfl (k_C_Reader_fail_p32 C0 hd hret t0 (σ a0 1) σ ht0 h)
set_option maxRecDepth 100000 in
set_option maxHeartbeats 4000000 in
theorem k_C_Reader_fail {G : am_T} {d0 : Nat} (C0 : am_C G cX4_fail 3 RX4 LC d0) (hd : 1 ≤ d0) {q : Bool × am_SS} (hret : am_retI G cX4_fail 3 (am_bI q.1) q.2) (a0 : Nat) (x1 : Int32) (x2 : Int32) (σ : am_SS) (ha0 : LC.1 a0 = 5) (h : C_Reader_fail a0 x1 x2 σ = some q) : am_K G 3 0 [(0, .ref (am_b G a0)), (1, .int x1), (2, .int x2)] [] σ := by
  unfold C_Reader_fail at h
  refine am_aload_n C0 dX4_fail_0 0 rfl ?_
  refine am_iload_n C0 dX4_fail_1 1 rfl ?_
  obtain ⟨σ_1, e_σ_1, h⟩ := am_lt h
  refine am_putI C0 e_σ_1 fp_RX4_34 (loC_3_7 ha0).1 (loC_3_7 ha0).2.1 (loC_3_7 ha0).2.2.1 (loC_3_7 ha0).2.2.2 rfl rfl dX4_fail_2 ?_
  refine am_aload_n C0 dX4_fail_5 0 rfl ?_
  refine am_iload_n C0 dX4_fail_6 2 rfl ?_
  refine am_if_lt C0 dX4_fail_7 (tgt := 28) (by decide) (fun c_2 => ?_) (fun c_2 => ?_)
  · replace h := am_ip h c_2
    exact am_sub [0] rfl (k_C_Reader_fail_p28 C0 hd hret a0 a0 σ_1 ha0 ha0 h)
  · replace h := am_in h c_2
    refine am_iload_n C0 dX4_fail_10 2 rfl ?_
    refine am_aload_n C0 dX4_fail_11 0 rfl ?_
    refine am_getR C0 (j := a0 + 2) ff_RX4_19 (loC_3_2 ha0).1 (loC_3_2 ha0).2.1 (loC_3_2 ha0).2.2.1 (loC_3_2 ha0).2.2.2 dX4_fail_12 ?_
    refine am_alen C0 (ltC (tgC_3_2 ha0)) (tgC_3_2 ha0) (lnC_3_2 ha0) cn_401 dX4_fail_15 ?_
    refine am_icmp_ge C0 dX4_fail_16 (tgt := 28) (by decide) (fun c_3 => ?_) (fun c_3 => ?_)
    · replace h := am_in h c_3
      exact am_sub [0] rfl (k_C_Reader_fail_p28 C0 hd hret a0 a0 σ_1 ha0 ha0 h)
    · replace h := am_ip h c_3
      refine am_aload_n C0 dX4_fail_19 0 rfl ?_
      refine am_getR C0 (j := a0 + 2) ff_RX4_19 (loC_3_2 ha0).1 (loC_3_2 ha0).2.1 (loC_3_2 ha0).2.2.1 (loC_3_2 ha0).2.2.2 dX4_fail_20 ?_
      refine am_iload_n C0 dX4_fail_23 2 rfl ?_
      obtain ⟨t_4, h_t_4, h⟩ := am_bind h
      refine am_iald C0 (ltC (tgC_3_2 ha0)) (tgC_3_2 ha0) (lnC_3_2 ha0) h_t_4 dX4_fail_24 ?_
      refine am_goto C0 dX4_fail_25 (tgt := 32) (by decide) ?_
      exact am_sub [] rfl (k_C_Reader_fail_p32 C0 hd hret a0 t_4 σ_1 ha0 h)
set_option maxRecDepth 100000 in
set_option maxHeartbeats 4000000 in
theorem m_C_Reader_fail {l : Launch} {d : Nat} {σ : am_SS} {q : Bool × am_SS} (hd : 1 ≤ d) (a0 : Nat) (x1 : Int32) (x2 : Int32) (ha0 : LC.1 a0 = 5) (h : C_Reader_fail a0 x1 x2 σ = some q) : am_Met l yX4_fail cX4_fail 3 (some .boolean) d 0 0 LC (fun b => [.ref (b a0), .int x1, .int x2]) σ (some (.int (am_bI q.1))) q.2 :=
  am_metI (plainFor_of_name (by decide)) (am_bI_nr _) (lv := fun b => [(0, .ref (b a0)), (1, .int x1), (2, .int x2)]) (fun _ => rfl) (fun _ => Nat.le_of_ble_eq_true rfl) (fun G C0 _ hret => k_C_Reader_fail C0 hd hret a0 x1 x2 σ ha0 h)
set_option maxRecDepth 100000 in
set_option maxHeartbeats 4000000 in
theorem k_C_Reader_sign {G : am_T} {d0 : Nat} (C0 : am_C G cX4_sign 2 RX4 LC d0) (hd : 3 ≤ d0) {q : Bool × am_SS} (hret : am_retI G cX4_sign 2 (am_bI q.1) q.2) (a0 : Nat) (x1 : Int32) (σ : am_SS) (ha0 : LC.1 a0 = 5) (h : C_Reader_sign a0 x1 σ = some q) : am_K G 2 0 [(0, .ref (am_b G a0)), (1, .int x1)] [] σ := by
  unfold C_Reader_sign at h
  refine am_aload_n C0 dX4_sign_0 0 rfl ?_
  refine am_iload_n C0 dX4_sign_1 1 rfl ?_
  obtain ⟨q_1, h_q_1, h⟩ := am_bind h
  refine am_callV C0 (m_C_Reader_isSign (σ := σ) (Nat.le_refl _) a0 x1 ha0 h_q_1) mm_yX4_isSign ln_RX4_87 (As := fun b => [.int x1]) (fun _ => rfl) (fun _ => rfl) (loC_3_0 ha0).1 (loC_3_0 ha0).2.1 rfl (Nat.le_trans (by decide) hd) rfl (Nat.le_of_ble_eq_true rfl) dX4_sign_2 ?_
  refine am_ifB_ne C0 dX4_sign_5 (tgt := 18) (by decide) (fun c_2 => ?_) (fun c_2 => ?_)
  · replace h := am_ip h c_2
    refine am_aload_n C0 dX4_sign_18 0 rfl ?_
    refine am_dup C0 dX4_sign_19 rfl ?_
    refine am_getI C0 ff_RX4_28 (loC_3_5 ha0).1 (loC_3_5 ha0).2.1 (loC_3_5 ha0).2.2.1 (loC_3_5 ha0).2.2.2 dX4_sign_20 ?_
    refine am_iconst C0 dX4_sign_23 ci_1 ?_
    refine am_iadd C0 dX4_sign_24 ?_
    obtain ⟨σ_3, e_σ_3, h⟩ := am_lt h
    refine am_putI C0 e_σ_3 fp_RX4_28 (loC_3_5 ha0).1 (loC_3_5 ha0).2.1 (loC_3_5 ha0).2.2.1 (loC_3_5 ha0).2.2.2 rfl rfl dX4_sign_25 ?_
    refine am_iconst C0 dX4_sign_28 ci_1 ?_
    have e := Option.some.inj h
    subst e
    exact hret _ _ dX4_sign_29
  · replace h := am_in h c_2
    refine am_aload_n C0 dX4_sign_8 0 rfl ?_
    refine am_iconst C0 dX4_sign_9 ci_1 ?_
    refine am_aload_n C0 dX4_sign_10 0 rfl ?_
    refine am_getI C0 ff_RX4_28 (loC_3_5 ha0).1 (loC_3_5 ha0).2.1 (loC_3_5 ha0).2.2.1 (loC_3_5 ha0).2.2.2 dX4_sign_11 ?_
    obtain ⟨q_4, h_q_4, h⟩ := am_bind h
    refine am_callV C0 (m_C_Reader_fail (σ := σ) (Nat.le_refl _) a0 1 (σ a0 5) ha0 h_q_4) mm_yX4_fail ln_RX4_91 (As := fun b => [.int 1, .int (σ a0 5)]) (fun _ => rfl) (fun _ => rfl) (loC_3_0 ha0).1 (loC_3_0 ha0).2.1 rfl (Nat.le_trans (by decide) hd) rfl (Nat.le_of_ble_eq_true rfl) dX4_sign_14 ?_
    have e := Option.some.inj h
    subst e
    exact hret _ _ dX4_sign_17
set_option maxRecDepth 100000 in
set_option maxHeartbeats 4000000 in
theorem m_C_Reader_sign {l : Launch} {d : Nat} {σ : am_SS} {q : Bool × am_SS} (hd : 3 ≤ d) (a0 : Nat) (x1 : Int32) (ha0 : LC.1 a0 = 5) (h : C_Reader_sign a0 x1 σ = some q) : am_Met l yX4_sign cX4_sign 2 (some .boolean) d 0 0 LC (fun b => [.ref (b a0), .int x1]) σ (some (.int (am_bI q.1))) q.2 :=
  am_metI (plainFor_of_name (by decide)) (am_bI_nr _) (lv := fun b => [(0, .ref (b a0)), (1, .int x1)]) (fun _ => rfl) (fun _ => Nat.le_of_ble_eq_true rfl) (fun G C0 _ hret => k_C_Reader_sign C0 hd hret a0 x1 σ ha0 h)
set_option maxRecDepth 100000 in
set_option maxHeartbeats 4000000 in
theorem k_C_Reader_word {G : am_T} {d0 : Nat} (C0 : am_C G cX4_word 2 RX4 LC d0) (hd : 3 ≤ d0) {q : Bool × am_SS} (hret : am_retI G cX4_word 2 (am_bI q.1) q.2) (a0 : Nat) (x1 : Int32) (σ : am_SS) (ha0 : LC.1 a0 = 5) (h : C_Reader_word a0 x1 σ = some q) : am_K G 2 0 [(0, .ref (am_b G a0)), (1, .int x1)] [] σ := by
  unfold C_Reader_word at h
  refine am_aload_n C0 dX4_word_0 0 rfl ?_
  refine am_iload_n C0 dX4_word_1 1 rfl ?_
  obtain ⟨q_1, h_q_1, h⟩ := am_bind h
  refine am_callV C0 (m_C_Reader_isWord (σ := σ) (Nat.le_refl _) a0 x1 ha0 h_q_1) mm_yX4_isWord ln_RX4_95 (As := fun b => [.int x1]) (fun _ => rfl) (fun _ => rfl) (loC_3_0 ha0).1 (loC_3_0 ha0).2.1 rfl (Nat.le_trans (by decide) hd) rfl (Nat.le_of_ble_eq_true rfl) dX4_word_2 ?_
  refine am_ifB_ne C0 dX4_word_5 (tgt := 18) (by decide) (fun c_2 => ?_) (fun c_2 => ?_)
  · replace h := am_ip h c_2
    refine am_aload_n C0 dX4_word_18 0 rfl ?_
    refine am_dup C0 dX4_word_19 rfl ?_
    refine am_getI C0 ff_RX4_28 (loC_3_5 ha0).1 (loC_3_5 ha0).2.1 (loC_3_5 ha0).2.2.1 (loC_3_5 ha0).2.2.2 dX4_word_20 ?_
    refine am_iconst C0 dX4_word_23 ci_1 ?_
    refine am_iadd C0 dX4_word_24 ?_
    obtain ⟨σ_3, e_σ_3, h⟩ := am_lt h
    refine am_putI C0 e_σ_3 fp_RX4_28 (loC_3_5 ha0).1 (loC_3_5 ha0).2.1 (loC_3_5 ha0).2.2.1 (loC_3_5 ha0).2.2.2 rfl rfl dX4_word_25 ?_
    refine am_iconst C0 dX4_word_28 ci_1 ?_
    have e := Option.some.inj h
    subst e
    exact hret _ _ dX4_word_29
  · replace h := am_in h c_2
    refine am_aload_n C0 dX4_word_8 0 rfl ?_
    refine am_iconst C0 dX4_word_9 ci_1 ?_
    refine am_aload_n C0 dX4_word_10 0 rfl ?_
    refine am_getI C0 ff_RX4_28 (loC_3_5 ha0).1 (loC_3_5 ha0).2.1 (loC_3_5 ha0).2.2.1 (loC_3_5 ha0).2.2.2 dX4_word_11 ?_
    obtain ⟨q_4, h_q_4, h⟩ := am_bind h
    refine am_callV C0 (m_C_Reader_fail (σ := σ) (Nat.le_refl _) a0 1 (σ a0 5) ha0 h_q_4) mm_yX4_fail ln_RX4_91 (As := fun b => [.int 1, .int (σ a0 5)]) (fun _ => rfl) (fun _ => rfl) (loC_3_0 ha0).1 (loC_3_0 ha0).2.1 rfl (Nat.le_trans (by decide) hd) rfl (Nat.le_of_ble_eq_true rfl) dX4_word_14 ?_
    have e := Option.some.inj h
    subst e
    exact hret _ _ dX4_word_17
set_option maxRecDepth 100000 in
set_option maxHeartbeats 4000000 in
theorem m_C_Reader_word {l : Launch} {d : Nat} {σ : am_SS} {q : Bool × am_SS} (hd : 3 ≤ d) (a0 : Nat) (x1 : Int32) (ha0 : LC.1 a0 = 5) (h : C_Reader_word a0 x1 σ = some q) : am_Met l yX4_word cX4_word 2 (some .boolean) d 0 0 LC (fun b => [.ref (b a0), .int x1]) σ (some (.int (am_bI q.1))) q.2 :=
  am_metI (plainFor_of_name (by decide)) (am_bI_nr _) (lv := fun b => [(0, .ref (b a0)), (1, .int x1)]) (fun _ => rfl) (fun _ => Nat.le_of_ble_eq_true rfl) (fun G C0 _ hret => k_C_Reader_word C0 hd hret a0 x1 σ ha0 h)
set_option maxRecDepth 100000 in
set_option maxHeartbeats 4000000 in
theorem k_C_Reader_takes_p16 {G : am_T} {d0 : Nat} (C0 : am_C G cX4_takes 3 RX4 LC d0) (hd : 2 ≤ d0) {q : Bool × am_SS} (hret : am_retI G cX4_takes 3 (am_bI q.1) q.2) (a0 : Nat) (σ : am_SS) (ha0 : LC.1 a0 = 5) (h : C_Reader_takes_p16 a0 σ = some q) : am_K G 3 16 [(0, .ref (am_b G a0))] [] σ := by
  unfold C_Reader_takes_p16 at h
  refine am_aload_n C0 dX4_takes_16 0 rfl ?_
  refine am_iconst C0 dX4_takes_17 ci_1 ?_
  refine am_aload_n C0 dX4_takes_18 0 rfl ?_
  refine am_getI C0 ff_RX4_28 (loC_3_5 ha0).1 (loC_3_5 ha0).2.1 (loC_3_5 ha0).2.2.1 (loC_3_5 ha0).2.2.2 dX4_takes_19 ?_
  obtain ⟨q_1, h_q_1, h⟩ := am_bind h
  refine am_callV C0 (m_C_Reader_fail (σ := σ) (Nat.le_refl _) a0 1 (σ a0 5) ha0 h_q_1) mm_yX4_fail ln_RX4_91 (As := fun b => [.int 1, .int (σ a0 5)]) (fun _ => rfl) (fun _ => rfl) (loC_3_0 ha0).1 (loC_3_0 ha0).2.1 rfl (Nat.le_trans (by decide) hd) rfl (Nat.le_of_ble_eq_true rfl) dX4_takes_22 ?_
  have e := Option.some.inj h
  subst e
  exact hret _ _ dX4_takes_25
set_option maxRecDepth 100000 in
set_option maxHeartbeats 4000000 in
theorem k_C_Reader_takes_p42 {G : am_T} {d0 : Nat} (C0 : am_C G cX4_takes 3 RX4 LC d0) (hd : 2 ≤ d0) {q : Bool × am_SS} (hret : am_retI G cX4_takes 3 (am_bI q.1) q.2) (a0 : Nat) (σ : am_SS) (ha0 : LC.1 a0 = 5) (h : C_Reader_takes_p42 a0 σ = some q) : am_K G 3 42 [(0, .ref (am_b G a0))] [] σ := by
  unfold C_Reader_takes_p42 at h
  refine am_aload_n C0 dX4_takes_42 0 rfl ?_
  refine am_iconst C0 dX4_takes_43 ci_2 ?_
  refine am_aload_n C0 dX4_takes_44 0 rfl ?_
  refine am_getI C0 ff_RX4_28 (loC_3_5 ha0).1 (loC_3_5 ha0).2.1 (loC_3_5 ha0).2.2.1 (loC_3_5 ha0).2.2.2 dX4_takes_45 ?_
  obtain ⟨q_1, h_q_1, h⟩ := am_bind h
  refine am_callV C0 (m_C_Reader_fail (σ := σ) (Nat.le_refl _) a0 2 (σ a0 5) ha0 h_q_1) mm_yX4_fail ln_RX4_91 (As := fun b => [.int 2, .int (σ a0 5)]) (fun _ => rfl) (fun _ => rfl) (loC_3_0 ha0).1 (loC_3_0 ha0).2.1 rfl (Nat.le_trans (by decide) hd) rfl (Nat.le_of_ble_eq_true rfl) dX4_takes_48 ?_
  have e := Option.some.inj h
  subst e
  exact hret _ _ dX4_takes_51
set_option maxRecDepth 100000 in
set_option maxHeartbeats 4000000 in
theorem k_C_Reader_takes {G : am_T} {d0 : Nat} (C0 : am_C G cX4_takes 3 RX4 LC d0) (hd : 2 ≤ d0) {q : Bool × am_SS} (hret : am_retI G cX4_takes 3 (am_bI q.1) q.2) (a0 : Nat) (x1 : Int32) (x2 : Int32) (σ : am_SS) (ha0 : LC.1 a0 = 5) (h : C_Reader_takes a0 x1 x2 σ = some q) : am_K G 3 0 [(0, .ref (am_b G a0)), (1, .int x1), (2, .int x2)] [] σ := by
  unfold C_Reader_takes at h
  refine am_aload_n C0 dX4_takes_0 0 rfl ?_
  obtain ⟨q_1, h_q_1, h⟩ := am_bind h
  refine am_callV C0 (m_C_Reader_kind (σ := σ) (Nat.le_refl _) a0 ha0 h_q_1) mm_yX4_kind ln_RX4_81 (As := fun b => []) (fun _ => rfl) (fun _ => rfl) (loC_3_0 ha0).1 (loC_3_0 ha0).2.1 rfl (Nat.le_trans (by decide) hd) rfl (Nat.le_of_ble_eq_true rfl) dX4_takes_1 ?_
  refine am_iconst C0 dX4_takes_4 ci_3 ?_
  refine am_icmp_ne C0 dX4_takes_5 (tgt := 16) (by decide) (fun c_2 => ?_) (fun c_2 => ?_)
  · replace h := am_in h c_2
    exact am_sub [0] rfl (k_C_Reader_takes_p16 C0 hd hret a0 σ ha0 h)
  · replace h := am_ip h c_2
    refine am_aload_n C0 dX4_takes_8 0 rfl ?_
    obtain ⟨q_3, h_q_3, h⟩ := am_bind h
    refine am_callV C0 (m_C_Reader_value (σ := σ) (Nat.le_refl _) a0 ha0 h_q_3) mm_yX4_value ln_RX4_84 (As := fun b => []) (fun _ => rfl) (fun _ => rfl) (loC_3_0 ha0).1 (loC_3_0 ha0).2.1 rfl (Nat.le_trans (by decide) hd) rfl (Nat.le_of_ble_eq_true rfl) dX4_takes_9 ?_
    refine am_iconst C0 dX4_takes_12 ci_m1 ?_
    refine am_icmp_ne C0 dX4_takes_13 (tgt := 26) (by decide) (fun c_4 => ?_) (fun c_4 => ?_)
    · replace h := am_in h c_4
      refine am_aload_n C0 dX4_takes_26 0 rfl ?_
      obtain ⟨q_5, h_q_5, h⟩ := am_bind h
      refine am_callV C0 (m_C_Reader_value (σ := σ) (Nat.le_refl _) a0 ha0 h_q_5) mm_yX4_value ln_RX4_84 (As := fun b => []) (fun _ => rfl) (fun _ => rfl) (loC_3_0 ha0).1 (loC_3_0 ha0).2.1 rfl (Nat.le_trans (by decide) hd) rfl (Nat.le_of_ble_eq_true rfl) dX4_takes_27 ?_
      refine am_iload_n C0 dX4_takes_30 1 rfl ?_
      refine am_icmp_lt C0 dX4_takes_31 (tgt := 42) (by decide) (fun c_6 => ?_) (fun c_6 => ?_)
      · replace h := am_ip h c_6
        exact am_sub [0] rfl (k_C_Reader_takes_p42 C0 hd hret a0 σ ha0 h)
      · replace h := am_in h c_6
        refine am_aload_n C0 dX4_takes_34 0 rfl ?_
        obtain ⟨q_7, h_q_7, h⟩ := am_bind h
        refine am_callV C0 (m_C_Reader_value (σ := σ) (Nat.le_refl _) a0 ha0 h_q_7) mm_yX4_value ln_RX4_84 (As := fun b => []) (fun _ => rfl) (fun _ => rfl) (loC_3_0 ha0).1 (loC_3_0 ha0).2.1 rfl (Nat.le_trans (by decide) hd) rfl (Nat.le_of_ble_eq_true rfl) dX4_takes_35 ?_
        refine am_iload_n C0 dX4_takes_38 2 rfl ?_
        refine am_icmp_le C0 dX4_takes_39 (tgt := 52) (by decide) (fun c_8 => ?_) (fun c_8 => ?_)
        · replace h := am_in h c_8
          refine am_aload_n C0 dX4_takes_52 0 rfl ?_
          refine am_aload_n C0 dX4_takes_53 0 rfl ?_
          obtain ⟨q_9, h_q_9, h⟩ := am_bind h
          refine am_callV C0 (m_C_Reader_value (σ := σ) (Nat.le_refl _) a0 ha0 h_q_9) mm_yX4_value ln_RX4_84 (As := fun b => []) (fun _ => rfl) (fun _ => rfl) (loC_3_0 ha0).1 (loC_3_0 ha0).2.1 rfl (Nat.le_trans (by decide) hd) rfl (Nat.le_of_ble_eq_true rfl) dX4_takes_54 ?_
          obtain ⟨σ_10, e_σ_10, h⟩ := am_lt h
          refine am_putI C0 e_σ_10 fp_RX4_31 (loC_3_6 ha0).1 (loC_3_6 ha0).2.1 (loC_3_6 ha0).2.2.1 (loC_3_6 ha0).2.2.2 rfl rfl dX4_takes_57 ?_
          refine am_aload_n C0 dX4_takes_60 0 rfl ?_
          refine am_dup C0 dX4_takes_61 rfl ?_
          refine am_getI C0 ff_RX4_28 (loC_3_5 ha0).1 (loC_3_5 ha0).2.1 (loC_3_5 ha0).2.2.1 (loC_3_5 ha0).2.2.2 dX4_takes_62 ?_
          refine am_iconst C0 dX4_takes_65 ci_1 ?_
          refine am_iadd C0 dX4_takes_66 ?_
          obtain ⟨σ_11, e_σ_11, h⟩ := am_lt h
          refine am_putI C0 e_σ_11 fp_RX4_28 (loC_3_5 ha0).1 (loC_3_5 ha0).2.1 (loC_3_5 ha0).2.2.1 (loC_3_5 ha0).2.2.2 rfl rfl dX4_takes_67 ?_
          refine am_iconst C0 dX4_takes_70 ci_1 ?_
          have e := Option.some.inj h
          subst e
          exact hret _ _ dX4_takes_71
        · replace h := am_ip h c_8
          exact am_sub [0] rfl (k_C_Reader_takes_p42 C0 hd hret a0 σ ha0 h)
    · replace h := am_ip h c_4
      exact am_sub [0] rfl (k_C_Reader_takes_p16 C0 hd hret a0 σ ha0 h)
set_option maxRecDepth 100000 in
set_option maxHeartbeats 4000000 in
theorem m_C_Reader_takes {l : Launch} {d : Nat} {σ : am_SS} {q : Bool × am_SS} (hd : 2 ≤ d) (a0 : Nat) (x1 : Int32) (x2 : Int32) (ha0 : LC.1 a0 = 5) (h : C_Reader_takes a0 x1 x2 σ = some q) : am_Met l yX4_takes cX4_takes 3 (some .boolean) d 0 0 LC (fun b => [.ref (b a0), .int x1, .int x2]) σ (some (.int (am_bI q.1))) q.2 :=
  am_metI (plainFor_of_name (by decide)) (am_bI_nr _) (lv := fun b => [(0, .ref (b a0)), (1, .int x1), (2, .int x2)]) (fun _ => rfl) (fun _ => Nat.le_of_ble_eq_true rfl) (fun G C0 _ hret => k_C_Reader_takes C0 hd hret a0 x1 x2 σ ha0 h)
set_option maxRecDepth 100000 in
set_option maxHeartbeats 4000000 in
theorem k_C_Reader_opens_p24 {G : am_T} {d0 : Nat} (C0 : am_C G cX4_opens 4 RX4 LC d0) (hd : 2 ≤ d0) {q : Bool × am_SS} (hret : am_retI G cX4_opens 4 (am_bI q.1) q.2) (a0 : Nat) (σ : am_SS) (ha0 : LC.1 a0 = 5) (h : C_Reader_opens_p24 a0 σ = some q) : am_K G 4 24 [(0, .ref (am_b G a0))] [] σ := by
  unfold C_Reader_opens_p24 at h
  refine am_aload_n C0 dX4_opens_24 0 rfl ?_
  refine am_iconst C0 dX4_opens_25 ci_1 ?_
  refine am_aload_n C0 dX4_opens_26 0 rfl ?_
  refine am_getI C0 ff_RX4_28 (loC_3_5 ha0).1 (loC_3_5 ha0).2.1 (loC_3_5 ha0).2.2.1 (loC_3_5 ha0).2.2.2 dX4_opens_27 ?_
  obtain ⟨q_1, h_q_1, h⟩ := am_bind h
  refine am_callV C0 (m_C_Reader_fail (σ := σ) (Nat.le_refl _) a0 1 (σ a0 5) ha0 h_q_1) mm_yX4_fail ln_RX4_91 (As := fun b => [.int 1, .int (σ a0 5)]) (fun _ => rfl) (fun _ => rfl) (loC_3_0 ha0).1 (loC_3_0 ha0).2.1 rfl (Nat.le_trans (by decide) hd) rfl (Nat.le_of_ble_eq_true rfl) dX4_opens_30 ?_
  have e := Option.some.inj h
  subst e
  exact hret _ _ dX4_opens_33
set_option maxRecDepth 100000 in
set_option maxHeartbeats 4000000 in
theorem k_C_Reader_opens {G : am_T} {d0 : Nat} (C0 : am_C G cX4_opens 4 RX4 LC d0) (hd : 2 ≤ d0) {q : Bool × am_SS} (hret : am_retI G cX4_opens 4 (am_bI q.1) q.2) (a0 : Nat) (x1 : Int32) (x2 : Int32) (x3 : Int32) (σ : am_SS) (ha0 : LC.1 a0 = 5) (h : C_Reader_opens a0 x1 x2 x3 σ = some q) : am_K G 4 0 [(0, .ref (am_b G a0)), (1, .int x1), (2, .int x2), (3, .int x3)] [] σ := by
  unfold C_Reader_opens at h
  refine am_aload_n C0 dX4_opens_0 0 rfl ?_
  obtain ⟨q_1, h_q_1, h⟩ := am_bind h
  refine am_callV C0 (m_C_Reader_kind (σ := σ) (Nat.le_refl _) a0 ha0 h_q_1) mm_yX4_kind ln_RX4_81 (As := fun b => []) (fun _ => rfl) (fun _ => rfl) (loC_3_0 ha0).1 (loC_3_0 ha0).2.1 rfl (Nat.le_trans (by decide) hd) rfl (Nat.le_of_ble_eq_true rfl) dX4_opens_1 ?_
  refine am_iconst C0 dX4_opens_4 ci_2 ?_
  refine am_icmp_ne C0 dX4_opens_5 (tgt := 24) (by decide) (fun c_2 => ?_) (fun c_2 => ?_)
  · replace h := am_in h c_2
    exact am_sub [0] rfl (k_C_Reader_opens_p24 C0 hd hret a0 σ ha0 h)
  · replace h := am_ip h c_2
    refine am_aload_n C0 dX4_opens_8 0 rfl ?_
    obtain ⟨q_3, h_q_3, h⟩ := am_bind h
    refine am_callV C0 (m_C_Reader_value (σ := σ) (Nat.le_refl _) a0 ha0 h_q_3) mm_yX4_value ln_RX4_84 (As := fun b => []) (fun _ => rfl) (fun _ => rfl) (loC_3_0 ha0).1 (loC_3_0 ha0).2.1 rfl (Nat.le_trans (by decide) hd) rfl (Nat.le_of_ble_eq_true rfl) dX4_opens_9 ?_
    refine am_iload_n C0 dX4_opens_12 2 rfl ?_
    refine am_icmp_lt C0 dX4_opens_13 (tgt := 24) (by decide) (fun c_4 => ?_) (fun c_4 => ?_)
    · replace h := am_ip h c_4
      exact am_sub [0] rfl (k_C_Reader_opens_p24 C0 hd hret a0 σ ha0 h)
    · replace h := am_in h c_4
      refine am_aload_n C0 dX4_opens_16 0 rfl ?_
      obtain ⟨q_5, h_q_5, h⟩ := am_bind h
      refine am_callV C0 (m_C_Reader_value (σ := σ) (Nat.le_refl _) a0 ha0 h_q_5) mm_yX4_value ln_RX4_84 (As := fun b => []) (fun _ => rfl) (fun _ => rfl) (loC_3_0 ha0).1 (loC_3_0 ha0).2.1 rfl (Nat.le_trans (by decide) hd) rfl (Nat.le_of_ble_eq_true rfl) dX4_opens_17 ?_
      refine am_iload_n C0 dX4_opens_20 3 rfl ?_
      refine am_icmp_le C0 dX4_opens_21 (tgt := 34) (by decide) (fun c_6 => ?_) (fun c_6 => ?_)
      · replace h := am_in h c_6
        refine am_iload_n C0 dX4_opens_34 1 rfl ?_
        refine am_bipush C0 dX4_opens_35 kb_16 ?_
        refine am_icmp_lt C0 dX4_opens_37 (tgt := 50) (by decide) (fun c_7 => ?_) (fun c_7 => ?_)
        · replace h := am_ip h c_7
          refine am_aload_n C0 dX4_opens_50 0 rfl ?_
          refine am_aload_n C0 dX4_opens_51 0 rfl ?_
          obtain ⟨q_8, h_q_8, h⟩ := am_bind h
          refine am_callV C0 (m_C_Reader_value (σ := σ) (Nat.le_refl _) a0 ha0 h_q_8) mm_yX4_value ln_RX4_84 (As := fun b => []) (fun _ => rfl) (fun _ => rfl) (loC_3_0 ha0).1 (loC_3_0 ha0).2.1 rfl (Nat.le_trans (by decide) hd) rfl (Nat.le_of_ble_eq_true rfl) dX4_opens_52 ?_
          obtain ⟨σ_9, e_σ_9, h⟩ := am_lt h
          refine am_putI C0 e_σ_9 fp_RX4_31 (loC_3_6 ha0).1 (loC_3_6 ha0).2.1 (loC_3_6 ha0).2.2.1 (loC_3_6 ha0).2.2.2 rfl rfl dX4_opens_55 ?_
          refine am_aload_n C0 dX4_opens_58 0 rfl ?_
          refine am_dup C0 dX4_opens_59 rfl ?_
          refine am_getI C0 ff_RX4_28 (loC_3_5 ha0).1 (loC_3_5 ha0).2.1 (loC_3_5 ha0).2.2.1 (loC_3_5 ha0).2.2.2 dX4_opens_60 ?_
          refine am_iconst C0 dX4_opens_63 ci_1 ?_
          refine am_iadd C0 dX4_opens_64 ?_
          obtain ⟨σ_10, e_σ_10, h⟩ := am_lt h
          refine am_putI C0 e_σ_10 fp_RX4_28 (loC_3_5 ha0).1 (loC_3_5 ha0).2.1 (loC_3_5 ha0).2.2.1 (loC_3_5 ha0).2.2.2 rfl rfl dX4_opens_65 ?_
          refine am_iconst C0 dX4_opens_68 ci_1 ?_
          have e := Option.some.inj h
          subst e
          exact hret _ _ dX4_opens_69
        · replace h := am_in h c_7
          refine am_aload_n C0 dX4_opens_40 0 rfl ?_
          refine am_iconst C0 dX4_opens_41 ci_3 ?_
          refine am_aload_n C0 dX4_opens_42 0 rfl ?_
          refine am_getI C0 ff_RX4_28 (loC_3_5 ha0).1 (loC_3_5 ha0).2.1 (loC_3_5 ha0).2.2.1 (loC_3_5 ha0).2.2.2 dX4_opens_43 ?_
          obtain ⟨q_11, h_q_11, h⟩ := am_bind h
          refine am_callV C0 (m_C_Reader_fail (σ := σ) (Nat.le_refl _) a0 3 (σ a0 5) ha0 h_q_11) mm_yX4_fail ln_RX4_91 (As := fun b => [.int 3, .int (σ a0 5)]) (fun _ => rfl) (fun _ => rfl) (loC_3_0 ha0).1 (loC_3_0 ha0).2.1 rfl (Nat.le_trans (by decide) hd) rfl (Nat.le_of_ble_eq_true rfl) dX4_opens_46 ?_
          have e := Option.some.inj h
          subst e
          exact hret _ _ dX4_opens_49
      · replace h := am_ip h c_6
        exact am_sub [0] rfl (k_C_Reader_opens_p24 C0 hd hret a0 σ ha0 h)
set_option maxRecDepth 100000 in
set_option maxHeartbeats 4000000 in
theorem m_C_Reader_opens {l : Launch} {d : Nat} {σ : am_SS} {q : Bool × am_SS} (hd : 2 ≤ d) (a0 : Nat) (x1 : Int32) (x2 : Int32) (x3 : Int32) (ha0 : LC.1 a0 = 5) (h : C_Reader_opens a0 x1 x2 x3 σ = some q) : am_Met l yX4_opens cX4_opens 4 (some .boolean) d 0 0 LC (fun b => [.ref (b a0), .int x1, .int x2, .int x3]) σ (some (.int (am_bI q.1))) q.2 :=
  am_metI (plainFor_of_name (by decide)) (am_bI_nr _) (lv := fun b => [(0, .ref (b a0)), (1, .int x1), (2, .int x2), (3, .int x3)]) (fun _ => rfl) (fun _ => Nat.le_of_ble_eq_true rfl) (fun G C0 _ hret => k_C_Reader_opens C0 hd hret a0 x1 x2 x3 σ ha0 h)
set_option maxRecDepth 100000 in
set_option maxHeartbeats 4000000 in
theorem k_C_Table_add_p100 {G : am_T} {d0 : Nat} (C0 : am_C G cX6_add 7 RX6 LC d0) (hd : 1 ≤ d0) (F : Nat) {q : Int32 × am_SS} (hret : am_retI G cX6_add 7 q.1 q.2) (a0 : Nat) (σ : am_SS) (ha0 : LC.1 a0 = 6) (h : C_Table_add_p100 F a0 σ = some q) : am_K G 7 100 [(0, .ref (am_b G a0))] [] σ := by
  unfold C_Table_add_p100 at h
  refine am_aload_n C0 dX6_add_100 0 rfl ?_
  refine am_dup C0 dX6_add_101 rfl ?_
  refine am_getI C0 ff_RX6_9 (loC_4_2 ha0).1 (loC_4_2 ha0).2.1 (loC_4_2 ha0).2.2.1 (loC_4_2 ha0).2.2.2 dX6_add_102 ?_
  refine am_iconst C0 dX6_add_105 ci_1 ?_
  refine am_iadd C0 dX6_add_106 ?_
  obtain ⟨σ_1, e_σ_1, h⟩ := am_lt h
  refine am_putI C0 e_σ_1 fp_RX6_9 (loC_4_2 ha0).1 (loC_4_2 ha0).2.1 (loC_4_2 ha0).2.2.1 (loC_4_2 ha0).2.2.2 rfl rfl dX6_add_107 ?_
  refine am_aload_n C0 dX6_add_110 0 rfl ?_
  refine am_getI C0 ff_RX6_9 (loC_4_2 ha0).1 (loC_4_2 ha0).2.1 (loC_4_2 ha0).2.2.1 (loC_4_2 ha0).2.2.2 dX6_add_111 ?_
  have e := Option.some.inj h
  subst e
  exact hret _ _ dX6_add_114
set_option maxRecDepth 100000 in
set_option maxHeartbeats 4000000 in
theorem k_C_Table_add_p93 {G : am_T} {d0 : Nat} (C0 : am_C G cX6_add 7 RX6 LC d0) (hd : 1 ≤ d0) (rec31 : Nat → Int32 → Int32 → Int32 → Int32 → Int32 → Int32 → am_SS → Option (Int32 × am_SS)) (F : Nat) {q : Int32 × am_SS} (hret : am_retI G cX6_add 7 q.1 q.2) (hrec31 : ∀ (a0 : Nat) (x1 : Int32) (x2 : Int32) (x3 : Int32) (x4 : Int32) (x5 : Int32) (x6 : Int32) (σ : am_SS), LC.1 a0 = 6 → rec31 a0 x1 x2 x3 x4 x5 x6 σ = some q → am_K G 7 31 [(0, .ref (am_b G a0)), (1, .int x1), (2, .int x2), (3, .int x3), (4, .int x4), (5, .int x5), (6, .int x6)] [] σ) (a0 : Nat) (x1 : Int32) (x2 : Int32) (x3 : Int32) (x4 : Int32) (x5 : Int32) (x6 : Int32) (t0 : Nat) (s1 : Int32) (s2 : Int32) (σ : am_SS) (ha0 : LC.1 a0 = 6) (ht0 : LC.1 t0 = 0) (h : C_Table_add_p93 rec31 F a0 x1 x2 x3 x4 x5 x6 t0 s1 s2 σ = some q) : am_K G 7 93 [(0, .ref (am_b G a0)), (1, .int x1), (2, .int x2), (3, .int x3), (4, .int x4), (5, .int x5), (6, .int x6)] [.int s2, .int s1, .ref (am_b G t0)] σ := by
  unfold C_Table_add_p93 at h
  obtain ⟨σ_1, h_σ_1, h⟩ := am_bind h
  refine am_iast C0 (ltC ht0) ht0 rfl h_σ_1 dX6_add_93 ?_
  obtain ⟨x6_2, e_x6_2, h⟩ := am_lt h
  refine am_iinc C0 dX6_add_94 6 rfl (by rw [ci_1]; exact e_x6_2) (by decide) rfl (lv' := [(0, .ref (am_b G a0)), (1, .int x1), (2, .int x2), (3, .int x3), (4, .int x4), (5, .int x5), (6, .int x6_2)]) rfl ?_
  refine am_goto C0 dX6_add_97 (tgt := 31) (by decide) ?_
  exact am_sub [0, 1, 2, 3, 4, 5, 6] rfl (hrec31 a0 x1 x2 x3 x4 x5 x6_2 σ_1 ha0 h)
set_option maxRecDepth 100000 in
set_option maxHeartbeats 4000000 in
theorem k_C_Table_add_l31 {G : am_T} {d0 : Nat} (C0 : am_C G cX6_add 7 RX6 LC d0) (hd : 1 ≤ d0) (F : Nat) {q : Int32 × am_SS} (hret : am_retI G cX6_add 7 q.1 q.2) : ∀ (n : Nat) (a0 : Nat) (x1 : Int32) (x2 : Int32) (x3 : Int32) (x4 : Int32) (x5 : Int32) (x6 : Int32) (σ : am_SS) (ha0 : LC.1 a0 = 6) (h : C_Table_add_l31 F n a0 x1 x2 x3 x4 x5 x6 σ = some q), am_K G 7 31 [(0, .ref (am_b G a0)), (1, .int x1), (2, .int x2), (3, .int x3), (4, .int x4), (5, .int x5), (6, .int x6)] [] σ := by
  intro n
  induction n with
  | zero =>
    intro a0 x1 x2 x3 x4 x5 x6 σ ha0 h
    rw [C_Table_add_l31] at h
    cases h
  | succ n ih =>
    intro a0 x1 x2 x3 x4 x5 x6 σ ha0 h
    rw [C_Table_add_l31] at h
    refine am_iload C0 dX6_add_31 6 rfl ?_
    refine am_aload_n C0 dX6_add_33 0 rfl ?_
    refine am_getI C0 ff_RX6_24 (loC_4_0 ha0).1 (loC_4_0 ha0).2.1 (loC_4_0 ha0).2.2.1 (loC_4_0 ha0).2.2.2 dX6_add_34 ?_
    refine am_icmp_ge C0 dX6_add_37 (tgt := 100) (by decide) (fun c_1 => ?_) (fun c_1 => ?_)
    · replace h := am_in h c_1
      exact am_sub [0] rfl (k_C_Table_add_p100 C0 hd F hret a0 σ ha0 h)
    · replace h := am_ip h c_1
      refine am_iload C0 dX6_add_40 5 rfl ?_
      refine am_iload C0 dX6_add_42 6 rfl ?_
      refine am_iadd C0 dX6_add_44 ?_
      refine am_aload_n C0 dX6_add_45 0 rfl ?_
      refine am_getR C0 (j := a0 + 1) ff_RX6_27 (loC_4_1 ha0).1 (loC_4_1 ha0).2.1 (loC_4_1 ha0).2.2.1 (loC_4_1 ha0).2.2.2 dX6_add_46 ?_
      refine am_alen C0 (ltC (tgC_4_1 ha0)) (tgC_4_1 ha0) rfl rfl dX6_add_49 ?_
      refine am_icmp_ge C0 dX6_add_50 (tgt := 100) (by decide) (fun c_2 => ?_) (fun c_2 => ?_)
      · replace h := am_in h c_2
        exact am_sub [0] rfl (k_C_Table_add_p100 C0 hd F hret a0 σ ha0 h)
      · replace h := am_ip h c_2
        refine am_aload_n C0 dX6_add_53 0 rfl ?_
        refine am_getR C0 (j := a0 + 1) ff_RX6_27 (loC_4_1 ha0).1 (loC_4_1 ha0).2.1 (loC_4_1 ha0).2.2.1 (loC_4_1 ha0).2.2.2 dX6_add_54 ?_
        refine am_iload C0 dX6_add_57 5 rfl ?_
        refine am_iload C0 dX6_add_59 6 rfl ?_
        refine am_iadd C0 dX6_add_61 ?_
        refine am_iload C0 dX6_add_62 6 rfl ?_
        refine am_if_ne C0 dX6_add_64 (tgt := 71) (by decide) (fun c_3 => ?_) (fun c_3 => ?_)
        · replace h := am_in h c_3
          refine am_iload C0 dX6_add_71 6 rfl ?_
          refine am_iconst C0 dX6_add_73 ci_1 ?_
          refine am_icmp_ne C0 dX6_add_74 (tgt := 81) (by decide) (fun c_4 => ?_) (fun c_4 => ?_)
          · replace h := am_in h c_4
            refine am_iload C0 dX6_add_81 6 rfl ?_
            refine am_iconst C0 dX6_add_83 ci_2 ?_
            refine am_icmp_ne C0 dX6_add_84 (tgt := 91) (by decide) (fun c_5 => ?_) (fun c_5 => ?_)
            · replace h := am_in h c_5
              refine am_iload C0 dX6_add_91 4 rfl ?_
              exact am_sub [0, 1, 2, 3, 4, 5, 6] rfl (k_C_Table_add_p93 C0 hd _ F hret (fun z0 z1 z2 z3 z4 z5 z6 zs zh0 z => ih z0 z1 z2 z3 z4 z5 z6 zs zh0 z) a0 x1 x2 x3 x4 x5 x6 (a0 + 1) (x5 + x6) x4 σ ha0 (tgC_4_1 ha0) h)
            · replace h := am_ip h c_5
              refine am_iload_n C0 dX6_add_87 3 rfl ?_
              refine am_goto C0 dX6_add_88 (tgt := 93) (by decide) ?_
              exact am_sub [0, 1, 2, 3, 4, 5, 6] rfl (k_C_Table_add_p93 C0 hd _ F hret (fun z0 z1 z2 z3 z4 z5 z6 zs zh0 z => ih z0 z1 z2 z3 z4 z5 z6 zs zh0 z) a0 x1 x2 x3 x4 x5 x6 (a0 + 1) (x5 + x6) x3 σ ha0 (tgC_4_1 ha0) h)
          · replace h := am_ip h c_4
            refine am_iload_n C0 dX6_add_77 2 rfl ?_
            refine am_goto C0 dX6_add_78 (tgt := 93) (by decide) ?_
            exact am_sub [0, 1, 2, 3, 4, 5, 6] rfl (k_C_Table_add_p93 C0 hd _ F hret (fun z0 z1 z2 z3 z4 z5 z6 zs zh0 z => ih z0 z1 z2 z3 z4 z5 z6 zs zh0 z) a0 x1 x2 x3 x4 x5 x6 (a0 + 1) (x5 + x6) x2 σ ha0 (tgC_4_1 ha0) h)
        · replace h := am_ip h c_3
          refine am_iload_n C0 dX6_add_67 1 rfl ?_
          refine am_goto C0 dX6_add_68 (tgt := 93) (by decide) ?_
          exact am_sub [0, 1, 2, 3, 4, 5, 6] rfl (k_C_Table_add_p93 C0 hd _ F hret (fun z0 z1 z2 z3 z4 z5 z6 zs zh0 z => ih z0 z1 z2 z3 z4 z5 z6 zs zh0 z) a0 x1 x2 x3 x4 x5 x6 (a0 + 1) (x5 + x6) x1 σ ha0 (tgC_4_1 ha0) h)
set_option maxRecDepth 100000 in
set_option maxHeartbeats 4000000 in
theorem k_C_Table_add {G : am_T} {d0 : Nat} (C0 : am_C G cX6_add 7 RX6 LC d0) (hd : 1 ≤ d0) (F : Nat) {q : Int32 × am_SS} (hret : am_retI G cX6_add 7 q.1 q.2) (a0 : Nat) (x1 : Int32) (x2 : Int32) (x3 : Int32) (x4 : Int32) (σ : am_SS) (ha0 : LC.1 a0 = 6) (h : C_Table_add F a0 x1 x2 x3 x4 σ = some q) : am_K G 7 0 [(0, .ref (am_b G a0)), (1, .int x1), (2, .int x2), (3, .int x3), (4, .int x4)] [] σ := by
  unfold C_Table_add at h
  refine am_aload_n C0 dX6_add_0 0 rfl ?_
  refine am_getI C0 ff_RX6_9 (loC_4_2 ha0).1 (loC_4_2 ha0).2.1 (loC_4_2 ha0).2.2.1 (loC_4_2 ha0).2.2.2 dX6_add_1 ?_
  refine am_aload_n C0 dX6_add_4 0 rfl ?_
  refine am_getI C0 ff_RX6_24 (loC_4_0 ha0).1 (loC_4_0 ha0).2.1 (loC_4_0 ha0).2.2.1 (loC_4_0 ha0).2.2.2 dX6_add_5 ?_
  refine am_imul C0 dX6_add_8 ?_
  obtain ⟨x5_1, e_x5_1, h⟩ := am_lt h
  refine am_top e_x5_1 ?_
  refine am_istore C0 dX6_add_9 (by decide) rfl (lv' := [(0, .ref (am_b G a0)), (1, .int x1), (2, .int x2), (3, .int x3), (4, .int x4), (5, .int x5_1)]) rfl ?_
  refine am_iload C0 dX6_add_11 5 rfl ?_
  refine am_aload_n C0 dX6_add_13 0 rfl ?_
  refine am_getI C0 ff_RX6_24 (loC_4_0 ha0).1 (loC_4_0 ha0).2.1 (loC_4_0 ha0).2.2.1 (loC_4_0 ha0).2.2.2 dX6_add_14 ?_
  refine am_iadd C0 dX6_add_17 ?_
  refine am_aload_n C0 dX6_add_18 0 rfl ?_
  refine am_getR C0 (j := a0 + 1) ff_RX6_27 (loC_4_1 ha0).1 (loC_4_1 ha0).2.1 (loC_4_1 ha0).2.2.1 (loC_4_1 ha0).2.2.2 dX6_add_19 ?_
  refine am_alen C0 (ltC (tgC_4_1 ha0)) (tgC_4_1 ha0) rfl rfl dX6_add_22 ?_
  refine am_icmp_le C0 dX6_add_23 (tgt := 28) (by decide) (fun c_2 => ?_) (fun c_2 => ?_)
  · replace h := am_in h c_2
    refine am_iconst C0 dX6_add_28 ci_0 ?_
    refine am_istore C0 dX6_add_29 (by decide) rfl (lv' := [(0, .ref (am_b G a0)), (1, .int x1), (2, .int x2), (3, .int x3), (4, .int x4), (5, .int x5_1), (6, .int 0)]) rfl ?_
    exact am_sub [0, 1, 2, 3, 4, 5, 6] rfl (k_C_Table_add_l31 C0 hd F hret F a0 x1 x2 x3 x4 x5_1 0 σ ha0 h)
  · replace h := am_ip h c_2
    refine am_iconst C0 dX6_add_26 ci_m1 ?_
    have e := Option.some.inj h
    subst e
    exact hret _ _ dX6_add_27
set_option maxRecDepth 100000 in
set_option maxHeartbeats 4000000 in
theorem m_C_Table_add {l : Launch} {d : Nat} {σ : am_SS} {q : Int32 × am_SS} (hd : 1 ≤ d) (F : Nat) (a0 : Nat) (x1 : Int32) (x2 : Int32) (x3 : Int32) (x4 : Int32) (ha0 : LC.1 a0 = 6) (h : C_Table_add F a0 x1 x2 x3 x4 σ = some q) : am_Met l yX6_add cX6_add 7 (some .int) d 0 0 LC (fun b => [.ref (b a0), .int x1, .int x2, .int x3, .int x4]) σ (some (.int q.1)) q.2 :=
  am_metI (plainFor_of_name (by decide)) rfl (lv := fun b => [(0, .ref (b a0)), (1, .int x1), (2, .int x2), (3, .int x3), (4, .int x4)]) (fun _ => rfl) (fun _ => Nat.le_of_ble_eq_true rfl) (fun G C0 _ hret => k_C_Table_add C0 hd F hret a0 x1 x2 x3 x4 σ ha0 h)
set_option maxRecDepth 100000 in
set_option maxHeartbeats 4000000 in
theorem k_C_Reader_unit_p93 {G : am_T} {d0 : Nat} (C0 : am_C G cX4_unit 3 RX4 LC d0) (hd : 2 ≤ d0) (F : Nat) {q : Bool × am_SS} (hret : am_retI G cX4_unit 3 (am_bI q.1) q.2) (a0 : Nat) (t0 : Nat) (s1 : Int32) (σ : am_SS) (ha0 : LC.1 a0 = 5) (ht0 : LC.1 t0 = 6) (h : C_Reader_unit_p93 F a0 t0 s1 σ = some q) : am_K G 3 93 [(0, .ref (am_b G a0))] [.int s1, .ref (am_b G t0)] σ := by
  unfold C_Reader_unit_p93 at h
  refine am_aload_n C0 dX4_unit_93 0 rfl ?_
  obtain ⟨q_1, h_q_1, h⟩ := am_bind h
  refine am_callV C0 (m_C_Reader_value (σ := σ) (Nat.le_refl _) a0 ha0 h_q_1) mm_yX4_value ln_RX4_84 (As := fun b => []) (fun _ => rfl) (fun _ => rfl) (loC_3_0 ha0).1 (loC_3_0 ha0).2.1 rfl (Nat.le_trans (by decide) hd) rfl (Nat.le_of_ble_eq_true rfl) dX4_unit_94 ?_
  refine am_iconst C0 dX4_unit_97 ci_0 ?_
  refine am_iconst C0 dX4_unit_98 ci_0 ?_
  obtain ⟨q_2, h_q_2, h⟩ := am_bind h
  refine am_callV C0 (m_C_Table_add (σ := σ) (Nat.le_refl _) F t0 s1 q_1 0 0 ht0 h_q_2) mm_yX6_add ln_RX4_123 (As := fun b => [.int s1, .int q_1, .int 0, .int 0]) (fun _ => rfl) (fun _ => rfl) (loC_4_0 ht0).1 (loC_4_0 ht0).2.1 rfl (Nat.le_trans (by decide) hd) rfl (Nat.le_of_ble_eq_true rfl) dX4_unit_99 ?_
  refine am_pop C0 dX4_unit_102 rfl ?_
  refine am_aload_n C0 dX4_unit_103 0 rfl ?_
  refine am_dup C0 dX4_unit_104 rfl ?_
  refine am_getI C0 ff_RX4_28 (loC_3_5 ha0).1 (loC_3_5 ha0).2.1 (loC_3_5 ha0).2.2.1 (loC_3_5 ha0).2.2.2 dX4_unit_105 ?_
  refine am_iconst C0 dX4_unit_108 ci_1 ?_
  refine am_iadd C0 dX4_unit_109 ?_
  obtain ⟨σ_3, e_σ_3, h⟩ := am_lt h
  refine am_putI C0 e_σ_3 fp_RX4_28 (loC_3_5 ha0).1 (loC_3_5 ha0).2.1 (loC_3_5 ha0).2.2.1 (loC_3_5 ha0).2.2.2 rfl rfl dX4_unit_110 ?_
  refine am_iconst C0 dX4_unit_113 ci_1 ?_
  have e := Option.some.inj h
  subst e
  exact hret _ _ dX4_unit_114
set_option maxRecDepth 100000 in
set_option maxHeartbeats 4000000 in
theorem k_C_Reader_unit_p72 {G : am_T} {d0 : Nat} (C0 : am_C G cX4_unit 3 RX4 LC d0) (hd : 2 ≤ d0) (F : Nat) {q : Bool × am_SS} (hret : am_retI G cX4_unit 3 (am_bI q.1) q.2) (a0 : Nat) (x1 : Bool) (σ : am_SS) (ha0 : LC.1 a0 = 5) (h : C_Reader_unit_p72 F a0 x1 σ = some q) : am_K G 3 72 [(0, .ref (am_b G a0)), (1, .int (am_bI x1))] [] σ := by
  unfold C_Reader_unit_p72 at h
  refine am_aload_n C0 dX4_unit_72 0 rfl ?_
  refine am_getR C0 (j := a0 + 5) ff_RX4_43 (loC_3_9 ha0).1 (loC_3_9 ha0).2.1 (loC_3_9 ha0).2.2.1 (loC_3_9 ha0).2.2.2 dX4_unit_73 ?_
  refine am_getR C0 (j := a0 + 5 + 3) ff_RX4_105 (loC_1_1 (tgC_3_9 ha0)).1 (loC_1_1 (tgC_3_9 ha0)).2.1 (loC_1_1 (tgC_3_9 ha0)).2.2.1 (loC_1_1 (tgC_3_9 ha0)).2.2.2 dX4_unit_76 ?_
  refine am_iload_n C0 dX4_unit_79 1 rfl ?_
  refine am_ifB_eq C0 dX4_unit_80 (tgt := 89) (by decide) (fun c_1 => ?_) (fun c_1 => ?_)
  · replace h := am_in h c_1
    refine am_aload_n C0 dX4_unit_89 0 rfl ?_
    obtain ⟨q_2, h_q_2, h⟩ := am_bind h
    refine am_callV C0 (m_C_Reader_value (σ := σ) (Nat.le_refl _) a0 ha0 h_q_2) mm_yX4_value ln_RX4_84 (As := fun b => []) (fun _ => rfl) (fun _ => rfl) (loC_3_0 ha0).1 (loC_3_0 ha0).2.1 rfl (Nat.le_trans (by decide) hd) rfl (Nat.le_of_ble_eq_true rfl) dX4_unit_90 ?_
    exact am_sub [0] rfl (k_C_Reader_unit_p93 C0 hd F hret a0 (a0 + 5 + 3) q_2 σ ha0 (tgC_1_1 (tgC_3_9 ha0)) h)
  · replace h := am_ip h c_1
    refine am_sipush C0 dX4_unit_83 cs_1000 ?_
    refine am_goto C0 dX4_unit_86 (tgt := 93) (by decide) ?_
    exact am_sub [0] rfl (k_C_Reader_unit_p93 C0 hd F hret a0 (a0 + 5 + 3) 1000 σ ha0 (tgC_1_1 (tgC_3_9 ha0)) h)
set_option maxRecDepth 100000 in
set_option maxHeartbeats 4000000 in
theorem k_C_Reader_unit_p53 {G : am_T} {d0 : Nat} (C0 : am_C G cX4_unit 3 RX4 LC d0) (hd : 2 ≤ d0) (F : Nat) {q : Bool × am_SS} (hret : am_retI G cX4_unit 3 (am_bI q.1) q.2) (a0 : Nat) (x1 : Bool) (s0 : Bool) (σ : am_SS) (ha0 : LC.1 a0 = 5) (h : C_Reader_unit_p53 F a0 x1 s0 σ = some q) : am_K G 3 53 [(0, .ref (am_b G a0)), (1, .int (am_bI x1))] [.int (am_bI s0)] σ := by
  unfold C_Reader_unit_p53 at h
  refine am_istore_n C0 dX4_unit_53 rfl (by decide) rfl (lv' := [(0, .ref (am_b G a0)), (1, .int (am_bI x1)), (2, .int (am_bI s0))]) rfl ?_
  refine am_iload_n C0 dX4_unit_54 1 rfl ?_
  refine am_ifB_ne C0 dX4_unit_55 (tgt := 72) (by decide) (fun c_1 => ?_) (fun c_1 => ?_)
  · replace h := am_ip h c_1
    exact am_sub [0, 1] rfl (k_C_Reader_unit_p72 C0 hd F hret a0 x1 σ ha0 h)
  · replace h := am_in h c_1
    refine am_iload_n C0 dX4_unit_58 2 rfl ?_
    refine am_ifB_ne C0 dX4_unit_59 (tgt := 72) (by decide) (fun c_2 => ?_) (fun c_2 => ?_)
    · replace h := am_ip h c_2
      exact am_sub [0, 1] rfl (k_C_Reader_unit_p72 C0 hd F hret a0 x1 σ ha0 h)
    · replace h := am_in h c_2
      refine am_aload_n C0 dX4_unit_62 0 rfl ?_
      refine am_iconst C0 dX4_unit_63 ci_1 ?_
      refine am_aload_n C0 dX4_unit_64 0 rfl ?_
      refine am_getI C0 ff_RX4_28 (loC_3_5 ha0).1 (loC_3_5 ha0).2.1 (loC_3_5 ha0).2.2.1 (loC_3_5 ha0).2.2.2 dX4_unit_65 ?_
      obtain ⟨q_3, h_q_3, h⟩ := am_bind h
      refine am_callV C0 (m_C_Reader_fail (σ := σ) (Nat.le_refl _) a0 1 (σ a0 5) ha0 h_q_3) mm_yX4_fail ln_RX4_91 (As := fun b => [.int 1, .int (σ a0 5)]) (fun _ => rfl) (fun _ => rfl) (loC_3_0 ha0).1 (loC_3_0 ha0).2.1 rfl (Nat.le_trans (by decide) hd) rfl (Nat.le_of_ble_eq_true rfl) dX4_unit_68 ?_
      have e := Option.some.inj h
      subst e
      exact hret _ _ dX4_unit_71
set_option maxRecDepth 100000 in
set_option maxHeartbeats 4000000 in
theorem k_C_Reader_unit_p52 {G : am_T} {d0 : Nat} (C0 : am_C G cX4_unit 3 RX4 LC d0) (hd : 2 ≤ d0) (F : Nat) {q : Bool × am_SS} (hret : am_retI G cX4_unit 3 (am_bI q.1) q.2) (a0 : Nat) (x1 : Bool) (σ : am_SS) (ha0 : LC.1 a0 = 5) (h : C_Reader_unit_p52 F a0 x1 σ = some q) : am_K G 3 52 [(0, .ref (am_b G a0)), (1, .int (am_bI x1))] [] σ := by
  unfold C_Reader_unit_p52 at h
  refine am_iconst C0 dX4_unit_52 ci_0 ?_
  exact am_sub [0, 1] rfl (k_C_Reader_unit_p53 C0 hd F hret a0 x1 false σ ha0 h)
set_option maxRecDepth 100000 in
set_option maxHeartbeats 4000000 in
theorem k_C_Reader_unit_p21 {G : am_T} {d0 : Nat} (C0 : am_C G cX4_unit 3 RX4 LC d0) (hd : 2 ≤ d0) (F : Nat) {q : Bool × am_SS} (hret : am_retI G cX4_unit 3 (am_bI q.1) q.2) (a0 : Nat) (s0 : Bool) (σ : am_SS) (ha0 : LC.1 a0 = 5) (h : C_Reader_unit_p21 F a0 s0 σ = some q) : am_K G 3 21 [(0, .ref (am_b G a0))] [.int (am_bI s0)] σ := by
  unfold C_Reader_unit_p21 at h
  refine am_istore_n C0 dX4_unit_21 rfl (by decide) rfl (lv' := [(0, .ref (am_b G a0)), (1, .int (am_bI s0))]) rfl ?_
  refine am_aload_n C0 dX4_unit_22 0 rfl ?_
  obtain ⟨q_1, h_q_1, h⟩ := am_bind h
  refine am_callV C0 (m_C_Reader_kind (σ := σ) (Nat.le_refl _) a0 ha0 h_q_1) mm_yX4_kind ln_RX4_81 (As := fun b => []) (fun _ => rfl) (fun _ => rfl) (loC_3_0 ha0).1 (loC_3_0 ha0).2.1 rfl (Nat.le_trans (by decide) hd) rfl (Nat.le_of_ble_eq_true rfl) dX4_unit_23 ?_
  refine am_iconst C0 dX4_unit_26 ci_2 ?_
  refine am_icmp_ne C0 dX4_unit_27 (tgt := 52) (by decide) (fun c_2 => ?_) (fun c_2 => ?_)
  · replace h := am_in h c_2
    exact am_sub [0, 1] rfl (k_C_Reader_unit_p52 C0 hd F hret a0 s0 σ ha0 h)
  · replace h := am_ip h c_2
    refine am_aload_n C0 dX4_unit_30 0 rfl ?_
    obtain ⟨q_3, h_q_3, h⟩ := am_bind h
    refine am_callV C0 (m_C_Reader_value (σ := σ) (Nat.le_refl _) a0 ha0 h_q_3) mm_yX4_value ln_RX4_84 (As := fun b => []) (fun _ => rfl) (fun _ => rfl) (loC_3_0 ha0).1 (loC_3_0 ha0).2.1 rfl (Nat.le_trans (by decide) hd) rfl (Nat.le_of_ble_eq_true rfl) dX4_unit_31 ?_
    refine am_bipush C0 dX4_unit_34 kb_7 ?_
    refine am_icmp_lt C0 dX4_unit_36 (tgt := 52) (by decide) (fun c_4 => ?_) (fun c_4 => ?_)
    · replace h := am_ip h c_4
      exact am_sub [0, 1] rfl (k_C_Reader_unit_p52 C0 hd F hret a0 s0 σ ha0 h)
    · replace h := am_in h c_4
      refine am_aload_n C0 dX4_unit_39 0 rfl ?_
      obtain ⟨q_5, h_q_5, h⟩ := am_bind h
      refine am_callV C0 (m_C_Reader_value (σ := σ) (Nat.le_refl _) a0 ha0 h_q_5) mm_yX4_value ln_RX4_84 (As := fun b => []) (fun _ => rfl) (fun _ => rfl) (loC_3_0 ha0).1 (loC_3_0 ha0).2.1 rfl (Nat.le_trans (by decide) hd) rfl (Nat.le_of_ble_eq_true rfl) dX4_unit_40 ?_
      refine am_bipush C0 dX4_unit_43 kb_16 ?_
      refine am_icmp_gt C0 dX4_unit_45 (tgt := 52) (by decide) (fun c_6 => ?_) (fun c_6 => ?_)
      · replace h := am_ip h c_6
        exact am_sub [0, 1] rfl (k_C_Reader_unit_p52 C0 hd F hret a0 s0 σ ha0 h)
      · replace h := am_in h c_6
        refine am_iconst C0 dX4_unit_48 ci_1 ?_
        refine am_goto C0 dX4_unit_49 (tgt := 53) (by decide) ?_
        exact am_sub [0, 1] rfl (k_C_Reader_unit_p53 C0 hd F hret a0 s0 true σ ha0 h)
set_option maxRecDepth 100000 in
set_option maxHeartbeats 4000000 in
theorem k_C_Reader_unit_p20 {G : am_T} {d0 : Nat} (C0 : am_C G cX4_unit 3 RX4 LC d0) (hd : 2 ≤ d0) (F : Nat) {q : Bool × am_SS} (hret : am_retI G cX4_unit 3 (am_bI q.1) q.2) (a0 : Nat) (σ : am_SS) (ha0 : LC.1 a0 = 5) (h : C_Reader_unit_p20 F a0 σ = some q) : am_K G 3 20 [(0, .ref (am_b G a0))] [] σ := by
  unfold C_Reader_unit_p20 at h
  refine am_iconst C0 dX4_unit_20 ci_0 ?_
  exact am_sub [0] rfl (k_C_Reader_unit_p21 C0 hd F hret a0 false σ ha0 h)
set_option maxRecDepth 100000 in
set_option maxHeartbeats 4000000 in
theorem k_C_Reader_unit {G : am_T} {d0 : Nat} (C0 : am_C G cX4_unit 3 RX4 LC d0) (hd : 2 ≤ d0) (F : Nat) {q : Bool × am_SS} (hret : am_retI G cX4_unit 3 (am_bI q.1) q.2) (a0 : Nat) (σ : am_SS) (ha0 : LC.1 a0 = 5) (h : C_Reader_unit F a0 σ = some q) : am_K G 3 0 [(0, .ref (am_b G a0))] [] σ := by
  unfold C_Reader_unit at h
  refine am_aload_n C0 dX4_unit_0 0 rfl ?_
  obtain ⟨q_1, h_q_1, h⟩ := am_bind h
  refine am_callV C0 (m_C_Reader_kind (σ := σ) (Nat.le_refl _) a0 ha0 h_q_1) mm_yX4_kind ln_RX4_81 (As := fun b => []) (fun _ => rfl) (fun _ => rfl) (loC_3_0 ha0).1 (loC_3_0 ha0).2.1 rfl (Nat.le_trans (by decide) hd) rfl (Nat.le_of_ble_eq_true rfl) dX4_unit_1 ?_
  refine am_iconst C0 dX4_unit_4 ci_3 ?_
  refine am_icmp_ne C0 dX4_unit_5 (tgt := 20) (by decide) (fun c_2 => ?_) (fun c_2 => ?_)
  · replace h := am_in h c_2
    exact am_sub [0] rfl (k_C_Reader_unit_p20 C0 hd F hret a0 σ ha0 h)
  · replace h := am_ip h c_2
    refine am_aload_n C0 dX4_unit_8 0 rfl ?_
    obtain ⟨q_3, h_q_3, h⟩ := am_bind h
    refine am_callV C0 (m_C_Reader_value (σ := σ) (Nat.le_refl _) a0 ha0 h_q_3) mm_yX4_value ln_RX4_84 (As := fun b => []) (fun _ => rfl) (fun _ => rfl) (loC_3_0 ha0).1 (loC_3_0 ha0).2.1 rfl (Nat.le_trans (by decide) hd) rfl (Nat.le_of_ble_eq_true rfl) dX4_unit_9 ?_
    refine am_iconst C0 dX4_unit_12 ci_m1 ?_
    refine am_icmp_eq C0 dX4_unit_13 (tgt := 20) (by decide) (fun c_4 => ?_) (fun c_4 => ?_)
    · replace h := am_ip h c_4
      exact am_sub [0] rfl (k_C_Reader_unit_p20 C0 hd F hret a0 σ ha0 h)
    · replace h := am_in h c_4
      refine am_iconst C0 dX4_unit_16 ci_1 ?_
      refine am_goto C0 dX4_unit_17 (tgt := 21) (by decide) ?_
      exact am_sub [0] rfl (k_C_Reader_unit_p21 C0 hd F hret a0 true σ ha0 h)
set_option maxRecDepth 100000 in
set_option maxHeartbeats 4000000 in
theorem m_C_Reader_unit {l : Launch} {d : Nat} {σ : am_SS} {q : Bool × am_SS} (hd : 2 ≤ d) (F : Nat) (a0 : Nat) (ha0 : LC.1 a0 = 5) (h : C_Reader_unit F a0 σ = some q) : am_Met l yX4_unit cX4_unit 3 (some .boolean) d 0 0 LC (fun b => [.ref (b a0)]) σ (some (.int (am_bI q.1))) q.2 :=
  am_metI (plainFor_of_name (by decide)) (am_bI_nr _) (lv := fun b => [(0, .ref (b a0))]) (fun _ => rfl) (fun _ => Nat.le_of_ble_eq_true rfl) (fun G C0 _ hret => k_C_Reader_unit C0 hd F hret a0 σ ha0 h)
set_option maxRecDepth 100000 in
set_option maxHeartbeats 4000000 in
theorem k_C_Reader_product_p121 {G : am_T} {d0 : Nat} (C0 : am_C G cX4_product 2 RX4 LC d0) (hd : 3 ≤ d0) (rec11 : Nat → Int32 → am_SS → Option (Bool × am_SS)) (F : Nat) {q : Bool × am_SS} (hret : am_retI G cX4_product 2 (am_bI q.1) q.2) (hrec11 : ∀ (a0 : Nat) (x1 : Int32) (σ : am_SS), LC.1 a0 = 5 → rec11 a0 x1 σ = some q → am_K G 2 11 [(0, .ref (am_b G a0)), (1, .int x1)] [] σ) (a0 : Nat) (x1 : Int32) (σ : am_SS) (ha0 : LC.1 a0 = 5) (h : C_Reader_product_p121 rec11 F a0 x1 σ = some q) : am_K G 2 121 [(0, .ref (am_b G a0)), (1, .int x1)] [] σ := by
  unfold C_Reader_product_p121 at h
  obtain ⟨x1_1, e_x1_1, h⟩ := am_lt h
  refine am_iinc C0 dX4_product_121 1 rfl (by rw [ci_1]; exact e_x1_1) (by decide) rfl (lv' := [(0, .ref (am_b G a0)), (1, .int x1_1)]) rfl ?_
  refine am_goto C0 dX4_product_124 (tgt := 11) (by decide) ?_
  exact am_sub [0, 1] rfl (hrec11 a0 x1_1 σ ha0 h)
set_option maxRecDepth 100000 in
set_option maxHeartbeats 4000000 in
theorem k_C_Reader_product_l11 {G : am_T} {d0 : Nat} (C0 : am_C G cX4_product 2 RX4 LC d0) (hd : 3 ≤ d0) (F : Nat) {q : Bool × am_SS} (hret : am_retI G cX4_product 2 (am_bI q.1) q.2) : ∀ (n : Nat) (a0 : Nat) (x1 : Int32) (σ : am_SS) (ha0 : LC.1 a0 = 5) (h : C_Reader_product_l11 F n a0 x1 σ = some q), am_K G 2 11 [(0, .ref (am_b G a0)), (1, .int x1)] [] σ := by
  intro n
  induction n with
  | zero =>
    intro a0 x1 σ ha0 h
    rw [C_Reader_product_l11] at h
    cases h
  | succ n ih =>
    intro a0 x1 σ ha0 h
    rw [C_Reader_product_l11] at h
    refine am_iload_n C0 dX4_product_11 1 rfl ?_
    refine am_sipush C0 dX4_product_12 cs_400 ?_
    refine am_icmp_gt C0 dX4_product_15 (tgt := 127) (by decide) (fun c_1 => ?_) (fun c_1 => ?_)
    · replace h := am_ip h c_1
      refine am_iconst C0 dX4_product_127 ci_0 ?_
      have e := Option.some.inj h
      subst e
      exact hret _ _ dX4_product_128
    · replace h := am_in h c_1
      refine am_aload_n C0 dX4_product_18 0 rfl ?_
      refine am_bipush C0 dX4_product_19 kb_42 ?_
      obtain ⟨q_2, h_q_2, h⟩ := am_bind h
      refine am_callV C0 (m_C_Reader_isSign (σ := σ) (Nat.le_refl _) a0 42 ha0 h_q_2) mm_yX4_isSign ln_RX4_87 (As := fun b => [.int 42]) (fun _ => rfl) (fun _ => rfl) (loC_3_0 ha0).1 (loC_3_0 ha0).2.1 rfl (Nat.le_trans (by decide) hd) rfl (Nat.le_of_ble_eq_true rfl) dX4_product_21 ?_
      refine am_ifB_eq C0 dX4_product_24 (tgt := 65) (by decide) (fun c_3 => ?_) (fun c_3 => ?_)
      · replace h := am_in h c_3
        refine am_aload_n C0 dX4_product_65 0 rfl ?_
        refine am_bipush C0 dX4_product_66 kb_47 ?_
        obtain ⟨q_4, h_q_4, h⟩ := am_bind h
        refine am_callV C0 (m_C_Reader_isSign (σ := σ) (Nat.le_refl _) a0 47 ha0 h_q_4) mm_yX4_isSign ln_RX4_87 (As := fun b => [.int 47]) (fun _ => rfl) (fun _ => rfl) (loC_3_0 ha0).1 (loC_3_0 ha0).2.1 rfl (Nat.le_trans (by decide) hd) rfl (Nat.le_of_ble_eq_true rfl) dX4_product_68 ?_
        refine am_ifB_eq C0 dX4_product_71 (tgt := 119) (by decide) (fun c_5 => ?_) (fun c_5 => ?_)
        · replace h := am_in h c_5
          refine am_iconst C0 dX4_product_119 ci_1 ?_
          have e := Option.some.inj h
          subst e
          exact hret _ _ dX4_product_120
        · replace h := am_ip h c_5
          refine am_aload_n C0 dX4_product_74 0 rfl ?_
          refine am_dup C0 dX4_product_75 rfl ?_
          refine am_getI C0 ff_RX4_28 (loC_3_5 ha0).1 (loC_3_5 ha0).2.1 (loC_3_5 ha0).2.2.1 (loC_3_5 ha0).2.2.2 dX4_product_76 ?_
          refine am_iconst C0 dX4_product_79 ci_1 ?_
          refine am_iadd C0 dX4_product_80 ?_
          obtain ⟨σ_6, e_σ_6, h⟩ := am_lt h
          refine am_putI C0 e_σ_6 fp_RX4_28 (loC_3_5 ha0).1 (loC_3_5 ha0).2.1 (loC_3_5 ha0).2.2.1 (loC_3_5 ha0).2.2.2 rfl rfl dX4_product_81 ?_
          refine am_aload_n C0 dX4_product_84 0 rfl ?_
          refine am_iconst C0 dX4_product_85 ci_1 ?_
          refine am_sipush C0 dX4_product_86 cs_9999 ?_
          obtain ⟨q_7, h_q_7, h⟩ := am_bind h
          refine am_callV C0 (m_C_Reader_takes (σ := σ_6) (Nat.le_refl _) a0 1 9999 ha0 h_q_7) mm_yX4_takes ln_RX4_136 (As := fun b => [.int 1, .int 9999]) (fun _ => rfl) (fun _ => rfl) (loC_3_0 ha0).1 (loC_3_0 ha0).2.1 rfl (Nat.le_trans (by decide) hd) rfl (Nat.le_of_ble_eq_true rfl) dX4_product_89 ?_
          refine am_ifB_ne C0 dX4_product_92 (tgt := 97) (by decide) (fun c_8 => ?_) (fun c_8 => ?_)
          · replace h := am_ip h c_8
            refine am_aload_n C0 dX4_product_97 0 rfl ?_
            refine am_getR C0 (j := a0 + 5) ff_RX4_43 (loC_3_9 ha0).1 (loC_3_9 ha0).2.1 (loC_3_9 ha0).2.2.1 (loC_3_9 ha0).2.2.2 dX4_product_98 ?_
            refine am_getR C0 (j := a0 + 5 + 3) ff_RX4_105 (loC_1_1 (tgC_3_9 ha0)).1 (loC_1_1 (tgC_3_9 ha0)).2.1 (loC_1_1 (tgC_3_9 ha0)).2.2.1 (loC_1_1 (tgC_3_9 ha0)).2.2.2 dX4_product_101 ?_
            refine am_bipush C0 dX4_product_104 kb_47 ?_
            refine am_aload_n C0 dX4_product_106 0 rfl ?_
            refine am_getI C0 ff_RX4_31 (loC_3_6 ha0).1 (loC_3_6 ha0).2.1 (loC_3_6 ha0).2.2.1 (loC_3_6 ha0).2.2.2 dX4_product_107 ?_
            refine am_iconst C0 dX4_product_110 ci_0 ?_
            refine am_iconst C0 dX4_product_111 ci_0 ?_
            obtain ⟨q_9, h_q_9, h⟩ := am_bind h
            refine am_callV C0 (m_C_Table_add (σ := q_7.2) (Nat.le_refl _) F (a0 + 5 + 3) 47 (q_7.2 a0 6) 0 0 (tgC_1_1 (tgC_3_9 ha0)) h_q_9) mm_yX6_add ln_RX4_123 (As := fun b => [.int 47, .int (q_7.2 a0 6), .int 0, .int 0]) (fun _ => rfl) (fun _ => rfl) (loC_4_0 (tgC_1_1 (tgC_3_9 ha0))).1 (loC_4_0 (tgC_1_1 (tgC_3_9 ha0))).2.1 rfl (Nat.le_trans (by decide) hd) rfl (Nat.le_of_ble_eq_true rfl) dX4_product_112 ?_
            refine am_pop C0 dX4_product_115 rfl ?_
            refine am_goto C0 dX4_product_116 (tgt := 121) (by decide) ?_
            exact am_sub [0, 1] rfl (k_C_Reader_product_p121 C0 hd _ F hret (fun z0 z1 zs zh0 z => ih z0 z1 zs zh0 z) a0 x1 q_9.2 ha0 h)
          · replace h := am_in h c_8
            refine am_iconst C0 dX4_product_95 ci_0 ?_
            have e := Option.some.inj h
            subst e
            exact hret _ _ dX4_product_96
      · replace h := am_ip h c_3
        refine am_aload_n C0 dX4_product_27 0 rfl ?_
        refine am_dup C0 dX4_product_28 rfl ?_
        refine am_getI C0 ff_RX4_28 (loC_3_5 ha0).1 (loC_3_5 ha0).2.1 (loC_3_5 ha0).2.2.1 (loC_3_5 ha0).2.2.2 dX4_product_29 ?_
        refine am_iconst C0 dX4_product_32 ci_1 ?_
        refine am_iadd C0 dX4_product_33 ?_
        obtain ⟨σ_10, e_σ_10, h⟩ := am_lt h
        refine am_putI C0 e_σ_10 fp_RX4_28 (loC_3_5 ha0).1 (loC_3_5 ha0).2.1 (loC_3_5 ha0).2.2.1 (loC_3_5 ha0).2.2.2 rfl rfl dX4_product_34 ?_
        refine am_aload_n C0 dX4_product_37 0 rfl ?_
        obtain ⟨q_11, h_q_11, h⟩ := am_bind h
        refine am_callV C0 (m_C_Reader_unit (σ := σ_10) (Nat.le_refl _) F a0 ha0 h_q_11) mm_yX4_unit ln_RX4_133 (As := fun b => []) (fun _ => rfl) (fun _ => rfl) (loC_3_0 ha0).1 (loC_3_0 ha0).2.1 rfl (Nat.le_trans (by decide) hd) rfl (Nat.le_of_ble_eq_true rfl) dX4_product_38 ?_
        refine am_ifB_ne C0 dX4_product_41 (tgt := 46) (by decide) (fun c_12 => ?_) (fun c_12 => ?_)
        · replace h := am_ip h c_12
          refine am_aload_n C0 dX4_product_46 0 rfl ?_
          refine am_getR C0 (j := a0 + 5) ff_RX4_43 (loC_3_9 ha0).1 (loC_3_9 ha0).2.1 (loC_3_9 ha0).2.2.1 (loC_3_9 ha0).2.2.2 dX4_product_47 ?_
          refine am_getR C0 (j := a0 + 5 + 3) ff_RX4_105 (loC_1_1 (tgC_3_9 ha0)).1 (loC_1_1 (tgC_3_9 ha0)).2.1 (loC_1_1 (tgC_3_9 ha0)).2.2.1 (loC_1_1 (tgC_3_9 ha0)).2.2.2 dX4_product_50 ?_
          refine am_bipush C0 dX4_product_53 kb_42 ?_
          refine am_iconst C0 dX4_product_55 ci_0 ?_
          refine am_iconst C0 dX4_product_56 ci_0 ?_
          refine am_iconst C0 dX4_product_57 ci_0 ?_
          obtain ⟨q_13, h_q_13, h⟩ := am_bind h
          refine am_callV C0 (m_C_Table_add (σ := q_11.2) (Nat.le_refl _) F (a0 + 5 + 3) 42 0 0 0 (tgC_1_1 (tgC_3_9 ha0)) h_q_13) mm_yX6_add ln_RX4_123 (As := fun b => [.int 42, .int 0, .int 0, .int 0]) (fun _ => rfl) (fun _ => rfl) (loC_4_0 (tgC_1_1 (tgC_3_9 ha0))).1 (loC_4_0 (tgC_1_1 (tgC_3_9 ha0))).2.1 rfl (Nat.le_trans (by decide) hd) rfl (Nat.le_of_ble_eq_true rfl) dX4_product_58 ?_
          refine am_pop C0 dX4_product_61 rfl ?_
          refine am_goto C0 dX4_product_62 (tgt := 121) (by decide) ?_
          exact am_sub [0, 1] rfl (k_C_Reader_product_p121 C0 hd _ F hret (fun z0 z1 zs zh0 z => ih z0 z1 zs zh0 z) a0 x1 q_13.2 ha0 h)
        · replace h := am_in h c_12
          refine am_iconst C0 dX4_product_44 ci_0 ?_
          have e := Option.some.inj h
          subst e
          exact hret _ _ dX4_product_45
set_option maxRecDepth 100000 in
set_option maxHeartbeats 4000000 in
theorem k_C_Reader_product {G : am_T} {d0 : Nat} (C0 : am_C G cX4_product 2 RX4 LC d0) (hd : 3 ≤ d0) (F : Nat) {q : Bool × am_SS} (hret : am_retI G cX4_product 2 (am_bI q.1) q.2) (a0 : Nat) (σ : am_SS) (ha0 : LC.1 a0 = 5) (h : C_Reader_product F a0 σ = some q) : am_K G 2 0 [(0, .ref (am_b G a0))] [] σ := by
  unfold C_Reader_product at h
  refine am_aload_n C0 dX4_product_0 0 rfl ?_
  obtain ⟨q_1, h_q_1, h⟩ := am_bind h
  refine am_callV C0 (m_C_Reader_unit (σ := σ) (Nat.le_refl _) F a0 ha0 h_q_1) mm_yX4_unit ln_RX4_133 (As := fun b => []) (fun _ => rfl) (fun _ => rfl) (loC_3_0 ha0).1 (loC_3_0 ha0).2.1 rfl (Nat.le_trans (by decide) hd) rfl (Nat.le_of_ble_eq_true rfl) dX4_product_1 ?_
  refine am_ifB_ne C0 dX4_product_4 (tgt := 9) (by decide) (fun c_2 => ?_) (fun c_2 => ?_)
  · replace h := am_ip h c_2
    refine am_iconst C0 dX4_product_9 ci_0 ?_
    refine am_istore_n C0 dX4_product_10 rfl (by decide) rfl (lv' := [(0, .ref (am_b G a0)), (1, .int 0)]) rfl ?_
    exact am_sub [0, 1] rfl (k_C_Reader_product_l11 C0 hd F hret F a0 0 q_1.2 ha0 h)
  · replace h := am_in h c_2
    refine am_iconst C0 dX4_product_7 ci_0 ?_
    have e := Option.some.inj h
    subst e
    exact hret _ _ dX4_product_8
set_option maxRecDepth 100000 in
set_option maxHeartbeats 4000000 in
theorem m_C_Reader_product {l : Launch} {d : Nat} {σ : am_SS} {q : Bool × am_SS} (hd : 3 ≤ d) (F : Nat) (a0 : Nat) (ha0 : LC.1 a0 = 5) (h : C_Reader_product F a0 σ = some q) : am_Met l yX4_product cX4_product 2 (some .boolean) d 0 0 LC (fun b => [.ref (b a0)]) σ (some (.int (am_bI q.1))) q.2 :=
  am_metI (plainFor_of_name (by decide)) (am_bI_nr _) (lv := fun b => [(0, .ref (b a0))]) (fun _ => rfl) (fun _ => Nat.le_of_ble_eq_true rfl) (fun G C0 _ hret => k_C_Reader_product C0 hd F hret a0 σ ha0 h)
set_option maxRecDepth 100000 in
set_option maxHeartbeats 4000000 in
theorem k_C_Reader_sum_p60 {G : am_T} {d0 : Nat} (C0 : am_C G cX4_sum 3 RX4 LC d0) (hd : 4 ≤ d0) (rec4 : Nat → Int32 → Int32 → am_SS → Option (Bool × am_SS)) (F : Nat) {q : Bool × am_SS} (hret : am_retI G cX4_sum 3 (am_bI q.1) q.2) (hrec4 : ∀ (a0 : Nat) (x1 : Int32) (x2 : Int32) (σ : am_SS), LC.1 a0 = 5 → rec4 a0 x1 x2 σ = some q → am_K G 3 4 [(0, .ref (am_b G a0)), (1, .int x1), (2, .int x2)] [] σ) (a0 : Nat) (x2 : Int32) (σ : am_SS) (ha0 : LC.1 a0 = 5) (h : C_Reader_sum_p60 rec4 F a0 x2 σ = some q) : am_K G 3 60 [(0, .ref (am_b G a0)), (2, .int x2)] [] σ := by
  unfold C_Reader_sum_p60 at h
  refine am_aload_n C0 dX4_sum_60 0 rfl ?_
  obtain ⟨q_1, h_q_1, h⟩ := am_bind h
  refine am_callV C0 (m_C_Reader_value (σ := σ) (Nat.le_refl _) a0 ha0 h_q_1) mm_yX4_value ln_RX4_84 (As := fun b => []) (fun _ => rfl) (fun _ => rfl) (loC_3_0 ha0).1 (loC_3_0 ha0).2.1 rfl (Nat.le_trans (by decide) hd) rfl (Nat.le_of_ble_eq_true rfl) dX4_sum_61 ?_
  refine am_istore_n C0 dX4_sum_64 rfl (by decide) rfl (lv' := [(0, .ref (am_b G a0)), (2, .int x2), (1, .int q_1)]) rfl ?_
  refine am_aload_n C0 dX4_sum_65 0 rfl ?_
  refine am_dup C0 dX4_sum_66 rfl ?_
  refine am_getI C0 ff_RX4_28 (loC_3_5 ha0).1 (loC_3_5 ha0).2.1 (loC_3_5 ha0).2.2.1 (loC_3_5 ha0).2.2.2 dX4_sum_67 ?_
  refine am_iconst C0 dX4_sum_70 ci_1 ?_
  refine am_iadd C0 dX4_sum_71 ?_
  obtain ⟨σ_2, e_σ_2, h⟩ := am_lt h
  refine am_putI C0 e_σ_2 fp_RX4_28 (loC_3_5 ha0).1 (loC_3_5 ha0).2.1 (loC_3_5 ha0).2.2.1 (loC_3_5 ha0).2.2.2 rfl rfl dX4_sum_72 ?_
  obtain ⟨x2_3, e_x2_3, h⟩ := am_lt h
  refine am_iinc C0 dX4_sum_75 1 rfl (by rw [ci_1]; exact e_x2_3) (by decide) rfl (lv' := [(0, .ref (am_b G a0)), (2, .int x2_3), (1, .int q_1)]) rfl ?_
  refine am_goto C0 dX4_sum_78 (tgt := 4) (by decide) ?_
  exact am_sub [0, 2, 1] rfl (hrec4 a0 q_1 x2_3 σ_2 ha0 h)
set_option maxRecDepth 100000 in
set_option maxHeartbeats 4000000 in
theorem k_C_Reader_sum_p40 {G : am_T} {d0 : Nat} (C0 : am_C G cX4_sum 3 RX4 LC d0) (hd : 4 ≤ d0) (rec4 : Nat → Int32 → Int32 → am_SS → Option (Bool × am_SS)) (F : Nat) {q : Bool × am_SS} (hret : am_retI G cX4_sum 3 (am_bI q.1) q.2) (hrec4 : ∀ (a0 : Nat) (x1 : Int32) (x2 : Int32) (σ : am_SS), LC.1 a0 = 5 → rec4 a0 x1 x2 σ = some q → am_K G 3 4 [(0, .ref (am_b G a0)), (1, .int x1), (2, .int x2)] [] σ) (a0 : Nat) (x2 : Int32) (σ : am_SS) (ha0 : LC.1 a0 = 5) (h : C_Reader_sum_p40 rec4 F a0 x2 σ = some q) : am_K G 3 40 [(0, .ref (am_b G a0)), (2, .int x2)] [] σ := by
  unfold C_Reader_sum_p40 at h
  refine am_aload_n C0 dX4_sum_40 0 rfl ?_
  refine am_bipush C0 dX4_sum_41 kb_43 ?_
  obtain ⟨q_1, h_q_1, h⟩ := am_bind h
  refine am_callV C0 (m_C_Reader_isSign (σ := σ) (Nat.le_refl _) a0 43 ha0 h_q_1) mm_yX4_isSign ln_RX4_87 (As := fun b => [.int 43]) (fun _ => rfl) (fun _ => rfl) (loC_3_0 ha0).1 (loC_3_0 ha0).2.1 rfl (Nat.le_trans (by decide) hd) rfl (Nat.le_of_ble_eq_true rfl) dX4_sum_43 ?_
  refine am_ifB_ne C0 dX4_sum_46 (tgt := 60) (by decide) (fun c_2 => ?_) (fun c_2 => ?_)
  · replace h := am_ip h c_2
    exact am_sub [0, 1] rfl (k_C_Reader_sum_p60 C0 hd rec4 F hret hrec4 a0 x2 σ ha0 h)
  · replace h := am_in h c_2
    refine am_aload_n C0 dX4_sum_49 0 rfl ?_
    refine am_bipush C0 dX4_sum_50 kb_45 ?_
    obtain ⟨q_3, h_q_3, h⟩ := am_bind h
    refine am_callV C0 (m_C_Reader_isSign (σ := σ) (Nat.le_refl _) a0 45 ha0 h_q_3) mm_yX4_isSign ln_RX4_87 (As := fun b => [.int 45]) (fun _ => rfl) (fun _ => rfl) (loC_3_0 ha0).1 (loC_3_0 ha0).2.1 rfl (Nat.le_trans (by decide) hd) rfl (Nat.le_of_ble_eq_true rfl) dX4_sum_52 ?_
    refine am_ifB_ne C0 dX4_sum_55 (tgt := 60) (by decide) (fun c_4 => ?_) (fun c_4 => ?_)
    · replace h := am_ip h c_4
      exact am_sub [0, 1] rfl (k_C_Reader_sum_p60 C0 hd rec4 F hret hrec4 a0 x2 σ ha0 h)
    · replace h := am_in h c_4
      refine am_iconst C0 dX4_sum_58 ci_1 ?_
      have e := Option.some.inj h
      subst e
      exact hret _ _ dX4_sum_59
set_option maxRecDepth 100000 in
set_option maxHeartbeats 4000000 in
theorem k_C_Reader_sum_l4 {G : am_T} {d0 : Nat} (C0 : am_C G cX4_sum 3 RX4 LC d0) (hd : 4 ≤ d0) (F : Nat) {q : Bool × am_SS} (hret : am_retI G cX4_sum 3 (am_bI q.1) q.2) : ∀ (n : Nat) (a0 : Nat) (x1 : Int32) (x2 : Int32) (σ : am_SS) (ha0 : LC.1 a0 = 5) (h : C_Reader_sum_l4 F n a0 x1 x2 σ = some q), am_K G 3 4 [(0, .ref (am_b G a0)), (1, .int x1), (2, .int x2)] [] σ := by
  intro n
  induction n with
  | zero =>
    intro a0 x1 x2 σ ha0 h
    rw [C_Reader_sum_l4] at h
    cases h
  | succ n ih =>
    intro a0 x1 x2 σ ha0 h
    rw [C_Reader_sum_l4] at h
    refine am_iload_n C0 dX4_sum_4 2 rfl ?_
    refine am_sipush C0 dX4_sum_5 cs_400 ?_
    refine am_icmp_gt C0 dX4_sum_8 (tgt := 81) (by decide) (fun c_1 => ?_) (fun c_1 => ?_)
    · replace h := am_ip h c_1
      refine am_iconst C0 dX4_sum_81 ci_0 ?_
      have e := Option.some.inj h
      subst e
      exact hret _ _ dX4_sum_82
    · replace h := am_in h c_1
      refine am_aload_n C0 dX4_sum_11 0 rfl ?_
      obtain ⟨q_2, h_q_2, h⟩ := am_bind h
      refine am_callV C0 (m_C_Reader_product (σ := σ) (Nat.le_refl _) F a0 ha0 h_q_2) mm_yX4_product ln_RX4_130 (As := fun b => []) (fun _ => rfl) (fun _ => rfl) (loC_3_0 ha0).1 (loC_3_0 ha0).2.1 rfl (Nat.le_trans (by decide) hd) rfl (Nat.le_of_ble_eq_true rfl) dX4_sum_12 ?_
      refine am_ifB_ne C0 dX4_sum_15 (tgt := 20) (by decide) (fun c_3 => ?_) (fun c_3 => ?_)
      · replace h := am_ip h c_3
        refine am_iload_n C0 dX4_sum_20 1 rfl ?_
        refine am_iconst C0 dX4_sum_21 ci_m1 ?_
        refine am_icmp_eq C0 dX4_sum_22 (tgt := 40) (by decide) (fun c_4 => ?_) (fun c_4 => ?_)
        · replace h := am_ip h c_4
          exact am_sub [0, 2] rfl (k_C_Reader_sum_p40 C0 hd _ F hret (fun z0 z1 z2 zs zh0 z => ih z0 z1 z2 zs zh0 z) a0 x2 q_2.2 ha0 h)
        · replace h := am_in h c_4
          refine am_aload_n C0 dX4_sum_25 0 rfl ?_
          refine am_getR C0 (j := a0 + 5) ff_RX4_43 (loC_3_9 ha0).1 (loC_3_9 ha0).2.1 (loC_3_9 ha0).2.2.1 (loC_3_9 ha0).2.2.2 dX4_sum_26 ?_
          refine am_getR C0 (j := a0 + 5 + 3) ff_RX4_105 (loC_1_1 (tgC_3_9 ha0)).1 (loC_1_1 (tgC_3_9 ha0)).2.1 (loC_1_1 (tgC_3_9 ha0)).2.2.1 (loC_1_1 (tgC_3_9 ha0)).2.2.2 dX4_sum_29 ?_
          refine am_iload_n C0 dX4_sum_32 1 rfl ?_
          refine am_iconst C0 dX4_sum_33 ci_0 ?_
          refine am_iconst C0 dX4_sum_34 ci_0 ?_
          refine am_iconst C0 dX4_sum_35 ci_0 ?_
          obtain ⟨q_5, h_q_5, h⟩ := am_bind h
          refine am_callV C0 (m_C_Table_add (σ := q_2.2) (Nat.le_refl _) F (a0 + 5 + 3) x1 0 0 0 (tgC_1_1 (tgC_3_9 ha0)) h_q_5) mm_yX6_add ln_RX4_123 (As := fun b => [.int x1, .int 0, .int 0, .int 0]) (fun _ => rfl) (fun _ => rfl) (loC_4_0 (tgC_1_1 (tgC_3_9 ha0))).1 (loC_4_0 (tgC_1_1 (tgC_3_9 ha0))).2.1 rfl (Nat.le_trans (by decide) hd) rfl (Nat.le_of_ble_eq_true rfl) dX4_sum_36 ?_
          refine am_pop C0 dX4_sum_39 rfl ?_
          exact am_sub [0, 2] rfl (k_C_Reader_sum_p40 C0 hd _ F hret (fun z0 z1 z2 zs zh0 z => ih z0 z1 z2 zs zh0 z) a0 x2 q_5.2 ha0 h)
      · replace h := am_in h c_3
        refine am_iconst C0 dX4_sum_18 ci_0 ?_
        have e := Option.some.inj h
        subst e
        exact hret _ _ dX4_sum_19
set_option maxRecDepth 100000 in
set_option maxHeartbeats 4000000 in
theorem k_C_Reader_sum {G : am_T} {d0 : Nat} (C0 : am_C G cX4_sum 3 RX4 LC d0) (hd : 4 ≤ d0) (F : Nat) {q : Bool × am_SS} (hret : am_retI G cX4_sum 3 (am_bI q.1) q.2) (a0 : Nat) (σ : am_SS) (ha0 : LC.1 a0 = 5) (h : C_Reader_sum F a0 σ = some q) : am_K G 3 0 [(0, .ref (am_b G a0))] [] σ := by
  unfold C_Reader_sum at h
  refine am_iconst C0 dX4_sum_0 ci_m1 ?_
  refine am_istore_n C0 dX4_sum_1 rfl (by decide) rfl (lv' := [(0, .ref (am_b G a0)), (1, .int (-1))]) rfl ?_
  refine am_iconst C0 dX4_sum_2 ci_0 ?_
  refine am_istore_n C0 dX4_sum_3 rfl (by decide) rfl (lv' := [(0, .ref (am_b G a0)), (1, .int (-1)), (2, .int 0)]) rfl ?_
  exact am_sub [0, 1, 2] rfl (k_C_Reader_sum_l4 C0 hd F hret F a0 (-1) 0 σ ha0 h)
set_option maxRecDepth 100000 in
set_option maxHeartbeats 4000000 in
theorem m_C_Reader_sum {l : Launch} {d : Nat} {σ : am_SS} {q : Bool × am_SS} (hd : 4 ≤ d) (F : Nat) (a0 : Nat) (ha0 : LC.1 a0 = 5) (h : C_Reader_sum F a0 σ = some q) : am_Met l yX4_sum cX4_sum 3 (some .boolean) d 0 0 LC (fun b => [.ref (b a0)]) σ (some (.int (am_bI q.1))) q.2 :=
  am_metI (plainFor_of_name (by decide)) (am_bI_nr _) (lv := fun b => [(0, .ref (b a0))]) (fun _ => rfl) (fun _ => Nat.le_of_ble_eq_true rfl) (fun G C0 _ hret => k_C_Reader_sum C0 hd F hret a0 σ ha0 h)
