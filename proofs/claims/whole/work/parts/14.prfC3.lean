set_option maxRecDepth 100000 in
set_option maxHeartbeats 4000000 in
theorem k_C_Sums_bracketRow_p84 {G : am_T} {d0 : Nat} (C0 : am_C G cX5_bracketRow 8 RX5 LC d0) (hd : 3 ≤ d0) (rec14 : Int32 → Int32 → Int32 → Int32 → Option Int32) (F : Nat) {σ0 : am_SS} {q : Int32} (hret : am_retI G cX5_bracketRow 8 q σ0) (hrec14 : ∀ (x2 : Int32) (x3 : Int32) (x4 : Int32) (x5 : Int32), rec14 x2 x3 x4 x5 = some q → am_K G 8 14 [(2, .int x2), (3, .int x3), (4, .int x4), (5, .int x5)] [] σ0) (x2 : Int32) (x3 : Int32) (x5 : Int32) (s0 : Int32) (s1 : Int32) (h : C_Sums_bracketRow_p84 rec14 F x2 x3 x5 s0 s1 = some q) : am_K G 8 84 [(2, .int x2), (3, .int x3), (5, .int x5)] [.int s1, .int s0] σ0 := by
  unfold C_Sums_bracketRow_p84 at h
  refine am_isub C0 dX5_bracketRow_84 ?_
  obtain ⟨x4_1, e_x4_1, h⟩ := am_lt h
  refine am_top e_x4_1 ?_
  refine am_istore C0 dX5_bracketRow_85 (by decide) rfl (lv' := [(2, .int x2), (3, .int x3), (5, .int x5), (4, .int x4_1)]) rfl ?_
  obtain ⟨x5_2, e_x5_2, h⟩ := am_lt h
  refine am_iinc C0 dX5_bracketRow_87 2 rfl (by rw [ci_m1]; exact e_x5_2) (by decide) rfl (lv' := [(2, .int x2), (3, .int x3), (5, .int x5_2), (4, .int x4_1)]) rfl ?_
  refine am_goto C0 dX5_bracketRow_90 (tgt := 14) (by decide) ?_
  exact am_sub [0, 1, 3, 2] rfl (hrec14 x2 x3 x4_1 x5_2  h)
set_option maxRecDepth 100000 in
set_option maxHeartbeats 4000000 in
theorem k_C_Sums_bracketRow_p69 {G : am_T} {d0 : Nat} (C0 : am_C G cX5_bracketRow 8 RX5 LC d0) (hd : 3 ≤ d0) (rec14 : Int32 → Int32 → Int32 → Int32 → Option Int32) (F : Nat) {σ0 : am_SS} {q : Int32} (hret : am_retI G cX5_bracketRow 8 q σ0) (hrec14 : ∀ (x2 : Int32) (x3 : Int32) (x4 : Int32) (x5 : Int32), rec14 x2 x3 x4 x5 = some q → am_K G 8 14 [(2, .int x2), (3, .int x3), (4, .int x4), (5, .int x5)] [] σ0) (x2 : Int32) (x4 : Int32) (x5 : Int32) (x6 : Int32) (x7 : Bool) (s0 : Int32) (s1 : Int32) (h : C_Sums_bracketRow_p69 rec14 F x2 x4 x5 x6 x7 s0 s1 = some q) : am_K G 8 69 [(2, .int x2), (4, .int x4), (5, .int x5), (6, .int x6), (7, .int (am_bI x7))] [.int s1, .int s0] σ0 := by
  unfold C_Sums_bracketRow_p69 at h
  refine am_iadd C0 dX5_bracketRow_69 ?_
  obtain ⟨x3_1, e_x3_1, h⟩ := am_lt h
  refine am_top e_x3_1 ?_
  refine am_istore_n C0 dX5_bracketRow_70 rfl (by decide) rfl (lv' := [(2, .int x2), (4, .int x4), (5, .int x5), (6, .int x6), (7, .int (am_bI x7)), (3, .int x3_1)]) rfl ?_
  refine am_iload C0 dX5_bracketRow_71 1 rfl ?_
  refine am_iload C0 dX5_bracketRow_73 4 rfl ?_
  refine am_ifB_eq C0 dX5_bracketRow_75 (tgt := 82) (by decide) (fun c_2 => ?_) (fun c_2 => ?_)
  · replace h := am_in h c_2
    refine am_iload C0 dX5_bracketRow_82 3 rfl ?_
    exact am_sub [0, 5, 2] rfl (k_C_Sums_bracketRow_p84 C0 hd rec14 F hret hrec14 x2 x3_1 x5 x4 x6  h)
  · replace h := am_ip h c_2
    refine am_iconst C0 dX5_bracketRow_78 ci_0 ?_
    refine am_goto C0 dX5_bracketRow_79 (tgt := 84) (by decide) ?_
    exact am_sub [0, 5, 2] rfl (k_C_Sums_bracketRow_p84 C0 hd rec14 F hret hrec14 x2 x3_1 x5 x4 0  h)
set_option maxRecDepth 100000 in
set_option maxHeartbeats 4000000 in
theorem k_C_Sums_bracketRow_p56 {G : am_T} {d0 : Nat} (C0 : am_C G cX5_bracketRow 8 RX5 LC d0) (hd : 3 ≤ d0) (rec14 : Int32 → Int32 → Int32 → Int32 → Option Int32) (F : Nat) {σ0 : am_SS} {q : Int32} (hret : am_retI G cX5_bracketRow 8 q σ0) (hrec14 : ∀ (x2 : Int32) (x3 : Int32) (x4 : Int32) (x5 : Int32), rec14 x2 x3 x4 x5 = some q → am_K G 8 14 [(2, .int x2), (3, .int x3), (4, .int x4), (5, .int x5)] [] σ0) (x3 : Int32) (x4 : Int32) (x5 : Int32) (x6 : Int32) (x7 : Bool) (s0 : Int32) (s1 : Bool) (h : C_Sums_bracketRow_p56 rec14 F x3 x4 x5 x6 x7 s0 s1 = some q) : am_K G 8 56 [(3, .int x3), (4, .int x4), (5, .int x5), (6, .int x6), (7, .int (am_bI x7))] [.int (am_bI s1), .int s0] σ0 := by
  unfold C_Sums_bracketRow_p56 at h
  refine am_iadd C0 dX5_bracketRow_56 ?_
  obtain ⟨x2_1, e_x2_1, h⟩ := am_lt h
  refine am_top e_x2_1 ?_
  refine am_istore_n C0 dX5_bracketRow_57 rfl (by decide) rfl (lv' := [(3, .int x3), (4, .int x4), (5, .int x5), (6, .int x6), (7, .int (am_bI x7)), (2, .int x2_1)]) rfl ?_
  refine am_iload_n C0 dX5_bracketRow_58 0 rfl ?_
  refine am_iload C0 dX5_bracketRow_59 4 rfl ?_
  refine am_ifB_eq C0 dX5_bracketRow_61 (tgt := 68) (by decide) (fun c_2 => ?_) (fun c_2 => ?_)
  · replace h := am_in h c_2
    refine am_iconst C0 dX5_bracketRow_68 ci_m1 ?_
    exact am_sub [5, 1, 2, 3, 4] rfl (k_C_Sums_bracketRow_p69 C0 hd rec14 F hret hrec14 x2_1 x4 x5 x6 x7 x3 (-1)  h)
  · replace h := am_ip h c_2
    refine am_iconst C0 dX5_bracketRow_64 ci_1 ?_
    refine am_goto C0 dX5_bracketRow_65 (tgt := 69) (by decide) ?_
    exact am_sub [5, 1, 2, 3, 4] rfl (k_C_Sums_bracketRow_p69 C0 hd rec14 F hret hrec14 x2_1 x4 x5 x6 x7 x3 1  h)
set_option maxRecDepth 100000 in
set_option maxHeartbeats 4000000 in
theorem k_C_Sums_bracketRow_p41 {G : am_T} {d0 : Nat} (C0 : am_C G cX5_bracketRow 8 RX5 LC d0) (hd : 3 ≤ d0) (rec14 : Int32 → Int32 → Int32 → Int32 → Option Int32) (F : Nat) {σ0 : am_SS} {q : Int32} (hret : am_retI G cX5_bracketRow 8 q σ0) (hrec14 : ∀ (x2 : Int32) (x3 : Int32) (x4 : Int32) (x5 : Int32), rec14 x2 x3 x4 x5 = some q → am_K G 8 14 [(2, .int x2), (3, .int x3), (4, .int x4), (5, .int x5)] [] σ0) (x2 : Int32) (x3 : Int32) (x4 : Int32) (x5 : Int32) (x6 : Int32) (s0 : Bool) (h : C_Sums_bracketRow_p41 rec14 F x2 x3 x4 x5 x6 s0 = some q) : am_K G 8 41 [(2, .int x2), (3, .int x3), (4, .int x4), (5, .int x5), (6, .int x6)] [.int (am_bI s0)] σ0 := by
  unfold C_Sums_bracketRow_p41 at h
  refine am_istore C0 dX5_bracketRow_41 (by decide) rfl (lv' := [(2, .int x2), (3, .int x3), (4, .int x4), (5, .int x5), (6, .int x6), (7, .int (am_bI s0))]) rfl ?_
  refine am_iload_n C0 dX5_bracketRow_43 0 rfl ?_
  refine am_iconst C0 dX5_bracketRow_44 ci_2 ?_
  refine am_imul C0 dX5_bracketRow_45 ?_
  refine am_iload C0 dX5_bracketRow_46 5 rfl ?_
  refine am_ifB_eq C0 dX5_bracketRow_48 (tgt := 55) (by decide) (fun c_1 => ?_) (fun c_1 => ?_)
  · replace h := am_in h c_1
    refine am_iconst C0 dX5_bracketRow_55 ci_0 ?_
    exact am_sub [1, 2, 3, 4, 5] rfl (k_C_Sums_bracketRow_p56 C0 hd rec14 F hret hrec14 x3 x4 x5 x6 s0 (x2 * 2) false  h)
  · replace h := am_ip h c_1
    refine am_iconst C0 dX5_bracketRow_51 ci_1 ?_
    refine am_goto C0 dX5_bracketRow_52 (tgt := 56) (by decide) ?_
    exact am_sub [1, 2, 3, 4, 5] rfl (k_C_Sums_bracketRow_p56 C0 hd rec14 F hret hrec14 x3 x4 x5 x6 s0 (x2 * 2) true  h)
set_option maxRecDepth 100000 in
set_option maxHeartbeats 4000000 in
theorem k_C_Sums_bracketRow_l14 {G : am_T} {d0 : Nat} (C0 : am_C G cX5_bracketRow 8 RX5 LC d0) (hd : 3 ≤ d0) (F : Nat) {σ0 : am_SS} {q : Int32} (hret : am_retI G cX5_bracketRow 8 q σ0) : ∀ (n : Nat) (x2 : Int32) (x3 : Int32) (x4 : Int32) (x5 : Int32) (h : C_Sums_bracketRow_l14 F n x2 x3 x4 x5 = some q), am_K G 8 14 [(2, .int x2), (3, .int x3), (4, .int x4), (5, .int x5)] [] σ0 := by
  intro n
  induction n with
  | zero =>
    intro x2 x3 x4 x5 h
    rw [C_Sums_bracketRow_l14] at h
    cases h
  | succ n ih =>
    intro x2 x3 x4 x5 h
    rw [C_Sums_bracketRow_l14] at h
    refine am_iload C0 dX5_bracketRow_14 3 rfl ?_
    refine am_if_lt C0 dX5_bracketRow_16 (tgt := 93) (by decide) (fun c_1 => ?_) (fun c_1 => ?_)
    · replace h := am_ip h c_1
      refine am_iload_n C0 dX5_bracketRow_93 0 rfl ?_
      have e := Option.some.inj h
      subst e
      exact hret _ _ dX5_bracketRow_94
    · replace h := am_in h c_1
      refine am_iload C0 dX5_bracketRow_19 3 rfl ?_
      refine am_iload_n C0 dX5_bracketRow_21 1 rfl ?_
      refine am_iconst C0 dX5_bracketRow_22 ci_1 ?_
      refine am_iadd C0 dX5_bracketRow_23 ?_
      obtain ⟨q_2, h_q_2, h⟩ := am_bind h
      refine am_callS C0 (m_C_Sums_closings (σ := σ0) (Nat.le_refl _) F x5 (x3 + 1)  h_q_2) mm_yX5_closings ln_RX5_37 (fun _ => rfl) (Nat.le_trans (by decide) hd) rfl (Nat.le_of_ble_eq_true rfl) dX5_bracketRow_24 ?_
      refine am_istore C0 dX5_bracketRow_27 (by decide) rfl (lv' := [(2, .int x2), (3, .int x3), (4, .int x4), (5, .int x5), (6, .int q_2)]) rfl ?_
      refine am_iload C0 dX5_bracketRow_29 2 rfl ?_
      refine am_iload C0 dX5_bracketRow_31 4 rfl ?_
      refine am_icmp_ge C0 dX5_bracketRow_33 (tgt := 40) (by decide) (fun c_3 => ?_) (fun c_3 => ?_)
      · replace h := am_in h c_3
        refine am_iconst C0 dX5_bracketRow_40 ci_0 ?_
        exact am_sub [0, 1, 2, 3, 4] rfl (k_C_Sums_bracketRow_p41 C0 hd _ F hret (fun z0 z1 z2 z3 z => ih z0 z1 z2 z3 z) x2 x3 x4 x5 q_2 false  h)
      · replace h := am_ip h c_3
        refine am_iconst C0 dX5_bracketRow_36 ci_1 ?_
        refine am_goto C0 dX5_bracketRow_37 (tgt := 41) (by decide) ?_
        exact am_sub [0, 1, 2, 3, 4] rfl (k_C_Sums_bracketRow_p41 C0 hd _ F hret (fun z0 z1 z2 z3 z => ih z0 z1 z2 z3 z) x2 x3 x4 x5 q_2 true  h)
set_option maxRecDepth 100000 in
set_option maxHeartbeats 4000000 in
theorem k_C_Sums_bracketRow {G : am_T} {d0 : Nat} (C0 : am_C G cX5_bracketRow 8 RX5 LC d0) (hd : 3 ≤ d0) (F : Nat) {σ0 : am_SS} {q : Int32} (hret : am_retI G cX5_bracketRow 8 q σ0) (x0 : Int32) (x1 : Int32) (h : C_Sums_bracketRow F x0 x1 = some q) : am_K G 8 0 [(0, .int x0), (1, .int x1)] [] σ0 := by
  unfold C_Sums_bracketRow at h
  refine am_iconst C0 dX5_bracketRow_0 ci_0 ?_
  refine am_istore_n C0 dX5_bracketRow_1 rfl (by decide) rfl (lv' := [(0, .int x0), (1, .int x1), (2, .int 0)]) rfl ?_
  refine am_iconst C0 dX5_bracketRow_2 ci_0 ?_
  refine am_istore_n C0 dX5_bracketRow_3 rfl (by decide) rfl (lv' := [(0, .int x0), (1, .int x1), (2, .int 0), (3, .int 0)]) rfl ?_
  refine am_iload_n C0 dX5_bracketRow_4 1 rfl ?_
  refine am_istore C0 dX5_bracketRow_5 (by decide) rfl (lv' := [(0, .int x0), (1, .int x1), (2, .int 0), (3, .int 0), (4, .int x1)]) rfl ?_
  refine am_iconst C0 dX5_bracketRow_7 ci_2 ?_
  refine am_iload_n C0 dX5_bracketRow_8 0 rfl ?_
  refine am_imul C0 dX5_bracketRow_9 ?_
  refine am_iconst C0 dX5_bracketRow_10 ci_1 ?_
  refine am_isub C0 dX5_bracketRow_11 ?_
  obtain ⟨x5_1, e_x5_1, h⟩ := am_lt h
  refine am_top e_x5_1 ?_
  refine am_istore C0 dX5_bracketRow_12 (by decide) rfl (lv' := [(0, .int x0), (1, .int x1), (2, .int 0), (3, .int 0), (4, .int x1), (5, .int x5_1)]) rfl ?_
  exact am_sub [2, 3, 4, 5] rfl (k_C_Sums_bracketRow_l14 C0 hd F hret F 0 0 x1 x5_1  h)
set_option maxRecDepth 100000 in
set_option maxHeartbeats 4000000 in
theorem m_C_Sums_bracketRow {l : Launch} {d : Nat} {σ : am_SS} {q : Int32} (hd : 3 ≤ d) (F : Nat) (x0 : Int32) (x1 : Int32) (h : C_Sums_bracketRow F x0 x1 = some q) : am_Met l yX5_bracketRow cX5_bracketRow 8 (some .int) d 0 0 LC (fun b => [.int x0, .int x1]) σ (some (.int q)) σ :=
  am_metI (plainFor_of_name (by decide)) rfl (lv := fun b => [(0, .int x0), (1, .int x1)]) (fun _ => rfl) (fun _ => Nat.le_of_ble_eq_true rfl) (fun G C0 _ hret => k_C_Sums_bracketRow C0 hd F hret x0 x1  h)
set_option maxRecDepth 100000 in
set_option maxHeartbeats 4000000 in
theorem k_C_Sums_bracketPlace_p64 {G : am_T} {d0 : Nat} (C0 : am_C G cX5_bracketPlace 6 RX5 LC d0) (hd : 3 ≤ d0) (rec11 : Int32 → Int32 → Int32 → Int32 → Option Int32) (F : Nat) {σ0 : am_SS} {q : Int32} (hret : am_retI G cX5_bracketPlace 6 q σ0) (hrec11 : ∀ (x1 : Int32) (x2 : Int32) (x3 : Int32) (x4 : Int32), rec11 x1 x2 x3 x4 = some q → am_K G 6 11 [(1, .int x1), (2, .int x2), (3, .int x3), (4, .int x4)] [] σ0) (x1 : Int32) (x2 : Int32) (x4 : Int32) (s0 : Int32) (s1 : Int32) (h : C_Sums_bracketPlace_p64 rec11 F x1 x2 x4 s0 s1 = some q) : am_K G 6 64 [(1, .int x1), (2, .int x2), (4, .int x4)] [.int s1, .int s0] σ0 := by
  unfold C_Sums_bracketPlace_p64 at h
  refine am_iadd C0 dX5_bracketPlace_64 ?_
  obtain ⟨x3_1, e_x3_1, h⟩ := am_lt h
  refine am_top e_x3_1 ?_
  refine am_istore_n C0 dX5_bracketPlace_65 rfl (by decide) rfl (lv' := [(1, .int x1), (2, .int x2), (4, .int x4), (3, .int x3_1)]) rfl ?_
  refine am_iload_n C0 dX5_bracketPlace_66 3 rfl ?_
  refine am_if_ge C0 dX5_bracketPlace_67 (tgt := 72) (by decide) (fun c_2 => ?_) (fun c_2 => ?_)
  · replace h := am_in h c_2
    obtain ⟨x4_3, e_x4_3, h⟩ := am_lt h
    refine am_iinc C0 dX5_bracketPlace_72 2 rfl (by rw [ci_m1]; exact e_x4_3) (by decide) rfl (lv' := [(1, .int x1), (2, .int x2), (4, .int x4_3), (3, .int x3_1)]) rfl ?_
    refine am_goto C0 dX5_bracketPlace_75 (tgt := 11) (by decide) ?_
    exact am_sub [0, 1, 3, 2] rfl (hrec11 x1 x2 x3_1 x4_3  h)
  · replace h := am_ip h c_2
    refine am_iconst C0 dX5_bracketPlace_70 ci_m1 ?_
    have e := Option.some.inj h
    subst e
    exact hret _ _ dX5_bracketPlace_71
set_option maxRecDepth 100000 in
set_option maxHeartbeats 4000000 in
theorem k_C_Sums_bracketPlace_p51 {G : am_T} {d0 : Nat} (C0 : am_C G cX5_bracketPlace 6 RX5 LC d0) (hd : 3 ≤ d0) (rec11 : Int32 → Int32 → Int32 → Int32 → Option Int32) (F : Nat) {σ0 : am_SS} {q : Int32} (hret : am_retI G cX5_bracketPlace 6 q σ0) (hrec11 : ∀ (x1 : Int32) (x2 : Int32) (x3 : Int32) (x4 : Int32), rec11 x1 x2 x3 x4 = some q → am_K G 6 11 [(1, .int x1), (2, .int x2), (3, .int x3), (4, .int x4)] [] σ0) (x1 : Int32) (x3 : Int32) (x4 : Int32) (x5 : Bool) (s0 : Int32) (s1 : Int32) (h : C_Sums_bracketPlace_p51 rec11 F x1 x3 x4 x5 s0 s1 = some q) : am_K G 6 51 [(1, .int x1), (3, .int x3), (4, .int x4), (5, .int (am_bI x5))] [.int s1, .int s0] σ0 := by
  unfold C_Sums_bracketPlace_p51 at h
  refine am_iadd C0 dX5_bracketPlace_51 ?_
  obtain ⟨x2_1, e_x2_1, h⟩ := am_lt h
  refine am_top e_x2_1 ?_
  refine am_istore_n C0 dX5_bracketPlace_52 rfl (by decide) rfl (lv' := [(1, .int x1), (3, .int x3), (4, .int x4), (5, .int (am_bI x5)), (2, .int x2_1)]) rfl ?_
  refine am_iload_n C0 dX5_bracketPlace_53 1 rfl ?_
  refine am_iload C0 dX5_bracketPlace_54 3 rfl ?_
  refine am_ifB_eq C0 dX5_bracketPlace_56 (tgt := 63) (by decide) (fun c_2 => ?_) (fun c_2 => ?_)
  · replace h := am_in h c_2
    refine am_iconst C0 dX5_bracketPlace_63 ci_m1 ?_
    exact am_sub [0, 4, 2] rfl (k_C_Sums_bracketPlace_p64 C0 hd rec11 F hret hrec11 x1 x2_1 x4 x3 (-1)  h)
  · replace h := am_ip h c_2
    refine am_iconst C0 dX5_bracketPlace_59 ci_1 ?_
    refine am_goto C0 dX5_bracketPlace_60 (tgt := 64) (by decide) ?_
    exact am_sub [0, 4, 2] rfl (k_C_Sums_bracketPlace_p64 C0 hd rec11 F hret hrec11 x1 x2_1 x4 x3 1  h)
set_option maxRecDepth 100000 in
set_option maxHeartbeats 4000000 in
theorem k_C_Sums_bracketPlace_p31 {G : am_T} {d0 : Nat} (C0 : am_C G cX5_bracketPlace 6 RX5 LC d0) (hd : 3 ≤ d0) (rec11 : Int32 → Int32 → Int32 → Int32 → Option Int32) (F : Nat) {σ0 : am_SS} {q : Int32} (hret : am_retI G cX5_bracketPlace 6 q σ0) (hrec11 : ∀ (x1 : Int32) (x2 : Int32) (x3 : Int32) (x4 : Int32), rec11 x1 x2 x3 x4 = some q → am_K G 6 11 [(1, .int x1), (2, .int x2), (3, .int x3), (4, .int x4)] [] σ0) (x1 : Int32) (x2 : Int32) (x3 : Int32) (x4 : Int32) (s0 : Bool) (h : C_Sums_bracketPlace_p31 rec11 F x1 x2 x3 x4 s0 = some q) : am_K G 6 31 [(1, .int x1), (2, .int x2), (3, .int x3), (4, .int x4)] [.int (am_bI s0)] σ0 := by
  unfold C_Sums_bracketPlace_p31 at h
  refine am_istore C0 dX5_bracketPlace_31 (by decide) rfl (lv' := [(1, .int x1), (2, .int x2), (3, .int x3), (4, .int x4), (5, .int (am_bI s0))]) rfl ?_
  refine am_iload_n C0 dX5_bracketPlace_33 1 rfl ?_
  refine am_iload C0 dX5_bracketPlace_34 4 rfl ?_
  refine am_ifB_eq C0 dX5_bracketPlace_36 (tgt := 43) (by decide) (fun c_1 => ?_) (fun c_1 => ?_)
  · replace h := am_in h c_1
    refine am_iload C0 dX5_bracketPlace_43 3 rfl ?_
    refine am_iload_n C0 dX5_bracketPlace_45 2 rfl ?_
    refine am_iconst C0 dX5_bracketPlace_46 ci_1 ?_
    refine am_iadd C0 dX5_bracketPlace_47 ?_
    obtain ⟨q_2, h_q_2, h⟩ := am_bind h
    refine am_callS C0 (m_C_Sums_closings (σ := σ0) (Nat.le_refl _) F x4 (x3 + 1)  h_q_2) mm_yX5_closings ln_RX5_37 (fun _ => rfl) (Nat.le_trans (by decide) hd) rfl (Nat.le_of_ble_eq_true rfl) dX5_bracketPlace_48 ?_
    exact am_sub [0, 2, 3, 4] rfl (k_C_Sums_bracketPlace_p51 C0 hd rec11 F hret hrec11 x1 x3 x4 s0 x2 q_2  h)
  · replace h := am_ip h c_1
    refine am_iconst C0 dX5_bracketPlace_39 ci_0 ?_
    refine am_goto C0 dX5_bracketPlace_40 (tgt := 51) (by decide) ?_
    exact am_sub [0, 2, 3, 4] rfl (k_C_Sums_bracketPlace_p51 C0 hd rec11 F hret hrec11 x1 x3 x4 s0 x2 0  h)
set_option maxRecDepth 100000 in
set_option maxHeartbeats 4000000 in
theorem k_C_Sums_bracketPlace_l11 {G : am_T} {d0 : Nat} (C0 : am_C G cX5_bracketPlace 6 RX5 LC d0) (hd : 3 ≤ d0) (F : Nat) {σ0 : am_SS} {q : Int32} (hret : am_retI G cX5_bracketPlace 6 q σ0) : ∀ (n : Nat) (x1 : Int32) (x2 : Int32) (x3 : Int32) (x4 : Int32) (h : C_Sums_bracketPlace_l11 F n x1 x2 x3 x4 = some q), am_K G 6 11 [(1, .int x1), (2, .int x2), (3, .int x3), (4, .int x4)] [] σ0 := by
  intro n
  induction n with
  | zero =>
    intro x1 x2 x3 x4 h
    rw [C_Sums_bracketPlace_l11] at h
    cases h
  | succ n ih =>
    intro x1 x2 x3 x4 h
    rw [C_Sums_bracketPlace_l11] at h
    refine am_iload C0 dX5_bracketPlace_11 3 rfl ?_
    refine am_if_lt C0 dX5_bracketPlace_13 (tgt := 78) (by decide) (fun c_1 => ?_) (fun c_1 => ?_)
    · replace h := am_ip h c_1
      refine am_iload_n C0 dX5_bracketPlace_78 2 rfl ?_
      refine am_if_ne C0 dX5_bracketPlace_79 (tgt := 86) (by decide) (fun c_2 => ?_) (fun c_2 => ?_)
      · replace h := am_in h c_2
        refine am_iconst C0 dX5_bracketPlace_86 ci_m1 ?_
        have e := Option.some.inj h
        subst e
        exact hret _ _ dX5_bracketPlace_87
      · replace h := am_ip h c_2
        refine am_iload_n C0 dX5_bracketPlace_82 1 rfl ?_
        refine am_goto C0 dX5_bracketPlace_83 (tgt := 87) (by decide) ?_
        have e := Option.some.inj h
        subst e
        exact hret _ _ dX5_bracketPlace_87
    · replace h := am_in h c_1
      refine am_iload_n C0 dX5_bracketPlace_16 0 rfl ?_
      refine am_iload C0 dX5_bracketPlace_17 3 rfl ?_
      refine am_ishr C0 dX5_bracketPlace_19 ?_
      refine am_iconst C0 dX5_bracketPlace_20 ci_1 ?_
      refine am_iand C0 dX5_bracketPlace_21 ?_
      refine am_iconst C0 dX5_bracketPlace_22 ci_1 ?_
      refine am_icmp_ne C0 dX5_bracketPlace_23 (tgt := 30) (by decide) (fun c_3 => ?_) (fun c_3 => ?_)
      · replace h := am_in h c_3
        refine am_iconst C0 dX5_bracketPlace_30 ci_0 ?_
        exact am_sub [0, 1, 2, 3] rfl (k_C_Sums_bracketPlace_p31 C0 hd _ F hret (fun z0 z1 z2 z3 z => ih z0 z1 z2 z3 z) x1 x2 x3 x4 false  h)
      · replace h := am_ip h c_3
        refine am_iconst C0 dX5_bracketPlace_26 ci_1 ?_
        refine am_goto C0 dX5_bracketPlace_27 (tgt := 31) (by decide) ?_
        exact am_sub [0, 1, 2, 3] rfl (k_C_Sums_bracketPlace_p31 C0 hd _ F hret (fun z0 z1 z2 z3 z => ih z0 z1 z2 z3 z) x1 x2 x3 x4 true  h)
set_option maxRecDepth 100000 in
set_option maxHeartbeats 4000000 in
theorem k_C_Sums_bracketPlace {G : am_T} {d0 : Nat} (C0 : am_C G cX5_bracketPlace 6 RX5 LC d0) (hd : 3 ≤ d0) (F : Nat) {σ0 : am_SS} {q : Int32} (hret : am_retI G cX5_bracketPlace 6 q σ0) (x0 : Int32) (x1 : Int32) (h : C_Sums_bracketPlace F x0 x1 = some q) : am_K G 6 0 [(0, .int x0), (1, .int x1)] [] σ0 := by
  unfold C_Sums_bracketPlace at h
  refine am_iconst C0 dX5_bracketPlace_0 ci_0 ?_
  refine am_istore_n C0 dX5_bracketPlace_1 rfl (by decide) rfl (lv' := [(0, .int x0), (1, .int x1), (2, .int 0)]) rfl ?_
  refine am_iconst C0 dX5_bracketPlace_2 ci_0 ?_
  refine am_istore_n C0 dX5_bracketPlace_3 rfl (by decide) rfl (lv' := [(0, .int x0), (1, .int x1), (2, .int 0), (3, .int 0)]) rfl ?_
  refine am_iconst C0 dX5_bracketPlace_4 ci_2 ?_
  refine am_iload_n C0 dX5_bracketPlace_5 0 rfl ?_
  refine am_imul C0 dX5_bracketPlace_6 ?_
  refine am_iconst C0 dX5_bracketPlace_7 ci_1 ?_
  refine am_isub C0 dX5_bracketPlace_8 ?_
  obtain ⟨x4_1, e_x4_1, h⟩ := am_lt h
  refine am_top e_x4_1 ?_
  refine am_istore C0 dX5_bracketPlace_9 (by decide) rfl (lv' := [(0, .int x0), (1, .int x1), (2, .int 0), (3, .int 0), (4, .int x4_1)]) rfl ?_
  exact am_sub [1, 2, 3, 4] rfl (k_C_Sums_bracketPlace_l11 C0 hd F hret F x1 0 0 x4_1  h)
set_option maxRecDepth 100000 in
set_option maxHeartbeats 4000000 in
theorem m_C_Sums_bracketPlace {l : Launch} {d : Nat} {σ : am_SS} {q : Int32} (hd : 3 ≤ d) (F : Nat) (x0 : Int32) (x1 : Int32) (h : C_Sums_bracketPlace F x0 x1 = some q) : am_Met l yX5_bracketPlace cX5_bracketPlace 6 (some .int) d 0 0 LC (fun b => [.int x0, .int x1]) σ (some (.int q)) σ :=
  am_metI (plainFor_of_name (by decide)) rfl (lv := fun b => [(0, .int x0), (1, .int x1)]) (fun _ => rfl) (fun _ => Nat.le_of_ble_eq_true rfl) (fun G C0 _ hret => k_C_Sums_bracketPlace C0 hd F hret x0 x1  h)
set_option maxRecDepth 100000 in
set_option maxHeartbeats 4000000 in
theorem k_C_Sums_greatestWithin_l6 {G : am_T} {d0 : Nat} (C0 : am_C G cX5_greatestWithin 5 RX5 LC d0) (hd : 1 ≤ d0) (F : Nat) {σ0 : am_SS} {q : Int32} (hret : am_retI G cX5_greatestWithin 5 q σ0) : ∀ (n : Nat) (x0 : Int32) (x1 : Int32) (x2 : Int32) (x3 : Int32) (h : C_Sums_greatestWithin_l6 F n x0 x1 x2 x3 = some q), am_K G 5 6 [(0, .int x0), (1, .int x1), (2, .int x2), (3, .int x3)] [] σ0 := by
  intro n
  induction n with
  | zero =>
    intro x0 x1 x2 x3 h
    rw [C_Sums_greatestWithin_l6] at h
    cases h
  | succ n ih =>
    intro x0 x1 x2 x3 h
    rw [C_Sums_greatestWithin_l6] at h
    refine am_iload_n C0 dX5_greatestWithin_6 3 rfl ?_
    refine am_iload_n C0 dX5_greatestWithin_7 0 rfl ?_
    refine am_icmp_ge C0 dX5_greatestWithin_8 (tgt := 32) (by decide) (fun c_1 => ?_) (fun c_1 => ?_)
    · replace h := am_in h c_1
      refine am_iload_n C0 dX5_greatestWithin_32 1 rfl ?_
      have e := Option.some.inj h
      subst e
      exact hret _ _ dX5_greatestWithin_33
    · replace h := am_ip h c_1
      refine am_iload_n C0 dX5_greatestWithin_11 2 rfl ?_
      refine am_iload_n C0 dX5_greatestWithin_12 0 rfl ?_
      refine am_icmp_gt C0 dX5_greatestWithin_13 (tgt := 32) (by decide) (fun c_2 => ?_) (fun c_2 => ?_)
      · replace h := am_ip h c_2
        refine am_iload_n C0 dX5_greatestWithin_32 1 rfl ?_
        have e := Option.some.inj h
        subst e
        exact hret _ _ dX5_greatestWithin_33
      · replace h := am_in h c_2
        refine am_iload_n C0 dX5_greatestWithin_16 1 rfl ?_
        refine am_iload_n C0 dX5_greatestWithin_17 2 rfl ?_
        refine am_iadd C0 dX5_greatestWithin_18 ?_
        obtain ⟨x4_3, e_x4_3, h⟩ := am_lt h
        refine am_top e_x4_3 ?_
        refine am_istore C0 dX5_greatestWithin_19 (by decide) rfl (lv' := [(0, .int x0), (1, .int x1), (2, .int x2), (3, .int x3), (4, .int x4_3)]) rfl ?_
        refine am_iload_n C0 dX5_greatestWithin_21 2 rfl ?_
        refine am_istore_n C0 dX5_greatestWithin_22 rfl (by decide) rfl (lv' := [(0, .int x0), (1, .int x2), (2, .int x2), (3, .int x3), (4, .int x4_3)]) rfl ?_
        refine am_iload C0 dX5_greatestWithin_23 4 rfl ?_
        refine am_istore_n C0 dX5_greatestWithin_25 rfl (by decide) rfl (lv' := [(0, .int x0), (1, .int x2), (2, .int x4_3), (3, .int x3), (4, .int x4_3)]) rfl ?_
        obtain ⟨x3_4, e_x3_4, h⟩ := am_lt h
        refine am_iinc C0 dX5_greatestWithin_26 3 rfl (by rw [ci_1]; exact e_x3_4) (by decide) rfl (lv' := [(0, .int x0), (1, .int x2), (2, .int x4_3), (3, .int x3_4), (4, .int x4_3)]) rfl ?_
        refine am_goto C0 dX5_greatestWithin_29 (tgt := 6) (by decide) ?_
        exact am_sub [0, 1, 2, 3] rfl (ih x0 x2 x4_3 x3_4  h)
set_option maxRecDepth 100000 in
set_option maxHeartbeats 4000000 in
theorem k_C_Sums_greatestWithin {G : am_T} {d0 : Nat} (C0 : am_C G cX5_greatestWithin 5 RX5 LC d0) (hd : 1 ≤ d0) (F : Nat) {σ0 : am_SS} {q : Int32} (hret : am_retI G cX5_greatestWithin 5 q σ0) (x0 : Int32) (h : C_Sums_greatestWithin F x0 = some q) : am_K G 5 0 [(0, .int x0)] [] σ0 := by
  unfold C_Sums_greatestWithin at h
  refine am_iconst C0 dX5_greatestWithin_0 ci_1 ?_
  refine am_istore_n C0 dX5_greatestWithin_1 rfl (by decide) rfl (lv' := [(0, .int x0), (1, .int 1)]) rfl ?_
  refine am_iconst C0 dX5_greatestWithin_2 ci_2 ?_
  refine am_istore_n C0 dX5_greatestWithin_3 rfl (by decide) rfl (lv' := [(0, .int x0), (1, .int 1), (2, .int 2)]) rfl ?_
  refine am_iconst C0 dX5_greatestWithin_4 ci_0 ?_
  refine am_istore_n C0 dX5_greatestWithin_5 rfl (by decide) rfl (lv' := [(0, .int x0), (1, .int 1), (2, .int 2), (3, .int 0)]) rfl ?_
  exact am_sub [0, 1, 2, 3] rfl (k_C_Sums_greatestWithin_l6 C0 hd F hret F x0 1 2 0  h)
set_option maxRecDepth 100000 in
set_option maxHeartbeats 4000000 in
theorem m_C_Sums_greatestWithin {l : Launch} {d : Nat} {σ : am_SS} {q : Int32} (hd : 1 ≤ d) (F : Nat) (x0 : Int32) (h : C_Sums_greatestWithin F x0 = some q) : am_Met l yX5_greatestWithin cX5_greatestWithin 5 (some .int) d 0 0 LC (fun b => [.int x0]) σ (some (.int q)) σ :=
  am_metI (plainFor_of_name (by decide)) rfl (lv := fun b => [(0, .int x0)]) (fun _ => rfl) (fun _ => Nat.le_of_ble_eq_true rfl) (fun G C0 _ hret => k_C_Sums_greatestWithin C0 hd F hret x0  h)
set_option maxRecDepth 100000 in
set_option maxHeartbeats 4000000 in
theorem k_C_Sums_leastPart_l6 {G : am_T} {d0 : Nat} (C0 : am_C G cX5_leastPart 4 RX5 LC d0) (hd : 2 ≤ d0) (F : Nat) {σ0 : am_SS} {q : Int32} (hret : am_retI G cX5_leastPart 4 q σ0) : ∀ (n : Nat) (x0 : Int32) (x1 : Int32) (x2 : Int32) (x3 : Int32) (h : C_Sums_leastPart_l6 F n x0 x1 x2 x3 = some q), am_K G 4 6 [(0, .int x0), (1, .int x1), (2, .int x2), (3, .int x3)] [] σ0 := by
  intro n
  induction n with
  | zero =>
    intro x0 x1 x2 x3 h
    rw [C_Sums_leastPart_l6] at h
    cases h
  | succ n ih =>
    intro x0 x1 x2 x3 h
    rw [C_Sums_leastPart_l6] at h
    refine am_iload_n C0 dX5_leastPart_6 3 rfl ?_
    refine am_iload_n C0 dX5_leastPart_7 0 rfl ?_
    refine am_icmp_ge C0 dX5_leastPart_8 (tgt := 30) (by decide) (fun c_1 => ?_) (fun c_1 => ?_)
    · replace h := am_in h c_1
      refine am_iload_n C0 dX5_leastPart_30 1 rfl ?_
      have e := Option.some.inj h
      subst e
      exact hret _ _ dX5_leastPart_31
    · replace h := am_ip h c_1
      refine am_iload_n C0 dX5_leastPart_11 2 rfl ?_
      refine am_if_le C0 dX5_leastPart_12 (tgt := 30) (by decide) (fun c_2 => ?_) (fun c_2 => ?_)
      · replace h := am_in h c_2
        refine am_iload_n C0 dX5_leastPart_30 1 rfl ?_
        have e := Option.some.inj h
        subst e
        exact hret _ _ dX5_leastPart_31
      · replace h := am_ip h c_2
        refine am_iload_n C0 dX5_leastPart_15 2 rfl ?_
        obtain ⟨q_3, h_q_3, h⟩ := am_bind h
        refine am_callS C0 (m_C_Sums_greatestWithin (σ := σ0) (Nat.le_refl _) F x2  h_q_3) mm_yX5_greatestWithin ln_RX5_40 (fun _ => rfl) (Nat.le_trans (by decide) hd) rfl (Nat.le_of_ble_eq_true rfl) dX5_leastPart_16 ?_
        refine am_istore_n C0 dX5_leastPart_19 rfl (by decide) rfl (lv' := [(0, .int x0), (1, .int q_3), (2, .int x2), (3, .int x3)]) rfl ?_
        refine am_iload_n C0 dX5_leastPart_20 2 rfl ?_
        refine am_iload_n C0 dX5_leastPart_21 1 rfl ?_
        refine am_isub C0 dX5_leastPart_22 ?_
        obtain ⟨x2_4, e_x2_4, h⟩ := am_lt h
        refine am_top e_x2_4 ?_
        refine am_istore_n C0 dX5_leastPart_23 rfl (by decide) rfl (lv' := [(0, .int x0), (1, .int q_3), (2, .int x2_4), (3, .int x3)]) rfl ?_
        obtain ⟨x3_5, e_x3_5, h⟩ := am_lt h
        refine am_iinc C0 dX5_leastPart_24 3 rfl (by rw [ci_1]; exact e_x3_5) (by decide) rfl (lv' := [(0, .int x0), (1, .int q_3), (2, .int x2_4), (3, .int x3_5)]) rfl ?_
        refine am_goto C0 dX5_leastPart_27 (tgt := 6) (by decide) ?_
        exact am_sub [0, 1, 2, 3] rfl (ih x0 q_3 x2_4 x3_5  h)
set_option maxRecDepth 100000 in
set_option maxHeartbeats 4000000 in
theorem k_C_Sums_leastPart {G : am_T} {d0 : Nat} (C0 : am_C G cX5_leastPart 4 RX5 LC d0) (hd : 2 ≤ d0) (F : Nat) {σ0 : am_SS} {q : Int32} (hret : am_retI G cX5_leastPart 4 q σ0) (x0 : Int32) (h : C_Sums_leastPart F x0 = some q) : am_K G 4 0 [(0, .int x0)] [] σ0 := by
  unfold C_Sums_leastPart at h
  refine am_iload_n C0 dX5_leastPart_0 0 rfl ?_
  refine am_istore_n C0 dX5_leastPart_1 rfl (by decide) rfl (lv' := [(0, .int x0), (1, .int x0)]) rfl ?_
  refine am_iload_n C0 dX5_leastPart_2 0 rfl ?_
  refine am_istore_n C0 dX5_leastPart_3 rfl (by decide) rfl (lv' := [(0, .int x0), (1, .int x0), (2, .int x0)]) rfl ?_
  refine am_iconst C0 dX5_leastPart_4 ci_0 ?_
  refine am_istore_n C0 dX5_leastPart_5 rfl (by decide) rfl (lv' := [(0, .int x0), (1, .int x0), (2, .int x0), (3, .int 0)]) rfl ?_
  exact am_sub [0, 1, 2, 3] rfl (k_C_Sums_leastPart_l6 C0 hd F hret F x0 x0 x0 0  h)
set_option maxRecDepth 100000 in
set_option maxHeartbeats 4000000 in
theorem m_C_Sums_leastPart {l : Launch} {d : Nat} {σ : am_SS} {q : Int32} (hd : 2 ≤ d) (F : Nat) (x0 : Int32) (h : C_Sums_leastPart F x0 = some q) : am_Met l yX5_leastPart cX5_leastPart 4 (some .int) d 0 0 LC (fun b => [.int x0]) σ (some (.int q)) σ :=
  am_metI (plainFor_of_name (by decide)) rfl (lv := fun b => [(0, .int x0)]) (fun _ => rfl) (fun _ => Nat.le_of_ble_eq_true rfl) (fun G C0 _ hret => k_C_Sums_leastPart C0 hd F hret x0  h)
set_option maxRecDepth 100000 in
set_option maxHeartbeats 4000000 in
theorem k_C_War_copyFrom {G : am_T} {d0 : Nat} (C0 : am_C G cX7_copyFrom 2 RX7 LC d0) (hd : 4 ≤ d0) (F : Nat) {q : am_SS} (hret : am_retV G cX7_copyFrom 2 q) (a0 : Nat) (a1 : Nat) (σ : am_SS) (ha0 : LC.1 a0 = 7) (ha1 : LC.1 a1 = 7) (h : C_War_copyFrom F a0 a1 σ = some q) : am_K G 2 0 [(0, .ref (am_b G a0)), (1, .ref (am_b G a1))] [] σ := by
  unfold C_War_copyFrom at h
  refine am_aload_n C0 dX7_copyFrom_0 0 rfl ?_
  refine am_getR C0 (j := a0 + 1) ff_RX7_12 (loC_5_0 ha0).1 (loC_5_0 ha0).2.1 (loC_5_0 ha0).2.2.1 (loC_5_0 ha0).2.2.2 dX7_copyFrom_1 ?_
  refine am_aload_n C0 dX7_copyFrom_4 1 rfl ?_
  refine am_getR C0 (j := a1 + 1) ff_RX7_12 (loC_5_0 ha1).1 (loC_5_0 ha1).2.1 (loC_5_0 ha1).2.2.1 (loC_5_0 ha1).2.2.2 dX7_copyFrom_5 ?_
  obtain ⟨q_1, h_q_1, h⟩ := am_bind h
  refine am_callV C0 (m_C_Front_copyFrom (σ := σ) (Nat.le_refl _) F (a0 + 1) (a1 + 1) (tgC_5_0 ha0) (tgC_5_0 ha1) h_q_1) mm_yX0_copyFrom ln_RX7_61 (As := fun b => [.ref (b (a1 + 1))]) (fun _ => rfl) (fun _ => rfl) (loC_0_0 (tgC_5_0 ha0)).1 (loC_0_0 (tgC_5_0 ha0)).2.1 rfl (Nat.le_trans (by decide) hd) rfl (Nat.le_of_ble_eq_true rfl) dX7_copyFrom_8 ?_
  refine am_aload_n C0 dX7_copyFrom_11 0 rfl ?_
  refine am_getR C0 (j := a0 + 12) ff_RX7_23 (loC_5_1 ha0).1 (loC_5_1 ha0).2.1 (loC_5_1 ha0).2.2.1 (loC_5_1 ha0).2.2.2 dX7_copyFrom_12 ?_
  refine am_aload_n C0 dX7_copyFrom_15 1 rfl ?_
  refine am_getR C0 (j := a1 + 12) ff_RX7_23 (loC_5_1 ha1).1 (loC_5_1 ha1).2.1 (loC_5_1 ha1).2.2.1 (loC_5_1 ha1).2.2.2 dX7_copyFrom_16 ?_
  obtain ⟨q_2, h_q_2, h⟩ := am_bind h
  refine am_callV C0 (m_C_Table_copyFrom (σ := q_1) (Nat.le_refl _) F (a0 + 12) (a1 + 12) (tgC_5_1 ha0) (tgC_5_1 ha1) h_q_2) mm_yX6_copyFrom ln_RX7_65 (As := fun b => [.ref (b (a1 + 12))]) (fun _ => rfl) (fun _ => rfl) (loC_4_0 (tgC_5_1 ha0)).1 (loC_4_0 (tgC_5_1 ha0)).2.1 rfl (Nat.le_trans (by decide) hd) rfl (Nat.le_of_ble_eq_true rfl) dX7_copyFrom_19 ?_
  refine am_aload_n C0 dX7_copyFrom_22 0 rfl ?_
  refine am_getR C0 (j := a0 + 14) ff_RX7_30 (loC_5_2 ha0).1 (loC_5_2 ha0).2.1 (loC_5_2 ha0).2.2.1 (loC_5_2 ha0).2.2.2 dX7_copyFrom_23 ?_
  refine am_aload_n C0 dX7_copyFrom_26 1 rfl ?_
  refine am_getR C0 (j := a1 + 14) ff_RX7_30 (loC_5_2 ha1).1 (loC_5_2 ha1).2.1 (loC_5_2 ha1).2.2.1 (loC_5_2 ha1).2.2.2 dX7_copyFrom_27 ?_
  obtain ⟨q_3, h_q_3, h⟩ := am_bind h
  refine am_callV C0 (m_C_Law_copyFrom (σ := q_2) (Nat.le_refl _) F (a0 + 14) (a1 + 14) (tgC_5_2 ha0) (tgC_5_2 ha1) h_q_3) mm_yX1_copyFrom ln_RX7_68 (As := fun b => [.ref (b (a1 + 14))]) (fun _ => rfl) (fun _ => rfl) (loC_1_0 (tgC_5_2 ha0)).1 (loC_1_0 (tgC_5_2 ha0)).2.1 rfl (Nat.le_trans (by decide) hd) rfl (Nat.le_of_ble_eq_true rfl) dX7_copyFrom_30 ?_
  refine am_aload_n C0 dX7_copyFrom_33 0 rfl ?_
  refine am_getR C0 (j := a0 + 20) ff_RX7_34 (loC_5_3 ha0).1 (loC_5_3 ha0).2.1 (loC_5_3 ha0).2.2.1 (loC_5_3 ha0).2.2.2 dX7_copyFrom_34 ?_
  refine am_aload_n C0 dX7_copyFrom_37 1 rfl ?_
  refine am_getR C0 (j := a1 + 20) ff_RX7_34 (loC_5_3 ha1).1 (loC_5_3 ha1).2.1 (loC_5_3 ha1).2.2.1 (loC_5_3 ha1).2.2.2 dX7_copyFrom_38 ?_
  obtain ⟨q_4, h_q_4, h⟩ := am_bind h
  refine am_callV C0 (m_C_Table_copyFrom (σ := q_3) (Nat.le_refl _) F (a0 + 20) (a1 + 20) (tgC_5_3 ha0) (tgC_5_3 ha1) h_q_4) mm_yX6_copyFrom ln_RX7_65 (As := fun b => [.ref (b (a1 + 20))]) (fun _ => rfl) (fun _ => rfl) (loC_4_0 (tgC_5_3 ha0)).1 (loC_4_0 (tgC_5_3 ha0)).2.1 rfl (Nat.le_trans (by decide) hd) rfl (Nat.le_of_ble_eq_true rfl) dX7_copyFrom_41 ?_
  refine am_aload_n C0 dX7_copyFrom_44 0 rfl ?_
  refine am_getR C0 (j := a0 + 22) ff_RX7_37 (loC_5_4 ha0).1 (loC_5_4 ha0).2.1 (loC_5_4 ha0).2.2.1 (loC_5_4 ha0).2.2.2 dX7_copyFrom_45 ?_
  refine am_aload_n C0 dX7_copyFrom_48 1 rfl ?_
  refine am_getR C0 (j := a1 + 22) ff_RX7_37 (loC_5_4 ha1).1 (loC_5_4 ha1).2.1 (loC_5_4 ha1).2.2.1 (loC_5_4 ha1).2.2.2 dX7_copyFrom_49 ?_
  obtain ⟨q_5, h_q_5, h⟩ := am_bind h
  refine am_callV C0 (m_C_Table_copyFrom (σ := q_4) (Nat.le_refl _) F (a0 + 22) (a1 + 22) (tgC_5_4 ha0) (tgC_5_4 ha1) h_q_5) mm_yX6_copyFrom ln_RX7_65 (As := fun b => [.ref (b (a1 + 22))]) (fun _ => rfl) (fun _ => rfl) (loC_4_0 (tgC_5_4 ha0)).1 (loC_4_0 (tgC_5_4 ha0)).2.1 rfl (Nat.le_trans (by decide) hd) rfl (Nat.le_of_ble_eq_true rfl) dX7_copyFrom_52 ?_
  refine am_aload_n C0 dX7_copyFrom_55 0 rfl ?_
  refine am_getR C0 (j := a0 + 24) ff_RX7_40 (loC_5_5 ha0).1 (loC_5_5 ha0).2.1 (loC_5_5 ha0).2.2.1 (loC_5_5 ha0).2.2.2 dX7_copyFrom_56 ?_
  refine am_aload_n C0 dX7_copyFrom_59 1 rfl ?_
  refine am_getR C0 (j := a1 + 24) ff_RX7_40 (loC_5_5 ha1).1 (loC_5_5 ha1).2.1 (loC_5_5 ha1).2.2.1 (loC_5_5 ha1).2.2.2 dX7_copyFrom_60 ?_
  obtain ⟨q_6, h_q_6, h⟩ := am_bind h
  refine am_callV C0 (m_C_Table_copyFrom (σ := q_5) (Nat.le_refl _) F (a0 + 24) (a1 + 24) (tgC_5_5 ha0) (tgC_5_5 ha1) h_q_6) mm_yX6_copyFrom ln_RX7_65 (As := fun b => [.ref (b (a1 + 24))]) (fun _ => rfl) (fun _ => rfl) (loC_4_0 (tgC_5_5 ha0)).1 (loC_4_0 (tgC_5_5 ha0)).2.1 rfl (Nat.le_trans (by decide) hd) rfl (Nat.le_of_ble_eq_true rfl) dX7_copyFrom_63 ?_
  refine am_aload_n C0 dX7_copyFrom_66 0 rfl ?_
  refine am_getR C0 (j := a0 + 26) ff_RX7_43 (loC_5_6 ha0).1 (loC_5_6 ha0).2.1 (loC_5_6 ha0).2.2.1 (loC_5_6 ha0).2.2.2 dX7_copyFrom_67 ?_
  refine am_aload_n C0 dX7_copyFrom_70 1 rfl ?_
  refine am_getR C0 (j := a1 + 26) ff_RX7_43 (loC_5_6 ha1).1 (loC_5_6 ha1).2.1 (loC_5_6 ha1).2.2.1 (loC_5_6 ha1).2.2.2 dX7_copyFrom_71 ?_
  obtain ⟨q_7, h_q_7, h⟩ := am_bind h
  refine am_callV C0 (m_C_Table_copyFrom (σ := q_6) (Nat.le_refl _) F (a0 + 26) (a1 + 26) (tgC_5_6 ha0) (tgC_5_6 ha1) h_q_7) mm_yX6_copyFrom ln_RX7_65 (As := fun b => [.ref (b (a1 + 26))]) (fun _ => rfl) (fun _ => rfl) (loC_4_0 (tgC_5_6 ha0)).1 (loC_4_0 (tgC_5_6 ha0)).2.1 rfl (Nat.le_trans (by decide) hd) rfl (Nat.le_of_ble_eq_true rfl) dX7_copyFrom_74 ?_
  refine am_aload_n C0 dX7_copyFrom_77 0 rfl ?_
  refine am_getR C0 (j := a0 + 28) ff_RX7_46 (loC_5_7 ha0).1 (loC_5_7 ha0).2.1 (loC_5_7 ha0).2.2.1 (loC_5_7 ha0).2.2.2 dX7_copyFrom_78 ?_
  refine am_aload_n C0 dX7_copyFrom_81 1 rfl ?_
  refine am_getR C0 (j := a1 + 28) ff_RX7_46 (loC_5_7 ha1).1 (loC_5_7 ha1).2.1 (loC_5_7 ha1).2.2.1 (loC_5_7 ha1).2.2.2 dX7_copyFrom_82 ?_
  obtain ⟨q_8, h_q_8, h⟩ := am_bind h
  refine am_callV C0 (m_C_Table_copyFrom (σ := q_7) (Nat.le_refl _) F (a0 + 28) (a1 + 28) (tgC_5_7 ha0) (tgC_5_7 ha1) h_q_8) mm_yX6_copyFrom ln_RX7_65 (As := fun b => [.ref (b (a1 + 28))]) (fun _ => rfl) (fun _ => rfl) (loC_4_0 (tgC_5_7 ha0)).1 (loC_4_0 (tgC_5_7 ha0)).2.1 rfl (Nat.le_trans (by decide) hd) rfl (Nat.le_of_ble_eq_true rfl) dX7_copyFrom_85 ?_
  refine am_aload_n C0 dX7_copyFrom_88 0 rfl ?_
  refine am_getR C0 (j := a0 + 30) ff_RX7_49 (loC_5_8 ha0).1 (loC_5_8 ha0).2.1 (loC_5_8 ha0).2.2.1 (loC_5_8 ha0).2.2.2 dX7_copyFrom_89 ?_
  refine am_aload_n C0 dX7_copyFrom_92 1 rfl ?_
  refine am_getR C0 (j := a1 + 30) ff_RX7_49 (loC_5_8 ha1).1 (loC_5_8 ha1).2.1 (loC_5_8 ha1).2.2.1 (loC_5_8 ha1).2.2.2 dX7_copyFrom_93 ?_
  obtain ⟨q_9, h_q_9, h⟩ := am_bind h
  refine am_callV C0 (m_C_Table_copyFrom (σ := q_8) (Nat.le_refl _) F (a0 + 30) (a1 + 30) (tgC_5_8 ha0) (tgC_5_8 ha1) h_q_9) mm_yX6_copyFrom ln_RX7_65 (As := fun b => [.ref (b (a1 + 30))]) (fun _ => rfl) (fun _ => rfl) (loC_4_0 (tgC_5_8 ha0)).1 (loC_4_0 (tgC_5_8 ha0)).2.1 rfl (Nat.le_trans (by decide) hd) rfl (Nat.le_of_ble_eq_true rfl) dX7_copyFrom_96 ?_
  refine am_aload_n C0 dX7_copyFrom_99 0 rfl ?_
  refine am_getR C0 (j := a0 + 32) ff_RX7_52 (loC_5_9 ha0).1 (loC_5_9 ha0).2.1 (loC_5_9 ha0).2.2.1 (loC_5_9 ha0).2.2.2 dX7_copyFrom_100 ?_
  refine am_aload_n C0 dX7_copyFrom_103 1 rfl ?_
  refine am_getR C0 (j := a1 + 32) ff_RX7_52 (loC_5_9 ha1).1 (loC_5_9 ha1).2.1 (loC_5_9 ha1).2.2.1 (loC_5_9 ha1).2.2.2 dX7_copyFrom_104 ?_
  obtain ⟨q_10, h_q_10, h⟩ := am_bind h
  refine am_callV C0 (m_C_Table_copyFrom (σ := q_9) (Nat.le_refl _) F (a0 + 32) (a1 + 32) (tgC_5_9 ha0) (tgC_5_9 ha1) h_q_10) mm_yX6_copyFrom ln_RX7_65 (As := fun b => [.ref (b (a1 + 32))]) (fun _ => rfl) (fun _ => rfl) (loC_4_0 (tgC_5_9 ha0)).1 (loC_4_0 (tgC_5_9 ha0)).2.1 rfl (Nat.le_trans (by decide) hd) rfl (Nat.le_of_ble_eq_true rfl) dX7_copyFrom_107 ?_
  refine am_aload_n C0 dX7_copyFrom_110 0 rfl ?_
  refine am_getR C0 (j := a0 + 34) ff_RX7_55 (loC_5_10 ha0).1 (loC_5_10 ha0).2.1 (loC_5_10 ha0).2.2.1 (loC_5_10 ha0).2.2.2 dX7_copyFrom_111 ?_
  refine am_aload_n C0 dX7_copyFrom_114 1 rfl ?_
  refine am_getR C0 (j := a1 + 34) ff_RX7_55 (loC_5_10 ha1).1 (loC_5_10 ha1).2.1 (loC_5_10 ha1).2.2.1 (loC_5_10 ha1).2.2.2 dX7_copyFrom_115 ?_
  obtain ⟨q_11, h_q_11, h⟩ := am_bind h
  refine am_callV C0 (m_C_Table_copyFrom (σ := q_10) (Nat.le_refl _) F (a0 + 34) (a1 + 34) (tgC_5_10 ha0) (tgC_5_10 ha1) h_q_11) mm_yX6_copyFrom ln_RX7_65 (As := fun b => [.ref (b (a1 + 34))]) (fun _ => rfl) (fun _ => rfl) (loC_4_0 (tgC_5_10 ha0)).1 (loC_4_0 (tgC_5_10 ha0)).2.1 rfl (Nat.le_trans (by decide) hd) rfl (Nat.le_of_ble_eq_true rfl) dX7_copyFrom_118 ?_
  refine am_aload_n C0 dX7_copyFrom_121 0 rfl ?_
  refine am_getR C0 (j := a0 + 36) ff_RX7_58 (loC_5_11 ha0).1 (loC_5_11 ha0).2.1 (loC_5_11 ha0).2.2.1 (loC_5_11 ha0).2.2.2 dX7_copyFrom_122 ?_
  refine am_aload_n C0 dX7_copyFrom_125 1 rfl ?_
  refine am_getR C0 (j := a1 + 36) ff_RX7_58 (loC_5_11 ha1).1 (loC_5_11 ha1).2.1 (loC_5_11 ha1).2.2.1 (loC_5_11 ha1).2.2.2 dX7_copyFrom_126 ?_
  obtain ⟨q_12, h_q_12, h⟩ := am_bind h
  refine am_callV C0 (m_C_Table_copyFrom (σ := q_11) (Nat.le_refl _) F (a0 + 36) (a1 + 36) (tgC_5_11 ha0) (tgC_5_11 ha1) h_q_12) mm_yX6_copyFrom ln_RX7_65 (As := fun b => [.ref (b (a1 + 36))]) (fun _ => rfl) (fun _ => rfl) (loC_4_0 (tgC_5_11 ha0)).1 (loC_4_0 (tgC_5_11 ha0)).2.1 rfl (Nat.le_trans (by decide) hd) rfl (Nat.le_of_ble_eq_true rfl) dX7_copyFrom_129 ?_
  have e := Option.some.inj h
  subst e
  exact hret _ _ dX7_copyFrom_132
set_option maxRecDepth 100000 in
set_option maxHeartbeats 4000000 in
theorem m_C_War_copyFrom {l : Launch} {d : Nat} {σ : am_SS} {q : am_SS} (hd : 4 ≤ d) (F : Nat) (a0 : Nat) (a1 : Nat) (ha0 : LC.1 a0 = 7) (ha1 : LC.1 a1 = 7) (h : C_War_copyFrom F a0 a1 σ = some q) : am_Met l yX7_copyFrom cX7_copyFrom 2 none d 0 0 LC (fun b => [.ref (b a0), .ref (b a1)]) σ none q :=
  am_metV (plainFor_of_name (by decide)) (lv := fun b => [(0, .ref (b a0)), (1, .ref (b a1))]) (fun _ => rfl) (fun _ => Nat.le_of_ble_eq_true rfl) (fun G C0 _ hret => k_C_War_copyFrom C0 hd F hret a0 a1 σ ha0 ha1 h)
set_option maxRecDepth 100000 in
set_option maxHeartbeats 4000000 in
theorem k_C_War_batmanOf_l10 {G : am_T} {d0 : Nat} (C0 : am_C G cX7_batmanOf 3 RX7 LC d0) (hd : 2 ≤ d0) (F : Nat) {σ : am_SS} {q : Int32} (hret : am_retI G cX7_batmanOf 3 q σ) : ∀ (n : Nat) (a0 : Nat) (x1 : Int32) (x2 : Int32) (ha0 : LC.1 a0 = 7) (h : C_War_batmanOf_l10 F n a0 x1 x2 σ = some q), am_K G 3 10 [(0, .ref (am_b G a0)), (1, .int x1), (2, .int x2)] [] σ := by
  intro n
  induction n with
  | zero =>
    intro a0 x1 x2 ha0 h
    rw [C_War_batmanOf_l10] at h
    cases h
  | succ n ih =>
    intro a0 x1 x2 ha0 h
    rw [C_War_batmanOf_l10] at h
    refine am_iload_n C0 dX7_batmanOf_10 2 rfl ?_
    refine am_if_lt C0 dX7_batmanOf_11 (tgt := 43) (by decide) (fun c_1 => ?_) (fun c_1 => ?_)
    · replace h := am_ip h c_1
      refine am_iconst C0 dX7_batmanOf_43 ci_m1 ?_
      have e := Option.some.inj h
      subst e
      exact hret _ _ dX7_batmanOf_44
    · replace h := am_in h c_1
      refine am_aload_n C0 dX7_batmanOf_14 0 rfl ?_
      refine am_getR C0 (j := a0 + 22) ff_RX7_37 (loC_5_4 ha0).1 (loC_5_4 ha0).2.1 (loC_5_4 ha0).2.2.1 (loC_5_4 ha0).2.2.2 dX7_batmanOf_15 ?_
      refine am_iload_n C0 dX7_batmanOf_18 2 rfl ?_
      refine am_iconst C0 dX7_batmanOf_19 ci_0 ?_
      obtain ⟨q_2, h_q_2, h⟩ := am_bind h
      refine am_callV C0 (m_C_Table_at (σ := σ) (Nat.le_refl _) (a0 + 22) x2 0 (tgC_5_4 ha0) h_q_2) mm_yX6_at ln_RX7_75 (As := fun b => [.int x2, .int 0]) (fun _ => rfl) (fun _ => rfl) (loC_4_0 (tgC_5_4 ha0)).1 (loC_4_0 (tgC_5_4 ha0)).2.1 rfl (Nat.le_trans (by decide) hd) rfl (Nat.le_of_ble_eq_true rfl) dX7_batmanOf_20 ?_
      refine am_iload_n C0 dX7_batmanOf_23 1 rfl ?_
      refine am_icmp_ne C0 dX7_batmanOf_24 (tgt := 37) (by decide) (fun c_3 => ?_) (fun c_3 => ?_)
      · replace h := am_in h c_3
        obtain ⟨x2_4, e_x2_4, h⟩ := am_lt h
        refine am_iinc C0 dX7_batmanOf_37 2 rfl (by rw [ci_m1]; exact e_x2_4) (by decide) rfl (lv' := [(0, .ref (am_b G a0)), (1, .int x1), (2, .int x2_4)]) rfl ?_
        refine am_goto C0 dX7_batmanOf_40 (tgt := 10) (by decide) ?_
        exact am_sub [0, 1, 2] rfl (ih a0 x1 x2_4 ha0 h)
      · replace h := am_ip h c_3
        refine am_aload_n C0 dX7_batmanOf_27 0 rfl ?_
        refine am_getR C0 (j := a0 + 22) ff_RX7_37 (loC_5_4 ha0).1 (loC_5_4 ha0).2.1 (loC_5_4 ha0).2.2.1 (loC_5_4 ha0).2.2.2 dX7_batmanOf_28 ?_
        refine am_iload_n C0 dX7_batmanOf_31 2 rfl ?_
        refine am_iconst C0 dX7_batmanOf_32 ci_1 ?_
        obtain ⟨q_5, h_q_5, h⟩ := am_bind h
        refine am_callV C0 (m_C_Table_at (σ := σ) (Nat.le_refl _) (a0 + 22) x2 1 (tgC_5_4 ha0) h_q_5) mm_yX6_at ln_RX7_75 (As := fun b => [.int x2, .int 1]) (fun _ => rfl) (fun _ => rfl) (loC_4_0 (tgC_5_4 ha0)).1 (loC_4_0 (tgC_5_4 ha0)).2.1 rfl (Nat.le_trans (by decide) hd) rfl (Nat.le_of_ble_eq_true rfl) dX7_batmanOf_33 ?_
        have e := Option.some.inj h
        subst e
        exact hret _ _ dX7_batmanOf_36
set_option maxRecDepth 100000 in
set_option maxHeartbeats 4000000 in
theorem k_C_War_batmanOf {G : am_T} {d0 : Nat} (C0 : am_C G cX7_batmanOf 3 RX7 LC d0) (hd : 2 ≤ d0) (F : Nat) {σ : am_SS} {q : Int32} (hret : am_retI G cX7_batmanOf 3 q σ) (a0 : Nat) (x1 : Int32) (ha0 : LC.1 a0 = 7) (h : C_War_batmanOf F a0 x1 σ = some q) : am_K G 3 0 [(0, .ref (am_b G a0)), (1, .int x1)] [] σ := by
  unfold C_War_batmanOf at h
  refine am_aload_n C0 dX7_batmanOf_0 0 rfl ?_
  refine am_getR C0 (j := a0 + 22) ff_RX7_37 (loC_5_4 ha0).1 (loC_5_4 ha0).2.1 (loC_5_4 ha0).2.2.1 (loC_5_4 ha0).2.2.2 dX7_batmanOf_1 ?_
  refine am_getI C0 ff_RX7_71 (loC_4_2 (tgC_5_4 ha0)).1 (loC_4_2 (tgC_5_4 ha0)).2.1 (loC_4_2 (tgC_5_4 ha0)).2.2.1 (loC_4_2 (tgC_5_4 ha0)).2.2.2 dX7_batmanOf_4 ?_
  refine am_iconst C0 dX7_batmanOf_7 ci_1 ?_
  refine am_isub C0 dX7_batmanOf_8 ?_
  obtain ⟨x2_1, e_x2_1, h⟩ := am_lt h
  refine am_top e_x2_1 ?_
  refine am_istore_n C0 dX7_batmanOf_9 rfl (by decide) rfl (lv' := [(0, .ref (am_b G a0)), (1, .int x1), (2, .int x2_1)]) rfl ?_
  exact am_sub [0, 1, 2] rfl (k_C_War_batmanOf_l10 C0 hd F hret F a0 x1 x2_1 ha0 h)
set_option maxRecDepth 100000 in
set_option maxHeartbeats 4000000 in
theorem m_C_War_batmanOf {l : Launch} {d : Nat} {σ : am_SS} {q : Int32} (hd : 2 ≤ d) (F : Nat) (a0 : Nat) (x1 : Int32) (ha0 : LC.1 a0 = 7) (h : C_War_batmanOf F a0 x1 σ = some q) : am_Met l yX7_batmanOf cX7_batmanOf 3 (some .int) d 0 0 LC (fun b => [.ref (b a0), .int x1]) σ (some (.int q)) σ :=
  am_metI (plainFor_of_name (by decide)) rfl (lv := fun b => [(0, .ref (b a0)), (1, .int x1)]) (fun _ => rfl) (fun _ => Nat.le_of_ble_eq_true rfl) (fun G C0 _ hret => k_C_War_batmanOf C0 hd F hret a0 x1 ha0 h)
set_option maxRecDepth 100000 in
set_option maxHeartbeats 4000000 in
theorem k_C_War_servedBy_p30 {G : am_T} {d0 : Nat} (C0 : am_C G cX7_servedBy 4 RX7 LC d0) (hd : 3 ≤ d0) (rec4 : Nat → Int32 → Int32 → Int32 → am_SS → Option Int32) (F : Nat) {σ : am_SS} {q : Int32} (hret : am_retI G cX7_servedBy 4 q σ) (hrec4 : ∀ (a0 : Nat) (x1 : Int32) (x2 : Int32) (x3 : Int32), LC.1 a0 = 7 → rec4 a0 x1 x2 x3 σ = some q → am_K G 4 4 [(0, .ref (am_b G a0)), (1, .int x1), (2, .int x2), (3, .int x3)] [] σ) (a0 : Nat) (x1 : Int32) (x2 : Int32) (x3 : Int32) (ha0 : LC.1 a0 = 7) (h : C_War_servedBy_p30 rec4 F a0 x1 x2 x3 σ = some q) : am_K G 4 30 [(0, .ref (am_b G a0)), (1, .int x1), (2, .int x2), (3, .int x3)] [] σ := by
  unfold C_War_servedBy_p30 at h
  obtain ⟨x3_1, e_x3_1, h⟩ := am_lt h
  refine am_iinc C0 dX7_servedBy_30 3 rfl (by rw [ci_1]; exact e_x3_1) (by decide) rfl (lv' := [(0, .ref (am_b G a0)), (1, .int x1), (2, .int x2), (3, .int x3_1)]) rfl ?_
  refine am_goto C0 dX7_servedBy_33 (tgt := 4) (by decide) ?_
  exact am_sub [0, 1, 2, 3] rfl (hrec4 a0 x1 x2 x3_1 ha0 h)
set_option maxRecDepth 100000 in
set_option maxHeartbeats 4000000 in
theorem k_C_War_servedBy_l4 {G : am_T} {d0 : Nat} (C0 : am_C G cX7_servedBy 4 RX7 LC d0) (hd : 3 ≤ d0) (F : Nat) {σ : am_SS} {q : Int32} (hret : am_retI G cX7_servedBy 4 q σ) : ∀ (n : Nat) (a0 : Nat) (x1 : Int32) (x2 : Int32) (x3 : Int32) (ha0 : LC.1 a0 = 7) (h : C_War_servedBy_l4 F n a0 x1 x2 x3 σ = some q), am_K G 4 4 [(0, .ref (am_b G a0)), (1, .int x1), (2, .int x2), (3, .int x3)] [] σ := by
  intro n
  induction n with
  | zero =>
    intro a0 x1 x2 x3 ha0 h
    rw [C_War_servedBy_l4] at h
    cases h
  | succ n ih =>
    intro a0 x1 x2 x3 ha0 h
    rw [C_War_servedBy_l4] at h
    refine am_iload_n C0 dX7_servedBy_4 3 rfl ?_
    refine am_aload_n C0 dX7_servedBy_5 0 rfl ?_
    refine am_getR C0 (j := a0 + 1) ff_RX7_12 (loC_5_0 ha0).1 (loC_5_0 ha0).2.1 (loC_5_0 ha0).2.2.1 (loC_5_0 ha0).2.2.2 dX7_servedBy_6 ?_
    refine am_getI C0 ff_RX7_79 (loC_0_0 (tgC_5_0 ha0)).1 (loC_0_0 (tgC_5_0 ha0)).2.1 (loC_0_0 (tgC_5_0 ha0)).2.2.1 (loC_0_0 (tgC_5_0 ha0)).2.2.2 dX7_servedBy_9 ?_
    refine am_icmp_ge C0 dX7_servedBy_12 (tgt := 36) (by decide) (fun c_1 => ?_) (fun c_1 => ?_)
    · replace h := am_in h c_1
      refine am_iload_n C0 dX7_servedBy_36 2 rfl ?_
      have e := Option.some.inj h
      subst e
      exact hret _ _ dX7_servedBy_37
    · replace h := am_ip h c_1
      refine am_aload_n C0 dX7_servedBy_15 0 rfl ?_
      refine am_iload_n C0 dX7_servedBy_16 3 rfl ?_
      obtain ⟨q_2, h_q_2, h⟩ := am_bind h
      refine am_callV C0 (m_C_War_batmanOf (σ := σ) (Nat.le_refl _) F a0 x3 ha0 h_q_2) mm_yX7_batmanOf ln_RX7_82 (As := fun b => [.int x3]) (fun _ => rfl) (fun _ => rfl) (loC_5_0 ha0).1 (loC_5_0 ha0).2.1 rfl (Nat.le_trans (by decide) hd) rfl (Nat.le_of_ble_eq_true rfl) dX7_servedBy_17 ?_
      refine am_iload_n C0 dX7_servedBy_20 1 rfl ?_
      refine am_icmp_ne C0 dX7_servedBy_21 (tgt := 30) (by decide) (fun c_3 => ?_) (fun c_3 => ?_)
      · replace h := am_in h c_3
        exact am_sub [0, 1, 2, 3] rfl (k_C_War_servedBy_p30 C0 hd _ F hret (fun z0 z1 z2 z3 zh0 z => ih z0 z1 z2 z3 zh0 z) a0 x1 x2 x3 ha0 h)
      · replace h := am_ip h c_3
        refine am_iload_n C0 dX7_servedBy_24 2 rfl ?_
        refine am_iconst C0 dX7_servedBy_25 ci_1 ?_
        refine am_iload_n C0 dX7_servedBy_26 3 rfl ?_
        refine am_ishl C0 dX7_servedBy_27 ?_
        refine am_ior C0 dX7_servedBy_28 ?_
        obtain ⟨x2_4, e_x2_4, h⟩ := am_lt h
        refine am_top e_x2_4 ?_
        refine am_istore_n C0 dX7_servedBy_29 rfl (by decide) rfl (lv' := [(0, .ref (am_b G a0)), (1, .int x1), (2, .int x2_4), (3, .int x3)]) rfl ?_
        exact am_sub [0, 1, 2, 3] rfl (k_C_War_servedBy_p30 C0 hd _ F hret (fun z0 z1 z2 z3 zh0 z => ih z0 z1 z2 z3 zh0 z) a0 x1 x2_4 x3 ha0 h)
set_option maxRecDepth 100000 in
set_option maxHeartbeats 4000000 in
theorem k_C_War_servedBy {G : am_T} {d0 : Nat} (C0 : am_C G cX7_servedBy 4 RX7 LC d0) (hd : 3 ≤ d0) (F : Nat) {σ : am_SS} {q : Int32} (hret : am_retI G cX7_servedBy 4 q σ) (a0 : Nat) (x1 : Int32) (ha0 : LC.1 a0 = 7) (h : C_War_servedBy F a0 x1 σ = some q) : am_K G 4 0 [(0, .ref (am_b G a0)), (1, .int x1)] [] σ := by
  unfold C_War_servedBy at h
  refine am_iconst C0 dX7_servedBy_0 ci_0 ?_
  refine am_istore_n C0 dX7_servedBy_1 rfl (by decide) rfl (lv' := [(0, .ref (am_b G a0)), (1, .int x1), (2, .int 0)]) rfl ?_
  refine am_iconst C0 dX7_servedBy_2 ci_0 ?_
  refine am_istore_n C0 dX7_servedBy_3 rfl (by decide) rfl (lv' := [(0, .ref (am_b G a0)), (1, .int x1), (2, .int 0), (3, .int 0)]) rfl ?_
  exact am_sub [0, 1, 2, 3] rfl (k_C_War_servedBy_l4 C0 hd F hret F a0 x1 0 0 ha0 h)
set_option maxRecDepth 100000 in
set_option maxHeartbeats 4000000 in
theorem m_C_War_servedBy {l : Launch} {d : Nat} {σ : am_SS} {q : Int32} (hd : 3 ≤ d) (F : Nat) (a0 : Nat) (x1 : Int32) (ha0 : LC.1 a0 = 7) (h : C_War_servedBy F a0 x1 σ = some q) : am_Met l yX7_servedBy cX7_servedBy 4 (some .int) d 0 0 LC (fun b => [.ref (b a0), .int x1]) σ (some (.int q)) σ :=
  am_metI (plainFor_of_name (by decide)) rfl (lv := fun b => [(0, .ref (b a0)), (1, .int x1)]) (fun _ => rfl) (fun _ => Nat.le_of_ble_eq_true rfl) (fun G C0 _ hret => k_C_War_servedBy C0 hd F hret a0 x1 ha0 h)
set_option maxRecDepth 100000 in
set_option maxHeartbeats 4000000 in
theorem k_C_War_needed_p42 {G : am_T} {d0 : Nat} (C0 : am_C G cX7_needed 4 RX7 LC d0) (hd : 2 ≤ d0) (rec4 : Nat → Int32 → Int32 → Int32 → am_SS → Option Int32) (F : Nat) {σ : am_SS} {q : Int32} (hret : am_retI G cX7_needed 4 q σ) (hrec4 : ∀ (a0 : Nat) (x1 : Int32) (x2 : Int32) (x3 : Int32), LC.1 a0 = 7 → rec4 a0 x1 x2 x3 σ = some q → am_K G 4 4 [(0, .ref (am_b G a0)), (1, .int x1), (2, .int x2), (3, .int x3)] [] σ) (a0 : Nat) (x1 : Int32) (x2 : Int32) (x3 : Int32) (ha0 : LC.1 a0 = 7) (h : C_War_needed_p42 rec4 F a0 x1 x2 x3 σ = some q) : am_K G 4 42 [(0, .ref (am_b G a0)), (1, .int x1), (2, .int x2), (3, .int x3)] [] σ := by
  unfold C_War_needed_p42 at h
  obtain ⟨x3_1, e_x3_1, h⟩ := am_lt h
  refine am_iinc C0 dX7_needed_42 3 rfl (by rw [ci_1]; exact e_x3_1) (by decide) rfl (lv' := [(0, .ref (am_b G a0)), (1, .int x1), (2, .int x2), (3, .int x3_1)]) rfl ?_
  refine am_goto C0 dX7_needed_45 (tgt := 4) (by decide) ?_
  exact am_sub [0, 1, 2, 3] rfl (hrec4 a0 x1 x2 x3_1 ha0 h)
set_option maxRecDepth 100000 in
set_option maxHeartbeats 4000000 in
theorem k_C_War_needed_l4 {G : am_T} {d0 : Nat} (C0 : am_C G cX7_needed 4 RX7 LC d0) (hd : 2 ≤ d0) (F : Nat) {σ : am_SS} {q : Int32} (hret : am_retI G cX7_needed 4 q σ) : ∀ (n : Nat) (a0 : Nat) (x1 : Int32) (x2 : Int32) (x3 : Int32) (ha0 : LC.1 a0 = 7) (h : C_War_needed_l4 F n a0 x1 x2 x3 σ = some q), am_K G 4 4 [(0, .ref (am_b G a0)), (1, .int x1), (2, .int x2), (3, .int x3)] [] σ := by
  intro n
  induction n with
  | zero =>
    intro a0 x1 x2 x3 ha0 h
    rw [C_War_needed_l4] at h
    cases h
  | succ n ih =>
    intro a0 x1 x2 x3 ha0 h
    rw [C_War_needed_l4] at h
    refine am_iload_n C0 dX7_needed_4 3 rfl ?_
    refine am_aload_n C0 dX7_needed_5 0 rfl ?_
    refine am_getR C0 (j := a0 + 24) ff_RX7_40 (loC_5_5 ha0).1 (loC_5_5 ha0).2.1 (loC_5_5 ha0).2.2.1 (loC_5_5 ha0).2.2.2 dX7_needed_6 ?_
    refine am_getI C0 ff_RX7_71 (loC_4_2 (tgC_5_5 ha0)).1 (loC_4_2 (tgC_5_5 ha0)).2.1 (loC_4_2 (tgC_5_5 ha0)).2.2.1 (loC_4_2 (tgC_5_5 ha0)).2.2.2 dX7_needed_9 ?_
    refine am_icmp_ge C0 dX7_needed_12 (tgt := 48) (by decide) (fun c_1 => ?_) (fun c_1 => ?_)
    · replace h := am_in h c_1
      refine am_iload_n C0 dX7_needed_48 2 rfl ?_
      have e := Option.some.inj h
      subst e
      exact hret _ _ dX7_needed_49
    · replace h := am_ip h c_1
      refine am_aload_n C0 dX7_needed_15 0 rfl ?_
      refine am_getR C0 (j := a0 + 24) ff_RX7_40 (loC_5_5 ha0).1 (loC_5_5 ha0).2.1 (loC_5_5 ha0).2.2.1 (loC_5_5 ha0).2.2.2 dX7_needed_16 ?_
      refine am_iload_n C0 dX7_needed_19 3 rfl ?_
      refine am_iconst C0 dX7_needed_20 ci_0 ?_
      obtain ⟨q_2, h_q_2, h⟩ := am_bind h
      refine am_callV C0 (m_C_Table_at (σ := σ) (Nat.le_refl _) (a0 + 24) x3 0 (tgC_5_5 ha0) h_q_2) mm_yX6_at ln_RX7_75 (As := fun b => [.int x3, .int 0]) (fun _ => rfl) (fun _ => rfl) (loC_4_0 (tgC_5_5 ha0)).1 (loC_4_0 (tgC_5_5 ha0)).2.1 rfl (Nat.le_trans (by decide) hd) rfl (Nat.le_of_ble_eq_true rfl) dX7_needed_21 ?_
      refine am_iload_n C0 dX7_needed_24 1 rfl ?_
      refine am_icmp_ne C0 dX7_needed_25 (tgt := 42) (by decide) (fun c_3 => ?_) (fun c_3 => ?_)
      · replace h := am_in h c_3
        exact am_sub [0, 1, 2, 3] rfl (k_C_War_needed_p42 C0 hd _ F hret (fun z0 z1 z2 z3 zh0 z => ih z0 z1 z2 z3 zh0 z) a0 x1 x2 x3 ha0 h)
      · replace h := am_ip h c_3
        refine am_iload_n C0 dX7_needed_28 2 rfl ?_
        refine am_iconst C0 dX7_needed_29 ci_1 ?_
        refine am_aload_n C0 dX7_needed_30 0 rfl ?_
        refine am_getR C0 (j := a0 + 24) ff_RX7_40 (loC_5_5 ha0).1 (loC_5_5 ha0).2.1 (loC_5_5 ha0).2.2.1 (loC_5_5 ha0).2.2.2 dX7_needed_31 ?_
        refine am_iload_n C0 dX7_needed_34 3 rfl ?_
        refine am_iconst C0 dX7_needed_35 ci_1 ?_
        obtain ⟨q_4, h_q_4, h⟩ := am_bind h
        refine am_callV C0 (m_C_Table_at (σ := σ) (Nat.le_refl _) (a0 + 24) x3 1 (tgC_5_5 ha0) h_q_4) mm_yX6_at ln_RX7_75 (As := fun b => [.int x3, .int 1]) (fun _ => rfl) (fun _ => rfl) (loC_4_0 (tgC_5_5 ha0)).1 (loC_4_0 (tgC_5_5 ha0)).2.1 rfl (Nat.le_trans (by decide) hd) rfl (Nat.le_of_ble_eq_true rfl) dX7_needed_36 ?_
        refine am_ishl C0 dX7_needed_39 ?_
        refine am_ior C0 dX7_needed_40 ?_
        obtain ⟨x2_5, e_x2_5, h⟩ := am_lt h
        refine am_top e_x2_5 ?_
        refine am_istore_n C0 dX7_needed_41 rfl (by decide) rfl (lv' := [(0, .ref (am_b G a0)), (1, .int x1), (2, .int x2_5), (3, .int x3)]) rfl ?_
        exact am_sub [0, 1, 2, 3] rfl (k_C_War_needed_p42 C0 hd _ F hret (fun z0 z1 z2 z3 zh0 z => ih z0 z1 z2 z3 zh0 z) a0 x1 x2_5 x3 ha0 h)
set_option maxRecDepth 100000 in
set_option maxHeartbeats 4000000 in
theorem k_C_War_needed {G : am_T} {d0 : Nat} (C0 : am_C G cX7_needed 4 RX7 LC d0) (hd : 2 ≤ d0) (F : Nat) {σ : am_SS} {q : Int32} (hret : am_retI G cX7_needed 4 q σ) (a0 : Nat) (x1 : Int32) (ha0 : LC.1 a0 = 7) (h : C_War_needed F a0 x1 σ = some q) : am_K G 4 0 [(0, .ref (am_b G a0)), (1, .int x1)] [] σ := by
  unfold C_War_needed at h
  refine am_iconst C0 dX7_needed_0 ci_0 ?_
  refine am_istore_n C0 dX7_needed_1 rfl (by decide) rfl (lv' := [(0, .ref (am_b G a0)), (1, .int x1), (2, .int 0)]) rfl ?_
  refine am_iconst C0 dX7_needed_2 ci_0 ?_
  refine am_istore_n C0 dX7_needed_3 rfl (by decide) rfl (lv' := [(0, .ref (am_b G a0)), (1, .int x1), (2, .int 0), (3, .int 0)]) rfl ?_
  exact am_sub [0, 1, 2, 3] rfl (k_C_War_needed_l4 C0 hd F hret F a0 x1 0 0 ha0 h)
set_option maxRecDepth 100000 in
set_option maxHeartbeats 4000000 in
theorem m_C_War_needed {l : Launch} {d : Nat} {σ : am_SS} {q : Int32} (hd : 2 ≤ d) (F : Nat) (a0 : Nat) (x1 : Int32) (ha0 : LC.1 a0 = 7) (h : C_War_needed F a0 x1 σ = some q) : am_Met l yX7_needed cX7_needed 4 (some .int) d 0 0 LC (fun b => [.ref (b a0), .int x1]) σ (some (.int q)) σ :=
  am_metI (plainFor_of_name (by decide)) rfl (lv := fun b => [(0, .ref (b a0)), (1, .int x1)]) (fun _ => rfl) (fun _ => Nat.le_of_ble_eq_true rfl) (fun G C0 _ hret => k_C_War_needed C0 hd F hret a0 x1 ha0 h)
set_option maxRecDepth 100000 in
set_option maxHeartbeats 4000000 in
theorem k_C_War_hasHisNeeds_p44 {G : am_T} {d0 : Nat} (C0 : am_C G cX7_hasHisNeeds 4 RX7 LC d0) (hd : 3 ≤ d0) (rec2 : Nat → Nat → Int32 → Int32 → am_SS → Option Bool) (F : Nat) {σ : am_SS} {q : Bool} (hret : am_retI G cX7_hasHisNeeds 4 (am_bI q) σ) (hrec2 : ∀ (a0 : Nat) (a1 : Nat) (x2 : Int32) (x3 : Int32), LC.1 a0 = 7 → LC.1 a1 = 2 → rec2 a0 a1 x2 x3 σ = some q → am_K G 4 2 [(0, .ref (am_b G a0)), (1, .ref (am_b G a1)), (2, .int x2), (3, .int x3)] [] σ) (a0 : Nat) (a1 : Nat) (x2 : Int32) (x3 : Int32) (ha0 : LC.1 a0 = 7) (ha1 : LC.1 a1 = 2) (h : C_War_hasHisNeeds_p44 rec2 F a0 a1 x2 x3 σ = some q) : am_K G 4 44 [(0, .ref (am_b G a0)), (1, .ref (am_b G a1)), (2, .int x2), (3, .int x3)] [] σ := by
  unfold C_War_hasHisNeeds_p44 at h
  obtain ⟨x3_1, e_x3_1, h⟩ := am_lt h
  refine am_iinc C0 dX7_hasHisNeeds_44 3 rfl (by rw [ci_1]; exact e_x3_1) (by decide) rfl (lv' := [(0, .ref (am_b G a0)), (1, .ref (am_b G a1)), (2, .int x2), (3, .int x3_1)]) rfl ?_
  refine am_goto C0 dX7_hasHisNeeds_47 (tgt := 2) (by decide) ?_
  exact am_sub [0, 1, 2, 3] rfl (hrec2 a0 a1 x2 x3_1 ha0 ha1 h)
set_option maxRecDepth 100000 in
set_option maxHeartbeats 4000000 in
theorem k_C_War_hasHisNeeds_l2 {G : am_T} {d0 : Nat} (C0 : am_C G cX7_hasHisNeeds 4 RX7 LC d0) (hd : 3 ≤ d0) (F : Nat) {σ : am_SS} {q : Bool} (hret : am_retI G cX7_hasHisNeeds 4 (am_bI q) σ) : ∀ (n : Nat) (a0 : Nat) (a1 : Nat) (x2 : Int32) (x3 : Int32) (ha0 : LC.1 a0 = 7) (ha1 : LC.1 a1 = 2) (h : C_War_hasHisNeeds_l2 F n a0 a1 x2 x3 σ = some q), am_K G 4 2 [(0, .ref (am_b G a0)), (1, .ref (am_b G a1)), (2, .int x2), (3, .int x3)] [] σ := by
  intro n
  induction n with
  | zero =>
    intro a0 a1 x2 x3 ha0 ha1 h
    rw [C_War_hasHisNeeds_l2] at h
    cases h
  | succ n ih =>
    intro a0 a1 x2 x3 ha0 ha1 h
    rw [C_War_hasHisNeeds_l2] at h
    refine am_iload_n C0 dX7_hasHisNeeds_2 3 rfl ?_
    refine am_aload_n C0 dX7_hasHisNeeds_3 0 rfl ?_
    refine am_getR C0 (j := a0 + 24) ff_RX7_40 (loC_5_5 ha0).1 (loC_5_5 ha0).2.1 (loC_5_5 ha0).2.2.1 (loC_5_5 ha0).2.2.2 dX7_hasHisNeeds_4 ?_
    refine am_getI C0 ff_RX7_71 (loC_4_2 (tgC_5_5 ha0)).1 (loC_4_2 (tgC_5_5 ha0)).2.1 (loC_4_2 (tgC_5_5 ha0)).2.2.1 (loC_4_2 (tgC_5_5 ha0)).2.2.2 dX7_hasHisNeeds_7 ?_
    refine am_icmp_ge C0 dX7_hasHisNeeds_10 (tgt := 50) (by decide) (fun c_1 => ?_) (fun c_1 => ?_)
    · replace h := am_in h c_1
      refine am_iconst C0 dX7_hasHisNeeds_50 ci_1 ?_
      have e := Option.some.inj h
      subst e
      exact hret _ _ dX7_hasHisNeeds_51
    · replace h := am_ip h c_1
      refine am_aload_n C0 dX7_hasHisNeeds_13 0 rfl ?_
      refine am_getR C0 (j := a0 + 24) ff_RX7_40 (loC_5_5 ha0).1 (loC_5_5 ha0).2.1 (loC_5_5 ha0).2.2.1 (loC_5_5 ha0).2.2.2 dX7_hasHisNeeds_14 ?_
      refine am_iload_n C0 dX7_hasHisNeeds_17 3 rfl ?_
      refine am_iconst C0 dX7_hasHisNeeds_18 ci_0 ?_
      obtain ⟨q_2, h_q_2, h⟩ := am_bind h
      refine am_callV C0 (m_C_Table_at (σ := σ) (Nat.le_refl _) (a0 + 24) x3 0 (tgC_5_5 ha0) h_q_2) mm_yX6_at ln_RX7_75 (As := fun b => [.int x3, .int 0]) (fun _ => rfl) (fun _ => rfl) (loC_4_0 (tgC_5_5 ha0)).1 (loC_4_0 (tgC_5_5 ha0)).2.1 rfl (Nat.le_trans (by decide) hd) rfl (Nat.le_of_ble_eq_true rfl) dX7_hasHisNeeds_19 ?_
      refine am_iload_n C0 dX7_hasHisNeeds_22 2 rfl ?_
      refine am_icmp_ne C0 dX7_hasHisNeeds_23 (tgt := 44) (by decide) (fun c_3 => ?_) (fun c_3 => ?_)
      · replace h := am_in h c_3
        exact am_sub [0, 1, 2, 3] rfl (k_C_War_hasHisNeeds_p44 C0 hd _ F hret (fun z0 z1 z2 z3 zh0 zh1 z => ih z0 z1 z2 z3 zh0 zh1 z) a0 a1 x2 x3 ha0 ha1 h)
      · replace h := am_ip h c_3
        refine am_aload_n C0 dX7_hasHisNeeds_26 1 rfl ?_
        refine am_aload_n C0 dX7_hasHisNeeds_27 0 rfl ?_
        refine am_getR C0 (j := a0 + 24) ff_RX7_40 (loC_5_5 ha0).1 (loC_5_5 ha0).2.1 (loC_5_5 ha0).2.2.1 (loC_5_5 ha0).2.2.2 dX7_hasHisNeeds_28 ?_
        refine am_iload_n C0 dX7_hasHisNeeds_31 3 rfl ?_
        refine am_iconst C0 dX7_hasHisNeeds_32 ci_1 ?_
        obtain ⟨q_4, h_q_4, h⟩ := am_bind h
        refine am_callV C0 (m_C_Table_at (σ := σ) (Nat.le_refl _) (a0 + 24) x3 1 (tgC_5_5 ha0) h_q_4) mm_yX6_at ln_RX7_75 (As := fun b => [.int x3, .int 1]) (fun _ => rfl) (fun _ => rfl) (loC_4_0 (tgC_5_5 ha0)).1 (loC_4_0 (tgC_5_5 ha0)).2.1 rfl (Nat.le_trans (by decide) hd) rfl (Nat.le_of_ble_eq_true rfl) dX7_hasHisNeeds_33 ?_
        obtain ⟨q_5, h_q_5, h⟩ := am_bind h
        refine am_callV C0 (m_C_Front_hasTen (σ := σ) (Nat.le_refl _) a1 q_4 ha1 h_q_5) mm_yX0_hasTen ln_RX7_86 (As := fun b => [.int q_4]) (fun _ => rfl) (fun _ => rfl) (loC_0_0 ha1).1 (loC_0_0 ha1).2.1 rfl (Nat.le_trans (by decide) hd) rfl (Nat.le_of_ble_eq_true rfl) dX7_hasHisNeeds_36 ?_
        refine am_ifB_ne C0 dX7_hasHisNeeds_39 (tgt := 44) (by decide) (fun c_6 => ?_) (fun c_6 => ?_)
        · replace h := am_ip h c_6
          exact am_sub [0, 1, 2, 3] rfl (k_C_War_hasHisNeeds_p44 C0 hd _ F hret (fun z0 z1 z2 z3 zh0 zh1 z => ih z0 z1 z2 z3 zh0 zh1 z) a0 a1 x2 x3 ha0 ha1 h)
        · replace h := am_in h c_6
          refine am_iconst C0 dX7_hasHisNeeds_42 ci_0 ?_
          have e := Option.some.inj h
          subst e
          exact hret _ _ dX7_hasHisNeeds_43
set_option maxRecDepth 100000 in
set_option maxHeartbeats 4000000 in
theorem k_C_War_hasHisNeeds {G : am_T} {d0 : Nat} (C0 : am_C G cX7_hasHisNeeds 4 RX7 LC d0) (hd : 3 ≤ d0) (F : Nat) {σ : am_SS} {q : Bool} (hret : am_retI G cX7_hasHisNeeds 4 (am_bI q) σ) (a0 : Nat) (a1 : Nat) (x2 : Int32) (ha0 : LC.1 a0 = 7) (ha1 : LC.1 a1 = 2) (h : C_War_hasHisNeeds F a0 a1 x2 σ = some q) : am_K G 4 0 [(0, .ref (am_b G a0)), (1, .ref (am_b G a1)), (2, .int x2)] [] σ := by
  unfold C_War_hasHisNeeds at h
  refine am_iconst C0 dX7_hasHisNeeds_0 ci_0 ?_
  refine am_istore_n C0 dX7_hasHisNeeds_1 rfl (by decide) rfl (lv' := [(0, .ref (am_b G a0)), (1, .ref (am_b G a1)), (2, .int x2), (3, .int 0)]) rfl ?_
  exact am_sub [0, 1, 2, 3] rfl (k_C_War_hasHisNeeds_l2 C0 hd F hret F a0 a1 x2 0 ha0 ha1 h)
set_option maxRecDepth 100000 in
set_option maxHeartbeats 4000000 in
theorem m_C_War_hasHisNeeds {l : Launch} {d : Nat} {σ : am_SS} {q : Bool} (hd : 3 ≤ d) (F : Nat) (a0 : Nat) (a1 : Nat) (x2 : Int32) (ha0 : LC.1 a0 = 7) (ha1 : LC.1 a1 = 2) (h : C_War_hasHisNeeds F a0 a1 x2 σ = some q) : am_Met l yX7_hasHisNeeds cX7_hasHisNeeds 4 (some .boolean) d 0 0 LC (fun b => [.ref (b a0), .ref (b a1), .int x2]) σ (some (.int (am_bI q))) σ :=
  am_metI (plainFor_of_name (by decide)) (am_bI_nr _) (lv := fun b => [(0, .ref (b a0)), (1, .ref (b a1)), (2, .int x2)]) (fun _ => rfl) (fun _ => Nat.le_of_ble_eq_true rfl) (fun G C0 _ hret => k_C_War_hasHisNeeds C0 hd F hret a0 a1 x2 ha0 ha1 h)
set_option maxRecDepth 100000 in
set_option maxHeartbeats 4000000 in
theorem k_C_War_asks {G : am_T} {d0 : Nat} (C0 : am_C G cX7_asks 4 RX7 LC d0) (hd : 5 ≤ d0) (F : Nat) {q : Int32 × am_SS} (hret : am_retI G cX7_asks 4 q.1 q.2) (a0 : Nat) (a1 : Nat) (x2 : Int32) (x3 : Int32) (σ : am_SS) (ha0 : LC.1 a0 = 7) (ha1 : LC.1 a1 = 2) (h : C_War_asks F a0 a1 x2 x3 σ = some q) : am_K G 4 0 [(0, .ref (am_b G a0)), (1, .ref (am_b G a1)), (2, .int x2), (3, .int x3)] [] σ := by
  unfold C_War_asks at h
  refine am_aload_n C0 dX7_asks_0 0 rfl ?_
  refine am_getR C0 (j := a0 + 14) ff_RX7_30 (loC_5_2 ha0).1 (loC_5_2 ha0).2.1 (loC_5_2 ha0).2.2.1 (loC_5_2 ha0).2.2.2 dX7_asks_1 ?_
  refine am_aload_n C0 dX7_asks_4 1 rfl ?_
  refine am_iload_n C0 dX7_asks_5 2 rfl ?_
  refine am_aload_n C0 dX7_asks_6 0 rfl ?_
  refine am_iload_n C0 dX7_asks_7 2 rfl ?_
  obtain ⟨q_1, h_q_1, h⟩ := am_bind h
  refine am_callV C0 (m_C_War_batmanOf (σ := σ) (Nat.le_refl _) F a0 x2 ha0 h_q_1) mm_yX7_batmanOf ln_RX7_82 (As := fun b => [.int x2]) (fun _ => rfl) (fun _ => rfl) (loC_5_0 ha0).1 (loC_5_0 ha0).2.1 rfl (Nat.le_trans (by decide) hd) rfl (Nat.le_of_ble_eq_true rfl) dX7_asks_8 ?_
  refine am_iload_n C0 dX7_asks_11 3 rfl ?_
  obtain ⟨q_2, h_q_2, h⟩ := am_bind h
  refine am_callV C0 (m_C_Law_tells (σ := σ) (Nat.le_refl _) F (a0 + 14) a1 x2 q_1 x3 (tgC_5_2 ha0) ha1 h_q_2) mm_yX1_tells ln_RX7_90 (As := fun b => [.ref (b a1), .int x2, .int q_1, .int x3]) (fun _ => rfl) (fun _ => rfl) (loC_1_0 (tgC_5_2 ha0)).1 (loC_1_0 (tgC_5_2 ha0)).2.1 rfl (Nat.le_trans (by decide) hd) rfl (Nat.le_of_ble_eq_true rfl) dX7_asks_12 ?_
  have e := Option.some.inj h
  subst e
  exact hret _ _ dX7_asks_15
set_option maxRecDepth 100000 in
set_option maxHeartbeats 4000000 in
theorem m_C_War_asks {l : Launch} {d : Nat} {σ : am_SS} {q : Int32 × am_SS} (hd : 5 ≤ d) (F : Nat) (a0 : Nat) (a1 : Nat) (x2 : Int32) (x3 : Int32) (ha0 : LC.1 a0 = 7) (ha1 : LC.1 a1 = 2) (h : C_War_asks F a0 a1 x2 x3 σ = some q) : am_Met l yX7_asks cX7_asks 4 (some .int) d 0 0 LC (fun b => [.ref (b a0), .ref (b a1), .int x2, .int x3]) σ (some (.int q.1)) q.2 :=
  am_metI (plainFor_of_name (by decide)) rfl (lv := fun b => [(0, .ref (b a0)), (1, .ref (b a1)), (2, .int x2), (3, .int x3)]) (fun _ => rfl) (fun _ => Nat.le_of_ble_eq_true rfl) (fun G C0 _ hret => k_C_War_asks C0 hd F hret a0 a1 x2 x3 σ ha0 ha1 h)
set_option maxRecDepth 100000 in
set_option maxHeartbeats 4000000 in
theorem k_C_War_write {G : am_T} {d0 : Nat} (C0 : am_C G cX7_write 6 RX7 LC d0) (hd : 2 ≤ d0) (F : Nat) {q : am_SS} (hret : am_retV G cX7_write 6 q) (a0 : Nat) (a1 : Nat) (x2 : Bool) (x3 : Int32) (x4 : Int32) (x5 : Int32) (σ : am_SS) (ha0 : LC.1 a0 = 7) (ha1 : LC.1 a1 = 2) (h : C_War_write F a0 a1 x2 x3 x4 x5 σ = some q) : am_K G 6 0 [(0, .ref (am_b G a0)), (1, .ref (am_b G a1)), (2, .int (am_bI x2)), (3, .int x3), (4, .int x4), (5, .int x5)] [] σ := by
  unfold C_War_write at h
  refine am_iload_n C0 dX7_write_0 2 rfl ?_
  refine am_ifB_ne C0 dX7_write_1 (tgt := 21) (by decide) (fun c_1 => ?_) (fun c_1 => ?_)
  · replace h := am_ip h c_1
    have e := Option.some.inj h
    subst e
    exact hret _ _ dX7_write_21
  · replace h := am_in h c_1
    refine am_aload_n C0 dX7_write_4 0 rfl ?_
    refine am_getR C0 (j := a0 + 12) ff_RX7_23 (loC_5_1 ha0).1 (loC_5_1 ha0).2.1 (loC_5_1 ha0).2.2.1 (loC_5_1 ha0).2.2.2 dX7_write_5 ?_
    refine am_aload_n C0 dX7_write_8 1 rfl ?_
    refine am_getI C0 ff_RX7_94 (loC_0_14 ha1).1 (loC_0_14 ha1).2.1 (loC_0_14 ha1).2.2.1 (loC_0_14 ha1).2.2.2 dX7_write_9 ?_
    refine am_iload_n C0 dX7_write_12 3 rfl ?_
    refine am_iload C0 dX7_write_13 4 rfl ?_
    refine am_iload C0 dX7_write_15 5 rfl ?_
    obtain ⟨q_2, h_q_2, h⟩ := am_bind h
    refine am_callV C0 (m_C_Table_add (σ := σ) (Nat.le_refl _) F (a0 + 12) (σ a1 14) x3 x4 x5 (tgC_5_1 ha0) h_q_2) mm_yX6_add ln_RX7_97 (As := fun b => [.int (σ a1 14), .int x3, .int x4, .int x5]) (fun _ => rfl) (fun _ => rfl) (loC_4_0 (tgC_5_1 ha0)).1 (loC_4_0 (tgC_5_1 ha0)).2.1 rfl (Nat.le_trans (by decide) hd) rfl (Nat.le_of_ble_eq_true rfl) dX7_write_17 ?_
    refine am_pop C0 dX7_write_20 rfl ?_
    have e := Option.some.inj h
    subst e
    exact hret _ _ dX7_write_21
set_option maxRecDepth 100000 in
set_option maxHeartbeats 4000000 in
theorem m_C_War_write {l : Launch} {d : Nat} {σ : am_SS} {q : am_SS} (hd : 2 ≤ d) (F : Nat) (a0 : Nat) (a1 : Nat) (x2 : Bool) (x3 : Int32) (x4 : Int32) (x5 : Int32) (ha0 : LC.1 a0 = 7) (ha1 : LC.1 a1 = 2) (h : C_War_write F a0 a1 x2 x3 x4 x5 σ = some q) : am_Met l yX7_write cX7_write 6 none d 0 0 LC (fun b => [.ref (b a0), .ref (b a1), .int (am_bI x2), .int x3, .int x4, .int x5]) σ none q :=
  am_metV (plainFor_of_name (by decide)) (lv := fun b => [(0, .ref (b a0)), (1, .ref (b a1)), (2, .int (am_bI x2)), (3, .int x3), (4, .int x4), (5, .int x5)]) (fun _ => rfl) (fun _ => Nat.le_of_ble_eq_true rfl) (fun G C0 _ hret => k_C_War_write C0 hd F hret a0 a1 x2 x3 x4 x5 σ ha0 ha1 h)
set_option maxRecDepth 100000 in
set_option maxHeartbeats 4000000 in
theorem k_C_War_canAct {G : am_T} {d0 : Nat} (C0 : am_C G cX7_canAct 4 RX7 LC d0) (hd : 2 ≤ d0) {σ : am_SS} {q : Bool} (hret : am_retI G cX7_canAct 4 (am_bI q) σ) (a0 : Nat) (x1 : Int32) (x2 : Int32) (x3 : Int32) (ha0 : LC.1 a0 = 7) (h : C_War_canAct a0 x1 x2 x3 σ = some q) : am_K G 4 0 [(0, .ref (am_b G a0)), (1, .int x1), (2, .int x2), (3, .int x3)] [] σ := by
  unfold C_War_canAct at h
  refine am_aload_n C0 dX7_canAct_0 0 rfl ?_
  refine am_getR C0 (j := a0 + 1) ff_RX7_12 (loC_5_0 ha0).1 (loC_5_0 ha0).2.1 (loC_5_0 ha0).2.2.1 (loC_5_0 ha0).2.2.2 dX7_canAct_1 ?_
  refine am_getI C0 ff_RX7_101 (loC_0_13 (tgC_5_0 ha0)).1 (loC_0_13 (tgC_5_0 ha0)).2.1 (loC_0_13 (tgC_5_0 ha0)).2.2.1 (loC_0_13 (tgC_5_0 ha0)).2.2.2 dX7_canAct_4 ?_
  refine am_iconst C0 dX7_canAct_7 ci_m1 ?_
  refine am_icmp_eq C0 dX7_canAct_8 (tgt := 13) (by decide) (fun c_1 => ?_) (fun c_1 => ?_)
  · replace h := am_ip h c_1
    refine am_iload_n C0 dX7_canAct_13 1 rfl ?_
    by_cases c_2 : x1 = 0
    · replace h := am_ip h c_2
      refine am_tabIn C0 dX7_canAct_14 (tgt := 44) (off := 30) (by rw [c_2]; decide) (by rw [c_2]; decide) (by rw [c_2]; first | done | rfl | decide) (by decide) ?_
      refine am_aload_n C0 dX7_canAct_44 0 rfl ?_
      refine am_getR C0 (j := a0 + 1) ff_RX7_12 (loC_5_0 ha0).1 (loC_5_0 ha0).2.1 (loC_5_0 ha0).2.2.1 (loC_5_0 ha0).2.2.2 dX7_canAct_45 ?_
      refine am_iload_n C0 dX7_canAct_48 2 rfl ?_
      refine am_callV C0 (m_C_Front_hasOfficer (σ := σ) (Nat.le_refl _) (a0 + 1) x2 (tgC_5_0 ha0) rfl) mm_yX0_hasOfficer ln_RX7_104 (As := fun b => [.int x2]) (fun _ => rfl) (fun _ => rfl) (loC_0_0 (tgC_5_0 ha0)).1 (loC_0_0 (tgC_5_0 ha0)).2.1 rfl (Nat.le_trans (by decide) hd) rfl (Nat.le_of_ble_eq_true rfl) dX7_canAct_49 ?_
      refine am_ifB_eq C0 dX7_canAct_52 (tgt := 70) (by decide) (fun c_4 => ?_) (fun c_4 => ?_)
      · replace h := am_in h c_4
        refine am_iconst C0 dX7_canAct_70 ci_0 ?_
        have e := Option.some.inj h
        subst e
        exact hret _ _ dX7_canAct_71
      · replace h := am_ip h c_4
        refine am_iload_n C0 dX7_canAct_55 3 rfl ?_
        refine am_iconst C0 dX7_canAct_56 ci_1 ?_
        refine am_icmp_lt C0 dX7_canAct_57 (tgt := 70) (by decide) (fun c_5 => ?_) (fun c_5 => ?_)
        · replace h := am_ip h c_5
          refine am_iconst C0 dX7_canAct_70 ci_0 ?_
          have e := Option.some.inj h
          subst e
          exact hret _ _ dX7_canAct_71
        · replace h := am_in h c_5
          refine am_iload_n C0 dX7_canAct_60 3 rfl ?_
          refine am_bipush C0 dX7_canAct_61 kb_99 ?_
          refine am_icmp_gt C0 dX7_canAct_63 (tgt := 70) (by decide) (fun c_6 => ?_) (fun c_6 => ?_)
          · replace h := am_ip h c_6
            refine am_iconst C0 dX7_canAct_70 ci_0 ?_
            have e := Option.some.inj h
            subst e
            exact hret _ _ dX7_canAct_71
          · replace h := am_in h c_6
            refine am_iconst C0 dX7_canAct_66 ci_1 ?_
            refine am_goto C0 dX7_canAct_67 (tgt := 71) (by decide) ?_
            have e := Option.some.inj h
            subst e
            exact hret _ _ dX7_canAct_71
    replace h := am_in h c_2
    by_cases c_7 : x1 = 1
    · replace h := am_ip h c_7
      refine am_tabIn C0 dX7_canAct_14 (tgt := 72) (off := 58) (by rw [c_7]; decide) (by rw [c_7]; decide) (by rw [c_7]; first | done | rfl | decide) (by decide) ?_
      refine am_aload_n C0 dX7_canAct_72 0 rfl ?_
      refine am_getR C0 (j := a0 + 1) ff_RX7_12 (loC_5_0 ha0).1 (loC_5_0 ha0).2.1 (loC_5_0 ha0).2.2.1 (loC_5_0 ha0).2.2.2 dX7_canAct_73 ?_
      refine am_iload_n C0 dX7_canAct_76 2 rfl ?_
      refine am_callV C0 (m_C_Front_hasOfficer (σ := σ) (Nat.le_refl _) (a0 + 1) x2 (tgC_5_0 ha0) rfl) mm_yX0_hasOfficer ln_RX7_104 (As := fun b => [.int x2]) (fun _ => rfl) (fun _ => rfl) (loC_0_0 (tgC_5_0 ha0)).1 (loC_0_0 (tgC_5_0 ha0)).2.1 rfl (Nat.le_trans (by decide) hd) rfl (Nat.le_of_ble_eq_true rfl) dX7_canAct_77 ?_
      refine am_ifB_eq C0 dX7_canAct_80 (tgt := 99) (by decide) (fun c_9 => ?_) (fun c_9 => ?_)
      · replace h := am_in h c_9
        refine am_iconst C0 dX7_canAct_99 ci_0 ?_
        have e := Option.some.inj h
        subst e
        exact hret _ _ dX7_canAct_100
      · replace h := am_ip h c_9
        refine am_aload_n C0 dX7_canAct_83 0 rfl ?_
        refine am_getR C0 (j := a0 + 1) ff_RX7_12 (loC_5_0 ha0).1 (loC_5_0 ha0).2.1 (loC_5_0 ha0).2.2.1 (loC_5_0 ha0).2.2.2 dX7_canAct_84 ?_
        refine am_getR C0 (j := a0 + 1 + 6) ff_RX7_107 (loC_0_6 (tgC_5_0 ha0)).1 (loC_0_6 (tgC_5_0 ha0)).2.1 (loC_0_6 (tgC_5_0 ha0)).2.2.1 (loC_0_6 (tgC_5_0 ha0)).2.2.2 dX7_canAct_87 ?_
        refine am_iload_n C0 dX7_canAct_90 2 rfl ?_
        obtain ⟨t_10, h_t_10, h⟩ := am_bind h
        refine am_iald C0 (ltC (tgC_0_6 (tgC_5_0 ha0))) (tgC_0_6 (tgC_5_0 ha0)) (lnC_0_6 (tgC_5_0 ha0)) h_t_10 dX7_canAct_91 ?_
        refine am_if_ne C0 dX7_canAct_92 (tgt := 99) (by decide) (fun c_11 => ?_) (fun c_11 => ?_)
        · replace h := am_in h c_11
          refine am_iconst C0 dX7_canAct_99 ci_0 ?_
          have e := Option.some.inj h
          subst e
          exact hret _ _ dX7_canAct_100
        · replace h := am_ip h c_11
          refine am_iconst C0 dX7_canAct_95 ci_1 ?_
          refine am_goto C0 dX7_canAct_96 (tgt := 100) (by decide) ?_
          have e := Option.some.inj h
          subst e
          exact hret _ _ dX7_canAct_100
    replace h := am_in h c_7
    by_cases c_12 : x1 = 2
    · replace h := am_ip h c_12
      refine am_tabIn C0 dX7_canAct_14 (tgt := 101) (off := 87) (by rw [c_12]; decide) (by rw [c_12]; decide) (by rw [c_12]; first | done | rfl | decide) (by decide) ?_
      refine am_aload_n C0 dX7_canAct_101 0 rfl ?_
      refine am_getR C0 (j := a0 + 1) ff_RX7_12 (loC_5_0 ha0).1 (loC_5_0 ha0).2.1 (loC_5_0 ha0).2.2.1 (loC_5_0 ha0).2.2.2 dX7_canAct_102 ?_
      refine am_iload_n C0 dX7_canAct_105 2 rfl ?_
      refine am_callV C0 (m_C_Front_hasOfficer (σ := σ) (Nat.le_refl _) (a0 + 1) x2 (tgC_5_0 ha0) rfl) mm_yX0_hasOfficer ln_RX7_104 (As := fun b => [.int x2]) (fun _ => rfl) (fun _ => rfl) (loC_0_0 (tgC_5_0 ha0)).1 (loC_0_0 (tgC_5_0 ha0)).2.1 rfl (Nat.le_trans (by decide) hd) rfl (Nat.le_of_ble_eq_true rfl) dX7_canAct_106 ?_
      refine am_ifB_eq C0 dX7_canAct_109 (tgt := 129) (by decide) (fun c_14 => ?_) (fun c_14 => ?_)
      · replace h := am_in h c_14
        refine am_iconst C0 dX7_canAct_129 ci_0 ?_
        have e := Option.some.inj h
        subst e
        exact hret _ _ dX7_canAct_130
      · replace h := am_ip h c_14
        refine am_aload_n C0 dX7_canAct_112 0 rfl ?_
        refine am_getR C0 (j := a0 + 1) ff_RX7_12 (loC_5_0 ha0).1 (loC_5_0 ha0).2.1 (loC_5_0 ha0).2.2.1 (loC_5_0 ha0).2.2.2 dX7_canAct_113 ?_
        refine am_getR C0 (j := a0 + 1 + 6) ff_RX7_107 (loC_0_6 (tgC_5_0 ha0)).1 (loC_0_6 (tgC_5_0 ha0)).2.1 (loC_0_6 (tgC_5_0 ha0)).2.2.1 (loC_0_6 (tgC_5_0 ha0)).2.2.2 dX7_canAct_116 ?_
        refine am_iload_n C0 dX7_canAct_119 2 rfl ?_
        obtain ⟨t_15, h_t_15, h⟩ := am_bind h
        refine am_iald C0 (ltC (tgC_0_6 (tgC_5_0 ha0))) (tgC_0_6 (tgC_5_0 ha0)) (lnC_0_6 (tgC_5_0 ha0)) h_t_15 dX7_canAct_120 ?_
        refine am_iconst C0 dX7_canAct_121 ci_1 ?_
        refine am_icmp_ne C0 dX7_canAct_122 (tgt := 129) (by decide) (fun c_16 => ?_) (fun c_16 => ?_)
        · replace h := am_in h c_16
          refine am_iconst C0 dX7_canAct_129 ci_0 ?_
          have e := Option.some.inj h
          subst e
          exact hret _ _ dX7_canAct_130
        · replace h := am_ip h c_16
          refine am_iconst C0 dX7_canAct_125 ci_1 ?_
          refine am_goto C0 dX7_canAct_126 (tgt := 130) (by decide) ?_
          have e := Option.some.inj h
          subst e
          exact hret _ _ dX7_canAct_130
    replace h := am_in h c_12
    by_cases c_17 : x1 = 3
    · replace h := am_ip h c_17
      refine am_tabIn C0 dX7_canAct_14 (tgt := 131) (off := 117) (by rw [c_17]; decide) (by rw [c_17]; decide) (by rw [c_17]; first | done | rfl | decide) (by decide) ?_
      refine am_aload_n C0 dX7_canAct_131 0 rfl ?_
      refine am_getR C0 (j := a0 + 1) ff_RX7_12 (loC_5_0 ha0).1 (loC_5_0 ha0).2.1 (loC_5_0 ha0).2.2.1 (loC_5_0 ha0).2.2.2 dX7_canAct_132 ?_
      refine am_iload_n C0 dX7_canAct_135 2 rfl ?_
      refine am_callV C0 (m_C_Front_hasBatman (σ := σ) (Nat.le_refl _) (a0 + 1) x2 (tgC_5_0 ha0) rfl) mm_yX0_hasBatman ln_RX7_111 (As := fun b => [.int x2]) (fun _ => rfl) (fun _ => rfl) (loC_0_0 (tgC_5_0 ha0)).1 (loC_0_0 (tgC_5_0 ha0)).2.1 rfl (Nat.le_trans (by decide) hd) rfl (Nat.le_of_ble_eq_true rfl) dX7_canAct_136 ?_
      refine am_ifB_eq C0 dX7_canAct_139 (tgt := 158) (by decide) (fun c_19 => ?_) (fun c_19 => ?_)
      · replace h := am_in h c_19
        refine am_iconst C0 dX7_canAct_158 ci_0 ?_
        have e := Option.some.inj h
        subst e
        exact hret _ _ dX7_canAct_159
      · replace h := am_ip h c_19
        refine am_aload_n C0 dX7_canAct_142 0 rfl ?_
        refine am_getR C0 (j := a0 + 1) ff_RX7_12 (loC_5_0 ha0).1 (loC_5_0 ha0).2.1 (loC_5_0 ha0).2.2.1 (loC_5_0 ha0).2.2.2 dX7_canAct_143 ?_
        refine am_getR C0 (j := a0 + 1 + 10) ff_RX7_114 (loC_0_11 (tgC_5_0 ha0)).1 (loC_0_11 (tgC_5_0 ha0)).2.1 (loC_0_11 (tgC_5_0 ha0)).2.2.1 (loC_0_11 (tgC_5_0 ha0)).2.2.2 dX7_canAct_146 ?_
        refine am_iload_n C0 dX7_canAct_149 2 rfl ?_
        obtain ⟨t_20, h_t_20, h⟩ := am_bind h
        refine am_iald C0 (ltC (tgC_0_11 (tgC_5_0 ha0))) (tgC_0_11 (tgC_5_0 ha0)) (lnC_0_11 (tgC_5_0 ha0)) h_t_20 dX7_canAct_150 ?_
        refine am_if_le C0 dX7_canAct_151 (tgt := 158) (by decide) (fun c_21 => ?_) (fun c_21 => ?_)
        · replace h := am_in h c_21
          refine am_iconst C0 dX7_canAct_158 ci_0 ?_
          have e := Option.some.inj h
          subst e
          exact hret _ _ dX7_canAct_159
        · replace h := am_ip h c_21
          refine am_iconst C0 dX7_canAct_154 ci_1 ?_
          refine am_goto C0 dX7_canAct_155 (tgt := 159) (by decide) ?_
          have e := Option.some.inj h
          subst e
          exact hret _ _ dX7_canAct_159
    replace h := am_in h c_17
    refine am_tabOut C0 dX7_canAct_14 (tgt := 160) (am_sw_0_3 c_2 c_7 c_12 c_17) (by decide) ?_
    refine am_iconst C0 dX7_canAct_160 ci_0 ?_
    have e := Option.some.inj h
    subst e
    exact hret _ _ dX7_canAct_161
  · replace h := am_in h c_1
    refine am_iconst C0 dX7_canAct_11 ci_0 ?_
    have e := Option.some.inj h
    subst e
    exact hret _ _ dX7_canAct_12
set_option maxRecDepth 100000 in
set_option maxHeartbeats 4000000 in
theorem m_C_War_canAct {l : Launch} {d : Nat} {σ : am_SS} {q : Bool} (hd : 2 ≤ d) (a0 : Nat) (x1 : Int32) (x2 : Int32) (x3 : Int32) (ha0 : LC.1 a0 = 7) (h : C_War_canAct a0 x1 x2 x3 σ = some q) : am_Met l yX7_canAct cX7_canAct 4 (some .boolean) d 0 0 LC (fun b => [.ref (b a0), .int x1, .int x2, .int x3]) σ (some (.int (am_bI q))) σ :=
  am_metI (plainFor_of_name (by decide)) (am_bI_nr _) (lv := fun b => [(0, .ref (b a0)), (1, .int x1), (2, .int x2), (3, .int x3)]) (fun _ => rfl) (fun _ => Nat.le_of_ble_eq_true rfl) (fun G C0 _ hret => k_C_War_canAct C0 hd hret a0 x1 x2 x3 ha0 h)
set_option maxRecDepth 100000 in
set_option maxHeartbeats 4000000 in
theorem k_C_War_march {G : am_T} {d0 : Nat} (C0 : am_C G cX7_march 5 RX7 LC d0) (hd : 4 ≤ d0) (F : Nat) {q : am_SS} (hret : am_retV G cX7_march 5 q) (a0 : Nat) (a1 : Nat) (x2 : Bool) (x3 : Int32) (x4 : Int32) (σ : am_SS) (ha0 : LC.1 a0 = 7) (ha1 : LC.1 a1 = 2) (h : C_War_march F a0 a1 x2 x3 x4 σ = some q) : am_K G 5 0 [(0, .ref (am_b G a0)), (1, .ref (am_b G a1)), (2, .int (am_bI x2)), (3, .int x3), (4, .int x4)] [] σ := by
  unfold C_War_march at h
  refine am_aload_n C0 dX7_march_0 1 rfl ?_
  refine am_iload_n C0 dX7_march_1 3 rfl ?_
  refine am_callV C0 (m_C_Front_hasOfficer (σ := σ) (Nat.le_refl _) a1 x3 ha1 rfl) mm_yX0_hasOfficer ln_RX7_104 (As := fun b => [.int x3]) (fun _ => rfl) (fun _ => rfl) (loC_0_0 ha1).1 (loC_0_0 ha1).2.1 rfl (Nat.le_trans (by decide) hd) rfl (Nat.le_of_ble_eq_true rfl) dX7_march_2 ?_
  refine am_ifB_ne C0 dX7_march_5 (tgt := 9) (by decide) (fun c_2 => ?_) (fun c_2 => ?_)
  · replace h := am_ip h c_2
    refine am_aload_n C0 dX7_march_9 1 rfl ?_
    refine am_iload_n C0 dX7_march_10 3 rfl ?_
    obtain ⟨q_3, h_q_3, h⟩ := am_bind h
    refine am_callV C0 (m_C_Front_mustGiveUp (σ := σ) (Nat.le_refl _) a1 x3 ha1 h_q_3) mm_yX0_mustGiveUp ln_RX7_125 (As := fun b => [.int x3]) (fun _ => rfl) (fun _ => rfl) (loC_0_0 ha1).1 (loC_0_0 ha1).2.1 rfl (Nat.le_trans (by decide) hd) rfl (Nat.le_of_ble_eq_true rfl) dX7_march_11 ?_
    refine am_ifB_eq C0 dX7_march_14 (tgt := 48) (by decide) (fun c_4 => ?_) (fun c_4 => ?_)
    · replace h := am_in h c_4
      refine am_aload_n C0 dX7_march_48 0 rfl ?_
      refine am_aload_n C0 dX7_march_49 1 rfl ?_
      refine am_iload_n C0 dX7_march_50 3 rfl ?_
      obtain ⟨q_5, h_q_5, h⟩ := am_bind h
      refine am_callV C0 (m_C_War_hasHisNeeds (σ := σ) (Nat.le_refl _) F a0 a1 x3 ha0 ha1 h_q_5) mm_yX7_hasHisNeeds ln_RX7_137 (As := fun b => [.ref (b a1), .int x3]) (fun _ => rfl) (fun _ => rfl) (loC_5_0 ha0).1 (loC_5_0 ha0).2.1 rfl (Nat.le_trans (by decide) hd) rfl (Nat.le_of_ble_eq_true rfl) dX7_march_51 ?_
      refine am_ifB_ne C0 dX7_march_54 (tgt := 74) (by decide) (fun c_6 => ?_) (fun c_6 => ?_)
      · replace h := am_ip h c_6
        refine am_aload_n C0 dX7_march_74 1 rfl ?_
        refine am_getR C0 (j := a1 + 4) ff_RX7_128 (loC_0_4 ha1).1 (loC_0_4 ha1).2.1 (loC_0_4 ha1).2.2.1 (loC_0_4 ha1).2.2.2 dX7_march_75 ?_
        refine am_iload_n C0 dX7_march_78 3 rfl ?_
        refine am_bipush C0 dX7_march_79 kb_99 ?_
        refine am_aload_n C0 dX7_march_81 1 rfl ?_
        refine am_getR C0 (j := a1 + 4) ff_RX7_128 (loC_0_4 ha1).1 (loC_0_4 ha1).2.1 (loC_0_4 ha1).2.2.1 (loC_0_4 ha1).2.2.2 dX7_march_82 ?_
        refine am_iload_n C0 dX7_march_85 3 rfl ?_
        obtain ⟨t_7, h_t_7, h⟩ := am_bind h
        refine am_iald C0 (ltC (tgC_0_4 ha1)) (tgC_0_4 ha1) (lnC_0_4 ha1) h_t_7 dX7_march_86 ?_
        refine am_iload C0 dX7_march_87 4 rfl ?_
        refine am_iadd C0 dX7_march_89 ?_
        refine am_callS C0 (m_J_min (σ := σ) (Nat.le_refl _) 99 (t_7 + x4)  rfl) mm_yJ9_min_7cf53 ln_RX7_141 (fun _ => rfl) (Nat.le_trans (by decide) hd) rfl (Nat.le_of_ble_eq_true rfl) dX7_march_90 ?_
        obtain ⟨σ_9, h_σ_9, h⟩ := am_bind h
        refine am_iast C0 (ltC (tgC_0_4 ha1)) (tgC_0_4 ha1) (lnC_0_4 ha1) h_σ_9 dX7_march_93 ?_
        refine am_aload_n C0 dX7_march_94 0 rfl ?_
        refine am_aload_n C0 dX7_march_95 1 rfl ?_
        refine am_iload_n C0 dX7_march_96 2 rfl ?_
        refine am_iconst C0 dX7_march_97 ci_0 ?_
        refine am_iload_n C0 dX7_march_98 3 rfl ?_
        refine am_aload_n C0 dX7_march_99 1 rfl ?_
        refine am_getR C0 (j := a1 + 4) ff_RX7_128 (loC_0_4 ha1).1 (loC_0_4 ha1).2.1 (loC_0_4 ha1).2.2.1 (loC_0_4 ha1).2.2.2 dX7_march_100 ?_
        refine am_iload_n C0 dX7_march_103 3 rfl ?_
        obtain ⟨t_10, h_t_10, h⟩ := am_bind h
        refine am_iald C0 (ltC (tgC_0_4 ha1)) (tgC_0_4 ha1) (lnC_0_4 ha1) h_t_10 dX7_march_104 ?_
        obtain ⟨q_11, h_q_11, h⟩ := am_bind h
        refine am_callV C0 (m_C_War_write (σ := σ_9) (Nat.le_refl _) F a0 a1 x2 0 x3 t_10 ha0 ha1 h_q_11) mm_yX7_write ln_RX7_131 (As := fun b => [.ref (b a1), .int (am_bI x2), .int 0, .int x3, .int t_10]) (fun _ => rfl) (fun _ => rfl) (loC_5_0 ha0).1 (loC_5_0 ha0).2.1 rfl (Nat.le_trans (by decide) hd) rfl (Nat.le_of_ble_eq_true rfl) dX7_march_105 ?_
        have e := Option.some.inj h
        subst e
        exact hret _ _ dX7_march_108
      · replace h := am_in h c_6
        refine am_aload_n C0 dX7_march_57 0 rfl ?_
        refine am_aload_n C0 dX7_march_58 1 rfl ?_
        refine am_iload_n C0 dX7_march_59 2 rfl ?_
        refine am_iconst C0 dX7_march_60 ci_2 ?_
        refine am_iload_n C0 dX7_march_61 3 rfl ?_
        refine am_aload_n C0 dX7_march_62 1 rfl ?_
        refine am_getR C0 (j := a1 + 4) ff_RX7_128 (loC_0_4 ha1).1 (loC_0_4 ha1).2.1 (loC_0_4 ha1).2.2.1 (loC_0_4 ha1).2.2.2 dX7_march_63 ?_
        refine am_iload_n C0 dX7_march_66 3 rfl ?_
        obtain ⟨t_12, h_t_12, h⟩ := am_bind h
        refine am_iald C0 (ltC (tgC_0_4 ha1)) (tgC_0_4 ha1) (lnC_0_4 ha1) h_t_12 dX7_march_67 ?_
        obtain ⟨q_13, h_q_13, h⟩ := am_bind h
        refine am_callV C0 (m_C_War_write (σ := σ) (Nat.le_refl _) F a0 a1 x2 2 x3 t_12 ha0 ha1 h_q_13) mm_yX7_write ln_RX7_131 (As := fun b => [.ref (b a1), .int (am_bI x2), .int 2, .int x3, .int t_12]) (fun _ => rfl) (fun _ => rfl) (loC_5_0 ha0).1 (loC_5_0 ha0).2.1 rfl (Nat.le_trans (by decide) hd) rfl (Nat.le_of_ble_eq_true rfl) dX7_march_68 ?_
        refine am_goto C0 dX7_march_71 (tgt := 108) (by decide) ?_
        have e := Option.some.inj h
        subst e
        exact hret _ _ dX7_march_108
    · replace h := am_ip h c_4
      refine am_aload_n C0 dX7_march_17 0 rfl ?_
      refine am_aload_n C0 dX7_march_18 1 rfl ?_
      refine am_iload_n C0 dX7_march_19 2 rfl ?_
      refine am_iconst C0 dX7_march_20 ci_1 ?_
      refine am_iload_n C0 dX7_march_21 3 rfl ?_
      refine am_aload_n C0 dX7_march_22 1 rfl ?_
      refine am_getR C0 (j := a1 + 4) ff_RX7_128 (loC_0_4 ha1).1 (loC_0_4 ha1).2.1 (loC_0_4 ha1).2.2.1 (loC_0_4 ha1).2.2.2 dX7_march_23 ?_
      refine am_iload_n C0 dX7_march_26 3 rfl ?_
      obtain ⟨t_14, h_t_14, h⟩ := am_bind h
      refine am_iald C0 (ltC (tgC_0_4 ha1)) (tgC_0_4 ha1) (lnC_0_4 ha1) h_t_14 dX7_march_27 ?_
      obtain ⟨q_15, h_q_15, h⟩ := am_bind h
      refine am_callV C0 (m_C_War_write (σ := σ) (Nat.le_refl _) F a0 a1 x2 1 x3 t_14 ha0 ha1 h_q_15) mm_yX7_write ln_RX7_131 (As := fun b => [.ref (b a1), .int (am_bI x2), .int 1, .int x3, .int t_14]) (fun _ => rfl) (fun _ => rfl) (loC_5_0 ha0).1 (loC_5_0 ha0).2.1 rfl (Nat.le_trans (by decide) hd) rfl (Nat.le_of_ble_eq_true rfl) dX7_march_28 ?_
      refine am_aload_n C0 dX7_march_31 1 rfl ?_
      refine am_getR C0 (j := a1 + 4) ff_RX7_128 (loC_0_4 ha1).1 (loC_0_4 ha1).2.1 (loC_0_4 ha1).2.2.1 (loC_0_4 ha1).2.2.2 dX7_march_32 ?_
      refine am_iload_n C0 dX7_march_35 3 rfl ?_
      refine am_iconst C0 dX7_march_36 ci_0 ?_
      obtain ⟨σ_16, h_σ_16, h⟩ := am_bind h
      refine am_iast C0 (ltC (tgC_0_4 ha1)) (tgC_0_4 ha1) (lnC_0_4 ha1) h_σ_16 dX7_march_37 ?_
      refine am_aload_n C0 dX7_march_38 1 rfl ?_
      refine am_getR C0 (j := a1 + 5) ff_RX7_134 (loC_0_5 ha1).1 (loC_0_5 ha1).2.1 (loC_0_5 ha1).2.2.1 (loC_0_5 ha1).2.2.2 dX7_march_39 ?_
      refine am_iload_n C0 dX7_march_42 3 rfl ?_
      refine am_iconst C0 dX7_march_43 ci_0 ?_
      obtain ⟨σ_17, h_σ_17, h⟩ := am_bind h
      refine am_iast C0 (ltC (tgC_0_5 ha1)) (tgC_0_5 ha1) (lnC_0_5 ha1) h_σ_17 dX7_march_44 ?_
      refine am_goto C0 dX7_march_45 (tgt := 108) (by decide) ?_
      have e := Option.some.inj h
      subst e
      exact hret _ _ dX7_march_108
  · replace h := am_in h c_2
    have e := Option.some.inj h
    subst e
    exact hret _ _ dX7_march_8
set_option maxRecDepth 100000 in
set_option maxHeartbeats 4000000 in
theorem m_C_War_march {l : Launch} {d : Nat} {σ : am_SS} {q : am_SS} (hd : 4 ≤ d) (F : Nat) (a0 : Nat) (a1 : Nat) (x2 : Bool) (x3 : Int32) (x4 : Int32) (ha0 : LC.1 a0 = 7) (ha1 : LC.1 a1 = 2) (h : C_War_march F a0 a1 x2 x3 x4 σ = some q) : am_Met l yX7_march cX7_march 5 none d 0 0 LC (fun b => [.ref (b a0), .ref (b a1), .int (am_bI x2), .int x3, .int x4]) σ none q :=
  am_metV (plainFor_of_name (by decide)) (lv := fun b => [(0, .ref (b a0)), (1, .ref (b a1)), (2, .int (am_bI x2)), (3, .int x3), (4, .int x4)]) (fun _ => rfl) (fun _ => Nat.le_of_ble_eq_true rfl) (fun G C0 _ hret => k_C_War_march C0 hd F hret a0 a1 x2 x3 x4 σ ha0 ha1 h)
set_option maxRecDepth 100000 in
set_option maxHeartbeats 4000000 in
theorem k_C_War_obey_p83 {G : am_T} {d0 : Nat} (C0 : am_C G cX7_obey 6 RX7 LC d0) (hd : 5 ≤ d0) (F : Nat) {q : am_SS} (hret : am_retV G cX7_obey 6 q) (t0 : Nat) (s1 : Int32) (s2 : Bool) (σ : am_SS) (ht0 : LC.1 t0 = 0) (h : C_War_obey_p83 F t0 s1 s2 σ = some q) : am_K G 6 83 [] [.int (am_bI s2), .int s1, .ref (am_b G t0)] σ := by
  unfold C_War_obey_p83 at h
  obtain ⟨σ_1, h_σ_1, h⟩ := am_bind h
  refine am_iast C0 (ltC ht0) ht0 rfl h_σ_1 dX7_obey_83 ?_
  have e := Option.some.inj h
  subst e
  exact hret _ _ dX7_obey_84
set_option maxRecDepth 100000 in
set_option maxHeartbeats 4000000 in
theorem k_C_War_obey_p66 {G : am_T} {d0 : Nat} (C0 : am_C G cX7_obey 6 RX7 LC d0) (hd : 5 ≤ d0) (F : Nat) {q : am_SS} (hret : am_retV G cX7_obey 6 q) (a1 : Nat) (x3 : Int32) (x4 : Int32) (σ : am_SS) (ha1 : LC.1 a1 = 2) (h : C_War_obey_p66 F a1 x3 x4 σ = some q) : am_K G 6 66 [(1, .ref (am_b G a1)), (3, .int x3), (4, .int x4)] [] σ := by
  unfold C_War_obey_p66 at h
  refine am_aload_n C0 dX7_obey_66 0 rfl ?_
  refine am_getR C0 (j := a1 + 6) ff_RX7_107 (loC_0_6 ha1).1 (loC_0_6 ha1).2.1 (loC_0_6 ha1).2.2.1 (loC_0_6 ha1).2.2.2 dX7_obey_67 ?_
  refine am_iload C0 dX7_obey_70 2 rfl ?_
  refine am_iload_n C0 dX7_obey_72 1 rfl ?_
  refine am_bipush C0 dX7_obey_73 kb_10 ?_
  refine am_icmp_ne C0 dX7_obey_75 (tgt := 82) (by decide) (fun c_1 => ?_) (fun c_1 => ?_)
  · replace h := am_in h c_1
    refine am_iconst C0 dX7_obey_82 ci_0 ?_
    exact am_sub [] rfl (k_C_War_obey_p83 C0 hd F hret (a1 + 6) x4 false σ (tgC_0_6 ha1) h)
  · replace h := am_ip h c_1
    refine am_iconst C0 dX7_obey_78 ci_1 ?_
    refine am_goto C0 dX7_obey_79 (tgt := 83) (by decide) ?_
    exact am_sub [] rfl (k_C_War_obey_p83 C0 hd F hret (a1 + 6) x4 true σ (tgC_0_6 ha1) h)
set_option maxRecDepth 100000 in
set_option maxHeartbeats 4000000 in
theorem k_C_War_obey {G : am_T} {d0 : Nat} (C0 : am_C G cX7_obey 6 RX7 LC d0) (hd : 5 ≤ d0) (F : Nat) {q : am_SS} (hret : am_retV G cX7_obey 6 q) (a0 : Nat) (a1 : Nat) (x2 : Bool) (x3 : Int32) (x4 : Int32) (x5 : Int32) (σ : am_SS) (ha0 : LC.1 a0 = 7) (ha1 : LC.1 a1 = 2) (h : C_War_obey F a0 a1 x2 x3 x4 x5 σ = some q) : am_K G 6 0 [(0, .ref (am_b G a0)), (1, .ref (am_b G a1)), (2, .int (am_bI x2)), (3, .int x3), (4, .int x4), (5, .int x5)] [] σ := by
  unfold C_War_obey at h
  refine am_iload_n C0 dX7_obey_0 3 rfl ?_
  refine am_bipush C0 dX7_obey_1 kb_20 ?_
  refine am_icmp_ne C0 dX7_obey_3 (tgt := 26) (by decide) (fun c_1 => ?_) (fun c_1 => ?_)
  · replace h := am_in h c_1
    refine am_aload_n C0 dX7_obey_26 1 rfl ?_
    refine am_iload C0 dX7_obey_27 4 rfl ?_
    refine am_callV C0 (m_C_Front_hasOfficer (σ := σ) (Nat.le_refl _) a1 x4 ha1 rfl) mm_yX0_hasOfficer ln_RX7_104 (As := fun b => [.int x4]) (fun _ => rfl) (fun _ => rfl) (loC_0_0 ha1).1 (loC_0_0 ha1).2.1 rfl (Nat.le_trans (by decide) hd) rfl (Nat.le_of_ble_eq_true rfl) dX7_obey_29 ?_
    refine am_ifB_eq C0 dX7_obey_32 (tgt := 84) (by decide) (fun c_3 => ?_) (fun c_3 => ?_)
    · replace h := am_in h c_3
      have e := Option.some.inj h
      subst e
      exact hret _ _ dX7_obey_84
    · replace h := am_ip h c_3
      refine am_iload_n C0 dX7_obey_35 3 rfl ?_
      refine am_bipush C0 dX7_obey_36 kb_18 ?_
      refine am_icmp_ne C0 dX7_obey_38 (tgt := 54) (by decide) (fun c_4 => ?_) (fun c_4 => ?_)
      · replace h := am_in h c_4
        refine am_iload_n C0 dX7_obey_54 3 rfl ?_
        refine am_bipush C0 dX7_obey_55 kb_10 ?_
        refine am_icmp_eq C0 dX7_obey_57 (tgt := 66) (by decide) (fun c_5 => ?_) (fun c_5 => ?_)
        · replace h := am_ip h c_5
          exact am_sub [1, 3, 4] rfl (k_C_War_obey_p66 C0 hd F hret a1 x3 x4 σ ha1 h)
        · replace h := am_in h c_5
          refine am_iload_n C0 dX7_obey_60 3 rfl ?_
          refine am_bipush C0 dX7_obey_61 kb_19 ?_
          refine am_icmp_ne C0 dX7_obey_63 (tgt := 84) (by decide) (fun c_6 => ?_) (fun c_6 => ?_)
          · replace h := am_in h c_6
            have e := Option.some.inj h
            subst e
            exact hret _ _ dX7_obey_84
          · replace h := am_ip h c_6
            exact am_sub [1, 3, 4] rfl (k_C_War_obey_p66 C0 hd F hret a1 x3 x4 σ ha1 h)
      · replace h := am_ip h c_4
        refine am_aload_n C0 dX7_obey_41 0 rfl ?_
        refine am_aload_n C0 dX7_obey_42 1 rfl ?_
        refine am_iload_n C0 dX7_obey_43 2 rfl ?_
        refine am_iload C0 dX7_obey_44 4 rfl ?_
        refine am_iload C0 dX7_obey_46 5 rfl ?_
        obtain ⟨q_7, h_q_7, h⟩ := am_bind h
        refine am_callV C0 (m_C_War_march (σ := σ) (Nat.le_refl _) F a0 a1 x2 x4 x5 ha0 ha1 h_q_7) mm_yX7_march ln_RX7_121 (As := fun b => [.ref (b a1), .int (am_bI x2), .int x4, .int x5]) (fun _ => rfl) (fun _ => rfl) (loC_5_0 ha0).1 (loC_5_0 ha0).2.1 rfl (Nat.le_trans (by decide) hd) rfl (Nat.le_of_ble_eq_true rfl) dX7_obey_48 ?_
        refine am_goto C0 dX7_obey_51 (tgt := 84) (by decide) ?_
        have e := Option.some.inj h
        subst e
        exact hret _ _ dX7_obey_84
  · replace h := am_ip h c_1
    refine am_aload_n C0 dX7_obey_6 1 rfl ?_
    refine am_iload C0 dX7_obey_7 4 rfl ?_
    refine am_callV C0 (m_C_Front_hasBatman (σ := σ) (Nat.le_refl _) a1 x4 ha1 rfl) mm_yX0_hasBatman ln_RX7_111 (As := fun b => [.int x4]) (fun _ => rfl) (fun _ => rfl) (loC_0_0 ha1).1 (loC_0_0 ha1).2.1 rfl (Nat.le_trans (by decide) hd) rfl (Nat.le_of_ble_eq_true rfl) dX7_obey_9 ?_
    refine am_ifB_eq C0 dX7_obey_12 (tgt := 84) (by decide) (fun c_9 => ?_) (fun c_9 => ?_)
    · replace h := am_in h c_9
      have e := Option.some.inj h
      subst e
      exact hret _ _ dX7_obey_84
    · replace h := am_ip h c_9
      refine am_aload_n C0 dX7_obey_15 1 rfl ?_
      refine am_getR C0 (j := a1 + 10) ff_RX7_114 (loC_0_11 ha1).1 (loC_0_11 ha1).2.1 (loC_0_11 ha1).2.2.1 (loC_0_11 ha1).2.2.2 dX7_obey_16 ?_
      refine am_iload C0 dX7_obey_19 4 rfl ?_
      refine am_iconst C0 dX7_obey_21 ci_0 ?_
      obtain ⟨σ_10, h_σ_10, h⟩ := am_bind h
      refine am_iast C0 (ltC (tgC_0_11 ha1)) (tgC_0_11 ha1) (lnC_0_11 ha1) h_σ_10 dX7_obey_22 ?_
      refine am_goto C0 dX7_obey_23 (tgt := 84) (by decide) ?_
      have e := Option.some.inj h
      subst e
      exact hret _ _ dX7_obey_84
set_option maxRecDepth 100000 in
set_option maxHeartbeats 4000000 in
theorem m_C_War_obey {l : Launch} {d : Nat} {σ : am_SS} {q : am_SS} (hd : 5 ≤ d) (F : Nat) (a0 : Nat) (a1 : Nat) (x2 : Bool) (x3 : Int32) (x4 : Int32) (x5 : Int32) (ha0 : LC.1 a0 = 7) (ha1 : LC.1 a1 = 2) (h : C_War_obey F a0 a1 x2 x3 x4 x5 σ = some q) : am_Met l yX7_obey cX7_obey 6 none d 0 0 LC (fun b => [.ref (b a0), .ref (b a1), .int (am_bI x2), .int x3, .int x4, .int x5]) σ none q :=
  am_metV (plainFor_of_name (by decide)) (lv := fun b => [(0, .ref (b a0)), (1, .ref (b a1)), (2, .int (am_bI x2)), (3, .int x3), (4, .int x4), (5, .int x5)]) (fun _ => rfl) (fun _ => Nat.le_of_ble_eq_true rfl) (fun G C0 _ hret => k_C_War_obey C0 hd F hret a0 a1 x2 x3 x4 x5 σ ha0 ha1 h)
set_option maxRecDepth 100000 in
set_option maxHeartbeats 4000000 in
theorem k_C_War_perform_p31 {G : am_T} {d0 : Nat} (C0 : am_C G cX7_perform 5 RX7 LC d0) (hd : 6 ≤ d0) (F : Nat) {q : am_SS} (hret : am_retV G cX7_perform 5 q) (a0 : Nat) (x2 : Int32) (x3 : Int32) (s0 : Int32) (σ : am_SS) (ha0 : LC.1 a0 = 7) (h : C_War_perform_p31 F a0 x2 x3 s0 σ = some q) : am_K G 5 31 [(0, .ref (am_b G a0)), (2, .int x2), (3, .int x3)] [.int s0] σ := by
  unfold C_War_perform_p31 at h
  refine am_istore C0 dX7_perform_31 (by decide) rfl (lv' := [(0, .ref (am_b G a0)), (2, .int x2), (3, .int x3), (4, .int s0)]) rfl ?_
  refine am_aload_n C0 dX7_perform_33 0 rfl ?_
  refine am_aload_n C0 dX7_perform_34 0 rfl ?_
  refine am_getR C0 (j := a0 + 1) ff_RX7_12 (loC_5_0 ha0).1 (loC_5_0 ha0).2.1 (loC_5_0 ha0).2.2.1 (loC_5_0 ha0).2.2.2 dX7_perform_35 ?_
  refine am_iconst C0 dX7_perform_38 ci_0 ?_
  refine am_iload C0 dX7_perform_39 3 rfl ?_
  refine am_iload_n C0 dX7_perform_41 1 rfl ?_
  refine am_iload_n C0 dX7_perform_42 2 rfl ?_
  obtain ⟨q_1, h_q_1, h⟩ := am_bind h
  refine am_callV C0 (m_C_War_obey (σ := σ) (Nat.le_refl _) F a0 (a0 + 1) false s0 x2 x3 ha0 (tgC_5_0 ha0) h_q_1) mm_yX7_obey ln_RX7_117 (As := fun b => [.ref (b (a0 + 1)), .int (am_bI false), .int s0, .int x2, .int x3]) (fun _ => rfl) (fun _ => rfl) (loC_5_0 ha0).1 (loC_5_0 ha0).2.1 rfl (Nat.le_trans (by decide) hd) rfl (Nat.le_of_ble_eq_true rfl) dX7_perform_43 ?_
  have e := Option.some.inj h
  subst e
  exact hret _ _ dX7_perform_46
set_option maxRecDepth 100000 in
set_option maxHeartbeats 4000000 in
theorem k_C_War_perform {G : am_T} {d0 : Nat} (C0 : am_C G cX7_perform 5 RX7 LC d0) (hd : 6 ≤ d0) (F : Nat) {q : am_SS} (hret : am_retV G cX7_perform 5 q) (a0 : Nat) (x1 : Int32) (x2 : Int32) (x3 : Int32) (σ : am_SS) (ha0 : LC.1 a0 = 7) (h : C_War_perform F a0 x1 x2 x3 σ = some q) : am_K G 5 0 [(0, .ref (am_b G a0)), (1, .int x1), (2, .int x2), (3, .int x3)] [] σ := by
  unfold C_War_perform at h
  refine am_iload_n C0 dX7_perform_0 1 rfl ?_
  refine am_if_ne C0 dX7_perform_1 (tgt := 9) (by decide) (fun c_1 => ?_) (fun c_1 => ?_)
  · replace h := am_in h c_1
    refine am_iload_n C0 dX7_perform_9 1 rfl ?_
    refine am_iconst C0 dX7_perform_10 ci_1 ?_
    refine am_icmp_ne C0 dX7_perform_11 (tgt := 19) (by decide) (fun c_2 => ?_) (fun c_2 => ?_)
    · replace h := am_in h c_2
      refine am_iload_n C0 dX7_perform_19 1 rfl ?_
      refine am_iconst C0 dX7_perform_20 ci_2 ?_
      refine am_icmp_ne C0 dX7_perform_21 (tgt := 29) (by decide) (fun c_3 => ?_) (fun c_3 => ?_)
      · replace h := am_in h c_3
        refine am_bipush C0 dX7_perform_29 kb_20 ?_
        exact am_sub [0, 2, 3] rfl (k_C_War_perform_p31 C0 hd F hret a0 x2 x3 20 σ ha0 h)
      · replace h := am_ip h c_3
        refine am_bipush C0 dX7_perform_24 kb_19 ?_
        refine am_goto C0 dX7_perform_26 (tgt := 31) (by decide) ?_
        exact am_sub [0, 2, 3] rfl (k_C_War_perform_p31 C0 hd F hret a0 x2 x3 19 σ ha0 h)
    · replace h := am_ip h c_2
      refine am_bipush C0 dX7_perform_14 kb_10 ?_
      refine am_goto C0 dX7_perform_16 (tgt := 31) (by decide) ?_
      exact am_sub [0, 2, 3] rfl (k_C_War_perform_p31 C0 hd F hret a0 x2 x3 10 σ ha0 h)
  · replace h := am_ip h c_1
    refine am_bipush C0 dX7_perform_4 kb_18 ?_
    refine am_goto C0 dX7_perform_6 (tgt := 31) (by decide) ?_
    exact am_sub [0, 2, 3] rfl (k_C_War_perform_p31 C0 hd F hret a0 x2 x3 18 σ ha0 h)
set_option maxRecDepth 100000 in
set_option maxHeartbeats 4000000 in
theorem m_C_War_perform {l : Launch} {d : Nat} {σ : am_SS} {q : am_SS} (hd : 6 ≤ d) (F : Nat) (a0 : Nat) (x1 : Int32) (x2 : Int32) (x3 : Int32) (ha0 : LC.1 a0 = 7) (h : C_War_perform F a0 x1 x2 x3 σ = some q) : am_Met l yX7_perform cX7_perform 5 none d 0 0 LC (fun b => [.ref (b a0), .int x1, .int x2, .int x3]) σ none q :=
  am_metV (plainFor_of_name (by decide)) (lv := fun b => [(0, .ref (b a0)), (1, .int x1), (2, .int x2), (3, .int x3)]) (fun _ => rfl) (fun _ => Nat.le_of_ble_eq_true rfl) (fun G C0 _ hret => k_C_War_perform C0 hd F hret a0 x1 x2 x3 σ ha0 h)
set_option maxRecDepth 100000 in
set_option maxHeartbeats 4000000 in
theorem k_C_War_follow_p91 {G : am_T} {d0 : Nat} (C0 : am_C G cX7_follow 6 RX7 LC d0) (hd : 6 ≤ d0) (rec5 : Nat → Nat → Bool → Bool → Int32 → am_SS → Option (Bool × am_SS)) (F : Nat) {q : Bool × am_SS} (hret : am_retI G cX7_follow 6 (am_bI q.1) q.2) (hrec5 : ∀ (a0 : Nat) (a1 : Nat) (x2 : Bool) (x3 : Bool) (x4 : Int32) (σ : am_SS), LC.1 a0 = 7 → LC.1 a1 = 2 → rec5 a0 a1 x2 x3 x4 σ = some q → am_K G 6 5 [(0, .ref (am_b G a0)), (1, .ref (am_b G a1)), (2, .int (am_bI x2)), (3, .int (am_bI x3)), (4, .int x4)] [] σ) (a0 : Nat) (a1 : Nat) (x2 : Bool) (x3 : Bool) (x4 : Int32) (σ : am_SS) (ha0 : LC.1 a0 = 7) (ha1 : LC.1 a1 = 2) (h : C_War_follow_p91 rec5 F a0 a1 x2 x3 x4 σ = some q) : am_K G 6 91 [(0, .ref (am_b G a0)), (1, .ref (am_b G a1)), (2, .int (am_bI x2)), (3, .int (am_bI x3)), (4, .int x4)] [] σ := by
  unfold C_War_follow_p91 at h
  obtain ⟨x4_1, e_x4_1, h⟩ := am_lt h
  refine am_iinc C0 dX7_follow_91 4 rfl (by rw [ci_1]; exact e_x4_1) (by decide) rfl (lv' := [(0, .ref (am_b G a0)), (1, .ref (am_b G a1)), (2, .int (am_bI x2)), (3, .int (am_bI x3)), (4, .int x4_1)]) rfl ?_
  refine am_goto C0 dX7_follow_94 (tgt := 5) (by decide) ?_
  exact am_sub [0, 1, 2, 3, 4] rfl (hrec5 a0 a1 x2 x3 x4_1 σ ha0 ha1 h)
set_option maxRecDepth 100000 in
set_option maxHeartbeats 4000000 in
theorem k_C_War_follow_p62 {G : am_T} {d0 : Nat} (C0 : am_C G cX7_follow 6 RX7 LC d0) (hd : 6 ≤ d0) (rec5 : Nat → Nat → Bool → Bool → Int32 → am_SS → Option (Bool × am_SS)) (F : Nat) {q : Bool × am_SS} (hret : am_retI G cX7_follow 6 (am_bI q.1) q.2) (hrec5 : ∀ (a0 : Nat) (a1 : Nat) (x2 : Bool) (x3 : Bool) (x4 : Int32) (σ : am_SS), LC.1 a0 = 7 → LC.1 a1 = 2 → rec5 a0 a1 x2 x3 x4 σ = some q → am_K G 6 5 [(0, .ref (am_b G a0)), (1, .ref (am_b G a1)), (2, .int (am_bI x2)), (3, .int (am_bI x3)), (4, .int x4)] [] σ) (a0 : Nat) (a1 : Nat) (x2 : Bool) (x4 : Int32) (x5 : Int32) (s0 : Bool) (σ : am_SS) (ha0 : LC.1 a0 = 7) (ha1 : LC.1 a1 = 2) (h : C_War_follow_p62 rec5 F a0 a1 x2 x4 x5 s0 σ = some q) : am_K G 6 62 [(0, .ref (am_b G a0)), (1, .ref (am_b G a1)), (2, .int (am_bI x2)), (4, .int x4), (5, .int x5)] [.int (am_bI s0)] σ := by
  unfold C_War_follow_p62 at h
  refine am_istore_n C0 dX7_follow_62 rfl (by decide) rfl (lv' := [(0, .ref (am_b G a0)), (1, .ref (am_b G a1)), (2, .int (am_bI x2)), (4, .int x4), (5, .int x5), (3, .int (am_bI s0))]) rfl ?_
  refine am_aload_n C0 dX7_follow_63 0 rfl ?_
  refine am_aload_n C0 dX7_follow_64 1 rfl ?_
  refine am_iload_n C0 dX7_follow_65 2 rfl ?_
  refine am_iload C0 dX7_follow_66 4 rfl ?_
  refine am_aload_n C0 dX7_follow_68 0 rfl ?_
  refine am_getR C0 (j := a0 + 20) ff_RX7_34 (loC_5_3 ha0).1 (loC_5_3 ha0).2.1 (loC_5_3 ha0).2.2.1 (loC_5_3 ha0).2.2.2 dX7_follow_69 ?_
  refine am_iload C0 dX7_follow_72 3 rfl ?_
  refine am_iconst C0 dX7_follow_74 ci_2 ?_
  obtain ⟨q_1, h_q_1, h⟩ := am_bind h
  refine am_callV C0 (m_C_Table_at (σ := σ) (Nat.le_refl _) (a0 + 20) x4 2 (tgC_5_3 ha0) h_q_1) mm_yX6_at ln_RX7_75 (As := fun b => [.int x4, .int 2]) (fun _ => rfl) (fun _ => rfl) (loC_4_0 (tgC_5_3 ha0)).1 (loC_4_0 (tgC_5_3 ha0)).2.1 rfl (Nat.le_trans (by decide) hd) rfl (Nat.le_of_ble_eq_true rfl) dX7_follow_75 ?_
  refine am_aload_n C0 dX7_follow_78 0 rfl ?_
  refine am_getR C0 (j := a0 + 20) ff_RX7_34 (loC_5_3 ha0).1 (loC_5_3 ha0).2.1 (loC_5_3 ha0).2.2.1 (loC_5_3 ha0).2.2.2 dX7_follow_79 ?_
  refine am_iload C0 dX7_follow_82 3 rfl ?_
  refine am_iconst C0 dX7_follow_84 ci_3 ?_
  obtain ⟨q_2, h_q_2, h⟩ := am_bind h
  refine am_callV C0 (m_C_Table_at (σ := σ) (Nat.le_refl _) (a0 + 20) x4 3 (tgC_5_3 ha0) h_q_2) mm_yX6_at ln_RX7_75 (As := fun b => [.int x4, .int 3]) (fun _ => rfl) (fun _ => rfl) (loC_4_0 (tgC_5_3 ha0)).1 (loC_4_0 (tgC_5_3 ha0)).2.1 rfl (Nat.le_trans (by decide) hd) rfl (Nat.le_of_ble_eq_true rfl) dX7_follow_85 ?_
  obtain ⟨q_3, h_q_3, h⟩ := am_bind h
  refine am_callV C0 (m_C_War_obey (σ := σ) (Nat.le_refl _) F a0 a1 x2 x5 q_1 q_2 ha0 ha1 h_q_3) mm_yX7_obey ln_RX7_117 (As := fun b => [.ref (b a1), .int (am_bI x2), .int x5, .int q_1, .int q_2]) (fun _ => rfl) (fun _ => rfl) (loC_5_0 ha0).1 (loC_5_0 ha0).2.1 rfl (Nat.le_trans (by decide) hd) rfl (Nat.le_of_ble_eq_true rfl) dX7_follow_88 ?_
  exact am_sub [0, 1, 2, 5, 3] rfl (k_C_War_follow_p91 C0 hd rec5 F hret hrec5 a0 a1 x2 s0 x4 q_3 ha0 ha1 h)
set_option maxRecDepth 100000 in
set_option maxHeartbeats 4000000 in
theorem k_C_War_follow_p57 {G : am_T} {d0 : Nat} (C0 : am_C G cX7_follow 6 RX7 LC d0) (hd : 6 ≤ d0) (rec5 : Nat → Nat → Bool → Bool → Int32 → am_SS → Option (Bool × am_SS)) (F : Nat) {q : Bool × am_SS} (hret : am_retI G cX7_follow 6 (am_bI q.1) q.2) (hrec5 : ∀ (a0 : Nat) (a1 : Nat) (x2 : Bool) (x3 : Bool) (x4 : Int32) (σ : am_SS), LC.1 a0 = 7 → LC.1 a1 = 2 → rec5 a0 a1 x2 x3 x4 σ = some q → am_K G 6 5 [(0, .ref (am_b G a0)), (1, .ref (am_b G a1)), (2, .int (am_bI x2)), (3, .int (am_bI x3)), (4, .int x4)] [] σ) (a0 : Nat) (a1 : Nat) (x2 : Bool) (x4 : Int32) (x5 : Int32) (σ : am_SS) (ha0 : LC.1 a0 = 7) (ha1 : LC.1 a1 = 2) (h : C_War_follow_p57 rec5 F a0 a1 x2 x4 x5 σ = some q) : am_K G 6 57 [(0, .ref (am_b G a0)), (1, .ref (am_b G a1)), (2, .int (am_bI x2)), (4, .int x4), (5, .int x5)] [] σ := by
  unfold C_War_follow_p57 at h
  refine am_iconst C0 dX7_follow_57 ci_1 ?_
  refine am_goto C0 dX7_follow_58 (tgt := 62) (by decide) ?_
  exact am_sub [0, 1, 2, 3, 4] rfl (k_C_War_follow_p62 C0 hd rec5 F hret hrec5 a0 a1 x2 x4 x5 true σ ha0 ha1 h)
set_option maxRecDepth 100000 in
set_option maxHeartbeats 4000000 in
theorem k_C_War_follow_l5 {G : am_T} {d0 : Nat} (C0 : am_C G cX7_follow 6 RX7 LC d0) (hd : 6 ≤ d0) (F : Nat) {q : Bool × am_SS} (hret : am_retI G cX7_follow 6 (am_bI q.1) q.2) : ∀ (n : Nat) (a0 : Nat) (a1 : Nat) (x2 : Bool) (x3 : Bool) (x4 : Int32) (σ : am_SS) (ha0 : LC.1 a0 = 7) (ha1 : LC.1 a1 = 2) (h : C_War_follow_l5 F n a0 a1 x2 x3 x4 σ = some q), am_K G 6 5 [(0, .ref (am_b G a0)), (1, .ref (am_b G a1)), (2, .int (am_bI x2)), (3, .int (am_bI x3)), (4, .int x4)] [] σ := by
  intro n
  induction n with
  | zero =>
    intro a0 a1 x2 x3 x4 σ ha0 ha1 h
    rw [C_War_follow_l5] at h
    cases h
  | succ n ih =>
    intro a0 a1 x2 x3 x4 σ ha0 ha1 h
    rw [C_War_follow_l5] at h
    refine am_iload C0 dX7_follow_5 4 rfl ?_
    refine am_aload_n C0 dX7_follow_7 0 rfl ?_
    refine am_getR C0 (j := a0 + 20) ff_RX7_34 (loC_5_3 ha0).1 (loC_5_3 ha0).2.1 (loC_5_3 ha0).2.2.1 (loC_5_3 ha0).2.2.2 dX7_follow_8 ?_
    refine am_getI C0 ff_RX7_71 (loC_4_2 (tgC_5_3 ha0)).1 (loC_4_2 (tgC_5_3 ha0)).2.1 (loC_4_2 (tgC_5_3 ha0)).2.2.1 (loC_4_2 (tgC_5_3 ha0)).2.2.2 dX7_follow_11 ?_
    refine am_icmp_ge C0 dX7_follow_14 (tgt := 97) (by decide) (fun c_1 => ?_) (fun c_1 => ?_)
    · replace h := am_in h c_1
      refine am_iload_n C0 dX7_follow_97 3 rfl ?_
      have e := Option.some.inj h
      subst e
      exact hret _ _ dX7_follow_98
    · replace h := am_ip h c_1
      refine am_aload_n C0 dX7_follow_17 0 rfl ?_
      refine am_getR C0 (j := a0 + 20) ff_RX7_34 (loC_5_3 ha0).1 (loC_5_3 ha0).2.1 (loC_5_3 ha0).2.2.1 (loC_5_3 ha0).2.2.2 dX7_follow_18 ?_
      refine am_iload C0 dX7_follow_21 4 rfl ?_
      refine am_iconst C0 dX7_follow_23 ci_0 ?_
      obtain ⟨q_2, h_q_2, h⟩ := am_bind h
      refine am_callV C0 (m_C_Table_at (σ := σ) (Nat.le_refl _) (a0 + 20) x4 0 (tgC_5_3 ha0) h_q_2) mm_yX6_at ln_RX7_75 (As := fun b => [.int x4, .int 0]) (fun _ => rfl) (fun _ => rfl) (loC_4_0 (tgC_5_3 ha0)).1 (loC_4_0 (tgC_5_3 ha0)).2.1 rfl (Nat.le_trans (by decide) hd) rfl (Nat.le_of_ble_eq_true rfl) dX7_follow_24 ?_
      refine am_aload_n C0 dX7_follow_27 1 rfl ?_
      refine am_getI C0 ff_RX7_94 (loC_0_14 ha1).1 (loC_0_14 ha1).2.1 (loC_0_14 ha1).2.2.1 (loC_0_14 ha1).2.2.2 dX7_follow_28 ?_
      refine am_icmp_ne C0 dX7_follow_31 (tgt := 91) (by decide) (fun c_3 => ?_) (fun c_3 => ?_)
      · replace h := am_in h c_3
        exact am_sub [0, 1, 2, 3, 4] rfl (k_C_War_follow_p91 C0 hd _ F hret (fun z0 z1 z2 z3 z4 zs zh0 zh1 z => ih z0 z1 z2 z3 z4 zs zh0 zh1 z) a0 a1 x2 x3 x4 σ ha0 ha1 h)
      · replace h := am_ip h c_3
        refine am_aload_n C0 dX7_follow_34 0 rfl ?_
        refine am_getR C0 (j := a0 + 20) ff_RX7_34 (loC_5_3 ha0).1 (loC_5_3 ha0).2.1 (loC_5_3 ha0).2.2.1 (loC_5_3 ha0).2.2.2 dX7_follow_35 ?_
        refine am_iload C0 dX7_follow_38 4 rfl ?_
        refine am_iconst C0 dX7_follow_40 ci_1 ?_
        obtain ⟨q_4, h_q_4, h⟩ := am_bind h
        refine am_callV C0 (m_C_Table_at (σ := σ) (Nat.le_refl _) (a0 + 20) x4 1 (tgC_5_3 ha0) h_q_4) mm_yX6_at ln_RX7_75 (As := fun b => [.int x4, .int 1]) (fun _ => rfl) (fun _ => rfl) (loC_4_0 (tgC_5_3 ha0)).1 (loC_4_0 (tgC_5_3 ha0)).2.1 rfl (Nat.le_trans (by decide) hd) rfl (Nat.le_of_ble_eq_true rfl) dX7_follow_41 ?_
        refine am_istore C0 dX7_follow_44 (by decide) rfl (lv' := [(0, .ref (am_b G a0)), (1, .ref (am_b G a1)), (2, .int (am_bI x2)), (3, .int (am_bI x3)), (4, .int x4), (5, .int q_4)]) rfl ?_
        refine am_iload_n C0 dX7_follow_46 3 rfl ?_
        refine am_ifB_ne C0 dX7_follow_47 (tgt := 57) (by decide) (fun c_5 => ?_) (fun c_5 => ?_)
        · replace h := am_ip h c_5
          exact am_sub [0, 1, 2, 4, 5] rfl (k_C_War_follow_p57 C0 hd _ F hret (fun z0 z1 z2 z3 z4 zs zh0 zh1 z => ih z0 z1 z2 z3 z4 zs zh0 zh1 z) a0 a1 x2 x4 q_4 σ ha0 ha1 h)
        · replace h := am_in h c_5
          refine am_iload C0 dX7_follow_50 5 rfl ?_
          refine am_bipush C0 dX7_follow_52 kb_21 ?_
          refine am_icmp_ne C0 dX7_follow_54 (tgt := 61) (by decide) (fun c_6 => ?_) (fun c_6 => ?_)
          · replace h := am_in h c_6
            refine am_iconst C0 dX7_follow_61 ci_0 ?_
            exact am_sub [0, 1, 2, 4, 5] rfl (k_C_War_follow_p62 C0 hd _ F hret (fun z0 z1 z2 z3 z4 zs zh0 zh1 z => ih z0 z1 z2 z3 z4 zs zh0 zh1 z) a0 a1 x2 x4 q_4 false σ ha0 ha1 h)
          · replace h := am_ip h c_6
            exact am_sub [0, 1, 2, 4, 5] rfl (k_C_War_follow_p57 C0 hd _ F hret (fun z0 z1 z2 z3 z4 zs zh0 zh1 z => ih z0 z1 z2 z3 z4 zs zh0 zh1 z) a0 a1 x2 x4 q_4 σ ha0 ha1 h)
set_option maxRecDepth 100000 in
set_option maxHeartbeats 4000000 in
theorem k_C_War_follow {G : am_T} {d0 : Nat} (C0 : am_C G cX7_follow 6 RX7 LC d0) (hd : 6 ≤ d0) (F : Nat) {q : Bool × am_SS} (hret : am_retI G cX7_follow 6 (am_bI q.1) q.2) (a0 : Nat) (a1 : Nat) (x2 : Bool) (σ : am_SS) (ha0 : LC.1 a0 = 7) (ha1 : LC.1 a1 = 2) (h : C_War_follow F a0 a1 x2 σ = some q) : am_K G 6 0 [(0, .ref (am_b G a0)), (1, .ref (am_b G a1)), (2, .int (am_bI x2))] [] σ := by
  unfold C_War_follow at h
  refine am_iconst C0 dX7_follow_0 ci_0 ?_
  refine am_istore_n C0 dX7_follow_1 rfl (by decide) rfl (lv' := [(0, .ref (am_b G a0)), (1, .ref (am_b G a1)), (2, .int (am_bI x2)), (3, .int 0)]) rfl ?_
  refine am_iconst C0 dX7_follow_2 ci_0 ?_
  refine am_istore C0 dX7_follow_3 (by decide) rfl (lv' := [(0, .ref (am_b G a0)), (1, .ref (am_b G a1)), (2, .int (am_bI x2)), (3, .int 0), (4, .int 0)]) rfl ?_
  exact am_sub [0, 1, 2, 3, 4] rfl (k_C_War_follow_l5 C0 hd F hret F a0 a1 x2 false 0 σ ha0 ha1 h)
set_option maxRecDepth 100000 in
set_option maxHeartbeats 4000000 in
theorem m_C_War_follow {l : Launch} {d : Nat} {σ : am_SS} {q : Bool × am_SS} (hd : 6 ≤ d) (F : Nat) (a0 : Nat) (a1 : Nat) (x2 : Bool) (ha0 : LC.1 a0 = 7) (ha1 : LC.1 a1 = 2) (h : C_War_follow F a0 a1 x2 σ = some q) : am_Met l yX7_follow cX7_follow 6 (some .boolean) d 0 0 LC (fun b => [.ref (b a0), .ref (b a1), .int (am_bI x2)]) σ (some (.int (am_bI q.1))) q.2 :=
  am_metI (plainFor_of_name (by decide)) (am_bI_nr _) (lv := fun b => [(0, .ref (b a0)), (1, .ref (b a1)), (2, .int (am_bI x2))]) (fun _ => rfl) (fun _ => Nat.le_of_ble_eq_true rfl) (fun G C0 _ hret => k_C_War_follow C0 hd F hret a0 a1 x2 σ ha0 ha1 h)
set_option maxRecDepth 100000 in
set_option maxHeartbeats 4000000 in
theorem k_C_War_press_p192 {G : am_T} {d0 : Nat} (C0 : am_C G cX7_press 6 RX7 LC d0) (hd : 6 ≤ d0) (F : Nat) {q : Int32 × am_SS} (hret : am_retI G cX7_press 6 q.1 q.2) (x5 : Bool) (σ : am_SS) (h : C_War_press_p192 F x5 σ = some q) : am_K G 6 192 [(5, .int (am_bI x5))] [] σ := by
  unfold C_War_press_p192 at h
  refine am_iload C0 dX7_press_192 0 rfl ?_
  refine am_ifB_eq C0 dX7_press_194 (tgt := 201) (by decide) (fun c_1 => ?_) (fun c_1 => ?_)
  · replace h := am_in h c_1
    refine am_iconst C0 dX7_press_201 ci_0 ?_
    have e := Option.some.inj h
    subst e
    exact hret _ _ dX7_press_202
  · replace h := am_ip h c_1
    refine am_iconst C0 dX7_press_197 ci_1 ?_
    refine am_goto C0 dX7_press_198 (tgt := 202) (by decide) ?_
    have e := Option.some.inj h
    subst e
    exact hret _ _ dX7_press_202
set_option maxRecDepth 100000 in
set_option maxHeartbeats 4000000 in
theorem k_C_War_press_p177 {G : am_T} {d0 : Nat} (C0 : am_C G cX7_press 6 RX7 LC d0) (hd : 6 ≤ d0) (F : Nat) {q : Int32 × am_SS} (hret : am_retI G cX7_press 6 q.1 q.2) (a0 : Nat) (a1 : Nat) (x2 : Bool) (x3 : Int32) (x5 : Bool) (t0 : Nat) (s1 : Bool) (σ : am_SS) (ha0 : LC.1 a0 = 7) (ha1 : LC.1 a1 = 2) (ht0 : LC.1 t0 = 2) (h : C_War_press_p177 F a0 a1 x2 x3 x5 t0 s1 σ = some q) : am_K G 6 177 [(0, .ref (am_b G a0)), (1, .ref (am_b G a1)), (2, .int (am_bI x2)), (3, .int x3), (5, .int (am_bI x5))] [.int (am_bI s1), .ref (am_b G t0)] σ := by
  unfold C_War_press_p177 at h
  obtain ⟨σ_1, e_σ_1, h⟩ := am_lt h
  refine am_putI C0 e_σ_1 fp_RX7_101 (loC_0_13 ht0).1 (loC_0_13 ht0).2.1 (loC_0_13 ht0).2.2.1 (loC_0_13 ht0).2.2.2 rfl rfl dX7_press_177 ?_
  refine am_aload_n C0 dX7_press_180 0 rfl ?_
  refine am_aload_n C0 dX7_press_181 1 rfl ?_
  refine am_iload_n C0 dX7_press_182 2 rfl ?_
  refine am_iconst C0 dX7_press_183 ci_5 ?_
  refine am_iload_n C0 dX7_press_184 3 rfl ?_
  refine am_aload_n C0 dX7_press_185 1 rfl ?_
  refine am_getI C0 ff_RX7_101 (loC_0_13 ha1).1 (loC_0_13 ha1).2.1 (loC_0_13 ha1).2.2.1 (loC_0_13 ha1).2.2.2 dX7_press_186 ?_
  obtain ⟨q_2, h_q_2, h⟩ := am_bind h
  refine am_callV C0 (m_C_War_write (σ := σ_1) (Nat.le_refl _) F a0 a1 x2 5 x3 (σ_1 a1 13) ha0 ha1 h_q_2) mm_yX7_write ln_RX7_131 (As := fun b => [.ref (b a1), .int (am_bI x2), .int 5, .int x3, .int (σ_1 a1 13)]) (fun _ => rfl) (fun _ => rfl) (loC_5_0 ha0).1 (loC_5_0 ha0).2.1 rfl (Nat.le_trans (by decide) hd) rfl (Nat.le_of_ble_eq_true rfl) dX7_press_189 ?_
  exact am_sub [4] rfl (k_C_War_press_p192 C0 hd F hret x5 q_2  h)
set_option maxRecDepth 100000 in
set_option maxHeartbeats 4000000 in
theorem k_C_War_press_p162 {G : am_T} {d0 : Nat} (C0 : am_C G cX7_press 6 RX7 LC d0) (hd : 6 ≤ d0) (F : Nat) {q : Int32 × am_SS} (hret : am_retI G cX7_press 6 q.1 q.2) (a0 : Nat) (a1 : Nat) (x2 : Bool) (x3 : Int32) (x5 : Bool) (σ : am_SS) (ha0 : LC.1 a0 = 7) (ha1 : LC.1 a1 = 2) (h : C_War_press_p162 F a0 a1 x2 x3 x5 σ = some q) : am_K G 6 162 [(0, .ref (am_b G a0)), (1, .ref (am_b G a1)), (2, .int (am_bI x2)), (3, .int x3), (5, .int (am_bI x5))] [] σ := by
  unfold C_War_press_p162 at h
  refine am_aload_n C0 dX7_press_162 1 rfl ?_
  refine am_aload_n C0 dX7_press_163 1 rfl ?_
  refine am_getI C0 ff_RX7_174 (loC_0_12 ha1).1 (loC_0_12 ha1).2.1 (loC_0_12 ha1).2.2.1 (loC_0_12 ha1).2.2.2 dX7_press_164 ?_
  refine am_bipush C0 dX7_press_167 kb_99 ?_
  refine am_icmp_ne C0 dX7_press_169 (tgt := 176) (by decide) (fun c_1 => ?_) (fun c_1 => ?_)
  · replace h := am_in h c_1
    refine am_iconst C0 dX7_press_176 ci_1 ?_
    exact am_sub [0, 1, 2, 3, 4] rfl (k_C_War_press_p177 C0 hd F hret a0 a1 x2 x3 x5 a1 true σ ha0 ha1 ha1 h)
  · replace h := am_ip h c_1
    refine am_iconst C0 dX7_press_172 ci_0 ?_
    refine am_goto C0 dX7_press_173 (tgt := 177) (by decide) ?_
    exact am_sub [0, 1, 2, 3, 4] rfl (k_C_War_press_p177 C0 hd F hret a0 a1 x2 x3 x5 a1 false σ ha0 ha1 ha1 h)
set_option maxRecDepth 100000 in
set_option maxHeartbeats 4000000 in
theorem k_C_War_press_p141 {G : am_T} {d0 : Nat} (C0 : am_C G cX7_press 6 RX7 LC d0) (hd : 6 ≤ d0) (F : Nat) {q : Int32 × am_SS} (hret : am_retI G cX7_press 6 q.1 q.2) (a0 : Nat) (a1 : Nat) (x2 : Bool) (x3 : Int32) (x5 : Bool) (t0 : Nat) (s1 : Int32) (σ : am_SS) (ha0 : LC.1 a0 = 7) (ha1 : LC.1 a1 = 2) (ht0 : LC.1 t0 = 2) (h : C_War_press_p141 F a0 a1 x2 x3 x5 t0 s1 σ = some q) : am_K G 6 141 [(0, .ref (am_b G a0)), (1, .ref (am_b G a1)), (2, .int (am_bI x2)), (3, .int x3), (5, .int (am_bI x5))] [.int s1, .ref (am_b G t0)] σ := by
  unfold C_War_press_p141 at h
  obtain ⟨σ_1, e_σ_1, h⟩ := am_lt h
  refine am_putI C0 e_σ_1 fp_RX7_174 (loC_0_12 ht0).1 (loC_0_12 ht0).2.1 (loC_0_12 ht0).2.2.1 (loC_0_12 ht0).2.2.2 rfl rfl dX7_press_141 ?_
  refine am_aload_n C0 dX7_press_144 1 rfl ?_
  refine am_getI C0 ff_RX7_174 (loC_0_12 ha1).1 (loC_0_12 ha1).2.1 (loC_0_12 ha1).2.2.1 (loC_0_12 ha1).2.2.2 dX7_press_145 ?_
  refine am_bipush C0 dX7_press_148 kb_99 ?_
  refine am_icmp_eq C0 dX7_press_150 (tgt := 162) (by decide) (fun c_2 => ?_) (fun c_2 => ?_)
  · replace h := am_ip h c_2
    exact am_sub [0, 1, 2, 3, 4] rfl (k_C_War_press_p162 C0 hd F hret a0 a1 x2 x3 x5 σ_1 ha0 ha1 h)
  · replace h := am_in h c_2
    refine am_aload_n C0 dX7_press_153 1 rfl ?_
    refine am_getI C0 ff_RX7_174 (loC_0_12 ha1).1 (loC_0_12 ha1).2.1 (loC_0_12 ha1).2.2.1 (loC_0_12 ha1).2.2.2 dX7_press_154 ?_
    refine am_bipush C0 dX7_press_157 kb_m99 ?_
    refine am_icmp_ne C0 dX7_press_159 (tgt := 192) (by decide) (fun c_3 => ?_) (fun c_3 => ?_)
    · replace h := am_in h c_3
      exact am_sub [4] rfl (k_C_War_press_p192 C0 hd F hret x5 σ_1  h)
    · replace h := am_ip h c_3
      exact am_sub [0, 1, 2, 3, 4] rfl (k_C_War_press_p162 C0 hd F hret a0 a1 x2 x3 x5 σ_1 ha0 ha1 h)
set_option maxRecDepth 100000 in
set_option maxHeartbeats 4000000 in
theorem k_C_War_press_p104 {G : am_T} {d0 : Nat} (C0 : am_C G cX7_press 6 RX7 LC d0) (hd : 6 ≤ d0) (F : Nat) {q : Int32 × am_SS} (hret : am_retI G cX7_press 6 q.1 q.2) (a0 : Nat) (a1 : Nat) (x2 : Bool) (x3 : Int32) (x4 : Int32) (x5 : Bool) (σ : am_SS) (ha0 : LC.1 a0 = 7) (ha1 : LC.1 a1 = 2) (h : C_War_press_p104 F a0 a1 x2 x3 x4 x5 σ = some q) : am_K G 6 104 [(0, .ref (am_b G a0)), (1, .ref (am_b G a1)), (2, .int (am_bI x2)), (3, .int x3), (4, .int x4), (5, .int (am_bI x5))] [] σ := by
  unfold C_War_press_p104 at h
  refine am_aload_n C0 dX7_press_104 1 rfl ?_
  refine am_aload_n C0 dX7_press_105 1 rfl ?_
  refine am_getR C0 (j := a1 + 1) ff_RX7_171 (loC_0_1 ha1).1 (loC_0_1 ha1).2.1 (loC_0_1 ha1).2.2.1 (loC_0_1 ha1).2.2.2 dX7_press_106 ?_
  refine am_iload_n C0 dX7_press_109 3 rfl ?_
  obtain ⟨t_1, h_t_1, h⟩ := am_bind h
  refine am_iald C0 (ltC (tgC_0_1 ha1)) (tgC_0_1 ha1) (lnC_0_1 ha1) h_t_1 dX7_press_110 ?_
  refine am_if_ne C0 dX7_press_111 (tgt := 129) (by decide) (fun c_2 => ?_) (fun c_2 => ?_)
  · replace h := am_in h c_2
    refine am_bipush C0 dX7_press_129 kb_m99 ?_
    refine am_aload_n C0 dX7_press_131 1 rfl ?_
    refine am_getI C0 ff_RX7_174 (loC_0_12 ha1).1 (loC_0_12 ha1).2.1 (loC_0_12 ha1).2.2.1 (loC_0_12 ha1).2.2.2 dX7_press_132 ?_
    refine am_iload C0 dX7_press_135 4 rfl ?_
    refine am_isub C0 dX7_press_137 ?_
    refine am_callS C0 (m_J_max (σ := σ) (Nat.le_refl _) (-99) ((σ a1 12) - x4)  rfl) mm_yJ9_max_7cf53 ln_RX7_165 (fun _ => rfl) (Nat.le_trans (by decide) hd) rfl (Nat.le_of_ble_eq_true rfl) dX7_press_138 ?_
    exact am_sub [0, 1, 2, 3, 5] rfl (k_C_War_press_p141 C0 hd F hret a0 a1 x2 x3 x5 a1 (J_max (-99) ((σ a1 12) - x4)) σ ha0 ha1 ha1 h)
  · replace h := am_ip h c_2
    refine am_bipush C0 dX7_press_114 kb_99 ?_
    refine am_aload_n C0 dX7_press_116 1 rfl ?_
    refine am_getI C0 ff_RX7_174 (loC_0_12 ha1).1 (loC_0_12 ha1).2.1 (loC_0_12 ha1).2.2.1 (loC_0_12 ha1).2.2.2 dX7_press_117 ?_
    refine am_iload C0 dX7_press_120 4 rfl ?_
    refine am_iadd C0 dX7_press_122 ?_
    refine am_callS C0 (m_J_min (σ := σ) (Nat.le_refl _) 99 ((σ a1 12) + x4)  rfl) mm_yJ9_min_7cf53 ln_RX7_141 (fun _ => rfl) (Nat.le_trans (by decide) hd) rfl (Nat.le_of_ble_eq_true rfl) dX7_press_123 ?_
    refine am_goto C0 dX7_press_126 (tgt := 141) (by decide) ?_
    exact am_sub [0, 1, 2, 3, 5] rfl (k_C_War_press_p141 C0 hd F hret a0 a1 x2 x3 x5 a1 (J_min 99 ((σ a1 12) + x4)) σ ha0 ha1 ha1 h)
set_option maxRecDepth 100000 in
set_option maxHeartbeats 4000000 in
theorem k_C_War_press_p67 {G : am_T} {d0 : Nat} (C0 : am_C G cX7_press 6 RX7 LC d0) (hd : 6 ≤ d0) (F : Nat) {q : Int32 × am_SS} (hret : am_retI G cX7_press 6 q.1 q.2) (a0 : Nat) (a1 : Nat) (x2 : Bool) (x3 : Int32) (x4 : Int32) (s0 : Bool) (σ : am_SS) (ha0 : LC.1 a0 = 7) (ha1 : LC.1 a1 = 2) (h : C_War_press_p67 F a0 a1 x2 x3 x4 s0 σ = some q) : am_K G 6 67 [(0, .ref (am_b G a0)), (1, .ref (am_b G a1)), (2, .int (am_bI x2)), (3, .int x3), (4, .int x4)] [.int (am_bI s0)] σ := by
  unfold C_War_press_p67 at h
  refine am_istore C0 dX7_press_67 (by decide) rfl (lv' := [(0, .ref (am_b G a0)), (1, .ref (am_b G a1)), (2, .int (am_bI x2)), (3, .int x3), (4, .int x4), (5, .int (am_bI s0))]) rfl ?_
  refine am_iload C0 dX7_press_69 5 rfl ?_
  refine am_ifB_eq C0 dX7_press_71 (tgt := 104) (by decide) (fun c_1 => ?_) (fun c_1 => ?_)
  · replace h := am_in h c_1
    exact am_sub [0, 1, 2, 3, 4, 5] rfl (k_C_War_press_p104 C0 hd F hret a0 a1 x2 x3 x4 s0 σ ha0 ha1 h)
  · replace h := am_ip h c_1
    obtain ⟨x4_2, e_x4_2, h⟩ := am_lt h
    refine am_iinc C0 dX7_press_74 4 rfl (by rw [ci_10]; exact e_x4_2) (by decide) rfl (lv' := [(0, .ref (am_b G a0)), (1, .ref (am_b G a1)), (2, .int (am_bI x2)), (3, .int x3), (4, .int x4_2), (5, .int (am_bI s0))]) rfl ?_
    refine am_aload_n C0 dX7_press_77 1 rfl ?_
    refine am_getR C0 (j := a1 + 7) ff_RX7_168 (loC_0_7 ha1).1 (loC_0_7 ha1).2.1 (loC_0_7 ha1).2.2.1 (loC_0_7 ha1).2.2.2 dX7_press_78 ?_
    refine am_iload_n C0 dX7_press_81 3 rfl ?_
    refine am_dup2 C0 dX7_press_82 rfl rfl ?_
    obtain ⟨t_3, h_t_3, h⟩ := am_bind h
    refine am_iald C0 (ltC (tgC_0_7 ha1)) (tgC_0_7 ha1) (lnC_0_7 ha1) h_t_3 dX7_press_83 ?_
    refine am_iconst C0 dX7_press_84 ci_1 ?_
    refine am_iadd C0 dX7_press_85 ?_
    obtain ⟨σ_4, h_σ_4, h⟩ := am_bind h
    refine am_iast C0 (ltC (tgC_0_7 ha1)) (tgC_0_7 ha1) (lnC_0_7 ha1) h_σ_4 dX7_press_86 ?_
    refine am_aload_n C0 dX7_press_87 1 rfl ?_
    refine am_getR C0 (j := a1 + 4) ff_RX7_128 (loC_0_4 ha1).1 (loC_0_4 ha1).2.1 (loC_0_4 ha1).2.2.1 (loC_0_4 ha1).2.2.2 dX7_press_88 ?_
    refine am_iload_n C0 dX7_press_91 3 rfl ?_
    refine am_iconst C0 dX7_press_92 ci_0 ?_
    obtain ⟨σ_5, h_σ_5, h⟩ := am_bind h
    refine am_iast C0 (ltC (tgC_0_4 ha1)) (tgC_0_4 ha1) (lnC_0_4 ha1) h_σ_5 dX7_press_93 ?_
    refine am_aload_n C0 dX7_press_94 0 rfl ?_
    refine am_aload_n C0 dX7_press_95 1 rfl ?_
    refine am_iload_n C0 dX7_press_96 2 rfl ?_
    refine am_iconst C0 dX7_press_97 ci_3 ?_
    refine am_iload_n C0 dX7_press_98 3 rfl ?_
    refine am_iload C0 dX7_press_99 4 rfl ?_
    obtain ⟨q_6, h_q_6, h⟩ := am_bind h
    refine am_callV C0 (m_C_War_write (σ := σ_5) (Nat.le_refl _) F a0 a1 x2 3 x3 x4_2 ha0 ha1 h_q_6) mm_yX7_write ln_RX7_131 (As := fun b => [.ref (b a1), .int (am_bI x2), .int 3, .int x3, .int x4_2]) (fun _ => rfl) (fun _ => rfl) (loC_5_0 ha0).1 (loC_5_0 ha0).2.1 rfl (Nat.le_trans (by decide) hd) rfl (Nat.le_of_ble_eq_true rfl) dX7_press_101 ?_
    exact am_sub [0, 1, 2, 3, 4, 5] rfl (k_C_War_press_p104 C0 hd F hret a0 a1 x2 x3 x4_2 s0 q_6 ha0 ha1 h)
set_option maxRecDepth 100000 in
set_option maxHeartbeats 4000000 in
theorem k_C_War_press_p51 {G : am_T} {d0 : Nat} (C0 : am_C G cX7_press 6 RX7 LC d0) (hd : 6 ≤ d0) (F : Nat) {q : Int32 × am_SS} (hret : am_retI G cX7_press 6 q.1 q.2) (a0 : Nat) (a1 : Nat) (x2 : Bool) (x3 : Int32) (x4 : Int32) (σ : am_SS) (ha0 : LC.1 a0 = 7) (ha1 : LC.1 a1 = 2) (h : C_War_press_p51 F a0 a1 x2 x3 x4 σ = some q) : am_K G 6 51 [(0, .ref (am_b G a0)), (1, .ref (am_b G a1)), (2, .int (am_bI x2)), (3, .int x3), (4, .int x4)] [] σ := by
  unfold C_War_press_p51 at h
  refine am_aload_n C0 dX7_press_51 1 rfl ?_
  refine am_getR C0 (j := a1 + 4) ff_RX7_128 (loC_0_4 ha1).1 (loC_0_4 ha1).2.1 (loC_0_4 ha1).2.2.1 (loC_0_4 ha1).2.2.2 dX7_press_52 ?_
  refine am_iload_n C0 dX7_press_55 3 rfl ?_
  obtain ⟨t_1, h_t_1, h⟩ := am_bind h
  refine am_iald C0 (ltC (tgC_0_4 ha1)) (tgC_0_4 ha1) (lnC_0_4 ha1) h_t_1 dX7_press_56 ?_
  refine am_bipush C0 dX7_press_57 kb_99 ?_
  refine am_icmp_ne C0 dX7_press_59 (tgt := 66) (by decide) (fun c_2 => ?_) (fun c_2 => ?_)
  · replace h := am_in h c_2
    refine am_iconst C0 dX7_press_66 ci_0 ?_
    exact am_sub [0, 1, 2, 3, 4] rfl (k_C_War_press_p67 C0 hd F hret a0 a1 x2 x3 x4 false σ ha0 ha1 h)
  · replace h := am_ip h c_2
    refine am_iconst C0 dX7_press_62 ci_1 ?_
    refine am_goto C0 dX7_press_63 (tgt := 67) (by decide) ?_
    exact am_sub [0, 1, 2, 3, 4] rfl (k_C_War_press_p67 C0 hd F hret a0 a1 x2 x3 x4 true σ ha0 ha1 h)
set_option maxRecDepth 100000 in
set_option maxHeartbeats 4000000 in
theorem k_C_War_press {G : am_T} {d0 : Nat} (C0 : am_C G cX7_press 6 RX7 LC d0) (hd : 6 ≤ d0) (F : Nat) {q : Int32 × am_SS} (hret : am_retI G cX7_press 6 q.1 q.2) (a0 : Nat) (a1 : Nat) (x2 : Bool) (x3 : Int32) (σ : am_SS) (ha0 : LC.1 a0 = 7) (ha1 : LC.1 a1 = 2) (h : C_War_press F a0 a1 x2 x3 σ = some q) : am_K G 6 0 [(0, .ref (am_b G a0)), (1, .ref (am_b G a1)), (2, .int (am_bI x2)), (3, .int x3)] [] σ := by
  unfold C_War_press at h
  refine am_aload_n C0 dX7_press_0 1 rfl ?_
  refine am_iload_n C0 dX7_press_1 3 rfl ?_
  refine am_callV C0 (m_C_Front_hasOfficer (σ := σ) (Nat.le_refl _) a1 x3 ha1 rfl) mm_yX0_hasOfficer ln_RX7_104 (As := fun b => [.int x3]) (fun _ => rfl) (fun _ => rfl) (loC_0_0 ha1).1 (loC_0_0 ha1).2.1 rfl (Nat.le_trans (by decide) hd) rfl (Nat.le_of_ble_eq_true rfl) dX7_press_2 ?_
  refine am_ifB_ne C0 dX7_press_5 (tgt := 10) (by decide) (fun c_2 => ?_) (fun c_2 => ?_)
  · replace h := am_ip h c_2
    refine am_aload_n C0 dX7_press_10 0 rfl ?_
    refine am_aload_n C0 dX7_press_11 1 rfl ?_
    refine am_iload_n C0 dX7_press_12 3 rfl ?_
    refine am_iconst C0 dX7_press_13 ci_0 ?_
    obtain ⟨q_3, h_q_3, h⟩ := am_bind h
    refine am_callV C0 (m_C_War_asks (σ := σ) (Nat.le_refl _) F a0 a1 x3 0 ha0 ha1 h_q_3) mm_yX7_asks ln_RX7_158 (As := fun b => [.ref (b a1), .int x3, .int 0]) (fun _ => rfl) (fun _ => rfl) (loC_5_0 ha0).1 (loC_5_0 ha0).2.1 rfl (Nat.le_trans (by decide) hd) rfl (Nat.le_of_ble_eq_true rfl) dX7_press_14 ?_
    refine am_istore C0 dX7_press_17 (by decide) rfl (lv' := [(0, .ref (am_b G a0)), (1, .ref (am_b G a1)), (2, .int (am_bI x2)), (3, .int x3), (4, .int q_3.1)]) rfl ?_
    refine am_aload_n C0 dX7_press_19 1 rfl ?_
    refine am_getR C0 (j := a1 + 3) ff_RX7_162 (loC_0_3 ha1).1 (loC_0_3 ha1).2.1 (loC_0_3 ha1).2.2.1 (loC_0_3 ha1).2.2.2 dX7_press_20 ?_
    refine am_iload_n C0 dX7_press_23 3 rfl ?_
    obtain ⟨t_4, h_t_4, h⟩ := am_bind h
    refine am_iald C0 (ltC (tgC_0_3 ha1)) (tgC_0_3 ha1) (lnC_0_3 ha1) h_t_4 dX7_press_24 ?_
    refine am_bipush C0 dX7_press_25 kb_50 ?_
    refine am_icmp_ge C0 dX7_press_27 (tgt := 51) (by decide) (fun c_5 => ?_) (fun c_5 => ?_)
    · replace h := am_in h c_5
      exact am_sub [0, 1, 2, 3, 4] rfl (k_C_War_press_p51 C0 hd F hret a0 a1 x2 x3 q_3.1 q_3.2 ha0 ha1 h)
    · replace h := am_ip h c_5
      refine am_iconst C0 dX7_press_30 ci_0 ?_
      refine am_iload C0 dX7_press_31 4 rfl ?_
      refine am_bipush C0 dX7_press_33 kb_50 ?_
      refine am_aload_n C0 dX7_press_35 1 rfl ?_
      refine am_getR C0 (j := a1 + 3) ff_RX7_162 (loC_0_3 ha1).1 (loC_0_3 ha1).2.1 (loC_0_3 ha1).2.2.1 (loC_0_3 ha1).2.2.2 dX7_press_36 ?_
      refine am_iload_n C0 dX7_press_39 3 rfl ?_
      obtain ⟨t_6, h_t_6, h⟩ := am_bind h
      refine am_iald C0 (ltC (tgC_0_3 ha1)) (tgC_0_3 ha1) (lnC_0_3 ha1) h_t_6 dX7_press_40 ?_
      refine am_isub C0 dX7_press_41 ?_
      refine am_bipush C0 dX7_press_42 kb_10 ?_
      refine am_idiv C0 dX7_press_44 nz_10 ?_
      refine am_isub C0 dX7_press_45 ?_
      refine am_callS C0 (m_J_max (σ := q_3.2) (Nat.le_refl _) 0 (q_3.1 - ((50 - t_6) / 10))  rfl) mm_yJ9_max_7cf53 ln_RX7_165 (fun _ => rfl) (Nat.le_trans (by decide) hd) rfl (Nat.le_of_ble_eq_true rfl) dX7_press_46 ?_
      obtain ⟨x4_8, e_x4_8, h⟩ := am_lt h
      refine am_top e_x4_8 ?_
      refine am_istore C0 dX7_press_49 (by decide) rfl (lv' := [(0, .ref (am_b G a0)), (1, .ref (am_b G a1)), (2, .int (am_bI x2)), (3, .int x3), (4, .int x4_8)]) rfl ?_
      exact am_sub [0, 1, 2, 3, 4] rfl (k_C_War_press_p51 C0 hd F hret a0 a1 x2 x3 x4_8 q_3.2 ha0 ha1 h)
  · replace h := am_in h c_2
    refine am_iconst C0 dX7_press_8 ci_0 ?_
    have e := Option.some.inj h
    subst e
    exact hret _ _ dX7_press_9
set_option maxRecDepth 100000 in
set_option maxHeartbeats 4000000 in
theorem m_C_War_press {l : Launch} {d : Nat} {σ : am_SS} {q : Int32 × am_SS} (hd : 6 ≤ d) (F : Nat) (a0 : Nat) (a1 : Nat) (x2 : Bool) (x3 : Int32) (ha0 : LC.1 a0 = 7) (ha1 : LC.1 a1 = 2) (h : C_War_press F a0 a1 x2 x3 σ = some q) : am_Met l yX7_press cX7_press 6 (some .int) d 0 0 LC (fun b => [.ref (b a0), .ref (b a1), .int (am_bI x2), .int x3]) σ (some (.int q.1)) q.2 :=
  am_metI (plainFor_of_name (by decide)) rfl (lv := fun b => [(0, .ref (b a0)), (1, .ref (b a1)), (2, .int (am_bI x2)), (3, .int x3)]) (fun _ => rfl) (fun _ => Nat.le_of_ble_eq_true rfl) (fun G C0 _ hret => k_C_War_press C0 hd F hret a0 a1 x2 x3 σ ha0 ha1 h)
set_option maxRecDepth 100000 in
set_option maxHeartbeats 4000000 in
theorem k_C_War_spendEvening_p142 {G : am_T} {d0 : Nat} (C0 : am_C G cX7_spendEvening 7 RX7 LC d0) (hd : 6 ≤ d0) (F : Nat) {q : am_SS} (hret : am_retV G cX7_spendEvening 7 q) (a0 : Nat) (a1 : Nat) (x2 : Bool) (x3 : Int32) (s0 : Bool) (σ : am_SS) (ha0 : LC.1 a0 = 7) (ha1 : LC.1 a1 = 2) (h : C_War_spendEvening_p142 F a0 a1 x2 x3 s0 σ = some q) : am_K G 7 142 [(0, .ref (am_b G a0)), (1, .ref (am_b G a1)), (2, .int (am_bI x2)), (3, .int x3)] [.int (am_bI s0)] σ := by
  unfold C_War_spendEvening_p142 at h
  refine am_istore C0 dX7_spendEvening_142 (by decide) rfl (lv' := [(0, .ref (am_b G a0)), (1, .ref (am_b G a1)), (2, .int (am_bI x2)), (3, .int x3), (6, .int (am_bI s0))]) rfl ?_
  refine am_iload C0 dX7_spendEvening_144 4 rfl ?_
  refine am_ifB_eq C0 dX7_spendEvening_146 (tgt := 179) (by decide) (fun c_1 => ?_) (fun c_1 => ?_)
  · replace h := am_in h c_1
    have e := Option.some.inj h
    subst e
    exact hret _ _ dX7_spendEvening_179
  · replace h := am_ip h c_1
    refine am_aload_n C0 dX7_spendEvening_149 1 rfl ?_
    refine am_getR C0 (j := a1 + 5) ff_RX7_134 (loC_0_5 ha1).1 (loC_0_5 ha1).2.1 (loC_0_5 ha1).2.2.1 (loC_0_5 ha1).2.2.2 dX7_spendEvening_150 ?_
    refine am_iload_n C0 dX7_spendEvening_153 3 rfl ?_
    obtain ⟨t_2, h_t_2, h⟩ := am_bind h
    refine am_iald C0 (ltC (tgC_0_5 ha1)) (tgC_0_5 ha1) (lnC_0_5 ha1) h_t_2 dX7_spendEvening_154 ?_
    refine am_if_ne C0 dX7_spendEvening_155 (tgt := 179) (by decide) (fun c_3 => ?_) (fun c_3 => ?_)
    · replace h := am_in h c_3
      have e := Option.some.inj h
      subst e
      exact hret _ _ dX7_spendEvening_179
    · replace h := am_ip h c_3
      refine am_aload_n C0 dX7_spendEvening_158 1 rfl ?_
      refine am_getR C0 (j := a1 + 5) ff_RX7_134 (loC_0_5 ha1).1 (loC_0_5 ha1).2.1 (loC_0_5 ha1).2.2.1 (loC_0_5 ha1).2.2.2 dX7_spendEvening_159 ?_
      refine am_iload_n C0 dX7_spendEvening_162 3 rfl ?_
      refine am_iconst C0 dX7_spendEvening_163 ci_1 ?_
      obtain ⟨σ_4, h_σ_4, h⟩ := am_bind h
      refine am_iast C0 (ltC (tgC_0_5 ha1)) (tgC_0_5 ha1) (lnC_0_5 ha1) h_σ_4 dX7_spendEvening_164 ?_
      refine am_aload_n C0 dX7_spendEvening_165 0 rfl ?_
      refine am_aload_n C0 dX7_spendEvening_166 1 rfl ?_
      refine am_iload_n C0 dX7_spendEvening_167 2 rfl ?_
      refine am_iconst C0 dX7_spendEvening_168 ci_4 ?_
      refine am_iload_n C0 dX7_spendEvening_169 3 rfl ?_
      refine am_aload_n C0 dX7_spendEvening_170 1 rfl ?_
      refine am_getR C0 (j := a1 + 3) ff_RX7_162 (loC_0_3 ha1).1 (loC_0_3 ha1).2.1 (loC_0_3 ha1).2.2.1 (loC_0_3 ha1).2.2.2 dX7_spendEvening_171 ?_
      refine am_iload_n C0 dX7_spendEvening_174 3 rfl ?_
      obtain ⟨t_5, h_t_5, h⟩ := am_bind h
      refine am_iald C0 (ltC (tgC_0_3 ha1)) (tgC_0_3 ha1) (lnC_0_3 ha1) h_t_5 dX7_spendEvening_175 ?_
      obtain ⟨q_6, h_q_6, h⟩ := am_bind h
      refine am_callV C0 (m_C_War_write (σ := σ_4) (Nat.le_refl _) F a0 a1 x2 4 x3 t_5 ha0 ha1 h_q_6) mm_yX7_write ln_RX7_131 (As := fun b => [.ref (b a1), .int (am_bI x2), .int 4, .int x3, .int t_5]) (fun _ => rfl) (fun _ => rfl) (loC_5_0 ha0).1 (loC_5_0 ha0).2.1 rfl (Nat.le_trans (by decide) hd) rfl (Nat.le_of_ble_eq_true rfl) dX7_spendEvening_176 ?_
      have e := Option.some.inj h
      subst e
      exact hret _ _ dX7_spendEvening_179
set_option maxRecDepth 100000 in
set_option maxHeartbeats 4000000 in
theorem k_C_War_spendEvening_p141 {G : am_T} {d0 : Nat} (C0 : am_C G cX7_spendEvening 7 RX7 LC d0) (hd : 6 ≤ d0) (F : Nat) {q : am_SS} (hret : am_retV G cX7_spendEvening 7 q) (a0 : Nat) (a1 : Nat) (x2 : Bool) (x3 : Int32) (σ : am_SS) (ha0 : LC.1 a0 = 7) (ha1 : LC.1 a1 = 2) (h : C_War_spendEvening_p141 F a0 a1 x2 x3 σ = some q) : am_K G 7 141 [(0, .ref (am_b G a0)), (1, .ref (am_b G a1)), (2, .int (am_bI x2)), (3, .int x3)] [] σ := by
  unfold C_War_spendEvening_p141 at h
  refine am_iconst C0 dX7_spendEvening_141 ci_0 ?_
  exact am_sub [0, 1, 2, 3] rfl (k_C_War_spendEvening_p142 C0 hd F hret a0 a1 x2 x3 false σ ha0 ha1 h)
set_option maxRecDepth 100000 in
set_option maxHeartbeats 4000000 in
theorem k_C_War_spendEvening {G : am_T} {d0 : Nat} (C0 : am_C G cX7_spendEvening 7 RX7 LC d0) (hd : 6 ≤ d0) (F : Nat) {q : am_SS} (hret : am_retV G cX7_spendEvening 7 q) (a0 : Nat) (a1 : Nat) (x2 : Bool) (x3 : Int32) (σ : am_SS) (ha0 : LC.1 a0 = 7) (ha1 : LC.1 a1 = 2) (h : C_War_spendEvening F a0 a1 x2 x3 σ = some q) : am_K G 7 0 [(0, .ref (am_b G a0)), (1, .ref (am_b G a1)), (2, .int (am_bI x2)), (3, .int x3)] [] σ := by
  unfold C_War_spendEvening at h
  refine am_aload_n C0 dX7_spendEvening_0 1 rfl ?_
  refine am_iload_n C0 dX7_spendEvening_1 3 rfl ?_
  refine am_callV C0 (m_C_Front_hasOfficer (σ := σ) (Nat.le_refl _) a1 x3 ha1 rfl) mm_yX0_hasOfficer ln_RX7_104 (As := fun b => [.int x3]) (fun _ => rfl) (fun _ => rfl) (loC_0_0 ha1).1 (loC_0_0 ha1).2.1 rfl (Nat.le_trans (by decide) hd) rfl (Nat.le_of_ble_eq_true rfl) dX7_spendEvening_2 ?_
  refine am_ifB_ne C0 dX7_spendEvening_5 (tgt := 9) (by decide) (fun c_2 => ?_) (fun c_2 => ?_)
  · replace h := am_ip h c_2
    refine am_aload_n C0 dX7_spendEvening_9 1 rfl ?_
    refine am_getR C0 (j := a1 + 3) ff_RX7_162 (loC_0_3 ha1).1 (loC_0_3 ha1).2.1 (loC_0_3 ha1).2.2.1 (loC_0_3 ha1).2.2.2 dX7_spendEvening_10 ?_
    refine am_iload_n C0 dX7_spendEvening_13 3 rfl ?_
    refine am_iconst C0 dX7_spendEvening_14 ci_0 ?_
    refine am_aload_n C0 dX7_spendEvening_15 1 rfl ?_
    refine am_getR C0 (j := a1 + 3) ff_RX7_162 (loC_0_3 ha1).1 (loC_0_3 ha1).2.1 (loC_0_3 ha1).2.2.1 (loC_0_3 ha1).2.2.2 dX7_spendEvening_16 ?_
    refine am_iload_n C0 dX7_spendEvening_19 3 rfl ?_
    obtain ⟨t_3, h_t_3, h⟩ := am_bind h
    refine am_iald C0 (ltC (tgC_0_3 ha1)) (tgC_0_3 ha1) (lnC_0_3 ha1) h_t_3 dX7_spendEvening_20 ?_
    refine am_bipush C0 dX7_spendEvening_21 kb_10 ?_
    refine am_isub C0 dX7_spendEvening_23 ?_
    refine am_callS C0 (m_J_max (σ := σ) (Nat.le_refl _) 0 (t_3 - 10)  rfl) mm_yJ9_max_7cf53 ln_RX7_165 (fun _ => rfl) (Nat.le_trans (by decide) hd) rfl (Nat.le_of_ble_eq_true rfl) dX7_spendEvening_24 ?_
    obtain ⟨σ_5, h_σ_5, h⟩ := am_bind h
    refine am_iast C0 (ltC (tgC_0_3 ha1)) (tgC_0_3 ha1) (lnC_0_3 ha1) h_σ_5 dX7_spendEvening_27 ?_
    refine am_aload_n C0 dX7_spendEvening_28 0 rfl ?_
    refine am_iload_n C0 dX7_spendEvening_29 3 rfl ?_
    obtain ⟨q_6, h_q_6, h⟩ := am_bind h
    refine am_callV C0 (m_C_War_batmanOf (σ := σ_5) (Nat.le_refl _) F a0 x3 ha0 h_q_6) mm_yX7_batmanOf ln_RX7_82 (As := fun b => [.int x3]) (fun _ => rfl) (fun _ => rfl) (loC_5_0 ha0).1 (loC_5_0 ha0).2.1 rfl (Nat.le_trans (by decide) hd) rfl (Nat.le_of_ble_eq_true rfl) dX7_spendEvening_30 ?_
    refine am_istore C0 dX7_spendEvening_33 (by decide) rfl (lv' := [(0, .ref (am_b G a0)), (1, .ref (am_b G a1)), (2, .int (am_bI x2)), (3, .int x3), (4, .int q_6)]) rfl ?_
    refine am_aload_n C0 dX7_spendEvening_35 1 rfl ?_
    refine am_iload C0 dX7_spendEvening_36 4 rfl ?_
    refine am_callV C0 (m_C_Front_hasBatman (σ := σ_5) (Nat.le_refl _) a1 q_6 ha1 rfl) mm_yX0_hasBatman ln_RX7_111 (As := fun b => [.int q_6]) (fun _ => rfl) (fun _ => rfl) (loC_0_0 ha1).1 (loC_0_0 ha1).2.1 rfl (Nat.le_trans (by decide) hd) rfl (Nat.le_of_ble_eq_true rfl) dX7_spendEvening_38 ?_
    refine am_ifB_ne C0 dX7_spendEvening_41 (tgt := 45) (by decide) (fun c_8 => ?_) (fun c_8 => ?_)
    · replace h := am_ip h c_8
      refine am_aload_n C0 dX7_spendEvening_45 1 rfl ?_
      refine am_getR C0 (j := a1 + 3) ff_RX7_162 (loC_0_3 ha1).1 (loC_0_3 ha1).2.1 (loC_0_3 ha1).2.2.1 (loC_0_3 ha1).2.2.2 dX7_spendEvening_46 ?_
      refine am_iload_n C0 dX7_spendEvening_49 3 rfl ?_
      refine am_bipush C0 dX7_spendEvening_50 kb_99 ?_
      refine am_aload_n C0 dX7_spendEvening_52 1 rfl ?_
      refine am_getR C0 (j := a1 + 3) ff_RX7_162 (loC_0_3 ha1).1 (loC_0_3 ha1).2.1 (loC_0_3 ha1).2.2.1 (loC_0_3 ha1).2.2.2 dX7_spendEvening_53 ?_
      refine am_iload_n C0 dX7_spendEvening_56 3 rfl ?_
      obtain ⟨t_9, h_t_9, h⟩ := am_bind h
      refine am_iald C0 (ltC (tgC_0_3 ha1)) (tgC_0_3 ha1) (lnC_0_3 ha1) h_t_9 dX7_spendEvening_57 ?_
      refine am_aload_n C0 dX7_spendEvening_58 0 rfl ?_
      refine am_aload_n C0 dX7_spendEvening_59 1 rfl ?_
      refine am_iload_n C0 dX7_spendEvening_60 3 rfl ?_
      refine am_iconst C0 dX7_spendEvening_61 ci_1 ?_
      obtain ⟨q_10, h_q_10, h⟩ := am_bind h
      refine am_callV C0 (m_C_War_asks (σ := σ_5) (Nat.le_refl _) F a0 a1 x3 1 ha0 ha1 h_q_10) mm_yX7_asks ln_RX7_158 (As := fun b => [.ref (b a1), .int x3, .int 1]) (fun _ => rfl) (fun _ => rfl) (loC_5_0 ha0).1 (loC_5_0 ha0).2.1 rfl (Nat.le_trans (by decide) hd) rfl (Nat.le_of_ble_eq_true rfl) dX7_spendEvening_62 ?_
      refine am_iadd C0 dX7_spendEvening_65 ?_
      refine am_callS C0 (m_J_min (σ := q_10.2) (Nat.le_refl _) 99 (t_9 + q_10.1)  rfl) mm_yJ9_min_7cf53 ln_RX7_141 (fun _ => rfl) (Nat.le_trans (by decide) hd) rfl (Nat.le_of_ble_eq_true rfl) dX7_spendEvening_66 ?_
      obtain ⟨σ_12, h_σ_12, h⟩ := am_bind h
      refine am_iast C0 (ltC (tgC_0_3 ha1)) (tgC_0_3 ha1) (lnC_0_3 ha1) h_σ_12 dX7_spendEvening_69 ?_
      refine am_aload_n C0 dX7_spendEvening_70 1 rfl ?_
      refine am_getR C0 (j := a1 + 10) ff_RX7_114 (loC_0_11 ha1).1 (loC_0_11 ha1).2.1 (loC_0_11 ha1).2.2.1 (loC_0_11 ha1).2.2.2 dX7_spendEvening_71 ?_
      refine am_iload C0 dX7_spendEvening_74 4 rfl ?_
      refine am_bipush C0 dX7_spendEvening_76 kb_99 ?_
      refine am_aload_n C0 dX7_spendEvening_78 1 rfl ?_
      refine am_getR C0 (j := a1 + 10) ff_RX7_114 (loC_0_11 ha1).1 (loC_0_11 ha1).2.1 (loC_0_11 ha1).2.2.1 (loC_0_11 ha1).2.2.2 dX7_spendEvening_79 ?_
      refine am_iload C0 dX7_spendEvening_82 4 rfl ?_
      obtain ⟨t_13, h_t_13, h⟩ := am_bind h
      refine am_iald C0 (ltC (tgC_0_11 ha1)) (tgC_0_11 ha1) (lnC_0_11 ha1) h_t_13 dX7_spendEvening_84 ?_
      refine am_iconst C0 dX7_spendEvening_85 ci_1 ?_
      refine am_iadd C0 dX7_spendEvening_86 ?_
      refine am_callS C0 (m_J_min (σ := σ_12) (Nat.le_refl _) 99 (t_13 + 1)  rfl) mm_yJ9_min_7cf53 ln_RX7_141 (fun _ => rfl) (Nat.le_trans (by decide) hd) rfl (Nat.le_of_ble_eq_true rfl) dX7_spendEvening_87 ?_
      obtain ⟨σ_15, h_σ_15, h⟩ := am_bind h
      refine am_iast C0 (ltC (tgC_0_11 ha1)) (tgC_0_11 ha1) (lnC_0_11 ha1) h_σ_15 dX7_spendEvening_90 ?_
      refine am_aload_n C0 dX7_spendEvening_91 0 rfl ?_
      refine am_aload_n C0 dX7_spendEvening_92 1 rfl ?_
      refine am_iload_n C0 dX7_spendEvening_93 3 rfl ?_
      refine am_iconst C0 dX7_spendEvening_94 ci_2 ?_
      obtain ⟨q_16, h_q_16, h⟩ := am_bind h
      refine am_callV C0 (m_C_War_asks (σ := σ_15) (Nat.le_refl _) F a0 a1 x3 2 ha0 ha1 h_q_16) mm_yX7_asks ln_RX7_158 (As := fun b => [.ref (b a1), .int x3, .int 2]) (fun _ => rfl) (fun _ => rfl) (loC_5_0 ha0).1 (loC_5_0 ha0).2.1 rfl (Nat.le_trans (by decide) hd) rfl (Nat.le_of_ble_eq_true rfl) dX7_spendEvening_95 ?_
      refine am_istore C0 dX7_spendEvening_98 (by decide) rfl (lv' := [(0, .ref (am_b G a0)), (1, .ref (am_b G a1)), (2, .int (am_bI x2)), (3, .int x3), (4, .int q_6), (5, .int q_16.1)]) rfl ?_
      refine am_iload_n C0 dX7_spendEvening_100 2 rfl ?_
      refine am_ifB_eq C0 dX7_spendEvening_101 (tgt := 120) (by decide) (fun c_17 => ?_) (fun c_17 => ?_)
      · replace h := am_in h c_17
        refine am_iload C0 dX7_spendEvening_120 5 rfl ?_
        refine am_if_le C0 dX7_spendEvening_122 (tgt := 141) (by decide) (fun c_18 => ?_) (fun c_18 => ?_)
        · replace h := am_in h c_18
          exact am_sub [0, 1, 2, 3] rfl (k_C_War_spendEvening_p141 C0 hd F hret a0 a1 x2 x3 q_16.2 ha0 ha1 h)
        · replace h := am_ip h c_18
          refine am_aload_n C0 dX7_spendEvening_125 1 rfl ?_
          refine am_sipush C0 dX7_spendEvening_126 cs_1000 ?_
          obtain ⟨q_19, h_q_19, h⟩ := am_bind h
          refine am_callV C0 (m_C_Front_draw (σ := q_16.2) (Nat.le_refl _) a1 1000 ha1 h_q_19) mm_yX0_draw ln_RX7_177 (As := fun b => [.int 1000]) (fun _ => rfl) (fun _ => rfl) (loC_0_0 ha1).1 (loC_0_0 ha1).2.1 rfl (Nat.le_trans (by decide) hd) rfl (Nat.le_of_ble_eq_true rfl) dX7_spendEvening_129 ?_
          refine am_iload C0 dX7_spendEvening_132 5 rfl ?_
          refine am_icmp_ge C0 dX7_spendEvening_134 (tgt := 141) (by decide) (fun c_20 => ?_) (fun c_20 => ?_)
          · replace h := am_in h c_20
            exact am_sub [0, 1, 2, 3] rfl (k_C_War_spendEvening_p141 C0 hd F hret a0 a1 x2 x3 q_19.2 ha0 ha1 h)
          · replace h := am_ip h c_20
            refine am_iconst C0 dX7_spendEvening_137 ci_1 ?_
            refine am_goto C0 dX7_spendEvening_138 (tgt := 142) (by decide) ?_
            exact am_sub [0, 1, 2, 3] rfl (k_C_War_spendEvening_p142 C0 hd F hret a0 a1 x2 x3 true q_19.2 ha0 ha1 h)
      · replace h := am_ip h c_17
        refine am_iload C0 dX7_spendEvening_104 5 rfl ?_
        refine am_sipush C0 dX7_spendEvening_106 cs_500 ?_
        refine am_icmp_lt C0 dX7_spendEvening_109 (tgt := 116) (by decide) (fun c_21 => ?_) (fun c_21 => ?_)
        · replace h := am_ip h c_21
          refine am_iconst C0 dX7_spendEvening_116 ci_0 ?_
          refine am_goto C0 dX7_spendEvening_117 (tgt := 142) (by decide) ?_
          exact am_sub [0, 1, 2, 3] rfl (k_C_War_spendEvening_p142 C0 hd F hret a0 a1 x2 x3 false q_16.2 ha0 ha1 h)
        · replace h := am_in h c_21
          refine am_iconst C0 dX7_spendEvening_112 ci_1 ?_
          refine am_goto C0 dX7_spendEvening_113 (tgt := 142) (by decide) ?_
          exact am_sub [0, 1, 2, 3] rfl (k_C_War_spendEvening_p142 C0 hd F hret a0 a1 x2 x3 true q_16.2 ha0 ha1 h)
    · replace h := am_in h c_8
      have e := Option.some.inj h
      subst e
      exact hret _ _ dX7_spendEvening_44
  · replace h := am_in h c_2
    have e := Option.some.inj h
    subst e
    exact hret _ _ dX7_spendEvening_8
set_option maxRecDepth 100000 in
set_option maxHeartbeats 4000000 in
theorem m_C_War_spendEvening {l : Launch} {d : Nat} {σ : am_SS} {q : am_SS} (hd : 6 ≤ d) (F : Nat) (a0 : Nat) (a1 : Nat) (x2 : Bool) (x3 : Int32) (ha0 : LC.1 a0 = 7) (ha1 : LC.1 a1 = 2) (h : C_War_spendEvening F a0 a1 x2 x3 σ = some q) : am_Met l yX7_spendEvening cX7_spendEvening 7 none d 0 0 LC (fun b => [.ref (b a0), .ref (b a1), .int (am_bI x2), .int x3]) σ none q :=
  am_metV (plainFor_of_name (by decide)) (lv := fun b => [(0, .ref (b a0)), (1, .ref (b a1)), (2, .int (am_bI x2)), (3, .int x3)]) (fun _ => rfl) (fun _ => Nat.le_of_ble_eq_true rfl) (fun G C0 _ hret => k_C_War_spendEvening C0 hd F hret a0 a1 x2 x3 σ ha0 ha1 h)
set_option maxRecDepth 100000 in
set_option maxHeartbeats 4000000 in
theorem k_C_War_passDay_p94 {G : am_T} {d0 : Nat} (C0 : am_C G cX7_passDay 6 RX7 LC d0) (hd : 7 ≤ d0) (F : Nat) {q : Int32 × am_SS} (hret : am_retI G cX7_passDay 6 q.1 q.2) (a1 : Nat) (x3 : Int32) (σ : am_SS) (ha1 : LC.1 a1 = 2) (h : C_War_passDay_p94 F a1 x3 σ = some q) : am_K G 6 94 [(1, .ref (am_b G a1)), (3, .int x3)] [] σ := by
  unfold C_War_passDay_p94 at h
  refine am_aload_n C0 dX7_passDay_94 0 rfl ?_
  refine am_dup C0 dX7_passDay_95 rfl ?_
  refine am_getI C0 ff_RX7_94 (loC_0_14 ha1).1 (loC_0_14 ha1).2.1 (loC_0_14 ha1).2.2.1 (loC_0_14 ha1).2.2.2 dX7_passDay_96 ?_
  refine am_iconst C0 dX7_passDay_99 ci_1 ?_
  refine am_iadd C0 dX7_passDay_100 ?_
  obtain ⟨σ_1, e_σ_1, h⟩ := am_lt h
  refine am_putI C0 e_σ_1 fp_RX7_94 (loC_0_14 ha1).1 (loC_0_14 ha1).2.1 (loC_0_14 ha1).2.2.1 (loC_0_14 ha1).2.2.2 rfl rfl dX7_passDay_101 ?_
  refine am_iload_n C0 dX7_passDay_104 1 rfl ?_
  have e := Option.some.inj h
  subst e
  exact hret _ _ dX7_passDay_105
set_option maxRecDepth 100000 in
set_option maxHeartbeats 4000000 in
theorem k_C_War_passDay_l63 {G : am_T} {d0 : Nat} (C0 : am_C G cX7_passDay 6 RX7 LC d0) (hd : 7 ≤ d0) (F : Nat) {q : Int32 × am_SS} (hret : am_retI G cX7_passDay 6 q.1 q.2) : ∀ (n : Nat) (a0 : Nat) (a1 : Nat) (x2 : Bool) (x3 : Int32) (x5 : Int32) (σ : am_SS) (ha0 : LC.1 a0 = 7) (ha1 : LC.1 a1 = 2) (h : C_War_passDay_l63 F n a0 a1 x2 x3 x5 σ = some q), am_K G 6 63 [(0, .ref (am_b G a0)), (1, .ref (am_b G a1)), (2, .int (am_bI x2)), (3, .int x3), (5, .int x5)] [] σ := by
  intro n
  induction n with
  | zero =>
    intro a0 a1 x2 x3 x5 σ ha0 ha1 h
    rw [C_War_passDay_l63] at h
    cases h
  | succ n ih =>
    intro a0 a1 x2 x3 x5 σ ha0 ha1 h
    rw [C_War_passDay_l63] at h
    refine am_iload C0 dX7_passDay_63 4 rfl ?_
    refine am_aload_n C0 dX7_passDay_65 1 rfl ?_
    refine am_getI C0 ff_RX7_79 (loC_0_0 ha1).1 (loC_0_0 ha1).2.1 (loC_0_0 ha1).2.2.1 (loC_0_0 ha1).2.2.2 dX7_passDay_66 ?_
    refine am_icmp_ge C0 dX7_passDay_69 (tgt := 94) (by decide) (fun c_1 => ?_) (fun c_1 => ?_)
    · replace h := am_in h c_1
      exact am_sub [1, 3] rfl (k_C_War_passDay_p94 C0 hd F hret a1 x3 σ ha1 h)
    · replace h := am_ip h c_1
      refine am_aload_n C0 dX7_passDay_72 1 rfl ?_
      refine am_getI C0 ff_RX7_101 (loC_0_13 ha1).1 (loC_0_13 ha1).2.1 (loC_0_13 ha1).2.2.1 (loC_0_13 ha1).2.2.2 dX7_passDay_73 ?_
      refine am_iconst C0 dX7_passDay_76 ci_m1 ?_
      refine am_icmp_ne C0 dX7_passDay_77 (tgt := 94) (by decide) (fun c_2 => ?_) (fun c_2 => ?_)
      · replace h := am_in h c_2
        exact am_sub [1, 3] rfl (k_C_War_passDay_p94 C0 hd F hret a1 x3 σ ha1 h)
      · replace h := am_ip h c_2
        refine am_aload_n C0 dX7_passDay_80 0 rfl ?_
        refine am_aload_n C0 dX7_passDay_81 1 rfl ?_
        refine am_iload_n C0 dX7_passDay_82 2 rfl ?_
        refine am_iload C0 dX7_passDay_83 4 rfl ?_
        obtain ⟨q_3, h_q_3, h⟩ := am_bind h
        refine am_callV C0 (m_C_War_spendEvening (σ := σ) (Nat.le_refl _) F a0 a1 x2 x5 ha0 ha1 h_q_3) mm_yX7_spendEvening ln_RX7_154 (As := fun b => [.ref (b a1), .int (am_bI x2), .int x5]) (fun _ => rfl) (fun _ => rfl) (loC_5_0 ha0).1 (loC_5_0 ha0).2.1 rfl (Nat.le_trans (by decide) hd) rfl (Nat.le_of_ble_eq_true rfl) dX7_passDay_85 ?_
        obtain ⟨x5_4, e_x5_4, h⟩ := am_lt h
        refine am_iinc C0 dX7_passDay_88 4 rfl (by rw [ci_1]; exact e_x5_4) (by decide) rfl (lv' := [(0, .ref (am_b G a0)), (1, .ref (am_b G a1)), (2, .int (am_bI x2)), (3, .int x3), (5, .int x5_4)]) rfl ?_
        refine am_goto C0 dX7_passDay_91 (tgt := 63) (by decide) ?_
        exact am_sub [0, 1, 2, 3, 4] rfl (ih a0 a1 x2 x3 x5_4 q_3 ha0 ha1 h)
set_option maxRecDepth 100000 in
set_option maxHeartbeats 4000000 in
theorem k_C_War_passDay_p60 {G : am_T} {d0 : Nat} (C0 : am_C G cX7_passDay 6 RX7 LC d0) (hd : 7 ≤ d0) (F : Nat) {q : Int32 × am_SS} (hret : am_retI G cX7_passDay 6 q.1 q.2) (a0 : Nat) (a1 : Nat) (x2 : Bool) (x3 : Int32) (σ : am_SS) (ha0 : LC.1 a0 = 7) (ha1 : LC.1 a1 = 2) (h : C_War_passDay_p60 F a0 a1 x2 x3 σ = some q) : am_K G 6 60 [(0, .ref (am_b G a0)), (1, .ref (am_b G a1)), (2, .int (am_bI x2)), (3, .int x3)] [] σ := by
  unfold C_War_passDay_p60 at h
  refine am_iconst C0 dX7_passDay_60 ci_0 ?_
  refine am_istore C0 dX7_passDay_61 (by decide) rfl (lv' := [(0, .ref (am_b G a0)), (1, .ref (am_b G a1)), (2, .int (am_bI x2)), (3, .int x3), (5, .int 0)]) rfl ?_
  exact am_sub [0, 1, 2, 3, 4] rfl (k_C_War_passDay_l63 C0 hd F hret F a0 a1 x2 x3 0 σ ha0 ha1 h)
set_option maxRecDepth 100000 in
set_option maxHeartbeats 4000000 in
theorem k_C_War_passDay_l21 {G : am_T} {d0 : Nat} (C0 : am_C G cX7_passDay 6 RX7 LC d0) (hd : 7 ≤ d0) (F : Nat) {q : Int32 × am_SS} (hret : am_retI G cX7_passDay 6 q.1 q.2) : ∀ (n : Nat) (a0 : Nat) (a1 : Nat) (x2 : Bool) (x3 : Int32) (x4 : Bool) (x5 : Int32) (σ : am_SS) (ha0 : LC.1 a0 = 7) (ha1 : LC.1 a1 = 2) (h : C_War_passDay_l21 F n a0 a1 x2 x3 x4 x5 σ = some q), am_K G 6 21 [(0, .ref (am_b G a0)), (1, .ref (am_b G a1)), (2, .int (am_bI x2)), (3, .int x3), (4, .int (am_bI x4)), (5, .int x5)] [] σ := by
  intro n
  induction n with
  | zero =>
    intro a0 a1 x2 x3 x4 x5 σ ha0 ha1 h
    rw [C_War_passDay_l21] at h
    cases h
  | succ n ih =>
    intro a0 a1 x2 x3 x4 x5 σ ha0 ha1 h
    rw [C_War_passDay_l21] at h
    refine am_iload C0 dX7_passDay_21 5 rfl ?_
    refine am_aload_n C0 dX7_passDay_23 1 rfl ?_
    refine am_getI C0 ff_RX7_79 (loC_0_0 ha1).1 (loC_0_0 ha1).2.1 (loC_0_0 ha1).2.2.1 (loC_0_0 ha1).2.2.2 dX7_passDay_24 ?_
    refine am_icmp_ge C0 dX7_passDay_27 (tgt := 60) (by decide) (fun c_1 => ?_) (fun c_1 => ?_)
    · replace h := am_in h c_1
      exact am_sub [0, 1, 2, 3] rfl (k_C_War_passDay_p60 C0 hd F hret a0 a1 x2 x3 σ ha0 ha1 h)
    · replace h := am_ip h c_1
      refine am_iload C0 dX7_passDay_30 4 rfl ?_
      refine am_ifB_ne C0 dX7_passDay_32 (tgt := 60) (by decide) (fun c_2 => ?_) (fun c_2 => ?_)
      · replace h := am_ip h c_2
        exact am_sub [0, 1, 2, 3] rfl (k_C_War_passDay_p60 C0 hd F hret a0 a1 x2 x3 σ ha0 ha1 h)
      · replace h := am_in h c_2
        refine am_aload_n C0 dX7_passDay_35 1 rfl ?_
        refine am_getI C0 ff_RX7_101 (loC_0_13 ha1).1 (loC_0_13 ha1).2.1 (loC_0_13 ha1).2.2.1 (loC_0_13 ha1).2.2.2 dX7_passDay_36 ?_
        refine am_iconst C0 dX7_passDay_39 ci_m1 ?_
        refine am_icmp_ne C0 dX7_passDay_40 (tgt := 60) (by decide) (fun c_3 => ?_) (fun c_3 => ?_)
        · replace h := am_in h c_3
          exact am_sub [0, 1, 2, 3] rfl (k_C_War_passDay_p60 C0 hd F hret a0 a1 x2 x3 σ ha0 ha1 h)
        · replace h := am_ip h c_3
          refine am_iload_n C0 dX7_passDay_43 3 rfl ?_
          refine am_aload_n C0 dX7_passDay_44 0 rfl ?_
          refine am_aload_n C0 dX7_passDay_45 1 rfl ?_
          refine am_iload_n C0 dX7_passDay_46 2 rfl ?_
          refine am_iload C0 dX7_passDay_47 5 rfl ?_
          obtain ⟨q_4, h_q_4, h⟩ := am_bind h
          refine am_callV C0 (m_C_War_press (σ := σ) (Nat.le_refl _) F a0 a1 x2 x5 ha0 ha1 h_q_4) mm_yX7_press ln_RX7_150 (As := fun b => [.ref (b a1), .int (am_bI x2), .int x5]) (fun _ => rfl) (fun _ => rfl) (loC_5_0 ha0).1 (loC_5_0 ha0).2.1 rfl (Nat.le_trans (by decide) hd) rfl (Nat.le_of_ble_eq_true rfl) dX7_passDay_49 ?_
          refine am_iadd C0 dX7_passDay_52 ?_
          obtain ⟨x3_5, e_x3_5, h⟩ := am_lt h
          refine am_top e_x3_5 ?_
          refine am_istore_n C0 dX7_passDay_53 rfl (by decide) rfl (lv' := [(0, .ref (am_b G a0)), (1, .ref (am_b G a1)), (2, .int (am_bI x2)), (3, .int x3_5), (4, .int (am_bI x4)), (5, .int x5)]) rfl ?_
          obtain ⟨x5_6, e_x5_6, h⟩ := am_lt h
          refine am_iinc C0 dX7_passDay_54 5 rfl (by rw [ci_1]; exact e_x5_6) (by decide) rfl (lv' := [(0, .ref (am_b G a0)), (1, .ref (am_b G a1)), (2, .int (am_bI x2)), (3, .int x3_5), (4, .int (am_bI x4)), (5, .int x5_6)]) rfl ?_
          refine am_goto C0 dX7_passDay_57 (tgt := 21) (by decide) ?_
          exact am_sub [0, 1, 2, 3, 4, 5] rfl (ih a0 a1 x2 x3_5 x4 x5_6 q_4.2 ha0 ha1 h)
set_option maxRecDepth 100000 in
set_option maxHeartbeats 4000000 in
theorem k_C_War_passDay {G : am_T} {d0 : Nat} (C0 : am_C G cX7_passDay 6 RX7 LC d0) (hd : 7 ≤ d0) (F : Nat) {q : Int32 × am_SS} (hret : am_retI G cX7_passDay 6 q.1 q.2) (a0 : Nat) (a1 : Nat) (x2 : Bool) (σ : am_SS) (ha0 : LC.1 a0 = 7) (ha1 : LC.1 a1 = 2) (h : C_War_passDay F a0 a1 x2 σ = some q) : am_K G 6 0 [(0, .ref (am_b G a0)), (1, .ref (am_b G a1)), (2, .int (am_bI x2))] [] σ := by
  unfold C_War_passDay at h
  refine am_iconst C0 dX7_passDay_0 ci_0 ?_
  refine am_istore_n C0 dX7_passDay_1 rfl (by decide) rfl (lv' := [(0, .ref (am_b G a0)), (1, .ref (am_b G a1)), (2, .int (am_bI x2)), (3, .int 0)]) rfl ?_
  refine am_aload_n C0 dX7_passDay_2 1 rfl ?_
  refine am_getI C0 ff_RX7_101 (loC_0_13 ha1).1 (loC_0_13 ha1).2.1 (loC_0_13 ha1).2.2.1 (loC_0_13 ha1).2.2.2 dX7_passDay_3 ?_
  refine am_iconst C0 dX7_passDay_6 ci_m1 ?_
  refine am_icmp_ne C0 dX7_passDay_7 (tgt := 94) (by decide) (fun c_1 => ?_) (fun c_1 => ?_)
  · replace h := am_in h c_1
    exact am_sub [1, 3] rfl (k_C_War_passDay_p94 C0 hd F hret a1 0 σ ha1 h)
  · replace h := am_ip h c_1
    refine am_aload_n C0 dX7_passDay_10 0 rfl ?_
    refine am_aload_n C0 dX7_passDay_11 1 rfl ?_
    refine am_iload_n C0 dX7_passDay_12 2 rfl ?_
    obtain ⟨q_2, h_q_2, h⟩ := am_bind h
    refine am_callV C0 (m_C_War_follow (σ := σ) (Nat.le_refl _) F a0 a1 x2 ha0 ha1 h_q_2) mm_yX7_follow ln_RX7_146 (As := fun b => [.ref (b a1), .int (am_bI x2)]) (fun _ => rfl) (fun _ => rfl) (loC_5_0 ha0).1 (loC_5_0 ha0).2.1 rfl (Nat.le_trans (by decide) hd) rfl (Nat.le_of_ble_eq_true rfl) dX7_passDay_13 ?_
    refine am_istore C0 dX7_passDay_16 (by decide) rfl (lv' := [(0, .ref (am_b G a0)), (1, .ref (am_b G a1)), (2, .int (am_bI x2)), (3, .int 0), (4, .int (am_bI q_2.1))]) rfl ?_
    refine am_iconst C0 dX7_passDay_18 ci_0 ?_
    refine am_istore C0 dX7_passDay_19 (by decide) rfl (lv' := [(0, .ref (am_b G a0)), (1, .ref (am_b G a1)), (2, .int (am_bI x2)), (3, .int 0), (4, .int (am_bI q_2.1)), (5, .int 0)]) rfl ?_
    exact am_sub [0, 1, 2, 3, 4, 5] rfl (k_C_War_passDay_l21 C0 hd F hret F a0 a1 x2 0 q_2.1 0 q_2.2 ha0 ha1 h)
set_option maxRecDepth 100000 in
set_option maxHeartbeats 4000000 in
theorem m_C_War_passDay {l : Launch} {d : Nat} {σ : am_SS} {q : Int32 × am_SS} (hd : 7 ≤ d) (F : Nat) (a0 : Nat) (a1 : Nat) (x2 : Bool) (ha0 : LC.1 a0 = 7) (ha1 : LC.1 a1 = 2) (h : C_War_passDay F a0 a1 x2 σ = some q) : am_Met l yX7_passDay cX7_passDay 6 (some .int) d 0 0 LC (fun b => [.ref (b a0), .ref (b a1), .int (am_bI x2)]) σ (some (.int q.1)) q.2 :=
  am_metI (plainFor_of_name (by decide)) rfl (lv := fun b => [(0, .ref (b a0)), (1, .ref (b a1)), (2, .int (am_bI x2))]) (fun _ => rfl) (fun _ => Nat.le_of_ble_eq_true rfl) (fun G C0 _ hret => k_C_War_passDay C0 hd F hret a0 a1 x2 σ ha0 ha1 h)
set_option maxRecDepth 100000 in
set_option maxHeartbeats 4000000 in
theorem k_C_Ways_isPoint {G : am_T} {d0 : Nat} (C0 : am_C G cX8_isPoint 2 RX8 LC d0) (hd : 1 ≤ d0) {σ0 : am_SS} {q : Bool} (hret : am_retI G cX8_isPoint 2 (am_bI q) σ0) (x0 : Int32) (x1 : Int32) (h : C_Ways_isPoint x0 x1 = q) : am_K G 2 0 [(0, .int x0), (1, .int x1)] [] σ0 := by
  unfold C_Ways_isPoint at h
  refine am_iload_n C0 dX8_isPoint_0 0 rfl ?_
  refine am_bipush C0 dX8_isPoint_1 kb_m50 ?_
  refine am_icmp_lt C0 dX8_isPoint_3 (tgt := 28) (by decide) (fun c_1 => ?_) (fun c_1 => ?_)
  · replace h := am_ip h c_1
    refine am_iconst C0 dX8_isPoint_28 ci_0 ?_
    have e := h
    subst e
    exact hret _ _ dX8_isPoint_29
  · replace h := am_in h c_1
    refine am_iload_n C0 dX8_isPoint_6 0 rfl ?_
    refine am_bipush C0 dX8_isPoint_7 kb_50 ?_
    refine am_icmp_gt C0 dX8_isPoint_9 (tgt := 28) (by decide) (fun c_2 => ?_) (fun c_2 => ?_)
    · replace h := am_ip h c_2
      refine am_iconst C0 dX8_isPoint_28 ci_0 ?_
      have e := h
      subst e
      exact hret _ _ dX8_isPoint_29
    · replace h := am_in h c_2
      refine am_iload_n C0 dX8_isPoint_12 1 rfl ?_
      refine am_bipush C0 dX8_isPoint_13 kb_m50 ?_
      refine am_icmp_lt C0 dX8_isPoint_15 (tgt := 28) (by decide) (fun c_3 => ?_) (fun c_3 => ?_)
      · replace h := am_ip h c_3
        refine am_iconst C0 dX8_isPoint_28 ci_0 ?_
        have e := h
        subst e
        exact hret _ _ dX8_isPoint_29
      · replace h := am_in h c_3
        refine am_iload_n C0 dX8_isPoint_18 1 rfl ?_
        refine am_bipush C0 dX8_isPoint_19 kb_50 ?_
        refine am_icmp_gt C0 dX8_isPoint_21 (tgt := 28) (by decide) (fun c_4 => ?_) (fun c_4 => ?_)
        · replace h := am_ip h c_4
          refine am_iconst C0 dX8_isPoint_28 ci_0 ?_
          have e := h
          subst e
          exact hret _ _ dX8_isPoint_29
        · replace h := am_in h c_4
          refine am_iconst C0 dX8_isPoint_24 ci_1 ?_
          refine am_goto C0 dX8_isPoint_25 (tgt := 29) (by decide) ?_
          have e := h
          subst e
          exact hret _ _ dX8_isPoint_29
set_option maxRecDepth 100000 in
set_option maxHeartbeats 4000000 in
theorem m_C_Ways_isPoint {l : Launch} {d : Nat} {σ : am_SS} {q : Bool} (hd : 1 ≤ d) (x0 : Int32) (x1 : Int32) (h : C_Ways_isPoint x0 x1 = q) : am_Met l yX8_isPoint cX8_isPoint 2 (some .boolean) d 0 0 LC (fun b => [.int x0, .int x1]) σ (some (.int (am_bI q))) σ :=
  am_metI (plainFor_of_name (by decide)) (am_bI_nr _) (lv := fun b => [(0, .int x0), (1, .int x1)]) (fun _ => rfl) (fun _ => Nat.le_of_ble_eq_true rfl) (fun G C0 _ hret => k_C_Ways_isPoint C0 hd hret x0 x1  h)
set_option maxRecDepth 100000 in
set_option maxHeartbeats 4000000 in
theorem k_C_Ways_isBetween {G : am_T} {d0 : Nat} (C0 : am_C G cX8_isBetween 3 RX8 LC d0) (hd : 2 ≤ d0) {σ0 : am_SS} {q : Bool} (hret : am_retI G cX8_isBetween 3 (am_bI q) σ0) (x0 : Int32) (x1 : Int32) (x2 : Int32) (h : C_Ways_isBetween x0 x1 x2 = q) : am_K G 3 0 [(0, .int x0), (1, .int x1), (2, .int x2)] [] σ0 := by
  unfold C_Ways_isBetween at h
  refine am_iload_n C0 dX8_isBetween_0 0 rfl ?_
  refine am_iload_n C0 dX8_isBetween_1 1 rfl ?_
  refine am_iload_n C0 dX8_isBetween_2 2 rfl ?_
  refine am_callS C0 (m_J_min (σ := σ0) (Nat.le_refl _) x1 x2  rfl) mm_yJ9_min_7cf53 ln_RX8_23 (fun _ => rfl) (Nat.le_trans (by decide) hd) rfl (Nat.le_of_ble_eq_true rfl) dX8_isBetween_3 ?_
  refine am_icmp_lt C0 dX8_isBetween_6 (tgt := 22) (by decide) (fun c_2 => ?_) (fun c_2 => ?_)
  · replace h := am_ip h c_2
    refine am_iconst C0 dX8_isBetween_22 ci_0 ?_
    have e := h
    subst e
    exact hret _ _ dX8_isBetween_23
  · replace h := am_in h c_2
    refine am_iload_n C0 dX8_isBetween_9 0 rfl ?_
    refine am_iload_n C0 dX8_isBetween_10 1 rfl ?_
    refine am_iload_n C0 dX8_isBetween_11 2 rfl ?_
    refine am_callS C0 (m_J_max (σ := σ0) (Nat.le_refl _) x1 x2  rfl) mm_yJ9_max_7cf53 ln_RX8_28 (fun _ => rfl) (Nat.le_trans (by decide) hd) rfl (Nat.le_of_ble_eq_true rfl) dX8_isBetween_12 ?_
    refine am_icmp_gt C0 dX8_isBetween_15 (tgt := 22) (by decide) (fun c_4 => ?_) (fun c_4 => ?_)
    · replace h := am_ip h c_4
      refine am_iconst C0 dX8_isBetween_22 ci_0 ?_
      have e := h
      subst e
      exact hret _ _ dX8_isBetween_23
    · replace h := am_in h c_4
      refine am_iconst C0 dX8_isBetween_18 ci_1 ?_
      refine am_goto C0 dX8_isBetween_19 (tgt := 23) (by decide) ?_
      have e := h
      subst e
      exact hret _ _ dX8_isBetween_23
set_option maxRecDepth 100000 in
set_option maxHeartbeats 4000000 in
theorem m_C_Ways_isBetween {l : Launch} {d : Nat} {σ : am_SS} {q : Bool} (hd : 2 ≤ d) (x0 : Int32) (x1 : Int32) (x2 : Int32) (h : C_Ways_isBetween x0 x1 x2 = q) : am_Met l yX8_isBetween cX8_isBetween 3 (some .boolean) d 0 0 LC (fun b => [.int x0, .int x1, .int x2]) σ (some (.int (am_bI q))) σ :=
  am_metI (plainFor_of_name (by decide)) (am_bI_nr _) (lv := fun b => [(0, .int x0), (1, .int x1), (2, .int x2)]) (fun _ => rfl) (fun _ => Nat.le_of_ble_eq_true rfl) (fun G C0 _ hret => k_C_Ways_isBetween C0 hd hret x0 x1 x2  h)
set_option maxRecDepth 100000 in
set_option maxHeartbeats 4000000 in
theorem k_C_Ways_meets_p189 {G : am_T} {d0 : Nat} (C0 : am_C G cX8_meets 12 RX8 LC d0) (hd : 3 ≤ d0) (rec5 : Nat → Int32 → Int32 → Bool → Int32 → am_SS → Option Int32) (F : Nat) {σ : am_SS} {q : Int32} (hret : am_retI G cX8_meets 12 q σ) (hrec5 : ∀ (a0 : Nat) (x1 : Int32) (x2 : Int32) (x3 : Bool) (x4 : Int32), LC.1 a0 = 6 → rec5 a0 x1 x2 x3 x4 σ = some q → am_K G 12 5 [(0, .ref (am_b G a0)), (1, .int x1), (2, .int x2), (3, .int (am_bI x3)), (4, .int x4)] [] σ) (a0 : Nat) (x1 : Int32) (x2 : Int32) (x3 : Bool) (x4 : Int32) (ha0 : LC.1 a0 = 6) (h : C_Ways_meets_p189 rec5 F a0 x1 x2 x3 x4 σ = some q) : am_K G 12 189 [(0, .ref (am_b G a0)), (1, .int x1), (2, .int x2), (3, .int (am_bI x3)), (4, .int x4)] [] σ := by
  unfold C_Ways_meets_p189 at h
  obtain ⟨x4_1, e_x4_1, h⟩ := am_lt h
  refine am_iinc C0 dX8_meets_189 4 rfl (by rw [ci_1]; exact e_x4_1) (by decide) rfl (lv' := [(0, .ref (am_b G a0)), (1, .int x1), (2, .int x2), (3, .int (am_bI x3)), (4, .int x4_1)]) rfl ?_
  refine am_goto C0 dX8_meets_192 (tgt := 5) (by decide) ?_
  exact am_sub [0, 1, 2, 3, 4] rfl (hrec5 a0 x1 x2 x3 x4_1 ha0 h)
set_option maxRecDepth 100000 in
set_option maxHeartbeats 4000000 in
theorem k_C_Ways_meets_p188 {G : am_T} {d0 : Nat} (C0 : am_C G cX8_meets 12 RX8 LC d0) (hd : 3 ≤ d0) (rec5 : Nat → Int32 → Int32 → Bool → Int32 → am_SS → Option Int32) (F : Nat) {σ : am_SS} {q : Int32} (hret : am_retI G cX8_meets 12 q σ) (hrec5 : ∀ (a0 : Nat) (x1 : Int32) (x2 : Int32) (x3 : Bool) (x4 : Int32), LC.1 a0 = 6 → rec5 a0 x1 x2 x3 x4 σ = some q → am_K G 12 5 [(0, .ref (am_b G a0)), (1, .int x1), (2, .int x2), (3, .int (am_bI x3)), (4, .int x4)] [] σ) (a0 : Nat) (x1 : Int32) (x2 : Int32) (x4 : Int32) (s0 : Bool) (ha0 : LC.1 a0 = 6) (h : C_Ways_meets_p188 rec5 F a0 x1 x2 x4 s0 σ = some q) : am_K G 12 188 [(0, .ref (am_b G a0)), (1, .int x1), (2, .int x2), (4, .int x4)] [.int (am_bI s0)] σ := by
  unfold C_Ways_meets_p188 at h
  refine am_istore_n C0 dX8_meets_188 rfl (by decide) rfl (lv' := [(0, .ref (am_b G a0)), (1, .int x1), (2, .int x2), (4, .int x4), (3, .int (am_bI s0))]) rfl ?_
  exact am_sub [0, 1, 2, 4, 3] rfl (k_C_Ways_meets_p189 C0 hd rec5 F hret hrec5 a0 x1 x2 s0 x4 ha0 h)
set_option maxRecDepth 100000 in
set_option maxHeartbeats 4000000 in
theorem k_C_Ways_meets_p179 {G : am_T} {d0 : Nat} (C0 : am_C G cX8_meets 12 RX8 LC d0) (hd : 3 ≤ d0) (rec5 : Nat → Int32 → Int32 → Bool → Int32 → am_SS → Option Int32) (F : Nat) {σ : am_SS} {q : Int32} (hret : am_retI G cX8_meets 12 q σ) (hrec5 : ∀ (a0 : Nat) (x1 : Int32) (x2 : Int32) (x3 : Bool) (x4 : Int32), LC.1 a0 = 6 → rec5 a0 x1 x2 x3 x4 σ = some q → am_K G 12 5 [(0, .ref (am_b G a0)), (1, .int x1), (2, .int x2), (3, .int (am_bI x3)), (4, .int x4)] [] σ) (a0 : Nat) (x1 : Int32) (x2 : Int32) (x3 : Bool) (x4 : Int32) (ha0 : LC.1 a0 = 6) (h : C_Ways_meets_p179 rec5 F a0 x1 x2 x3 x4 σ = some q) : am_K G 12 179 [(0, .ref (am_b G a0)), (1, .int x1), (2, .int x2), (3, .int (am_bI x3)), (4, .int x4)] [] σ := by
  unfold C_Ways_meets_p179 at h
  refine am_iload_n C0 dX8_meets_179 3 rfl ?_
  refine am_ifB_ne C0 dX8_meets_180 (tgt := 187) (by decide) (fun c_1 => ?_) (fun c_1 => ?_)
  · replace h := am_ip h c_1
    refine am_iconst C0 dX8_meets_187 ci_0 ?_
    exact am_sub [0, 1, 2, 4] rfl (k_C_Ways_meets_p188 C0 hd rec5 F hret hrec5 a0 x1 x2 x4 false ha0 h)
  · replace h := am_in h c_1
    refine am_iconst C0 dX8_meets_183 ci_1 ?_
    refine am_goto C0 dX8_meets_184 (tgt := 188) (by decide) ?_
    exact am_sub [0, 1, 2, 4] rfl (k_C_Ways_meets_p188 C0 hd rec5 F hret hrec5 a0 x1 x2 x4 true ha0 h)
set_option maxRecDepth 100000 in
set_option maxHeartbeats 4000000 in
theorem k_C_Ways_meets_p152 {G : am_T} {d0 : Nat} (C0 : am_C G cX8_meets 12 RX8 LC d0) (hd : 3 ≤ d0) (rec5 : Nat → Int32 → Int32 → Bool → Int32 → am_SS → Option Int32) (F : Nat) {σ : am_SS} {q : Int32} (hret : am_retI G cX8_meets 12 q σ) (hrec5 : ∀ (a0 : Nat) (x1 : Int32) (x2 : Int32) (x3 : Bool) (x4 : Int32), LC.1 a0 = 6 → rec5 a0 x1 x2 x3 x4 σ = some q → am_K G 12 5 [(0, .ref (am_b G a0)), (1, .int x1), (2, .int x2), (3, .int (am_bI x3)), (4, .int x4)] [] σ) (a0 : Nat) (x1 : Int32) (x2 : Int32) (x3 : Bool) (x4 : Int32) (x7 : Int32) (x9 : Int32) (x10 : Int32) (s0 : Bool) (ha0 : LC.1 a0 = 6) (h : C_Ways_meets_p152 rec5 F a0 x1 x2 x3 x4 x7 x9 x10 s0 σ = some q) : am_K G 12 152 [(0, .ref (am_b G a0)), (1, .int x1), (2, .int x2), (3, .int (am_bI x3)), (4, .int x4), (7, .int x7), (9, .int x9), (10, .int x10)] [.int (am_bI s0)] σ := by
  unfold C_Ways_meets_p152 at h
  refine am_istore C0 dX8_meets_152 (by decide) rfl (lv' := [(0, .ref (am_b G a0)), (1, .int x1), (2, .int x2), (3, .int (am_bI x3)), (4, .int x4), (7, .int x7), (9, .int x9), (10, .int x10), (11, .int (am_bI s0))]) rfl ?_
  refine am_iload C0 dX8_meets_154 8 rfl ?_
  refine am_ifB_eq C0 dX8_meets_156 (tgt := 189) (by decide) (fun c_1 => ?_) (fun c_1 => ?_)
  · replace h := am_in h c_1
    exact am_sub [0, 1, 2, 3, 4] rfl (k_C_Ways_meets_p189 C0 hd rec5 F hret hrec5 a0 x1 x2 x3 x4 ha0 h)
  · replace h := am_ip h c_1
    refine am_iload C0 dX8_meets_159 5 rfl ?_
    refine am_iload C0 dX8_meets_161 6 rfl ?_
    refine am_icmp_ge C0 dX8_meets_163 (tgt := 174) (by decide) (fun c_2 => ?_) (fun c_2 => ?_)
    · replace h := am_in h c_2
      refine am_iload C0 dX8_meets_174 7 rfl ?_
      refine am_if_ge C0 dX8_meets_176 (tgt := 189) (by decide) (fun c_3 => ?_) (fun c_3 => ?_)
      · replace h := am_in h c_3
        exact am_sub [0, 1, 2, 3, 4] rfl (k_C_Ways_meets_p189 C0 hd rec5 F hret hrec5 a0 x1 x2 x3 x4 ha0 h)
      · replace h := am_ip h c_3
        exact am_sub [0, 1, 2, 3, 4] rfl (k_C_Ways_meets_p179 C0 hd rec5 F hret hrec5 a0 x1 x2 x3 x4 ha0 h)
    · replace h := am_ip h c_2
      refine am_iload C0 dX8_meets_166 7 rfl ?_
      refine am_if_le C0 dX8_meets_168 (tgt := 189) (by decide) (fun c_4 => ?_) (fun c_4 => ?_)
      · replace h := am_in h c_4
        exact am_sub [0, 1, 2, 3, 4] rfl (k_C_Ways_meets_p189 C0 hd rec5 F hret hrec5 a0 x1 x2 x3 x4 ha0 h)
      · replace h := am_ip h c_4
        refine am_goto C0 dX8_meets_171 (tgt := 179) (by decide) ?_
        exact am_sub [0, 1, 2, 3, 4] rfl (k_C_Ways_meets_p179 C0 hd rec5 F hret hrec5 a0 x1 x2 x3 x4 ha0 h)
set_option maxRecDepth 100000 in
set_option maxHeartbeats 4000000 in
theorem k_C_Ways_meets_p151 {G : am_T} {d0 : Nat} (C0 : am_C G cX8_meets 12 RX8 LC d0) (hd : 3 ≤ d0) (rec5 : Nat → Int32 → Int32 → Bool → Int32 → am_SS → Option Int32) (F : Nat) {σ : am_SS} {q : Int32} (hret : am_retI G cX8_meets 12 q σ) (hrec5 : ∀ (a0 : Nat) (x1 : Int32) (x2 : Int32) (x3 : Bool) (x4 : Int32), LC.1 a0 = 6 → rec5 a0 x1 x2 x3 x4 σ = some q → am_K G 12 5 [(0, .ref (am_b G a0)), (1, .int x1), (2, .int x2), (3, .int (am_bI x3)), (4, .int x4)] [] σ) (a0 : Nat) (x1 : Int32) (x2 : Int32) (x3 : Bool) (x4 : Int32) (x7 : Int32) (x9 : Int32) (x10 : Int32) (ha0 : LC.1 a0 = 6) (h : C_Ways_meets_p151 rec5 F a0 x1 x2 x3 x4 x7 x9 x10 σ = some q) : am_K G 12 151 [(0, .ref (am_b G a0)), (1, .int x1), (2, .int x2), (3, .int (am_bI x3)), (4, .int x4), (7, .int x7), (9, .int x9), (10, .int x10)] [] σ := by
  unfold C_Ways_meets_p151 at h
  refine am_iconst C0 dX8_meets_151 ci_0 ?_
  exact am_sub [0, 1, 2, 3, 4, 5, 6, 7] rfl (k_C_Ways_meets_p152 C0 hd rec5 F hret hrec5 a0 x1 x2 x3 x4 x7 x9 x10 false ha0 h)
set_option maxRecDepth 100000 in
set_option maxHeartbeats 4000000 in
theorem k_C_Ways_meets_p147 {G : am_T} {d0 : Nat} (C0 : am_C G cX8_meets 12 RX8 LC d0) (hd : 3 ≤ d0) (rec5 : Nat → Int32 → Int32 → Bool → Int32 → am_SS → Option Int32) (F : Nat) {σ : am_SS} {q : Int32} (hret : am_retI G cX8_meets 12 q σ) (hrec5 : ∀ (a0 : Nat) (x1 : Int32) (x2 : Int32) (x3 : Bool) (x4 : Int32), LC.1 a0 = 6 → rec5 a0 x1 x2 x3 x4 σ = some q → am_K G 12 5 [(0, .ref (am_b G a0)), (1, .int x1), (2, .int x2), (3, .int (am_bI x3)), (4, .int x4)] [] σ) (a0 : Nat) (x1 : Int32) (x2 : Int32) (x3 : Bool) (x4 : Int32) (x7 : Int32) (x9 : Int32) (x10 : Int32) (ha0 : LC.1 a0 = 6) (h : C_Ways_meets_p147 rec5 F a0 x1 x2 x3 x4 x7 x9 x10 σ = some q) : am_K G 12 147 [(0, .ref (am_b G a0)), (1, .int x1), (2, .int x2), (3, .int (am_bI x3)), (4, .int x4), (7, .int x7), (9, .int x9), (10, .int x10)] [] σ := by
  unfold C_Ways_meets_p147 at h
  refine am_iconst C0 dX8_meets_147 ci_1 ?_
  refine am_goto C0 dX8_meets_148 (tgt := 152) (by decide) ?_
  exact am_sub [0, 1, 2, 3, 4, 5, 6, 7] rfl (k_C_Ways_meets_p152 C0 hd rec5 F hret hrec5 a0 x1 x2 x3 x4 x7 x9 x10 true ha0 h)
set_option maxRecDepth 100000 in
set_option maxHeartbeats 4000000 in
theorem k_C_Ways_meets_p135 {G : am_T} {d0 : Nat} (C0 : am_C G cX8_meets 12 RX8 LC d0) (hd : 3 ≤ d0) (rec5 : Nat → Int32 → Int32 → Bool → Int32 → am_SS → Option Int32) (F : Nat) {σ : am_SS} {q : Int32} (hret : am_retI G cX8_meets 12 q σ) (hrec5 : ∀ (a0 : Nat) (x1 : Int32) (x2 : Int32) (x3 : Bool) (x4 : Int32), LC.1 a0 = 6 → rec5 a0 x1 x2 x3 x4 σ = some q → am_K G 12 5 [(0, .ref (am_b G a0)), (1, .int x1), (2, .int x2), (3, .int (am_bI x3)), (4, .int x4)] [] σ) (a0 : Nat) (x1 : Int32) (x2 : Int32) (x3 : Bool) (x4 : Int32) (x7 : Int32) (x9 : Int32) (x10 : Int32) (ha0 : LC.1 a0 = 6) (h : C_Ways_meets_p135 rec5 F a0 x1 x2 x3 x4 x7 x9 x10 σ = some q) : am_K G 12 135 [(0, .ref (am_b G a0)), (1, .int x1), (2, .int x2), (3, .int (am_bI x3)), (4, .int x4), (7, .int x7), (9, .int x9), (10, .int x10)] [] σ := by
  unfold C_Ways_meets_p135 at h
  refine am_iload C0 dX8_meets_135 6 rfl ?_
  refine am_iload_n C0 dX8_meets_137 2 rfl ?_
  refine am_icmp_gt C0 dX8_meets_138 (tgt := 151) (by decide) (fun c_1 => ?_) (fun c_1 => ?_)
  · replace h := am_ip h c_1
    exact am_sub [0, 1, 2, 3, 4, 5, 6, 7] rfl (k_C_Ways_meets_p151 C0 hd rec5 F hret hrec5 a0 x1 x2 x3 x4 x7 x9 x10 ha0 h)
  · replace h := am_in h c_1
    refine am_iload_n C0 dX8_meets_141 2 rfl ?_
    refine am_iload C0 dX8_meets_142 5 rfl ?_
    refine am_icmp_ge C0 dX8_meets_144 (tgt := 151) (by decide) (fun c_2 => ?_) (fun c_2 => ?_)
    · replace h := am_in h c_2
      exact am_sub [0, 1, 2, 3, 4, 5, 6, 7] rfl (k_C_Ways_meets_p151 C0 hd rec5 F hret hrec5 a0 x1 x2 x3 x4 x7 x9 x10 ha0 h)
    · replace h := am_ip h c_2
      exact am_sub [0, 1, 2, 3, 4, 5, 6, 7] rfl (k_C_Ways_meets_p147 C0 hd rec5 F hret hrec5 a0 x1 x2 x3 x4 x7 x9 x10 ha0 h)
set_option maxRecDepth 100000 in
set_option maxHeartbeats 4000000 in
theorem k_C_Ways_meets_p123 {G : am_T} {d0 : Nat} (C0 : am_C G cX8_meets 12 RX8 LC d0) (hd : 3 ≤ d0) (rec5 : Nat → Int32 → Int32 → Bool → Int32 → am_SS → Option Int32) (F : Nat) {σ : am_SS} {q : Int32} (hret : am_retI G cX8_meets 12 q σ) (hrec5 : ∀ (a0 : Nat) (x1 : Int32) (x2 : Int32) (x3 : Bool) (x4 : Int32), LC.1 a0 = 6 → rec5 a0 x1 x2 x3 x4 σ = some q → am_K G 12 5 [(0, .ref (am_b G a0)), (1, .int x1), (2, .int x2), (3, .int (am_bI x3)), (4, .int x4)] [] σ) (a0 : Nat) (x1 : Int32) (x2 : Int32) (x3 : Bool) (x4 : Int32) (x7 : Int32) (x9 : Int32) (x10 : Int32) (ha0 : LC.1 a0 = 6) (h : C_Ways_meets_p123 rec5 F a0 x1 x2 x3 x4 x7 x9 x10 σ = some q) : am_K G 12 123 [(0, .ref (am_b G a0)), (1, .int x1), (2, .int x2), (3, .int (am_bI x3)), (4, .int x4), (7, .int x7), (9, .int x9), (10, .int x10)] [] σ := by
  unfold C_Ways_meets_p123 at h
  refine am_iload C0 dX8_meets_123 5 rfl ?_
  refine am_iload_n C0 dX8_meets_125 2 rfl ?_
  refine am_icmp_gt C0 dX8_meets_126 (tgt := 135) (by decide) (fun c_1 => ?_) (fun c_1 => ?_)
  · replace h := am_ip h c_1
    exact am_sub [0, 1, 2, 3, 4, 5, 6, 7] rfl (k_C_Ways_meets_p135 C0 hd rec5 F hret hrec5 a0 x1 x2 x3 x4 x7 x9 x10 ha0 h)
  · replace h := am_in h c_1
    refine am_iload_n C0 dX8_meets_129 2 rfl ?_
    refine am_iload C0 dX8_meets_130 6 rfl ?_
    refine am_icmp_lt C0 dX8_meets_132 (tgt := 147) (by decide) (fun c_2 => ?_) (fun c_2 => ?_)
    · replace h := am_ip h c_2
      exact am_sub [0, 1, 2, 3, 4, 5, 6, 7] rfl (k_C_Ways_meets_p147 C0 hd rec5 F hret hrec5 a0 x1 x2 x3 x4 x7 x9 x10 ha0 h)
    · replace h := am_in h c_2
      exact am_sub [0, 1, 2, 3, 4, 5, 6, 7] rfl (k_C_Ways_meets_p135 C0 hd rec5 F hret hrec5 a0 x1 x2 x3 x4 x7 x9 x10 ha0 h)
set_option maxRecDepth 100000 in
set_option maxHeartbeats 4000000 in
theorem k_C_Ways_meets_p33 {G : am_T} {d0 : Nat} (C0 : am_C G cX8_meets 12 RX8 LC d0) (hd : 3 ≤ d0) (rec5 : Nat → Int32 → Int32 → Bool → Int32 → am_SS → Option Int32) (F : Nat) {σ : am_SS} {q : Int32} (hret : am_retI G cX8_meets 12 q σ) (hrec5 : ∀ (a0 : Nat) (x1 : Int32) (x2 : Int32) (x3 : Bool) (x4 : Int32), LC.1 a0 = 6 → rec5 a0 x1 x2 x3 x4 σ = some q → am_K G 12 5 [(0, .ref (am_b G a0)), (1, .int x1), (2, .int x2), (3, .int (am_bI x3)), (4, .int x4)] [] σ) (a0 : Nat) (x1 : Int32) (x2 : Int32) (x3 : Bool) (x4 : Int32) (s0 : Int32) (ha0 : LC.1 a0 = 6) (h : C_Ways_meets_p33 rec5 F a0 x1 x2 x3 x4 s0 σ = some q) : am_K G 12 33 [(0, .ref (am_b G a0)), (1, .int x1), (2, .int x2), (3, .int (am_bI x3)), (4, .int x4)] [.int s0] σ := by
  unfold C_Ways_meets_p33 at h
  refine am_istore C0 dX8_meets_33 (by decide) rfl (lv' := [(0, .ref (am_b G a0)), (1, .int x1), (2, .int x2), (3, .int (am_bI x3)), (4, .int x4), (5, .int s0)]) rfl ?_
  refine am_aload_n C0 dX8_meets_35 0 rfl ?_
  refine am_iload C0 dX8_meets_36 4 rfl ?_
  refine am_iconst C0 dX8_meets_38 ci_0 ?_
  obtain ⟨q_1, h_q_1, h⟩ := am_bind h
  refine am_callV C0 (m_C_Table_at (σ := σ) (Nat.le_refl _) a0 x4 0 ha0 h_q_1) mm_yX6_at ln_RX8_13 (As := fun b => [.int x4, .int 0]) (fun _ => rfl) (fun _ => rfl) (loC_4_0 ha0).1 (loC_4_0 ha0).2.1 rfl (Nat.le_trans (by decide) hd) rfl (Nat.le_of_ble_eq_true rfl) dX8_meets_39 ?_
  refine am_istore C0 dX8_meets_42 (by decide) rfl (lv' := [(0, .ref (am_b G a0)), (1, .int x1), (2, .int x2), (3, .int (am_bI x3)), (4, .int x4), (5, .int s0), (6, .int q_1)]) rfl ?_
  refine am_aload_n C0 dX8_meets_44 0 rfl ?_
  refine am_iload C0 dX8_meets_45 4 rfl ?_
  refine am_iconst C0 dX8_meets_47 ci_1 ?_
  obtain ⟨q_2, h_q_2, h⟩ := am_bind h
  refine am_callV C0 (m_C_Table_at (σ := σ) (Nat.le_refl _) a0 x4 1 ha0 h_q_2) mm_yX6_at ln_RX8_13 (As := fun b => [.int x4, .int 1]) (fun _ => rfl) (fun _ => rfl) (loC_4_0 ha0).1 (loC_4_0 ha0).2.1 rfl (Nat.le_trans (by decide) hd) rfl (Nat.le_of_ble_eq_true rfl) dX8_meets_48 ?_
  refine am_istore C0 dX8_meets_51 (by decide) rfl (lv' := [(0, .ref (am_b G a0)), (1, .int x1), (2, .int x2), (3, .int (am_bI x3)), (4, .int x4), (5, .int s0), (6, .int q_1), (7, .int q_2)]) rfl ?_
  refine am_aload_n C0 dX8_meets_53 0 rfl ?_
  refine am_iload C0 dX8_meets_54 5 rfl ?_
  refine am_iconst C0 dX8_meets_56 ci_0 ?_
  obtain ⟨q_3, h_q_3, h⟩ := am_bind h
  refine am_callV C0 (m_C_Table_at (σ := σ) (Nat.le_refl _) a0 s0 0 ha0 h_q_3) mm_yX6_at ln_RX8_13 (As := fun b => [.int s0, .int 0]) (fun _ => rfl) (fun _ => rfl) (loC_4_0 ha0).1 (loC_4_0 ha0).2.1 rfl (Nat.le_trans (by decide) hd) rfl (Nat.le_of_ble_eq_true rfl) dX8_meets_57 ?_
  refine am_istore C0 dX8_meets_60 (by decide) rfl (lv' := [(0, .ref (am_b G a0)), (1, .int x1), (2, .int x2), (3, .int (am_bI x3)), (4, .int x4), (5, .int s0), (6, .int q_1), (7, .int q_2), (8, .int q_3)]) rfl ?_
  refine am_aload_n C0 dX8_meets_62 0 rfl ?_
  refine am_iload C0 dX8_meets_63 5 rfl ?_
  refine am_iconst C0 dX8_meets_65 ci_1 ?_
  obtain ⟨q_4, h_q_4, h⟩ := am_bind h
  refine am_callV C0 (m_C_Table_at (σ := σ) (Nat.le_refl _) a0 s0 1 ha0 h_q_4) mm_yX6_at ln_RX8_13 (As := fun b => [.int s0, .int 1]) (fun _ => rfl) (fun _ => rfl) (loC_4_0 ha0).1 (loC_4_0 ha0).2.1 rfl (Nat.le_trans (by decide) hd) rfl (Nat.le_of_ble_eq_true rfl) dX8_meets_66 ?_
  refine am_istore C0 dX8_meets_69 (by decide) rfl (lv' := [(0, .ref (am_b G a0)), (1, .int x1), (2, .int x2), (3, .int (am_bI x3)), (4, .int x4), (5, .int s0), (6, .int q_1), (7, .int q_2), (8, .int q_3), (9, .int q_4)]) rfl ?_
  refine am_iload C0 dX8_meets_71 8 rfl ?_
  refine am_iload C0 dX8_meets_73 6 rfl ?_
  refine am_isub C0 dX8_meets_75 ?_
  refine am_iload_n C0 dX8_meets_76 2 rfl ?_
  refine am_iload C0 dX8_meets_77 7 rfl ?_
  refine am_isub C0 dX8_meets_79 ?_
  refine am_imul C0 dX8_meets_80 ?_
  refine am_iload_n C0 dX8_meets_81 1 rfl ?_
  refine am_iload C0 dX8_meets_82 6 rfl ?_
  refine am_isub C0 dX8_meets_84 ?_
  refine am_iload C0 dX8_meets_85 9 rfl ?_
  refine am_iload C0 dX8_meets_87 7 rfl ?_
  refine am_isub C0 dX8_meets_89 ?_
  refine am_imul C0 dX8_meets_90 ?_
  refine am_isub C0 dX8_meets_91 ?_
  obtain ⟨x10_5, e_x10_5, h⟩ := am_lt h
  refine am_top e_x10_5 ?_
  refine am_istore C0 dX8_meets_92 (by decide) rfl (lv' := [(0, .ref (am_b G a0)), (1, .int x1), (2, .int x2), (3, .int (am_bI x3)), (4, .int x4), (5, .int s0), (6, .int q_1), (7, .int q_2), (8, .int q_3), (9, .int q_4), (10, .int x10_5)]) rfl ?_
  refine am_iload C0 dX8_meets_94 10 rfl ?_
  refine am_if_ne C0 dX8_meets_96 (tgt := 123) (by decide) (fun c_6 => ?_) (fun c_6 => ?_)
  · replace h := am_in h c_6
    exact am_sub [0, 1, 2, 3, 4, 7, 9, 10] rfl (k_C_Ways_meets_p123 C0 hd rec5 F hret hrec5 a0 x1 x2 x3 x4 q_2 q_4 x10_5 ha0 h)
  · replace h := am_ip h c_6
    refine am_iload_n C0 dX8_meets_99 1 rfl ?_
    refine am_iload C0 dX8_meets_100 6 rfl ?_
    refine am_iload C0 dX8_meets_102 8 rfl ?_
    refine am_callS C0 (m_C_Ways_isBetween (σ := σ) (Nat.le_refl _) x1 q_1 q_3  rfl) mm_yX8_isBetween ln_RX8_17 (fun _ => rfl) (Nat.le_trans (by decide) hd) rfl (Nat.le_of_ble_eq_true rfl) dX8_meets_104 ?_
    refine am_ifB_eq C0 dX8_meets_107 (tgt := 123) (by decide) (fun c_8 => ?_) (fun c_8 => ?_)
    · replace h := am_in h c_8
      exact am_sub [0, 1, 2, 3, 4, 7, 9, 10] rfl (k_C_Ways_meets_p123 C0 hd rec5 F hret hrec5 a0 x1 x2 x3 x4 q_2 q_4 x10_5 ha0 h)
    · replace h := am_ip h c_8
      refine am_iload_n C0 dX8_meets_110 2 rfl ?_
      refine am_iload C0 dX8_meets_111 7 rfl ?_
      refine am_iload C0 dX8_meets_113 9 rfl ?_
      refine am_callS C0 (m_C_Ways_isBetween (σ := σ) (Nat.le_refl _) x2 q_2 q_4  rfl) mm_yX8_isBetween ln_RX8_17 (fun _ => rfl) (Nat.le_trans (by decide) hd) rfl (Nat.le_of_ble_eq_true rfl) dX8_meets_115 ?_
      refine am_ifB_eq C0 dX8_meets_118 (tgt := 123) (by decide) (fun c_10 => ?_) (fun c_10 => ?_)
      · replace h := am_in h c_10
        exact am_sub [0, 1, 2, 3, 4, 7, 9, 10] rfl (k_C_Ways_meets_p123 C0 hd rec5 F hret hrec5 a0 x1 x2 x3 x4 q_2 q_4 x10_5 ha0 h)
      · replace h := am_ip h c_10
        refine am_iconst C0 dX8_meets_121 ci_2 ?_
        have e := Option.some.inj h
        subst e
        exact hret _ _ dX8_meets_122
set_option maxRecDepth 100000 in
set_option maxHeartbeats 4000000 in
theorem k_C_Ways_meets_l5 {G : am_T} {d0 : Nat} (C0 : am_C G cX8_meets 12 RX8 LC d0) (hd : 3 ≤ d0) (F : Nat) {σ : am_SS} {q : Int32} (hret : am_retI G cX8_meets 12 q σ) : ∀ (n : Nat) (a0 : Nat) (x1 : Int32) (x2 : Int32) (x3 : Bool) (x4 : Int32) (ha0 : LC.1 a0 = 6) (h : C_Ways_meets_l5 F n a0 x1 x2 x3 x4 σ = some q), am_K G 12 5 [(0, .ref (am_b G a0)), (1, .int x1), (2, .int x2), (3, .int (am_bI x3)), (4, .int x4)] [] σ := by
  intro n
  induction n with
  | zero =>
    intro a0 x1 x2 x3 x4 ha0 h
    rw [C_Ways_meets_l5] at h
    cases h
  | succ n ih =>
    intro a0 x1 x2 x3 x4 ha0 h
    rw [C_Ways_meets_l5] at h
    refine am_iload C0 dX8_meets_5 4 rfl ?_
    refine am_aload_n C0 dX8_meets_7 0 rfl ?_
    refine am_getI C0 ff_RX8_7 (loC_4_2 ha0).1 (loC_4_2 ha0).2.1 (loC_4_2 ha0).2.2.1 (loC_4_2 ha0).2.2.2 dX8_meets_8 ?_
    refine am_icmp_ge C0 dX8_meets_11 (tgt := 195) (by decide) (fun c_1 => ?_) (fun c_1 => ?_)
    · replace h := am_in h c_1
      refine am_iload_n C0 dX8_meets_195 3 rfl ?_
      refine am_ifB_eq C0 dX8_meets_196 (tgt := 203) (by decide) (fun c_2 => ?_) (fun c_2 => ?_)
      · replace h := am_in h c_2
        refine am_iconst C0 dX8_meets_203 ci_0 ?_
        have e := Option.some.inj h
        subst e
        exact hret _ _ dX8_meets_204
      · replace h := am_ip h c_2
        refine am_iconst C0 dX8_meets_199 ci_1 ?_
        refine am_goto C0 dX8_meets_200 (tgt := 204) (by decide) ?_
        have e := Option.some.inj h
        subst e
        exact hret _ _ dX8_meets_204
    · replace h := am_ip h c_1
      refine am_iload C0 dX8_meets_14 4 rfl ?_
      refine am_iconst C0 dX8_meets_16 ci_1 ?_
      refine am_iadd C0 dX8_meets_17 ?_
      refine am_aload_n C0 dX8_meets_18 0 rfl ?_
      refine am_getI C0 ff_RX8_7 (loC_4_2 ha0).1 (loC_4_2 ha0).2.1 (loC_4_2 ha0).2.2.1 (loC_4_2 ha0).2.2.2 dX8_meets_19 ?_
      refine am_icmp_ge C0 dX8_meets_22 (tgt := 32) (by decide) (fun c_3 => ?_) (fun c_3 => ?_)
      · replace h := am_in h c_3
        refine am_iconst C0 dX8_meets_32 ci_0 ?_
        exact am_sub [0, 1, 2, 3, 4] rfl (k_C_Ways_meets_p33 C0 hd _ F hret (fun z0 z1 z2 z3 z4 zh0 z => ih z0 z1 z2 z3 z4 zh0 z) a0 x1 x2 x3 x4 0 ha0 h)
      · replace h := am_ip h c_3
        refine am_iload C0 dX8_meets_25 4 rfl ?_
        refine am_iconst C0 dX8_meets_27 ci_1 ?_
        refine am_iadd C0 dX8_meets_28 ?_
        refine am_goto C0 dX8_meets_29 (tgt := 33) (by decide) ?_
        exact am_sub [0, 1, 2, 3, 4] rfl (k_C_Ways_meets_p33 C0 hd _ F hret (fun z0 z1 z2 z3 z4 zh0 z => ih z0 z1 z2 z3 z4 zh0 z) a0 x1 x2 x3 x4 (x4 + 1) ha0 h)
set_option maxRecDepth 100000 in
set_option maxHeartbeats 4000000 in
theorem k_C_Ways_meets {G : am_T} {d0 : Nat} (C0 : am_C G cX8_meets 12 RX8 LC d0) (hd : 3 ≤ d0) (F : Nat) {σ : am_SS} {q : Int32} (hret : am_retI G cX8_meets 12 q σ) (a0 : Nat) (x1 : Int32) (x2 : Int32) (ha0 : LC.1 a0 = 6) (h : C_Ways_meets F a0 x1 x2 σ = some q) : am_K G 12 0 [(0, .ref (am_b G a0)), (1, .int x1), (2, .int x2)] [] σ := by
  unfold C_Ways_meets at h
  refine am_iconst C0 dX8_meets_0 ci_0 ?_
  refine am_istore_n C0 dX8_meets_1 rfl (by decide) rfl (lv' := [(0, .ref (am_b G a0)), (1, .int x1), (2, .int x2), (3, .int 0)]) rfl ?_
  refine am_iconst C0 dX8_meets_2 ci_0 ?_
  refine am_istore C0 dX8_meets_3 (by decide) rfl (lv' := [(0, .ref (am_b G a0)), (1, .int x1), (2, .int x2), (3, .int 0), (4, .int 0)]) rfl ?_
  exact am_sub [0, 1, 2, 3, 4] rfl (k_C_Ways_meets_l5 C0 hd F hret F a0 x1 x2 false 0 ha0 h)
set_option maxRecDepth 100000 in
set_option maxHeartbeats 4000000 in
theorem m_C_Ways_meets {l : Launch} {d : Nat} {σ : am_SS} {q : Int32} (hd : 3 ≤ d) (F : Nat) (a0 : Nat) (x1 : Int32) (x2 : Int32) (ha0 : LC.1 a0 = 6) (h : C_Ways_meets F a0 x1 x2 σ = some q) : am_Met l yX8_meets cX8_meets 12 (some .int) d 0 0 LC (fun b => [.ref (b a0), .int x1, .int x2]) σ (some (.int q)) σ :=
  am_metI (plainFor_of_name (by decide)) rfl (lv := fun b => [(0, .ref (b a0)), (1, .int x1), (2, .int x2)]) (fun _ => rfl) (fun _ => Nat.le_of_ble_eq_true rfl) (fun G C0 _ hret => k_C_Ways_meets C0 hd F hret a0 x1 x2 ha0 h)
