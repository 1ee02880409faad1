set_option maxRecDepth 100000 in
set_option maxHeartbeats 4000000 in
theorem k_M_goesBy_p142 {G : am_T} {d0 : Nat} (C0 : am_C G cX10_goesBy 4 RX10 LM d0) (hd : 7 ≤ d0) (F : Nat) {q : Int32 × am_SS} (hret : am_retI G cX10_goesBy 4 q.1 q.2) (x1 : Int32) (σ : am_SS) (h : M_goesBy_p142 F x1 σ = some q) : am_K G 4 142 [(0, .ref (am_b G 0)), (1, .int x1)] [] σ := by
  unfold M_goesBy_p142 at h
  refine am_aload_n C0 dX10_goesBy_142 0 rfl ?_
  refine am_getR C0 (j := 1) ff_RX10_7 (loM_7_1 kM0).1 (loM_7_1 kM0).2.1 (loM_7_1 kM0).2.2.1 (loM_7_1 kM0).2.2.2 dX10_goesBy_143 ?_
  refine am_iconst C0 dX10_goesBy_146 ci_0 ?_
  refine am_aload_n C0 dX10_goesBy_147 0 rfl ?_
  refine am_getR C0 (j := 1) ff_RX10_7 (loM_7_1 kM0).1 (loM_7_1 kM0).2.1 (loM_7_1 kM0).2.2.1 (loM_7_1 kM0).2.2.2 dX10_goesBy_148 ?_
  refine am_iconst C0 dX10_goesBy_151 ci_0 ?_
  obtain ⟨t_1, h_t_1, h⟩ := am_bind h
  refine am_iald C0 (ltM (tgM_7_1 kM0)) (tgM_7_1 kM0) (lnM_7_1 kM0) h_t_1 dX10_goesBy_152 ?_
  refine am_iconst C0 dX10_goesBy_153 ci_1 ?_
  refine am_iadd C0 dX10_goesBy_154 ?_
  obtain ⟨σ_2, h_σ_2, h⟩ := am_bind h
  refine am_iast C0 (ltM (tgM_7_1 kM0)) (tgM_7_1 kM0) (lnM_7_1 kM0) h_σ_2 dX10_goesBy_155 ?_
  refine am_iload_n C0 dX10_goesBy_156 1 rfl ?_
  have e := Option.some.inj h
  subst e
  exact hret _ _ dX10_goesBy_157
set_option maxRecDepth 100000 in
set_option maxHeartbeats 4000000 in
theorem k_M_goesBy_l116 {G : am_T} {d0 : Nat} (C0 : am_C G cX10_goesBy 4 RX10 LM d0) (hd : 7 ≤ d0) (F : Nat) {q : Int32 × am_SS} (hret : am_retI G cX10_goesBy 4 q.1 q.2) : ∀ (n : Nat) (x1 : Int32) (x3 : Int32) (σ : am_SS) (h : M_goesBy_l116 F n x1 x3 σ = some q), am_K G 4 116 [(0, .ref (am_b G 0)), (1, .int x1), (3, .int x3)] [] σ := by
  intro n
  induction n with
  | zero =>
    intro x1 x3 σ h
    rw [M_goesBy_l116] at h
    cases h
  | succ n ih =>
    intro x1 x3 σ h
    rw [M_goesBy_l116] at h
    refine am_iload_n C0 dX10_goesBy_116 2 rfl ?_
    refine am_aload_n C0 dX10_goesBy_117 0 rfl ?_
    refine am_getI C0 ff_RX10_143 (loM_7_6 kM0).1 (loM_7_6 kM0).2.1 (loM_7_6 kM0).2.2.1 (loM_7_6 kM0).2.2.2 dX10_goesBy_118 ?_
    refine am_icmp_ge C0 dX10_goesBy_121 (tgt := 142) (by decide) (fun c_1 => ?_) (fun c_1 => ?_)
    · replace h := am_in h c_1
      exact am_sub [0, 1] rfl (k_M_goesBy_p142 C0 hd F hret x1 σ  h)
    · replace h := am_ip h c_1
      refine am_aload_n C0 dX10_goesBy_124 0 rfl ?_
      obtain ⟨q_2, h_q_2, h⟩ := am_bind h
      refine am_callV C0 (m_M_isWon (σ := σ) (Nat.le_refl _)   h_q_2) mm_yX10_isWon ln_RX10_153 (As := fun b => []) (fun _ => rfl) (fun _ => rfl) (loM_7_0 kM0).1 (loM_7_0 kM0).2.1 rfl (Nat.le_trans (by decide) hd) rfl (Nat.le_of_ble_eq_true rfl) dX10_goesBy_125 ?_
      refine am_ifB_ne C0 dX10_goesBy_128 (tgt := 142) (by decide) (fun c_3 => ?_) (fun c_3 => ?_)
      · replace h := am_ip h c_3
        exact am_sub [0, 1] rfl (k_M_goesBy_p142 C0 hd F hret x1 σ  h)
      · replace h := am_in h c_3
        refine am_aload_n C0 dX10_goesBy_131 0 rfl ?_
        refine am_iload_n C0 dX10_goesBy_132 2 rfl ?_
        obtain ⟨q_4, h_q_4, h⟩ := am_bind h
        refine am_callV C0 (m_M_sleeps (σ := σ) (Nat.le_refl _) F x3  h_q_4) mm_yX10_sleeps ln_RX10_386 (As := fun b => [.int x3]) (fun _ => rfl) (fun _ => rfl) (loM_7_0 kM0).1 (loM_7_0 kM0).2.1 rfl (Nat.le_trans (by decide) hd) rfl (Nat.le_of_ble_eq_true rfl) dX10_goesBy_133 ?_
        obtain ⟨x3_5, e_x3_5, h⟩ := am_lt h
        refine am_iinc C0 dX10_goesBy_136 2 rfl (by rw [ci_1]; exact e_x3_5) (by decide) rfl (lv' := [(0, .ref (am_b G 0)), (1, .int x1), (3, .int x3_5)]) rfl ?_
        refine am_goto C0 dX10_goesBy_139 (tgt := 116) (by decide) ?_
        exact am_sub [0, 1, 2] rfl (ih x1 x3_5 q_4  h)
set_option maxRecDepth 100000 in
set_option maxHeartbeats 4000000 in
theorem k_M_goesBy_p114 {G : am_T} {d0 : Nat} (C0 : am_C G cX10_goesBy 4 RX10 LM d0) (hd : 7 ≤ d0) (F : Nat) {q : Int32 × am_SS} (hret : am_retI G cX10_goesBy 4 q.1 q.2) (x1 : Int32) (σ : am_SS) (h : M_goesBy_p114 F x1 σ = some q) : am_K G 4 114 [(0, .ref (am_b G 0)), (1, .int x1)] [] σ := by
  unfold M_goesBy_p114 at h
  refine am_iconst C0 dX10_goesBy_114 ci_0 ?_
  refine am_istore_n C0 dX10_goesBy_115 rfl (by decide) rfl (lv' := [(0, .ref (am_b G 0)), (1, .int x1), (3, .int 0)]) rfl ?_
  exact am_sub [0, 1, 2] rfl (k_M_goesBy_l116 C0 hd F hret F x1 0 σ  h)
set_option maxRecDepth 100000 in
set_option maxHeartbeats 4000000 in
theorem k_M_goesBy_p108 {G : am_T} {d0 : Nat} (C0 : am_C G cX10_goesBy 4 RX10 LM d0) (hd : 7 ≤ d0) (rec77 : Int32 → Bool → Int32 → am_SS → Option (Int32 × am_SS)) (F : Nat) {q : Int32 × am_SS} (hret : am_retI G cX10_goesBy 4 q.1 q.2) (hrec77 : ∀ (x1 : Int32) (x2 : Bool) (x3 : Int32) (σ : am_SS), rec77 x1 x2 x3 σ = some q → am_K G 4 77 [(0, .ref (am_b G 0)), (1, .int x1), (2, .int (am_bI x2)), (3, .int x3)] [] σ) (x1 : Int32) (x2 : Bool) (x3 : Int32) (σ : am_SS) (h : M_goesBy_p108 rec77 F x1 x2 x3 σ = some q) : am_K G 4 108 [(0, .ref (am_b G 0)), (1, .int x1), (2, .int (am_bI x2)), (3, .int x3)] [] σ := by
  unfold M_goesBy_p108 at h
  obtain ⟨x3_1, e_x3_1, h⟩ := am_lt h
  refine am_iinc C0 dX10_goesBy_108 3 rfl (by rw [ci_1]; exact e_x3_1) (by decide) rfl (lv' := [(0, .ref (am_b G 0)), (1, .int x1), (2, .int (am_bI x2)), (3, .int x3_1)]) rfl ?_
  refine am_goto C0 dX10_goesBy_111 (tgt := 77) (by decide) ?_
  exact am_sub [0, 1, 2, 3] rfl (hrec77 x1 x2 x3_1 σ  h)
set_option maxRecDepth 100000 in
set_option maxHeartbeats 4000000 in
theorem k_M_goesBy_l77 {G : am_T} {d0 : Nat} (C0 : am_C G cX10_goesBy 4 RX10 LM d0) (hd : 7 ≤ d0) (F : Nat) {q : Int32 × am_SS} (hret : am_retI G cX10_goesBy 4 q.1 q.2) : ∀ (n : Nat) (x1 : Int32) (x2 : Bool) (x3 : Int32) (σ : am_SS) (h : M_goesBy_l77 F n x1 x2 x3 σ = some q), am_K G 4 77 [(0, .ref (am_b G 0)), (1, .int x1), (2, .int (am_bI x2)), (3, .int x3)] [] σ := by
  intro n
  induction n with
  | zero =>
    intro x1 x2 x3 σ h
    rw [M_goesBy_l77] at h
    cases h
  | succ n ih =>
    intro x1 x2 x3 σ h
    rw [M_goesBy_l77] at h
    refine am_iload_n C0 dX10_goesBy_77 3 rfl ?_
    refine am_aload_n C0 dX10_goesBy_78 0 rfl ?_
    refine am_getI C0 ff_RX10_143 (loM_7_6 kM0).1 (loM_7_6 kM0).2.1 (loM_7_6 kM0).2.2.1 (loM_7_6 kM0).2.2.2 dX10_goesBy_79 ?_
    refine am_icmp_ge C0 dX10_goesBy_82 (tgt := 114) (by decide) (fun c_1 => ?_) (fun c_1 => ?_)
    · replace h := am_in h c_1
      exact am_sub [0, 1] rfl (k_M_goesBy_p114 C0 hd F hret x1 σ  h)
    · replace h := am_ip h c_1
      refine am_iload_n C0 dX10_goesBy_85 2 rfl ?_
      refine am_ifB_ne C0 dX10_goesBy_86 (tgt := 114) (by decide) (fun c_2 => ?_) (fun c_2 => ?_)
      · replace h := am_ip h c_2
        exact am_sub [0, 1] rfl (k_M_goesBy_p114 C0 hd F hret x1 σ  h)
      · replace h := am_in h c_2
        refine am_aload_n C0 dX10_goesBy_89 0 rfl ?_
        obtain ⟨q_3, h_q_3, h⟩ := am_bind h
        refine am_callV C0 (m_M_isWon (σ := σ) (Nat.le_refl _)   h_q_3) mm_yX10_isWon ln_RX10_153 (As := fun b => []) (fun _ => rfl) (fun _ => rfl) (loM_7_0 kM0).1 (loM_7_0 kM0).2.1 rfl (Nat.le_trans (by decide) hd) rfl (Nat.le_of_ble_eq_true rfl) dX10_goesBy_90 ?_
        refine am_ifB_ne C0 dX10_goesBy_93 (tgt := 114) (by decide) (fun c_4 => ?_) (fun c_4 => ?_)
        · replace h := am_ip h c_4
          exact am_sub [0, 1] rfl (k_M_goesBy_p114 C0 hd F hret x1 σ  h)
        · replace h := am_in h c_4
          refine am_aload_n C0 dX10_goesBy_96 0 rfl ?_
          refine am_iload_n C0 dX10_goesBy_97 3 rfl ?_
          obtain ⟨q_5, h_q_5, h⟩ := am_bind h
          refine am_callV C0 (m_M_presses (σ := σ) (Nat.le_refl _) F x3  h_q_5) mm_yX10_presses ln_RX10_383 (As := fun b => [.int x3]) (fun _ => rfl) (fun _ => rfl) (loM_7_0 kM0).1 (loM_7_0 kM0).2.1 rfl (Nat.le_trans (by decide) hd) rfl (Nat.le_of_ble_eq_true rfl) dX10_goesBy_98 ?_
          refine am_ifB_eq C0 dX10_goesBy_101 (tgt := 108) (by decide) (fun c_6 => ?_) (fun c_6 => ?_)
          · replace h := am_in h c_6
            exact am_sub [0, 1, 2, 3] rfl (k_M_goesBy_p108 C0 hd _ F hret (fun z1 z2 z3 zs z => ih z1 z2 z3 zs z) x1 x2 x3 q_5.2  h)
          · replace h := am_ip h c_6
            refine am_iload_n C0 dX10_goesBy_104 1 rfl ?_
            refine am_iconst C0 dX10_goesBy_105 ci_1 ?_
            refine am_iadd C0 dX10_goesBy_106 ?_
            obtain ⟨x1_7, e_x1_7, h⟩ := am_lt h
            refine am_top e_x1_7 ?_
            refine am_istore_n C0 dX10_goesBy_107 rfl (by decide) rfl (lv' := [(0, .ref (am_b G 0)), (1, .int x1_7), (2, .int (am_bI x2)), (3, .int x3)]) rfl ?_
            exact am_sub [0, 1, 2, 3] rfl (k_M_goesBy_p108 C0 hd _ F hret (fun z1 z2 z3 zs z => ih z1 z2 z3 zs z) x1_7 x2 x3 q_5.2  h)
set_option maxRecDepth 100000 in
set_option maxHeartbeats 4000000 in
theorem k_M_goesBy_p68 {G : am_T} {d0 : Nat} (C0 : am_C G cX10_goesBy 4 RX10 LM d0) (hd : 7 ≤ d0) (rec13 : Bool → Bool → Int32 → am_SS → Option (Int32 × am_SS)) (F : Nat) {q : Int32 × am_SS} (hret : am_retI G cX10_goesBy 4 q.1 q.2) (hrec13 : ∀ (x1 : Bool) (x2 : Bool) (x3 : Int32) (σ : am_SS), rec13 x1 x2 x3 σ = some q → am_K G 4 13 [(0, .ref (am_b G 0)), (1, .int (am_bI x1)), (2, .int (am_bI x2)), (3, .int x3)] [] σ) (x1 : Bool) (x2 : Bool) (x3 : Int32) (σ : am_SS) (h : M_goesBy_p68 rec13 F x1 x2 x3 σ = some q) : am_K G 4 68 [(0, .ref (am_b G 0)), (1, .int (am_bI x1)), (2, .int (am_bI x2)), (3, .int x3)] [] σ := by
  unfold M_goesBy_p68 at h
  refine am_iload_n C0 dX10_goesBy_68 3 rfl ?_
  refine am_iconst C0 dX10_goesBy_69 ci_4 ?_
  refine am_iadd C0 dX10_goesBy_70 ?_
  obtain ⟨x3_1, e_x3_1, h⟩ := am_lt h
  refine am_top e_x3_1 ?_
  refine am_istore_n C0 dX10_goesBy_71 rfl (by decide) rfl (lv' := [(0, .ref (am_b G 0)), (1, .int (am_bI x1)), (2, .int (am_bI x2)), (3, .int x3_1)]) rfl ?_
  refine am_goto C0 dX10_goesBy_72 (tgt := 13) (by decide) ?_
  exact am_sub [0, 1, 2, 3] rfl (hrec13 x1 x2 x3_1 σ  h)
set_option maxRecDepth 100000 in
set_option maxHeartbeats 4000000 in
theorem k_M_goesBy_p67 {G : am_T} {d0 : Nat} (C0 : am_C G cX10_goesBy 4 RX10 LM d0) (hd : 7 ≤ d0) (rec13 : Bool → Bool → Int32 → am_SS → Option (Int32 × am_SS)) (F : Nat) {q : Int32 × am_SS} (hret : am_retI G cX10_goesBy 4 q.1 q.2) (hrec13 : ∀ (x1 : Bool) (x2 : Bool) (x3 : Int32) (σ : am_SS), rec13 x1 x2 x3 σ = some q → am_K G 4 13 [(0, .ref (am_b G 0)), (1, .int (am_bI x1)), (2, .int (am_bI x2)), (3, .int x3)] [] σ) (x1 : Bool) (x3 : Int32) (s0 : Bool) (σ : am_SS) (h : M_goesBy_p67 rec13 F x1 x3 s0 σ = some q) : am_K G 4 67 [(0, .ref (am_b G 0)), (1, .int (am_bI x1)), (3, .int x3)] [.int (am_bI s0)] σ := by
  unfold M_goesBy_p67 at h
  refine am_istore_n C0 dX10_goesBy_67 rfl (by decide) rfl (lv' := [(0, .ref (am_b G 0)), (1, .int (am_bI x1)), (3, .int x3), (2, .int (am_bI s0))]) rfl ?_
  exact am_sub [0, 1, 3, 2] rfl (k_M_goesBy_p68 C0 hd rec13 F hret hrec13 x1 s0 x3 σ  h)
set_option maxRecDepth 100000 in
set_option maxHeartbeats 4000000 in
theorem k_M_goesBy_p62 {G : am_T} {d0 : Nat} (C0 : am_C G cX10_goesBy 4 RX10 LM d0) (hd : 7 ≤ d0) (rec13 : Bool → Bool → Int32 → am_SS → Option (Int32 × am_SS)) (F : Nat) {q : Int32 × am_SS} (hret : am_retI G cX10_goesBy 4 q.1 q.2) (hrec13 : ∀ (x1 : Bool) (x2 : Bool) (x3 : Int32) (σ : am_SS), rec13 x1 x2 x3 σ = some q → am_K G 4 13 [(0, .ref (am_b G 0)), (1, .int (am_bI x1)), (2, .int (am_bI x2)), (3, .int x3)] [] σ) (x1 : Bool) (x3 : Int32) (σ : am_SS) (h : M_goesBy_p62 rec13 F x1 x3 σ = some q) : am_K G 4 62 [(0, .ref (am_b G 0)), (1, .int (am_bI x1)), (3, .int x3)] [] σ := by
  unfold M_goesBy_p62 at h
  refine am_iconst C0 dX10_goesBy_62 ci_1 ?_
  refine am_goto C0 dX10_goesBy_63 (tgt := 67) (by decide) ?_
  exact am_sub [0, 1, 2] rfl (k_M_goesBy_p67 C0 hd rec13 F hret hrec13 x1 x3 true σ  h)
set_option maxRecDepth 100000 in
set_option maxHeartbeats 4000000 in
theorem k_M_goesBy_l13 {G : am_T} {d0 : Nat} (C0 : am_C G cX10_goesBy 4 RX10 LM d0) (hd : 7 ≤ d0) (F : Nat) {q : Int32 × am_SS} (hret : am_retI G cX10_goesBy 4 q.1 q.2) : ∀ (n : Nat) (x1 : Bool) (x2 : Bool) (x3 : Int32) (σ : am_SS) (h : M_goesBy_l13 F n x1 x2 x3 σ = some q), am_K G 4 13 [(0, .ref (am_b G 0)), (1, .int (am_bI x1)), (2, .int (am_bI x2)), (3, .int x3)] [] σ := by
  intro n
  induction n with
  | zero =>
    intro x1 x2 x3 σ h
    rw [M_goesBy_l13] at h
    cases h
  | succ n ih =>
    intro x1 x2 x3 σ h
    rw [M_goesBy_l13] at h
    refine am_iload_n C0 dX10_goesBy_13 3 rfl ?_
    refine am_iconst C0 dX10_goesBy_14 ci_4 ?_
    refine am_aload_n C0 dX10_goesBy_15 0 rfl ?_
    refine am_getI C0 ff_RX10_297 (loM_7_36 kM0).1 (loM_7_36 kM0).2.1 (loM_7_36 kM0).2.2.1 (loM_7_36 kM0).2.2.2 dX10_goesBy_16 ?_
    refine am_imul C0 dX10_goesBy_19 ?_
    refine am_icmp_ge C0 dX10_goesBy_20 (tgt := 75) (by decide) (fun c_1 => ?_) (fun c_1 => ?_)
    · replace h := am_in h c_1
      refine am_iconst C0 dX10_goesBy_75 ci_0 ?_
      refine am_istore_n C0 dX10_goesBy_76 rfl (by decide) rfl (lv' := [(0, .ref (am_b G 0)), (1, .int (am_bI x1)), (2, .int (am_bI x2)), (3, .int 0)]) rfl ?_
      exact am_sub [0, 1, 2, 3] rfl (k_M_goesBy_l77 C0 hd F hret F (am_bI x1) x2 0 σ  h)
    · replace h := am_ip h c_1
      refine am_aload_n C0 dX10_goesBy_23 0 rfl ?_
      refine am_getR C0 (j := 19) ff_RX10_68 (loM_7_37 kM0).1 (loM_7_37 kM0).2.1 (loM_7_37 kM0).2.2.1 (loM_7_37 kM0).2.2.2 dX10_goesBy_24 ?_
      refine am_iload_n C0 dX10_goesBy_27 3 rfl ?_
      obtain ⟨t_2, h_t_2, h⟩ := am_bind h
      refine am_iald C0 (ltM (tgM_7_37 kM0)) (tgM_7_37 kM0) (lnM_7_37 kM0) h_t_2 dX10_goesBy_28 ?_
      refine am_aload_n C0 dX10_goesBy_29 0 rfl ?_
      refine am_getR C0 (j := 1) ff_RX10_7 (loM_7_1 kM0).1 (loM_7_1 kM0).2.1 (loM_7_1 kM0).2.2.1 (loM_7_1 kM0).2.2.2 dX10_goesBy_30 ?_
      refine am_iconst C0 dX10_goesBy_33 ci_0 ?_
      obtain ⟨t_3, h_t_3, h⟩ := am_bind h
      refine am_iald C0 (ltM (tgM_7_1 kM0)) (tgM_7_1 kM0) (lnM_7_1 kM0) h_t_3 dX10_goesBy_34 ?_
      refine am_icmp_eq C0 dX10_goesBy_35 (tgt := 41) (by decide) (fun c_4 => ?_) (fun c_4 => ?_)
      · replace h := am_ip h c_4
        refine am_aload_n C0 dX10_goesBy_41 0 rfl ?_
        refine am_iload_n C0 dX10_goesBy_42 3 rfl ?_
        obtain ⟨q_5, h_q_5, h⟩ := am_bind h
        refine am_callV C0 (m_M_does (σ := σ) (Nat.le_refl _) F x3  h_q_5) mm_yX10_does ln_RX10_380 (As := fun b => [.int x3]) (fun _ => rfl) (fun _ => rfl) (loM_7_0 kM0).1 (loM_7_0 kM0).2.1 rfl (Nat.le_trans (by decide) hd) rfl (Nat.le_of_ble_eq_true rfl) dX10_goesBy_43 ?_
        refine am_iload_n C0 dX10_goesBy_46 2 rfl ?_
        refine am_ifB_ne C0 dX10_goesBy_47 (tgt := 62) (by decide) (fun c_6 => ?_) (fun c_6 => ?_)
        · replace h := am_ip h c_6
          exact am_sub [0, 1, 3] rfl (k_M_goesBy_p62 C0 hd _ F hret (fun z1 z2 z3 zs z => ih z1 z2 z3 zs z) x1 x3 q_5  h)
        · replace h := am_in h c_6
          refine am_aload_n C0 dX10_goesBy_50 0 rfl ?_
          refine am_getR C0 (j := 19) ff_RX10_68 (loM_7_37 kM0).1 (loM_7_37 kM0).2.1 (loM_7_37 kM0).2.2.1 (loM_7_37 kM0).2.2.2 dX10_goesBy_51 ?_
          refine am_iload_n C0 dX10_goesBy_54 3 rfl ?_
          refine am_iconst C0 dX10_goesBy_55 ci_1 ?_
          refine am_iadd C0 dX10_goesBy_56 ?_
          obtain ⟨t_7, h_t_7, h⟩ := am_bind h
          refine am_iald C0 (ltM (tgM_7_37 kM0)) (tgM_7_37 kM0) (lnM_7_37 kM0) h_t_7 dX10_goesBy_57 ?_
          refine am_iconst C0 dX10_goesBy_58 ci_4 ?_
          refine am_icmp_ne C0 dX10_goesBy_59 (tgt := 66) (by decide) (fun c_8 => ?_) (fun c_8 => ?_)
          · replace h := am_in h c_8
            refine am_iconst C0 dX10_goesBy_66 ci_0 ?_
            exact am_sub [0, 1, 3] rfl (k_M_goesBy_p67 C0 hd _ F hret (fun z1 z2 z3 zs z => ih z1 z2 z3 zs z) x1 x3 false q_5  h)
          · replace h := am_ip h c_8
            exact am_sub [0, 1, 3] rfl (k_M_goesBy_p62 C0 hd _ F hret (fun z1 z2 z3 zs z => ih z1 z2 z3 zs z) x1 x3 q_5  h)
      · replace h := am_in h c_4
        refine am_goto C0 dX10_goesBy_38 (tgt := 68) (by decide) ?_
        exact am_sub [0, 1, 2, 3] rfl (k_M_goesBy_p68 C0 hd _ F hret (fun z1 z2 z3 zs z => ih z1 z2 z3 zs z) x1 x2 x3 σ  h)
set_option maxRecDepth 100000 in
set_option maxHeartbeats 4000000 in
theorem k_M_goesBy {G : am_T} {d0 : Nat} (C0 : am_C G cX10_goesBy 4 RX10 LM d0) (hd : 7 ≤ d0) (F : Nat) {q : Int32 × am_SS} (hret : am_retI G cX10_goesBy 4 q.1 q.2) (σ : am_SS) (h : M_goesBy F  σ = some q) : am_K G 4 0 [(0, .ref (am_b G 0))] [] σ := by
  unfold M_goesBy at h
  refine am_iconst C0 dX10_goesBy_0 ci_0 ?_
  refine am_istore_n C0 dX10_goesBy_1 rfl (by decide) rfl (lv' := [(0, .ref (am_b G 0)), (1, .int 0)]) rfl ?_
  refine am_aload_n C0 dX10_goesBy_2 0 rfl ?_
  obtain ⟨q_1, h_q_1, h⟩ := am_bind h
  refine am_callV C0 (m_M_isWon (σ := σ) (Nat.le_refl _)   h_q_1) mm_yX10_isWon ln_RX10_153 (As := fun b => []) (fun _ => rfl) (fun _ => rfl) (loM_7_0 kM0).1 (loM_7_0 kM0).2.1 rfl (Nat.le_trans (by decide) hd) rfl (Nat.le_of_ble_eq_true rfl) dX10_goesBy_3 ?_
  refine am_ifB_ne C0 dX10_goesBy_6 (tgt := 142) (by decide) (fun c_2 => ?_) (fun c_2 => ?_)
  · replace h := am_ip h c_2
    exact am_sub [0, 1] rfl (k_M_goesBy_p142 C0 hd F hret 0 σ  h)
  · replace h := am_in h c_2
    refine am_iconst C0 dX10_goesBy_9 ci_0 ?_
    refine am_istore_n C0 dX10_goesBy_10 rfl (by decide) rfl (lv' := [(0, .ref (am_b G 0)), (1, .int 0), (2, .int 0)]) rfl ?_
    refine am_iconst C0 dX10_goesBy_11 ci_0 ?_
    refine am_istore_n C0 dX10_goesBy_12 rfl (by decide) rfl (lv' := [(0, .ref (am_b G 0)), (1, .int 0), (2, .int 0), (3, .int 0)]) rfl ?_
    exact am_sub [0, 1, 2, 3] rfl (k_M_goesBy_l13 C0 hd F hret F false false 0 σ  h)
set_option maxRecDepth 100000 in
set_option maxHeartbeats 4000000 in
theorem m_M_goesBy {l : Launch} {d : Nat} {σ : am_SS} {q : Int32 × am_SS} (hd : 7 ≤ d) (F : Nat) (h : M_goesBy F  σ = some q) : am_Met l yX10_goesBy cX10_goesBy 4 (some .int) d 0 0 LM (fun b => [.ref (b 0)]) σ (some (.int q.1)) q.2 :=
  am_metI (plainFor_of_name (by decide)) rfl (lv := fun b => [(0, .ref (b 0))]) (fun _ => rfl) (fun _ => Nat.le_of_ble_eq_true rfl) (fun G C0 _ hret => k_M_goesBy C0 hd F hret  σ  h)
set_option maxRecDepth 100000 in
set_option maxHeartbeats 4000000 in
theorem k_M_days_l36 {G : am_T} {d0 : Nat} (C0 : am_C G cX10_days 4 RX10 LM d0) (hd : 8 ≤ d0) (F : Nat) {q : Int32 × am_SS} (hret : am_retI G cX10_days 4 q.1 q.2) : ∀ (n : Nat) (x1 : Int32) (x2 : Int32) (x3 : Int32) (σ : am_SS) (h : M_days_l36 F n x1 x2 x3 σ = some q), am_K G 4 36 [(0, .ref (am_b G 0)), (1, .int x1), (2, .int x2), (3, .int x3)] [] σ := by
  intro n
  induction n with
  | zero =>
    intro x1 x2 x3 σ h
    rw [M_days_l36] at h
    cases h
  | succ n ih =>
    intro x1 x2 x3 σ h
    rw [M_days_l36] at h
    refine am_iload_n C0 dX10_days_36 3 rfl ?_
    refine am_iload_n C0 dX10_days_37 1 rfl ?_
    refine am_icmp_ge C0 dX10_days_38 (tgt := 58) (by decide) (fun c_1 => ?_) (fun c_1 => ?_)
    · replace h := am_in h c_1
      refine am_iload_n C0 dX10_days_58 2 rfl ?_
      have e := Option.some.inj h
      subst e
      exact hret _ _ dX10_days_59
    · replace h := am_ip h c_1
      refine am_aload_n C0 dX10_days_41 0 rfl ?_
      obtain ⟨q_2, h_q_2, h⟩ := am_bind h
      refine am_callV C0 (m_M_keepsAhead (σ := σ) (Nat.le_refl _) F   h_q_2) mm_yX10_keepsAhead ln_RX10_356 (As := fun b => []) (fun _ => rfl) (fun _ => rfl) (loM_7_0 kM0).1 (loM_7_0 kM0).2.1 rfl (Nat.le_trans (by decide) hd) rfl (Nat.le_of_ble_eq_true rfl) dX10_days_42 ?_
      refine am_iload_n C0 dX10_days_45 2 rfl ?_
      refine am_aload_n C0 dX10_days_46 0 rfl ?_
      obtain ⟨q_3, h_q_3, h⟩ := am_bind h
      refine am_callV C0 (m_M_goesBy (σ := q_2) (Nat.le_refl _) F   h_q_3) mm_yX10_goesBy ln_RX10_389 (As := fun b => []) (fun _ => rfl) (fun _ => rfl) (loM_7_0 kM0).1 (loM_7_0 kM0).2.1 rfl (Nat.le_trans (by decide) hd) rfl (Nat.le_of_ble_eq_true rfl) dX10_days_47 ?_
      refine am_iadd C0 dX10_days_50 ?_
      obtain ⟨x2_4, e_x2_4, h⟩ := am_lt h
      refine am_top e_x2_4 ?_
      refine am_istore_n C0 dX10_days_51 rfl (by decide) rfl (lv' := [(0, .ref (am_b G 0)), (1, .int x1), (2, .int x2_4), (3, .int x3)]) rfl ?_
      obtain ⟨x3_5, e_x3_5, h⟩ := am_lt h
      refine am_iinc C0 dX10_days_52 3 rfl (by rw [ci_1]; exact e_x3_5) (by decide) rfl (lv' := [(0, .ref (am_b G 0)), (1, .int x1), (2, .int x2_4), (3, .int x3_5)]) rfl ?_
      refine am_goto C0 dX10_days_55 (tgt := 36) (by decide) ?_
      exact am_sub [0, 1, 2, 3] rfl (ih x1 x2_4 x3_5 q_3.2  h)
set_option maxRecDepth 100000 in
set_option maxHeartbeats 4000000 in
theorem k_M_days {G : am_T} {d0 : Nat} (C0 : am_C G cX10_days 4 RX10 LM d0) (hd : 8 ≤ d0) (F : Nat) {q : Int32 × am_SS} (hret : am_retI G cX10_days 4 q.1 q.2) (x1 : Int32) (σ : am_SS) (h : M_days F x1 σ = some q) : am_K G 4 0 [(0, .ref (am_b G 0)), (1, .int x1)] [] σ := by
  unfold M_days at h
  refine am_aload_n C0 dX10_days_0 0 rfl ?_
  refine am_iconst C0 dX10_days_1 ci_0 ?_
  obtain ⟨σ_1, e_σ_1, h⟩ := am_lt h
  refine am_putI C0 e_σ_1 fp_RX10_131 (loM_7_0 kM0).1 (loM_7_0 kM0).2.1 (loM_7_0 kM0).2.2.1 (loM_7_0 kM0).2.2.2 rfl rfl dX10_days_2 ?_
  refine am_aload_n C0 dX10_days_5 0 rfl ?_
  refine am_iload_n C0 dX10_days_6 1 rfl ?_
  refine am_iconst C0 dX10_days_7 ci_1 ?_
  refine am_bipush C0 dX10_days_8 kb_60 ?_
  refine am_callV C0 (m_M_isIn (σ := σ_1) (Nat.le_refl _) x1 1 60  rfl) mm_yX10_isIn ln_RX10_149 (As := fun b => [.int x1, .int 1, .int 60]) (fun _ => rfl) (fun _ => rfl) (loM_7_0 kM0).1 (loM_7_0 kM0).2.1 rfl (Nat.le_trans (by decide) hd) rfl (Nat.le_of_ble_eq_true rfl) dX10_days_10 ?_
  refine am_ifB_eq C0 dX10_days_13 (tgt := 30) (by decide) (fun c_3 => ?_) (fun c_3 => ?_)
  · replace h := am_in h c_3
    refine am_iconst C0 dX10_days_30 ci_m1 ?_
    have e := Option.some.inj h
    subst e
    exact hret _ _ dX10_days_31
  · replace h := am_ip h c_3
    refine am_aload_n C0 dX10_days_16 0 rfl ?_
    refine am_getR C0 (j := 1) ff_RX10_7 (loM_7_1 kM0).1 (loM_7_1 kM0).2.1 (loM_7_1 kM0).2.2.1 (loM_7_1 kM0).2.2.2 dX10_days_17 ?_
    refine am_iconst C0 dX10_days_20 ci_0 ?_
    obtain ⟨t_4, h_t_4, h⟩ := am_bind h
    refine am_iald C0 (ltM (tgM_7_1 kM0)) (tgM_7_1 kM0) (lnM_7_1 kM0) h_t_4 dX10_days_21 ?_
    refine am_iload_n C0 dX10_days_22 1 rfl ?_
    refine am_iadd C0 dX10_days_23 ?_
    refine am_sipush C0 dX10_days_24 cs_9999 ?_
    refine am_icmp_le C0 dX10_days_27 (tgt := 32) (by decide) (fun c_5 => ?_) (fun c_5 => ?_)
    · replace h := am_in h c_5
      refine am_iconst C0 dX10_days_32 ci_0 ?_
      refine am_istore_n C0 dX10_days_33 rfl (by decide) rfl (lv' := [(0, .ref (am_b G 0)), (1, .int x1), (2, .int 0)]) rfl ?_
      refine am_iconst C0 dX10_days_34 ci_0 ?_
      refine am_istore_n C0 dX10_days_35 rfl (by decide) rfl (lv' := [(0, .ref (am_b G 0)), (1, .int x1), (2, .int 0), (3, .int 0)]) rfl ?_
      exact am_sub [0, 1, 2, 3] rfl (k_M_days_l36 C0 hd F hret F x1 0 0 σ_1  h)
    · replace h := am_ip h c_5
      refine am_iconst C0 dX10_days_30 ci_m1 ?_
      have e := Option.some.inj h
      subst e
      exact hret _ _ dX10_days_31
set_option maxRecDepth 100000 in
set_option maxHeartbeats 4000000 in
theorem m_M_days {l : Launch} {d : Nat} {σ : am_SS} {q : Int32 × am_SS} (hd : 8 ≤ d) (F : Nat) (x1 : Int32) (h : M_days F x1 σ = some q) : am_Met l yX10_days cX10_days 4 (some .int) d 0 0 LM (fun b => [.ref (b 0), .int x1]) σ (some (.int q.1)) q.2 :=
  am_metI (plainFor_of_name (by decide)) rfl (lv := fun b => [(0, .ref (b 0)), (1, .int x1)]) (fun _ => rfl) (fun _ => Nat.le_of_ble_eq_true rfl) (fun G C0 _ hret => k_M_days C0 hd F hret x1 σ  h)
set_option maxRecDepth 100000 in
set_option maxHeartbeats 4000000 in
theorem k_M_canComeOn {G : am_T} {d0 : Nat} (C0 : am_C G cX10_canComeOn 2 RX10 LM d0) (hd : 3 ≤ d0) (F : Nat) {σ : am_SS} {q : Bool} (hret : am_retI G cX10_canComeOn 2 (am_bI q) σ) (x1 : Int32) (h : M_canComeOn F x1 σ = some q) : am_K G 2 0 [(0, .ref (am_b G 0)), (1, .int x1)] [] σ := by
  unfold M_canComeOn at h
  refine am_aload_n C0 dX10_canComeOn_0 0 rfl ?_
  refine am_iload_n C0 dX10_canComeOn_1 1 rfl ?_
  obtain ⟨q_1, h_q_1, h⟩ := am_bind h
  refine am_callV C0 (m_M_isGivenUp (σ := σ) (Nat.le_refl _) x1  h_q_1) mm_yX10_isGivenUp ln_RX10_340 (As := fun b => [.int x1]) (fun _ => rfl) (fun _ => rfl) (loM_7_0 kM0).1 (loM_7_0 kM0).2.1 rfl (Nat.le_trans (by decide) hd) rfl (Nat.le_of_ble_eq_true rfl) dX10_canComeOn_2 ?_
  refine am_ifB_ne C0 dX10_canComeOn_5 (tgt := 20) (by decide) (fun c_2 => ?_) (fun c_2 => ?_)
  · replace h := am_ip h c_2
    refine am_iconst C0 dX10_canComeOn_20 ci_0 ?_
    have e := Option.some.inj h
    subst e
    exact hret _ _ dX10_canComeOn_21
  · replace h := am_in h c_2
    refine am_aload_n C0 dX10_canComeOn_8 0 rfl ?_
    refine am_iload_n C0 dX10_canComeOn_9 1 rfl ?_
    obtain ⟨q_3, h_q_3, h⟩ := am_bind h
    refine am_callV C0 (m_M_hasNeeds (σ := σ) (Nat.le_refl _) F x1  h_q_3) mm_yX10_hasNeeds ln_RX10_347 (As := fun b => [.int x1]) (fun _ => rfl) (fun _ => rfl) (loM_7_0 kM0).1 (loM_7_0 kM0).2.1 rfl (Nat.le_trans (by decide) hd) rfl (Nat.le_of_ble_eq_true rfl) dX10_canComeOn_10 ?_
    refine am_ifB_eq C0 dX10_canComeOn_13 (tgt := 20) (by decide) (fun c_4 => ?_) (fun c_4 => ?_)
    · replace h := am_in h c_4
      refine am_iconst C0 dX10_canComeOn_20 ci_0 ?_
      have e := Option.some.inj h
      subst e
      exact hret _ _ dX10_canComeOn_21
    · replace h := am_ip h c_4
      refine am_iconst C0 dX10_canComeOn_16 ci_1 ?_
      refine am_goto C0 dX10_canComeOn_17 (tgt := 21) (by decide) ?_
      have e := Option.some.inj h
      subst e
      exact hret _ _ dX10_canComeOn_21
set_option maxRecDepth 100000 in
set_option maxHeartbeats 4000000 in
theorem m_M_canComeOn {l : Launch} {d : Nat} {σ : am_SS} {q : Bool} (hd : 3 ≤ d) (F : Nat) (x1 : Int32) (h : M_canComeOn F x1 σ = some q) : am_Met l yX10_canComeOn cX10_canComeOn 2 (some .boolean) d 0 0 LM (fun b => [.ref (b 0), .int x1]) σ (some (.int (am_bI q))) σ :=
  am_metI (plainFor_of_name (by decide)) (am_bI_nr _) (lv := fun b => [(0, .ref (b 0)), (1, .int x1)]) (fun _ => rfl) (fun _ => Nat.le_of_ble_eq_true rfl) (fun G C0 _ hret => k_M_canComeOn C0 hd F hret x1  h)
set_option maxRecDepth 100000 in
set_option maxHeartbeats 4000000 in
theorem k_M_of {G : am_T} {d0 : Nat} (C0 : am_C G cX10_of 3 RX10 LM d0) (hd : 6 ≤ d0) (F : Nat) {q : Int32 × am_SS} (hret : am_retI G cX10_of 3 q.1 q.2) (x1 : Int32) (x2 : Int32) (σ : am_SS) (h : M_of F x1 x2 σ = some q) : am_K G 3 0 [(0, .ref (am_b G 0)), (1, .int x1), (2, .int x2)] [] σ := by
  unfold M_of at h
  refine am_aload_n C0 dX10_of_0 0 rfl ?_
  refine am_iconst C0 dX10_of_1 ci_0 ?_
  obtain ⟨σ_1, e_σ_1, h⟩ := am_lt h
  refine am_putI C0 e_σ_1 fp_RX10_131 (loM_7_0 kM0).1 (loM_7_0 kM0).2.1 (loM_7_0 kM0).2.2.1 (loM_7_0 kM0).2.2.2 rfl rfl dX10_of_2 ?_
  refine am_aload_n C0 dX10_of_5 0 rfl ?_
  refine am_iload_n C0 dX10_of_6 1 rfl ?_
  refine am_callV C0 (m_M_isOfficer (σ := σ_1) (Nat.le_refl _) x1  rfl) mm_yX10_isOfficer ln_RX10_157 (As := fun b => [.int x1]) (fun _ => rfl) (fun _ => rfl) (loM_7_0 kM0).1 (loM_7_0 kM0).2.1 rfl (Nat.le_trans (by decide) hd) rfl (Nat.le_of_ble_eq_true rfl) dX10_of_7 ?_
  refine am_ifB_ne C0 dX10_of_10 (tgt := 16) (by decide) (fun c_3 => ?_) (fun c_3 => ?_)
  · replace h := am_ip h c_3
    refine am_iload_n C0 dX10_of_16 2 rfl ?_
    refine am_if_ne C0 dX10_of_17 (tgt := 27) (by decide) (fun c_4 => ?_) (fun c_4 => ?_)
    · replace h := am_in h c_4
      refine am_iload_n C0 dX10_of_27 2 rfl ?_
      refine am_iconst C0 dX10_of_28 ci_1 ?_
      refine am_icmp_ne C0 dX10_of_29 (tgt := 39) (by decide) (fun c_5 => ?_) (fun c_5 => ?_)
      · replace h := am_in h c_5
        refine am_aload_n C0 dX10_of_39 0 rfl ?_
        refine am_iload_n C0 dX10_of_40 2 rfl ?_
        refine am_iconst C0 dX10_of_41 ci_2 ?_
        refine am_bipush C0 dX10_of_42 kb_6 ?_
        refine am_callV C0 (m_M_isIn (σ := σ_1) (Nat.le_refl _) x2 2 6  rfl) mm_yX10_isIn ln_RX10_149 (As := fun b => [.int x2, .int 2, .int 6]) (fun _ => rfl) (fun _ => rfl) (loM_7_0 kM0).1 (loM_7_0 kM0).2.1 rfl (Nat.le_trans (by decide) hd) rfl (Nat.le_of_ble_eq_true rfl) dX10_of_44 ?_
        refine am_ifB_eq C0 dX10_of_47 (tgt := 66) (by decide) (fun c_7 => ?_) (fun c_7 => ?_)
        · replace h := am_in h c_7
          refine am_iload_n C0 dX10_of_66 2 rfl ?_
          refine am_bipush C0 dX10_of_67 kb_7 ?_
          refine am_icmp_ne C0 dX10_of_69 (tgt := 81) (by decide) (fun c_8 => ?_) (fun c_8 => ?_)
          · replace h := am_in h c_8
            refine am_iload_n C0 dX10_of_81 2 rfl ?_
            refine am_bipush C0 dX10_of_82 kb_8 ?_
            refine am_icmp_ne C0 dX10_of_84 (tgt := 94) (by decide) (fun c_9 => ?_) (fun c_9 => ?_)
            · replace h := am_in h c_9
              refine am_iload_n C0 dX10_of_94 2 rfl ?_
              refine am_bipush C0 dX10_of_95 kb_9 ?_
              refine am_icmp_ne C0 dX10_of_97 (tgt := 106) (by decide) (fun c_10 => ?_) (fun c_10 => ?_)
              · replace h := am_in h c_10
                refine am_iload_n C0 dX10_of_106 2 rfl ?_
                refine am_bipush C0 dX10_of_107 kb_10 ?_
                refine am_icmp_ne C0 dX10_of_109 (tgt := 118) (by decide) (fun c_11 => ?_) (fun c_11 => ?_)
                · replace h := am_in h c_11
                  refine am_iload_n C0 dX10_of_118 2 rfl ?_
                  refine am_bipush C0 dX10_of_119 kb_11 ?_
                  refine am_icmp_ne C0 dX10_of_121 (tgt := 132) (by decide) (fun c_12 => ?_) (fun c_12 => ?_)
                  · replace h := am_in h c_12
                    refine am_iload_n C0 dX10_of_132 2 rfl ?_
                    refine am_bipush C0 dX10_of_133 kb_12 ?_
                    refine am_icmp_ne C0 dX10_of_135 (tgt := 154) (by decide) (fun c_13 => ?_) (fun c_13 => ?_)
                    · replace h := am_in h c_13
                      refine am_bipush C0 dX10_of_154 kb_m2 ?_
                      have e := Option.some.inj h
                      subst e
                      exact hret _ _ dX10_of_156
                    · replace h := am_ip h c_13
                      refine am_aload_n C0 dX10_of_138 0 rfl ?_
                      refine am_iload_n C0 dX10_of_139 1 rfl ?_
                      obtain ⟨q_14, h_q_14, h⟩ := am_bind h
                      refine am_callV C0 (m_M_canComeOn (σ := σ_1) (Nat.le_refl _) F x1  h_q_14) mm_yX10_canComeOn ln_RX10_392 (As := fun b => [.int x1]) (fun _ => rfl) (fun _ => rfl) (loM_7_0 kM0).1 (loM_7_0 kM0).2.1 rfl (Nat.le_trans (by decide) hd) rfl (Nat.le_of_ble_eq_true rfl) dX10_of_140 ?_
                      refine am_ifB_eq C0 dX10_of_143 (tgt := 150) (by decide) (fun c_15 => ?_) (fun c_15 => ?_)
                      · replace h := am_in h c_15
                        refine am_iconst C0 dX10_of_150 ci_0 ?_
                        refine am_goto C0 dX10_of_151 (tgt := 156) (by decide) ?_
                        have e := Option.some.inj h
                        subst e
                        exact hret _ _ dX10_of_156
                      · replace h := am_ip h c_15
                        refine am_iconst C0 dX10_of_146 ci_1 ?_
                        refine am_goto C0 dX10_of_147 (tgt := 156) (by decide) ?_
                        have e := Option.some.inj h
                        subst e
                        exact hret _ _ dX10_of_156
                  · replace h := am_ip h c_12
                    refine am_aload_n C0 dX10_of_124 0 rfl ?_
                    refine am_iload_n C0 dX10_of_125 1 rfl ?_
                    obtain ⟨q_16, h_q_16, h⟩ := am_bind h
                    refine am_callV C0 (m_M_readsOf (σ := σ_1) (Nat.le_refl _) F x1  h_q_16) mm_yX10_readsOf ln_RX10_374 (As := fun b => [.int x1]) (fun _ => rfl) (fun _ => rfl) (loM_7_0 kM0).1 (loM_7_0 kM0).2.1 rfl (Nat.le_trans (by decide) hd) rfl (Nat.le_of_ble_eq_true rfl) dX10_of_126 ?_
                    refine am_goto C0 dX10_of_129 (tgt := 156) (by decide) ?_
                    have e := Option.some.inj h
                    subst e
                    exact hret _ _ dX10_of_156
                · replace h := am_ip h c_11
                  refine am_aload_n C0 dX10_of_112 0 rfl ?_
                  refine am_iload_n C0 dX10_of_113 1 rfl ?_
                  obtain ⟨q_17, h_q_17, h⟩ := am_bind h
                  refine am_callV C0 (m_M_restsOf (σ := σ_1) (Nat.le_refl _) F x1  h_q_17) mm_yX10_restsOf ln_RX10_371 (As := fun b => [.int x1]) (fun _ => rfl) (fun _ => rfl) (loM_7_0 kM0).1 (loM_7_0 kM0).2.1 rfl (Nat.le_trans (by decide) hd) rfl (Nat.le_of_ble_eq_true rfl) dX10_of_114 ?_
                  have e := Option.some.inj h
                  subst e
                  exact hret _ _ dX10_of_117
              · replace h := am_ip h c_10
                refine am_aload_n C0 dX10_of_100 0 rfl ?_
                refine am_iload_n C0 dX10_of_101 1 rfl ?_
                obtain ⟨q_18, h_q_18, h⟩ := am_bind h
                refine am_callV C0 (m_M_pressesOf (σ := σ_1) (Nat.le_refl _) F x1  h_q_18) mm_yX10_pressesOf ln_RX10_365 (As := fun b => [.int x1]) (fun _ => rfl) (fun _ => rfl) (loM_7_0 kM0).1 (loM_7_0 kM0).2.1 rfl (Nat.le_trans (by decide) hd) rfl (Nat.le_of_ble_eq_true rfl) dX10_of_102 ?_
                have e := Option.some.inj h
                subst e
                exact hret _ _ dX10_of_105
            · replace h := am_ip h c_9
              refine am_aload_n C0 dX10_of_87 0 rfl ?_
              refine am_getR C0 (j := 21) ff_RX10_74 (loM_7_41 kM0).1 (loM_7_41 kM0).2.1 (loM_7_41 kM0).2.2.1 (loM_7_41 kM0).2.2.2 dX10_of_88 ?_
              refine am_iload_n C0 dX10_of_91 1 rfl ?_
              obtain ⟨t_19, h_t_19, h⟩ := am_bind h
              refine am_iald C0 (ltM (tgM_7_41 kM0)) (tgM_7_41 kM0) (lnM_7_41 kM0) h_t_19 dX10_of_92 ?_
              have e := Option.some.inj h
              subst e
              exact hret _ _ dX10_of_93
          · replace h := am_ip h c_8
            refine am_aload_n C0 dX10_of_72 0 rfl ?_
            refine am_getR C0 (j := 20) ff_RX10_71 (loM_7_39 kM0).1 (loM_7_39 kM0).2.1 (loM_7_39 kM0).2.2.1 (loM_7_39 kM0).2.2.2 dX10_of_73 ?_
            refine am_iload_n C0 dX10_of_76 1 rfl ?_
            obtain ⟨t_20, h_t_20, h⟩ := am_bind h
            refine am_iald C0 (ltM (tgM_7_39 kM0)) (tgM_7_39 kM0) (lnM_7_39 kM0) h_t_20 dX10_of_77 ?_
            refine am_iconst C0 dX10_of_78 ci_1 ?_
            refine am_isub C0 dX10_of_79 ?_
            have e := Option.some.inj h
            subst e
            exact hret _ _ dX10_of_80
        · replace h := am_ip h c_7
          refine am_aload_n C0 dX10_of_50 0 rfl ?_
          refine am_getR C0 (j := 1) ff_RX10_7 (loM_7_1 kM0).1 (loM_7_1 kM0).2.1 (loM_7_1 kM0).2.2.1 (loM_7_1 kM0).2.2.2 dX10_of_51 ?_
          refine am_iconst C0 dX10_of_54 ci_5 ?_
          refine am_bipush C0 dX10_of_55 kb_12 ?_
          refine am_iload_n C0 dX10_of_57 2 rfl ?_
          refine am_iconst C0 dX10_of_58 ci_2 ?_
          refine am_isub C0 dX10_of_59 ?_
          refine am_imul C0 dX10_of_60 ?_
          refine am_iadd C0 dX10_of_61 ?_
          refine am_iload_n C0 dX10_of_62 1 rfl ?_
          refine am_iadd C0 dX10_of_63 ?_
          obtain ⟨t_21, h_t_21, h⟩ := am_bind h
          refine am_iald C0 (ltM (tgM_7_1 kM0)) (tgM_7_1 kM0) (lnM_7_1 kM0) h_t_21 dX10_of_64 ?_
          have e := Option.some.inj h
          subst e
          exact hret _ _ dX10_of_65
      · replace h := am_ip h c_5
        refine am_aload_n C0 dX10_of_32 0 rfl ?_
        refine am_getR C0 (j := 5) ff_RX10_22 (loM_7_9 kM0).1 (loM_7_9 kM0).2.1 (loM_7_9 kM0).2.2.1 (loM_7_9 kM0).2.2.2 dX10_of_33 ?_
        refine am_iload_n C0 dX10_of_36 1 rfl ?_
        obtain ⟨t_22, h_t_22, h⟩ := am_bind h
        refine am_iald C0 (ltM (tgM_7_9 kM0)) (tgM_7_9 kM0) (lnM_7_9 kM0) h_t_22 dX10_of_37 ?_
        have e := Option.some.inj h
        subst e
        exact hret _ _ dX10_of_38
    · replace h := am_ip h c_4
      refine am_aload_n C0 dX10_of_20 0 rfl ?_
      refine am_getR C0 (j := 4) ff_RX10_19 (loM_7_8 kM0).1 (loM_7_8 kM0).2.1 (loM_7_8 kM0).2.2.1 (loM_7_8 kM0).2.2.2 dX10_of_21 ?_
      refine am_iload_n C0 dX10_of_24 1 rfl ?_
      obtain ⟨t_23, h_t_23, h⟩ := am_bind h
      refine am_iald C0 (ltM (tgM_7_8 kM0)) (tgM_7_8 kM0) (lnM_7_8 kM0) h_t_23 dX10_of_25 ?_
      have e := Option.some.inj h
      subst e
      exact hret _ _ dX10_of_26
  · replace h := am_in h c_3
    refine am_bipush C0 dX10_of_13 kb_m2 ?_
    have e := Option.some.inj h
    subst e
    exact hret _ _ dX10_of_15
set_option maxRecDepth 100000 in
set_option maxHeartbeats 4000000 in
theorem m_M_of {l : Launch} {d : Nat} {σ : am_SS} {q : Int32 × am_SS} (hd : 6 ≤ d) (F : Nat) (x1 : Int32) (x2 : Int32) (h : M_of F x1 x2 σ = some q) : am_Met l yX10_of cX10_of 3 (some .int) d 0 0 LM (fun b => [.ref (b 0), .int x1, .int x2]) σ (some (.int q.1)) q.2 :=
  am_metI (plainFor_of_name (by decide)) rfl (lv := fun b => [(0, .ref (b 0)), (1, .int x1), (2, .int x2)]) (fun _ => rfl) (fun _ => Nat.le_of_ble_eq_true rfl) (fun G C0 _ hret => k_M_of C0 hd F hret x1 x2 σ  h)
set_option maxRecDepth 100000 in
set_option maxHeartbeats 4000000 in
theorem k_M_who_p94 {G : am_T} {d0 : Nat} (C0 : am_C G cX10_who 5 RX10 LM d0) (hd : 2 ≤ d0) (rec65 : Int32 → Int32 → Int32 → am_SS → Option (Int32 × am_SS)) (F : Nat) {q : Int32 × am_SS} (hret : am_retI G cX10_who 5 q.1 q.2) (hrec65 : ∀ (x1 : Int32) (x3 : Int32) (x4 : Int32) (σ : am_SS), rec65 x1 x3 x4 σ = some q → am_K G 5 65 [(0, .ref (am_b G 0)), (1, .int x1), (3, .int x3), (4, .int x4)] [] σ) (x1 : Int32) (x3 : Int32) (x4 : Int32) (σ : am_SS) (h : M_who_p94 rec65 F x1 x3 x4 σ = some q) : am_K G 5 94 [(0, .ref (am_b G 0)), (1, .int x1), (3, .int x3), (4, .int x4)] [] σ := by
  unfold M_who_p94 at h
  obtain ⟨x4_1, e_x4_1, h⟩ := am_lt h
  refine am_iinc C0 dX10_who_94 3 rfl (by rw [ci_1]; exact e_x4_1) (by decide) rfl (lv' := [(0, .ref (am_b G 0)), (1, .int x1), (3, .int x3), (4, .int x4_1)]) rfl ?_
  refine am_goto C0 dX10_who_97 (tgt := 65) (by decide) ?_
  exact am_sub [0, 1, 2, 3] rfl (hrec65 x1 x3 x4_1 σ  h)
set_option maxRecDepth 100000 in
set_option maxHeartbeats 4000000 in
theorem k_M_who_l65 {G : am_T} {d0 : Nat} (C0 : am_C G cX10_who 5 RX10 LM d0) (hd : 2 ≤ d0) (F : Nat) {q : Int32 × am_SS} (hret : am_retI G cX10_who 5 q.1 q.2) : ∀ (n : Nat) (x1 : Int32) (x3 : Int32) (x4 : Int32) (σ : am_SS) (h : M_who_l65 F n x1 x3 x4 σ = some q), am_K G 5 65 [(0, .ref (am_b G 0)), (1, .int x1), (3, .int x3), (4, .int x4)] [] σ := by
  intro n
  induction n with
  | zero =>
    intro x1 x3 x4 σ h
    rw [M_who_l65] at h
    cases h
  | succ n ih =>
    intro x1 x3 x4 σ h
    rw [M_who_l65] at h
    refine am_iload C0 dX10_who_65 3 rfl ?_
    refine am_aload_n C0 dX10_who_67 0 rfl ?_
    refine am_getI C0 ff_RX10_143 (loM_7_6 kM0).1 (loM_7_6 kM0).2.1 (loM_7_6 kM0).2.2.1 (loM_7_6 kM0).2.2.2 dX10_who_68 ?_
    refine am_icmp_ge C0 dX10_who_71 (tgt := 100) (by decide) (fun c_1 => ?_) (fun c_1 => ?_)
    · replace h := am_in h c_1
      refine am_iload_n C0 dX10_who_100 2 rfl ?_
      have e := Option.some.inj h
      subst e
      exact hret _ _ dX10_who_101
    · replace h := am_ip h c_1
      refine am_aload_n C0 dX10_who_74 0 rfl ?_
      refine am_getR C0 (j := 20) ff_RX10_71 (loM_7_39 kM0).1 (loM_7_39 kM0).2.1 (loM_7_39 kM0).2.2.1 (loM_7_39 kM0).2.2.2 dX10_who_75 ?_
      refine am_iload C0 dX10_who_78 3 rfl ?_
      obtain ⟨t_2, h_t_2, h⟩ := am_bind h
      refine am_iald C0 (ltM (tgM_7_39 kM0)) (tgM_7_39 kM0) (lnM_7_39 kM0) h_t_2 dX10_who_80 ?_
      refine am_iload_n C0 dX10_who_81 1 rfl ?_
      refine am_iconst C0 dX10_who_82 ci_1 ?_
      refine am_iadd C0 dX10_who_83 ?_
      refine am_icmp_ne C0 dX10_who_84 (tgt := 94) (by decide) (fun c_3 => ?_) (fun c_3 => ?_)
      · replace h := am_in h c_3
        exact am_sub [0, 1, 2, 3] rfl (k_M_who_p94 C0 hd _ F hret (fun z1 z2 z3 zs z => ih z1 z2 z3 zs z) x1 x3 x4 σ  h)
      · replace h := am_ip h c_3
        refine am_iload_n C0 dX10_who_87 2 rfl ?_
        refine am_iconst C0 dX10_who_88 ci_1 ?_
        refine am_iload C0 dX10_who_89 3 rfl ?_
        refine am_ishl C0 dX10_who_91 ?_
        refine am_ior C0 dX10_who_92 ?_
        obtain ⟨x3_4, e_x3_4, h⟩ := am_lt h
        refine am_top e_x3_4 ?_
        refine am_istore_n C0 dX10_who_93 rfl (by decide) rfl (lv' := [(0, .ref (am_b G 0)), (1, .int x1), (3, .int x3_4), (4, .int x4)]) rfl ?_
        exact am_sub [0, 1, 2, 3] rfl (k_M_who_p94 C0 hd _ F hret (fun z1 z2 z3 zs z => ih z1 z2 z3 zs z) x1 x3_4 x4 σ  h)
set_option maxRecDepth 100000 in
set_option maxHeartbeats 4000000 in
theorem k_M_who {G : am_T} {d0 : Nat} (C0 : am_C G cX10_who 5 RX10 LM d0) (hd : 2 ≤ d0) (F : Nat) {q : Int32 × am_SS} (hret : am_retI G cX10_who 5 q.1 q.2) (x1 : Int32) (x2 : Int32) (σ : am_SS) (h : M_who F x1 x2 σ = some q) : am_K G 5 0 [(0, .ref (am_b G 0)), (1, .int x1), (2, .int x2)] [] σ := by
  unfold M_who at h
  refine am_aload_n C0 dX10_who_0 0 rfl ?_
  refine am_iconst C0 dX10_who_1 ci_0 ?_
  obtain ⟨σ_1, e_σ_1, h⟩ := am_lt h
  refine am_putI C0 e_σ_1 fp_RX10_131 (loM_7_0 kM0).1 (loM_7_0 kM0).2.1 (loM_7_0 kM0).2.2.1 (loM_7_0 kM0).2.2.2 rfl rfl dX10_who_2 ?_
  refine am_aload_n C0 dX10_who_5 0 rfl ?_
  refine am_iload_n C0 dX10_who_6 1 rfl ?_
  refine am_callV C0 (m_M_isBatman (σ := σ_1) (Nat.le_refl _) x1  rfl) mm_yX10_isBatman ln_RX10_161 (As := fun b => [.int x1]) (fun _ => rfl) (fun _ => rfl) (loM_7_0 kM0).1 (loM_7_0 kM0).2.1 rfl (Nat.le_trans (by decide) hd) rfl (Nat.le_of_ble_eq_true rfl) dX10_who_7 ?_
  refine am_ifB_ne C0 dX10_who_10 (tgt := 15) (by decide) (fun c_3 => ?_) (fun c_3 => ?_)
  · replace h := am_ip h c_3
    refine am_iload_n C0 dX10_who_15 2 rfl ?_
    refine am_if_ne C0 dX10_who_16 (tgt := 26) (by decide) (fun c_4 => ?_) (fun c_4 => ?_)
    · replace h := am_in h c_4
      refine am_iload_n C0 dX10_who_26 2 rfl ?_
      refine am_iconst C0 dX10_who_27 ci_1 ?_
      refine am_icmp_ne C0 dX10_who_28 (tgt := 38) (by decide) (fun c_5 => ?_) (fun c_5 => ?_)
      · replace h := am_in h c_5
        refine am_iload_n C0 dX10_who_38 2 rfl ?_
        refine am_iconst C0 dX10_who_39 ci_2 ?_
        refine am_icmp_ne C0 dX10_who_40 (tgt := 53) (by decide) (fun c_6 => ?_) (fun c_6 => ?_)
        · replace h := am_in h c_6
          refine am_iload_n C0 dX10_who_53 2 rfl ?_
          refine am_iconst C0 dX10_who_54 ci_3 ?_
          refine am_icmp_eq C0 dX10_who_55 (tgt := 60) (by decide) (fun c_7 => ?_) (fun c_7 => ?_)
          · replace h := am_ip h c_7
            refine am_iconst C0 dX10_who_60 ci_0 ?_
            refine am_istore_n C0 dX10_who_61 rfl (by decide) rfl (lv' := [(0, .ref (am_b G 0)), (1, .int x1), (2, .int x2), (3, .int 0)]) rfl ?_
            refine am_iconst C0 dX10_who_62 ci_0 ?_
            refine am_istore C0 dX10_who_63 (by decide) rfl (lv' := [(0, .ref (am_b G 0)), (1, .int x1), (2, .int x2), (3, .int 0), (4, .int 0)]) rfl ?_
            exact am_sub [0, 1, 3, 4] rfl (k_M_who_l65 C0 hd F hret F x1 0 0 σ_1  h)
          · replace h := am_in h c_7
            refine am_iconst C0 dX10_who_58 ci_m1 ?_
            have e := Option.some.inj h
            subst e
            exact hret _ _ dX10_who_59
        · replace h := am_ip h c_6
          refine am_aload_n C0 dX10_who_43 0 rfl ?_
          refine am_getR C0 (j := 1) ff_RX10_7 (loM_7_1 kM0).1 (loM_7_1 kM0).2.1 (loM_7_1 kM0).2.2.1 (loM_7_1 kM0).2.2.2 dX10_who_44 ?_
          refine am_bipush C0 dX10_who_47 kb_65 ?_
          refine am_iload_n C0 dX10_who_49 1 rfl ?_
          refine am_iadd C0 dX10_who_50 ?_
          obtain ⟨t_8, h_t_8, h⟩ := am_bind h
          refine am_iald C0 (ltM (tgM_7_1 kM0)) (tgM_7_1 kM0) (lnM_7_1 kM0) h_t_8 dX10_who_51 ?_
          have e := Option.some.inj h
          subst e
          exact hret _ _ dX10_who_52
      · replace h := am_ip h c_5
        refine am_aload_n C0 dX10_who_31 0 rfl ?_
        refine am_getR C0 (j := 7) ff_RX10_28 (loM_7_11 kM0).1 (loM_7_11 kM0).2.1 (loM_7_11 kM0).2.2.1 (loM_7_11 kM0).2.2.2 dX10_who_32 ?_
        refine am_iload_n C0 dX10_who_35 1 rfl ?_
        obtain ⟨t_9, h_t_9, h⟩ := am_bind h
        refine am_iald C0 (ltM (tgM_7_11 kM0)) (tgM_7_11 kM0) (lnM_7_11 kM0) h_t_9 dX10_who_36 ?_
        have e := Option.some.inj h
        subst e
        exact hret _ _ dX10_who_37
    · replace h := am_ip h c_4
      refine am_aload_n C0 dX10_who_19 0 rfl ?_
      refine am_getR C0 (j := 6) ff_RX10_25 (loM_7_10 kM0).1 (loM_7_10 kM0).2.1 (loM_7_10 kM0).2.2.1 (loM_7_10 kM0).2.2.2 dX10_who_20 ?_
      refine am_iload_n C0 dX10_who_23 1 rfl ?_
      obtain ⟨t_10, h_t_10, h⟩ := am_bind h
      refine am_iald C0 (ltM (tgM_7_10 kM0)) (tgM_7_10 kM0) (lnM_7_10 kM0) h_t_10 dX10_who_24 ?_
      have e := Option.some.inj h
      subst e
      exact hret _ _ dX10_who_25
  · replace h := am_in h c_3
    refine am_iconst C0 dX10_who_13 ci_m1 ?_
    have e := Option.some.inj h
    subst e
    exact hret _ _ dX10_who_14
set_option maxRecDepth 100000 in
set_option maxHeartbeats 4000000 in
theorem m_M_who {l : Launch} {d : Nat} {σ : am_SS} {q : Int32 × am_SS} (hd : 2 ≤ d) (F : Nat) (x1 : Int32) (x2 : Int32) (h : M_who F x1 x2 σ = some q) : am_Met l yX10_who cX10_who 5 (some .int) d 0 0 LM (fun b => [.ref (b 0), .int x1, .int x2]) σ (some (.int q.1)) q.2 :=
  am_metI (plainFor_of_name (by decide)) rfl (lv := fun b => [(0, .ref (b 0)), (1, .int x1), (2, .int x2)]) (fun _ => rfl) (fun _ => Nat.le_of_ble_eq_true rfl) (fun G C0 _ hret => k_M_who C0 hd F hret x1 x2 σ  h)
set_option maxRecDepth 100000 in
set_option maxHeartbeats 4000000 in
theorem k_M_book {G : am_T} {d0 : Nat} (C0 : am_C G cX10_book 3 RX10 LM d0) (hd : 2 ≤ d0) {q : Int32 × am_SS} (hret : am_retI G cX10_book 3 q.1 q.2) (x1 : Int32) (x2 : Int32) (σ : am_SS) (h : M_book x1 x2 σ = some q) : am_K G 3 0 [(0, .ref (am_b G 0)), (1, .int x1), (2, .int x2)] [] σ := by
  unfold M_book at h
  refine am_aload_n C0 dX10_book_0 0 rfl ?_
  refine am_iconst C0 dX10_book_1 ci_0 ?_
  obtain ⟨σ_1, e_σ_1, h⟩ := am_lt h
  refine am_putI C0 e_σ_1 fp_RX10_131 (loM_7_0 kM0).1 (loM_7_0 kM0).2.1 (loM_7_0 kM0).2.2.1 (loM_7_0 kM0).2.2.2 rfl rfl dX10_book_2 ?_
  refine am_aload_n C0 dX10_book_5 0 rfl ?_
  refine am_iload_n C0 dX10_book_6 1 rfl ?_
  refine am_iconst C0 dX10_book_7 ci_0 ?_
  refine am_aload_n C0 dX10_book_8 0 rfl ?_
  refine am_getR C0 (j := 1) ff_RX10_7 (loM_7_1 kM0).1 (loM_7_1 kM0).2.1 (loM_7_1 kM0).2.2.1 (loM_7_1 kM0).2.2.2 dX10_book_9 ?_
  refine am_iconst C0 dX10_book_12 ci_2 ?_
  obtain ⟨t_2, h_t_2, h⟩ := am_bind h
  refine am_iald C0 (ltM (tgM_7_1 kM0)) (tgM_7_1 kM0) (lnM_7_1 kM0) h_t_2 dX10_book_13 ?_
  refine am_iconst C0 dX10_book_14 ci_1 ?_
  refine am_isub C0 dX10_book_15 ?_
  refine am_callV C0 (m_M_isIn (σ := σ_1) (Nat.le_refl _) x1 0 (t_2 - 1)  rfl) mm_yX10_isIn ln_RX10_149 (As := fun b => [.int x1, .int 0, .int (t_2 - 1)]) (fun _ => rfl) (fun _ => rfl) (loM_7_0 kM0).1 (loM_7_0 kM0).2.1 rfl (Nat.le_trans (by decide) hd) rfl (Nat.le_of_ble_eq_true rfl) dX10_book_16 ?_
  refine am_ifB_eq C0 dX10_book_19 (tgt := 45) (by decide) (fun c_4 => ?_) (fun c_4 => ?_)
  · replace h := am_in h c_4
    refine am_iconst C0 dX10_book_45 ci_m1 ?_
    have e := Option.some.inj h
    subst e
    exact hret _ _ dX10_book_46
  · replace h := am_ip h c_4
    refine am_aload_n C0 dX10_book_22 0 rfl ?_
    refine am_iload_n C0 dX10_book_23 2 rfl ?_
    refine am_iconst C0 dX10_book_24 ci_0 ?_
    refine am_iconst C0 dX10_book_25 ci_3 ?_
    refine am_callV C0 (m_M_isIn (σ := σ_1) (Nat.le_refl _) x2 0 3  rfl) mm_yX10_isIn ln_RX10_149 (As := fun b => [.int x2, .int 0, .int 3]) (fun _ => rfl) (fun _ => rfl) (loM_7_0 kM0).1 (loM_7_0 kM0).2.1 rfl (Nat.le_trans (by decide) hd) rfl (Nat.le_of_ble_eq_true rfl) dX10_book_26 ?_
    refine am_ifB_eq C0 dX10_book_29 (tgt := 45) (by decide) (fun c_6 => ?_) (fun c_6 => ?_)
    · replace h := am_in h c_6
      refine am_iconst C0 dX10_book_45 ci_m1 ?_
      have e := Option.some.inj h
      subst e
      exact hret _ _ dX10_book_46
    · replace h := am_ip h c_6
      refine am_aload_n C0 dX10_book_32 0 rfl ?_
      refine am_getR C0 (j := 8) ff_RX10_31 (loM_7_12 kM0).1 (loM_7_12 kM0).2.1 (loM_7_12 kM0).2.2.1 (loM_7_12 kM0).2.2.2 dX10_book_33 ?_
      refine am_iconst C0 dX10_book_36 ci_4 ?_
      refine am_iload_n C0 dX10_book_37 1 rfl ?_
      refine am_imul C0 dX10_book_38 ?_
      refine am_iload_n C0 dX10_book_39 2 rfl ?_
      refine am_iadd C0 dX10_book_40 ?_
      obtain ⟨t_7, h_t_7, h⟩ := am_bind h
      refine am_iald C0 (ltM (tgM_7_12 kM0)) (tgM_7_12 kM0) (lnM_7_12 kM0) h_t_7 dX10_book_41 ?_
      refine am_goto C0 dX10_book_42 (tgt := 46) (by decide) ?_
      have e := Option.some.inj h
      subst e
      exact hret _ _ dX10_book_46
set_option maxRecDepth 100000 in
set_option maxHeartbeats 4000000 in
theorem m_M_book {l : Launch} {d : Nat} {σ : am_SS} {q : Int32 × am_SS} (hd : 2 ≤ d) (x1 : Int32) (x2 : Int32) (h : M_book x1 x2 σ = some q) : am_Met l yX10_book cX10_book 3 (some .int) d 0 0 LM (fun b => [.ref (b 0), .int x1, .int x2]) σ (some (.int q.1)) q.2 :=
  am_metI (plainFor_of_name (by decide)) rfl (lv := fun b => [(0, .ref (b 0)), (1, .int x1), (2, .int x2)]) (fun _ => rfl) (fun _ => Nat.le_of_ble_eq_true rfl) (fun G C0 _ hret => k_M_book C0 hd hret x1 x2 σ  h)
set_option maxRecDepth 100000 in
set_option maxHeartbeats 4000000 in
theorem k_M_sumOf_l4 {G : am_T} {d0 : Nat} (C0 : am_C G cX10_sumOf 4 RX10 LM d0) (hd : 1 ≤ d0) (F : Nat) {σ : am_SS} {q : Int32} (hret : am_retI G cX10_sumOf 4 q σ) : ∀ (n : Nat) (x1 : Int32) (x2 : Int32) (x3 : Int32) (h : M_sumOf_l4 F n x1 x2 x3 σ = some q), am_K G 4 4 [(0, .ref (am_b G 0)), (1, .int x1), (2, .int x2), (3, .int x3)] [] σ := by
  intro n
  induction n with
  | zero =>
    intro x1 x2 x3 h
    rw [M_sumOf_l4] at h
    cases h
  | succ n ih =>
    intro x1 x2 x3 h
    rw [M_sumOf_l4] at h
    refine am_iload_n C0 dX10_sumOf_4 3 rfl ?_
    refine am_aload_n C0 dX10_sumOf_5 0 rfl ?_
    refine am_getI C0 ff_RX10_143 (loM_7_6 kM0).1 (loM_7_6 kM0).2.1 (loM_7_6 kM0).2.2.1 (loM_7_6 kM0).2.2.2 dX10_sumOf_6 ?_
    refine am_icmp_ge C0 dX10_sumOf_9 (tgt := 29) (by decide) (fun c_1 => ?_) (fun c_1 => ?_)
    · replace h := am_in h c_1
      refine am_iload_n C0 dX10_sumOf_29 2 rfl ?_
      have e := Option.some.inj h
      subst e
      exact hret _ _ dX10_sumOf_30
    · replace h := am_ip h c_1
      refine am_iload_n C0 dX10_sumOf_12 2 rfl ?_
      refine am_aload_n C0 dX10_sumOf_13 0 rfl ?_
      refine am_getR C0 (j := 1) ff_RX10_7 (loM_7_1 kM0).1 (loM_7_1 kM0).2.1 (loM_7_1 kM0).2.2.1 (loM_7_1 kM0).2.2.2 dX10_sumOf_14 ?_
      refine am_iload_n C0 dX10_sumOf_17 1 rfl ?_
      refine am_iload_n C0 dX10_sumOf_18 3 rfl ?_
      refine am_iadd C0 dX10_sumOf_19 ?_
      obtain ⟨t_2, h_t_2, h⟩ := am_bind h
      refine am_iald C0 (ltM (tgM_7_1 kM0)) (tgM_7_1 kM0) (lnM_7_1 kM0) h_t_2 dX10_sumOf_20 ?_
      refine am_iadd C0 dX10_sumOf_21 ?_
      obtain ⟨x2_3, e_x2_3, h⟩ := am_lt h
      refine am_top e_x2_3 ?_
      refine am_istore_n C0 dX10_sumOf_22 rfl (by decide) rfl (lv' := [(0, .ref (am_b G 0)), (1, .int x1), (2, .int x2_3), (3, .int x3)]) rfl ?_
      obtain ⟨x3_4, e_x3_4, h⟩ := am_lt h
      refine am_iinc C0 dX10_sumOf_23 3 rfl (by rw [ci_1]; exact e_x3_4) (by decide) rfl (lv' := [(0, .ref (am_b G 0)), (1, .int x1), (2, .int x2_3), (3, .int x3_4)]) rfl ?_
      refine am_goto C0 dX10_sumOf_26 (tgt := 4) (by decide) ?_
      exact am_sub [0, 1, 2, 3] rfl (ih x1 x2_3 x3_4  h)
set_option maxRecDepth 100000 in
set_option maxHeartbeats 4000000 in
theorem k_M_sumOf {G : am_T} {d0 : Nat} (C0 : am_C G cX10_sumOf 4 RX10 LM d0) (hd : 1 ≤ d0) (F : Nat) {σ : am_SS} {q : Int32} (hret : am_retI G cX10_sumOf 4 q σ) (x1 : Int32) (h : M_sumOf F x1 σ = some q) : am_K G 4 0 [(0, .ref (am_b G 0)), (1, .int x1)] [] σ := by
  unfold M_sumOf at h
  refine am_iconst C0 dX10_sumOf_0 ci_0 ?_
  refine am_istore_n C0 dX10_sumOf_1 rfl (by decide) rfl (lv' := [(0, .ref (am_b G 0)), (1, .int x1), (2, .int 0)]) rfl ?_
  refine am_iconst C0 dX10_sumOf_2 ci_0 ?_
  refine am_istore_n C0 dX10_sumOf_3 rfl (by decide) rfl (lv' := [(0, .ref (am_b G 0)), (1, .int x1), (2, .int 0), (3, .int 0)]) rfl ?_
  exact am_sub [0, 1, 2, 3] rfl (k_M_sumOf_l4 C0 hd F hret F x1 0 0  h)
set_option maxRecDepth 100000 in
set_option maxHeartbeats 4000000 in
theorem m_M_sumOf {l : Launch} {d : Nat} {σ : am_SS} {q : Int32} (hd : 1 ≤ d) (F : Nat) (x1 : Int32) (h : M_sumOf F x1 σ = some q) : am_Met l yX10_sumOf cX10_sumOf 4 (some .int) d 0 0 LM (fun b => [.ref (b 0), .int x1]) σ (some (.int q)) σ :=
  am_metI (plainFor_of_name (by decide)) rfl (lv := fun b => [(0, .ref (b 0)), (1, .int x1)]) (fun _ => rfl) (fun _ => Nat.le_of_ble_eq_true rfl) (fun G C0 _ hret => k_M_sumOf C0 hd F hret x1  h)
set_option maxRecDepth 100000 in
set_option maxHeartbeats 4000000 in
theorem k_M_goes_p98 {G : am_T} {d0 : Nat} (C0 : am_C G cX10_goes 4 RX10 LM d0) (hd : 8 ≤ d0) (F : Nat) {q : Int32 × am_SS} (hret : am_retI G cX10_goes 4 q.1 q.2) (s0 : Int32) (σ : am_SS) (h : M_goes_p98 F s0 σ = some q) : am_K G 4 98 [(0, .ref (am_b G 0))] [.int s0] σ := by
  unfold M_goes_p98 at h
  refine am_istore_n C0 dX10_goes_98 rfl (by decide) rfl (lv' := [(0, .ref (am_b G 0)), (3, .int s0)]) rfl ?_
  refine am_aload_n C0 dX10_goes_99 0 rfl ?_
  obtain ⟨q_1, h_q_1, h⟩ := am_bind h
  refine am_callV C0 (m_M_endsThought (σ := σ) (Nat.le_refl _) F   h_q_1) mm_yX10_endsThought ln_RX10_401 (As := fun b => []) (fun _ => rfl) (fun _ => rfl) (loM_7_0 kM0).1 (loM_7_0 kM0).2.1 rfl (Nat.le_trans (by decide) hd) rfl (Nat.le_of_ble_eq_true rfl) dX10_goes_100 ?_
  refine am_iload_n C0 dX10_goes_103 1 rfl ?_
  have e := Option.some.inj h
  subst e
  exact hret _ _ dX10_goes_104
set_option maxRecDepth 100000 in
set_option maxHeartbeats 4000000 in
theorem k_M_goes_l36 {G : am_T} {d0 : Nat} (C0 : am_C G cX10_goes 4 RX10 LM d0) (hd : 8 ≤ d0) (F : Nat) {q : Int32 × am_SS} (hret : am_retI G cX10_goes 4 q.1 q.2) : ∀ (n : Nat) (x1 : Int32) (x2 : Int32) (x3 : Int32) (σ : am_SS) (h : M_goes_l36 F n x1 x2 x3 σ = some q), am_K G 4 36 [(0, .ref (am_b G 0)), (1, .int x1), (2, .int x2), (3, .int x3)] [] σ := by
  intro n
  induction n with
  | zero =>
    intro x1 x2 x3 σ h
    rw [M_goes_l36] at h
    cases h
  | succ n ih =>
    intro x1 x2 x3 σ h
    rw [M_goes_l36] at h
    refine am_iload_n C0 dX10_goes_36 3 rfl ?_
    refine am_iload_n C0 dX10_goes_37 1 rfl ?_
    refine am_icmp_ge C0 dX10_goes_38 (tgt := 52) (by decide) (fun c_1 => ?_) (fun c_1 => ?_)
    · replace h := am_in h c_1
      refine am_iload_n C0 dX10_goes_52 2 rfl ?_
      refine am_if_ne C0 dX10_goes_53 (tgt := 65) (by decide) (fun c_2 => ?_) (fun c_2 => ?_)
      · replace h := am_in h c_2
        refine am_iload_n C0 dX10_goes_65 2 rfl ?_
        refine am_iconst C0 dX10_goes_66 ci_1 ?_
        refine am_icmp_ne C0 dX10_goes_67 (tgt := 79) (by decide) (fun c_3 => ?_) (fun c_3 => ?_)
        · replace h := am_in h c_3
          refine am_iload_n C0 dX10_goes_79 2 rfl ?_
          refine am_iconst C0 dX10_goes_80 ci_2 ?_
          refine am_icmp_ne C0 dX10_goes_81 (tgt := 93) (by decide) (fun c_4 => ?_) (fun c_4 => ?_)
          · replace h := am_in h c_4
            refine am_aload_n C0 dX10_goes_93 0 rfl ?_
            refine am_iconst C0 dX10_goes_94 ci_5 ?_
            obtain ⟨q_5, h_q_5, h⟩ := am_bind h
            refine am_callV C0 (m_M_sumOf (σ := σ) (Nat.le_refl _) F 5  h_q_5) mm_yX10_sumOf ln_RX10_398 (As := fun b => [.int 5]) (fun _ => rfl) (fun _ => rfl) (loM_7_0 kM0).1 (loM_7_0 kM0).2.1 rfl (Nat.le_trans (by decide) hd) rfl (Nat.le_of_ble_eq_true rfl) dX10_goes_95 ?_
            exact am_sub [0] rfl (k_M_goes_p98 C0 hd F hret q_5 σ  h)
          · replace h := am_ip h c_4
            refine am_aload_n C0 dX10_goes_84 0 rfl ?_
            refine am_bipush C0 dX10_goes_85 kb_29 ?_
            obtain ⟨q_6, h_q_6, h⟩ := am_bind h
            refine am_callV C0 (m_M_sumOf (σ := σ) (Nat.le_refl _) F 29  h_q_6) mm_yX10_sumOf ln_RX10_398 (As := fun b => [.int 29]) (fun _ => rfl) (fun _ => rfl) (loM_7_0 kM0).1 (loM_7_0 kM0).2.1 rfl (Nat.le_trans (by decide) hd) rfl (Nat.le_of_ble_eq_true rfl) dX10_goes_87 ?_
            refine am_goto C0 dX10_goes_90 (tgt := 98) (by decide) ?_
            exact am_sub [0] rfl (k_M_goes_p98 C0 hd F hret q_6 σ  h)
        · replace h := am_ip h c_3
          refine am_aload_n C0 dX10_goes_70 0 rfl ?_
          refine am_bipush C0 dX10_goes_71 kb_53 ?_
          obtain ⟨q_7, h_q_7, h⟩ := am_bind h
          refine am_callV C0 (m_M_sumOf (σ := σ) (Nat.le_refl _) F 53  h_q_7) mm_yX10_sumOf ln_RX10_398 (As := fun b => [.int 53]) (fun _ => rfl) (fun _ => rfl) (loM_7_0 kM0).1 (loM_7_0 kM0).2.1 rfl (Nat.le_trans (by decide) hd) rfl (Nat.le_of_ble_eq_true rfl) dX10_goes_73 ?_
          refine am_goto C0 dX10_goes_76 (tgt := 98) (by decide) ?_
          exact am_sub [0] rfl (k_M_goes_p98 C0 hd F hret q_7 σ  h)
      · replace h := am_ip h c_2
        refine am_aload_n C0 dX10_goes_56 0 rfl ?_
        refine am_getR C0 (j := 1) ff_RX10_7 (loM_7_1 kM0).1 (loM_7_1 kM0).2.1 (loM_7_1 kM0).2.2.1 (loM_7_1 kM0).2.2.2 dX10_goes_57 ?_
        refine am_iconst C0 dX10_goes_60 ci_3 ?_
        obtain ⟨t_8, h_t_8, h⟩ := am_bind h
        refine am_iald C0 (ltM (tgM_7_1 kM0)) (tgM_7_1 kM0) (lnM_7_1 kM0) h_t_8 dX10_goes_61 ?_
        refine am_goto C0 dX10_goes_62 (tgt := 98) (by decide) ?_
        exact am_sub [0] rfl (k_M_goes_p98 C0 hd F hret t_8 σ  h)
    · replace h := am_ip h c_1
      refine am_aload_n C0 dX10_goes_41 0 rfl ?_
      obtain ⟨q_9, h_q_9, h⟩ := am_bind h
      refine am_callV C0 (m_M_goesBy (σ := σ) (Nat.le_refl _) F   h_q_9) mm_yX10_goesBy ln_RX10_389 (As := fun b => []) (fun _ => rfl) (fun _ => rfl) (loM_7_0 kM0).1 (loM_7_0 kM0).2.1 rfl (Nat.le_trans (by decide) hd) rfl (Nat.le_of_ble_eq_true rfl) dX10_goes_42 ?_
      refine am_pop C0 dX10_goes_45 rfl ?_
      obtain ⟨x3_10, e_x3_10, h⟩ := am_lt h
      refine am_iinc C0 dX10_goes_46 3 rfl (by rw [ci_1]; exact e_x3_10) (by decide) rfl (lv' := [(0, .ref (am_b G 0)), (1, .int x1), (2, .int x2), (3, .int x3_10)]) rfl ?_
      refine am_goto C0 dX10_goes_49 (tgt := 36) (by decide) ?_
      exact am_sub [0, 1, 2, 3] rfl (ih x1 x2 x3_10 q_9.2  h)
set_option maxRecDepth 100000 in
set_option maxHeartbeats 4000000 in
theorem k_M_goes {G : am_T} {d0 : Nat} (C0 : am_C G cX10_goes 4 RX10 LM d0) (hd : 8 ≤ d0) (F : Nat) {q : Int32 × am_SS} (hret : am_retI G cX10_goes 4 q.1 q.2) (x1 : Int32) (x2 : Int32) (σ : am_SS) (h : M_goes F x1 x2 σ = some q) : am_K G 4 0 [(0, .ref (am_b G 0)), (1, .int x1), (2, .int x2)] [] σ := by
  unfold M_goes at h
  refine am_aload_n C0 dX10_goes_0 0 rfl ?_
  refine am_iconst C0 dX10_goes_1 ci_0 ?_
  obtain ⟨σ_1, e_σ_1, h⟩ := am_lt h
  refine am_putI C0 e_σ_1 fp_RX10_131 (loM_7_0 kM0).1 (loM_7_0 kM0).2.1 (loM_7_0 kM0).2.2.1 (loM_7_0 kM0).2.2.2 rfl rfl dX10_goes_2 ?_
  refine am_aload_n C0 dX10_goes_5 0 rfl ?_
  refine am_iload_n C0 dX10_goes_6 1 rfl ?_
  refine am_iconst C0 dX10_goes_7 ci_1 ?_
  refine am_bipush C0 dX10_goes_8 kb_60 ?_
  refine am_callV C0 (m_M_isIn (σ := σ_1) (Nat.le_refl _) x1 1 60  rfl) mm_yX10_isIn ln_RX10_149 (As := fun b => [.int x1, .int 1, .int 60]) (fun _ => rfl) (fun _ => rfl) (loM_7_0 kM0).1 (loM_7_0 kM0).2.1 rfl (Nat.le_trans (by decide) hd) rfl (Nat.le_of_ble_eq_true rfl) dX10_goes_10 ?_
  refine am_ifB_eq C0 dX10_goes_13 (tgt := 26) (by decide) (fun c_3 => ?_) (fun c_3 => ?_)
  · replace h := am_in h c_3
    refine am_sipush C0 dX10_goes_26 cs_m1000 ?_
    have e := Option.some.inj h
    subst e
    exact hret _ _ dX10_goes_29
  · replace h := am_ip h c_3
    refine am_aload_n C0 dX10_goes_16 0 rfl ?_
    refine am_iload_n C0 dX10_goes_17 2 rfl ?_
    refine am_iconst C0 dX10_goes_18 ci_0 ?_
    refine am_iconst C0 dX10_goes_19 ci_3 ?_
    refine am_callV C0 (m_M_isIn (σ := σ_1) (Nat.le_refl _) x2 0 3  rfl) mm_yX10_isIn ln_RX10_149 (As := fun b => [.int x2, .int 0, .int 3]) (fun _ => rfl) (fun _ => rfl) (loM_7_0 kM0).1 (loM_7_0 kM0).2.1 rfl (Nat.le_trans (by decide) hd) rfl (Nat.le_of_ble_eq_true rfl) dX10_goes_20 ?_
    refine am_ifB_ne C0 dX10_goes_23 (tgt := 30) (by decide) (fun c_5 => ?_) (fun c_5 => ?_)
    · replace h := am_ip h c_5
      refine am_aload_n C0 dX10_goes_30 0 rfl ?_
      obtain ⟨q_6, h_q_6, h⟩ := am_bind h
      refine am_callV C0 (m_M_thinks (σ := σ_1) (Nat.le_refl _) F   h_q_6) mm_yX10_thinks ln_RX10_395 (As := fun b => []) (fun _ => rfl) (fun _ => rfl) (loM_7_0 kM0).1 (loM_7_0 kM0).2.1 rfl (Nat.le_trans (by decide) hd) rfl (Nat.le_of_ble_eq_true rfl) dX10_goes_31 ?_
      refine am_iconst C0 dX10_goes_34 ci_0 ?_
      refine am_istore_n C0 dX10_goes_35 rfl (by decide) rfl (lv' := [(0, .ref (am_b G 0)), (1, .int x1), (2, .int x2), (3, .int 0)]) rfl ?_
      exact am_sub [0, 1, 2, 3] rfl (k_M_goes_l36 C0 hd F hret F x1 x2 0 q_6  h)
    · replace h := am_in h c_5
      refine am_sipush C0 dX10_goes_26 cs_m1000 ?_
      have e := Option.some.inj h
      subst e
      exact hret _ _ dX10_goes_29
set_option maxRecDepth 100000 in
set_option maxHeartbeats 4000000 in
theorem m_M_goes {l : Launch} {d : Nat} {σ : am_SS} {q : Int32 × am_SS} (hd : 8 ≤ d) (F : Nat) (x1 : Int32) (x2 : Int32) (h : M_goes F x1 x2 σ = some q) : am_Met l yX10_goes cX10_goes 4 (some .int) d 0 0 LM (fun b => [.ref (b 0), .int x1, .int x2]) σ (some (.int q.1)) q.2 :=
  am_metI (plainFor_of_name (by decide)) rfl (lv := fun b => [(0, .ref (b 0)), (1, .int x1), (2, .int x2)]) (fun _ => rfl) (fun _ => Nat.le_of_ble_eq_true rfl) (fun G C0 _ hret => k_M_goes C0 hd F hret x1 x2 σ  h)
set_option maxRecDepth 100000 in
set_option maxHeartbeats 4000000 in
theorem k_M_peace_p36 {G : am_T} {d0 : Nat} (C0 : am_C G cX10_peace 2 RX10 LM d0) (hd : 8 ≤ d0) (F : Nat) {q : Int32 × am_SS} (hret : am_retI G cX10_peace 2 q.1 q.2) (x1 : Int32) (σ : am_SS) (h : M_peace_p36 F x1 σ = some q) : am_K G 2 36 [(0, .ref (am_b G 0)), (1, .int x1)] [] σ := by
  unfold M_peace_p36 at h
  refine am_aload_n C0 dX10_peace_36 0 rfl ?_
  obtain ⟨q_1, h_q_1, h⟩ := am_bind h
  refine am_callV C0 (m_M_endsThought (σ := σ) (Nat.le_refl _) F   h_q_1) mm_yX10_endsThought ln_RX10_401 (As := fun b => []) (fun _ => rfl) (fun _ => rfl) (loM_7_0 kM0).1 (loM_7_0 kM0).2.1 rfl (Nat.le_trans (by decide) hd) rfl (Nat.le_of_ble_eq_true rfl) dX10_peace_37 ?_
  refine am_iload_n C0 dX10_peace_40 1 rfl ?_
  refine am_bipush C0 dX10_peace_41 kb_60 ?_
  refine am_icmp_le C0 dX10_peace_43 (tgt := 50) (by decide) (fun c_2 => ?_) (fun c_2 => ?_)
  · replace h := am_in h c_2
    refine am_iload_n C0 dX10_peace_50 1 rfl ?_
    have e := Option.some.inj h
    subst e
    exact hret _ _ dX10_peace_51
  · replace h := am_ip h c_2
    refine am_iconst C0 dX10_peace_46 ci_m1 ?_
    refine am_goto C0 dX10_peace_47 (tgt := 51) (by decide) ?_
    have e := Option.some.inj h
    subst e
    exact hret _ _ dX10_peace_51
set_option maxRecDepth 100000 in
set_option maxHeartbeats 4000000 in
theorem k_M_peace_l11 {G : am_T} {d0 : Nat} (C0 : am_C G cX10_peace 2 RX10 LM d0) (hd : 8 ≤ d0) (F : Nat) {q : Int32 × am_SS} (hret : am_retI G cX10_peace 2 q.1 q.2) : ∀ (n : Nat) (x1 : Int32) (σ : am_SS) (h : M_peace_l11 F n x1 σ = some q), am_K G 2 11 [(0, .ref (am_b G 0)), (1, .int x1)] [] σ := by
  intro n
  induction n with
  | zero =>
    intro x1 σ h
    rw [M_peace_l11] at h
    cases h
  | succ n ih =>
    intro x1 σ h
    rw [M_peace_l11] at h
    refine am_iload_n C0 dX10_peace_11 1 rfl ?_
    refine am_bipush C0 dX10_peace_12 kb_60 ?_
    refine am_icmp_gt C0 dX10_peace_14 (tgt := 36) (by decide) (fun c_1 => ?_) (fun c_1 => ?_)
    · replace h := am_ip h c_1
      exact am_sub [0, 1] rfl (k_M_peace_p36 C0 hd F hret x1 σ  h)
    · replace h := am_in h c_1
      refine am_aload_n C0 dX10_peace_17 0 rfl ?_
      obtain ⟨q_2, h_q_2, h⟩ := am_bind h
      refine am_callV C0 (m_M_isWon (σ := σ) (Nat.le_refl _)   h_q_2) mm_yX10_isWon ln_RX10_153 (As := fun b => []) (fun _ => rfl) (fun _ => rfl) (loM_7_0 kM0).1 (loM_7_0 kM0).2.1 rfl (Nat.le_trans (by decide) hd) rfl (Nat.le_of_ble_eq_true rfl) dX10_peace_18 ?_
      refine am_ifB_ne C0 dX10_peace_21 (tgt := 36) (by decide) (fun c_3 => ?_) (fun c_3 => ?_)
      · replace h := am_ip h c_3
        exact am_sub [0, 1] rfl (k_M_peace_p36 C0 hd F hret x1 σ  h)
      · replace h := am_in h c_3
        refine am_aload_n C0 dX10_peace_24 0 rfl ?_
        obtain ⟨q_4, h_q_4, h⟩ := am_bind h
        refine am_callV C0 (m_M_goesBy (σ := σ) (Nat.le_refl _) F   h_q_4) mm_yX10_goesBy ln_RX10_389 (As := fun b => []) (fun _ => rfl) (fun _ => rfl) (loM_7_0 kM0).1 (loM_7_0 kM0).2.1 rfl (Nat.le_trans (by decide) hd) rfl (Nat.le_of_ble_eq_true rfl) dX10_peace_25 ?_
        refine am_pop C0 dX10_peace_28 rfl ?_
        refine am_iload_n C0 dX10_peace_29 1 rfl ?_
        refine am_iconst C0 dX10_peace_30 ci_1 ?_
        refine am_iadd C0 dX10_peace_31 ?_
        obtain ⟨x1_5, e_x1_5, h⟩ := am_lt h
        refine am_top e_x1_5 ?_
        refine am_istore_n C0 dX10_peace_32 rfl (by decide) rfl (lv' := [(0, .ref (am_b G 0)), (1, .int x1_5)]) rfl ?_
        refine am_goto C0 dX10_peace_33 (tgt := 11) (by decide) ?_
        exact am_sub [0, 1] rfl (ih x1_5 q_4.2  h)
set_option maxRecDepth 100000 in
set_option maxHeartbeats 4000000 in
theorem k_M_peace {G : am_T} {d0 : Nat} (C0 : am_C G cX10_peace 2 RX10 LM d0) (hd : 8 ≤ d0) (F : Nat) {q : Int32 × am_SS} (hret : am_retI G cX10_peace 2 q.1 q.2) (σ : am_SS) (h : M_peace F  σ = some q) : am_K G 2 0 [(0, .ref (am_b G 0))] [] σ := by
  unfold M_peace at h
  refine am_aload_n C0 dX10_peace_0 0 rfl ?_
  refine am_iconst C0 dX10_peace_1 ci_0 ?_
  obtain ⟨σ_1, e_σ_1, h⟩ := am_lt h
  refine am_putI C0 e_σ_1 fp_RX10_131 (loM_7_0 kM0).1 (loM_7_0 kM0).2.1 (loM_7_0 kM0).2.2.1 (loM_7_0 kM0).2.2.2 rfl rfl dX10_peace_2 ?_
  refine am_aload_n C0 dX10_peace_5 0 rfl ?_
  obtain ⟨q_2, h_q_2, h⟩ := am_bind h
  refine am_callV C0 (m_M_thinks (σ := σ_1) (Nat.le_refl _) F   h_q_2) mm_yX10_thinks ln_RX10_395 (As := fun b => []) (fun _ => rfl) (fun _ => rfl) (loM_7_0 kM0).1 (loM_7_0 kM0).2.1 rfl (Nat.le_trans (by decide) hd) rfl (Nat.le_of_ble_eq_true rfl) dX10_peace_6 ?_
  refine am_iconst C0 dX10_peace_9 ci_0 ?_
  refine am_istore_n C0 dX10_peace_10 rfl (by decide) rfl (lv' := [(0, .ref (am_b G 0)), (1, .int 0)]) rfl ?_
  exact am_sub [0, 1] rfl (k_M_peace_l11 C0 hd F hret F 0 q_2  h)
set_option maxRecDepth 100000 in
set_option maxHeartbeats 4000000 in
theorem m_M_peace {l : Launch} {d : Nat} {σ : am_SS} {q : Int32 × am_SS} (hd : 8 ≤ d) (F : Nat) (h : M_peace F  σ = some q) : am_Met l yX10_peace cX10_peace 2 (some .int) d 0 0 LM (fun b => [.ref (b 0)]) σ (some (.int q.1)) q.2 :=
  am_metI (plainFor_of_name (by decide)) rfl (lv := fun b => [(0, .ref (b 0))]) (fun _ => rfl) (fun _ => Nat.le_of_ble_eq_true rfl) (fun G C0 _ hret => k_M_peace C0 hd F hret  σ  h)
set_option maxRecDepth 100000 in
set_option maxHeartbeats 4000000 in
theorem k_M_digitOf {G : am_T} {d0 : Nat} (C0 : am_C G cX10_digitOf 3 RX10 LM d0) (hd : 1 ≤ d0) {σ0 : am_SS} {q : Int32} (hret : am_retI G cX10_digitOf 3 q σ0) (x1 : Int32) (x2 : Int32) (h : M_digitOf x1 x2 = q) : am_K G 3 0 [(0, .ref (am_b G 0)), (1, .int x1), (2, .int x2)] [] σ0 := by
  unfold M_digitOf at h
  refine am_iload_n C0 dX10_digitOf_0 2 rfl ?_
  refine am_if_ne C0 dX10_digitOf_1 (tgt := 12) (by decide) (fun c_1 => ?_) (fun c_1 => ?_)
  · replace h := am_in h c_1
    refine am_iload_n C0 dX10_digitOf_12 2 rfl ?_
    refine am_iconst C0 dX10_digitOf_13 ci_1 ?_
    refine am_icmp_ne C0 dX10_digitOf_14 (tgt := 27) (by decide) (fun c_2 => ?_) (fun c_2 => ?_)
    · replace h := am_in h c_2
      refine am_iload_n C0 dX10_digitOf_27 2 rfl ?_
      refine am_iconst C0 dX10_digitOf_28 ci_2 ?_
      refine am_icmp_ne C0 dX10_digitOf_29 (tgt := 42) (by decide) (fun c_3 => ?_) (fun c_3 => ?_)
      · replace h := am_in h c_3
        refine am_iload_n C0 dX10_digitOf_42 1 rfl ?_
        refine am_bipush C0 dX10_digitOf_43 kb_10 ?_
        refine am_irem C0 dX10_digitOf_45 nz_10 ?_
        have e := h
        subst e
        exact hret _ _ dX10_digitOf_46
      · replace h := am_ip h c_3
        refine am_iload_n C0 dX10_digitOf_32 1 rfl ?_
        refine am_bipush C0 dX10_digitOf_33 kb_10 ?_
        refine am_idiv C0 dX10_digitOf_35 nz_10 ?_
        refine am_bipush C0 dX10_digitOf_36 kb_10 ?_
        refine am_irem C0 dX10_digitOf_38 nz_10 ?_
        refine am_goto C0 dX10_digitOf_39 (tgt := 46) (by decide) ?_
        have e := h
        subst e
        exact hret _ _ dX10_digitOf_46
    · replace h := am_ip h c_2
      refine am_iload_n C0 dX10_digitOf_17 1 rfl ?_
      refine am_bipush C0 dX10_digitOf_18 kb_100 ?_
      refine am_idiv C0 dX10_digitOf_20 nz_100 ?_
      refine am_bipush C0 dX10_digitOf_21 kb_10 ?_
      refine am_irem C0 dX10_digitOf_23 nz_10 ?_
      refine am_goto C0 dX10_digitOf_24 (tgt := 46) (by decide) ?_
      have e := h
      subst e
      exact hret _ _ dX10_digitOf_46
  · replace h := am_ip h c_1
    refine am_iload_n C0 dX10_digitOf_4 1 rfl ?_
    refine am_sipush C0 dX10_digitOf_5 cs_1000 ?_
    refine am_idiv C0 dX10_digitOf_8 nz_1000 ?_
    refine am_goto C0 dX10_digitOf_9 (tgt := 46) (by decide) ?_
    have e := h
    subst e
    exact hret _ _ dX10_digitOf_46
set_option maxRecDepth 100000 in
set_option maxHeartbeats 4000000 in
theorem m_M_digitOf {l : Launch} {d : Nat} {σ : am_SS} {q : Int32} (hd : 1 ≤ d) (x1 : Int32) (x2 : Int32) (h : M_digitOf x1 x2 = q) : am_Met l yX10_digitOf cX10_digitOf 3 (some .int) d 0 0 LM (fun b => [.ref (b 0), .int x1, .int x2]) σ (some (.int q)) σ :=
  am_metI (plainFor_of_name (by decide)) rfl (lv := fun b => [(0, .ref (b 0)), (1, .int x1), (2, .int x2)]) (fun _ => rfl) (fun _ => Nat.le_of_ble_eq_true rfl) (fun G C0 _ hret => k_M_digitOf C0 hd hret x1 x2  h)
set_option maxRecDepth 100000 in
set_option maxHeartbeats 4000000 in
theorem k_M_isWordOfNight_l16 {G : am_T} {d0 : Nat} (C0 : am_C G cX10_isWordOfNight 3 RX10 LM d0) (hd : 2 ≤ d0) (F : Nat) {σ0 : am_SS} {q : Bool} (hret : am_retI G cX10_isWordOfNight 3 (am_bI q) σ0) : ∀ (n : Nat) (x1 : Int32) (x2 : Int32) (h : M_isWordOfNight_l16 F n x1 x2 = some q), am_K G 3 16 [(0, .ref (am_b G 0)), (1, .int x1), (2, .int x2)] [] σ0 := by
  intro n
  induction n with
  | zero =>
    intro x1 x2 h
    rw [M_isWordOfNight_l16] at h
    cases h
  | succ n ih =>
    intro x1 x2 h
    rw [M_isWordOfNight_l16] at h
    refine am_iload_n C0 dX10_isWordOfNight_16 2 rfl ?_
    refine am_iconst C0 dX10_isWordOfNight_17 ci_4 ?_
    refine am_icmp_ge C0 dX10_isWordOfNight_18 (tgt := 39) (by decide) (fun c_1 => ?_) (fun c_1 => ?_)
    · replace h := am_in h c_1
      refine am_iconst C0 dX10_isWordOfNight_39 ci_1 ?_
      have e := Option.some.inj h
      subst e
      exact hret _ _ dX10_isWordOfNight_40
    · replace h := am_ip h c_1
      refine am_aload_n C0 dX10_isWordOfNight_21 0 rfl ?_
      refine am_iload_n C0 dX10_isWordOfNight_22 1 rfl ?_
      refine am_iload_n C0 dX10_isWordOfNight_23 2 rfl ?_
      refine am_callV C0 (m_M_digitOf (σ := σ0) (Nat.le_refl _) x1 x2  rfl) mm_yX10_digitOf ln_RX10_404 (As := fun b => [.int x1, .int x2]) (fun _ => rfl) (fun _ => rfl) (loM_7_0 kM0).1 (loM_7_0 kM0).2.1 rfl (Nat.le_trans (by decide) hd) rfl (Nat.le_of_ble_eq_true rfl) dX10_isWordOfNight_24 ?_
      refine am_iconst C0 dX10_isWordOfNight_27 ci_5 ?_
      refine am_icmp_le C0 dX10_isWordOfNight_28 (tgt := 33) (by decide) (fun c_3 => ?_) (fun c_3 => ?_)
      · replace h := am_in h c_3
        obtain ⟨x2_4, e_x2_4, h⟩ := am_lt h
        refine am_iinc C0 dX10_isWordOfNight_33 2 rfl (by rw [ci_1]; exact e_x2_4) (by decide) rfl (lv' := [(0, .ref (am_b G 0)), (1, .int x1), (2, .int x2_4)]) rfl ?_
        refine am_goto C0 dX10_isWordOfNight_36 (tgt := 16) (by decide) ?_
        exact am_sub [0, 1, 2] rfl (ih x1 x2_4  h)
      · replace h := am_ip h c_3
        refine am_iconst C0 dX10_isWordOfNight_31 ci_0 ?_
        have e := Option.some.inj h
        subst e
        exact hret _ _ dX10_isWordOfNight_32
set_option maxRecDepth 100000 in
set_option maxHeartbeats 4000000 in
theorem k_M_isWordOfNight {G : am_T} {d0 : Nat} (C0 : am_C G cX10_isWordOfNight 3 RX10 LM d0) (hd : 2 ≤ d0) (F : Nat) {σ0 : am_SS} {q : Bool} (hret : am_retI G cX10_isWordOfNight 3 (am_bI q) σ0) (x1 : Int32) (h : M_isWordOfNight F x1 = some q) : am_K G 3 0 [(0, .ref (am_b G 0)), (1, .int x1)] [] σ0 := by
  unfold M_isWordOfNight at h
  refine am_aload_n C0 dX10_isWordOfNight_0 0 rfl ?_
  refine am_iload_n C0 dX10_isWordOfNight_1 1 rfl ?_
  refine am_iconst C0 dX10_isWordOfNight_2 ci_0 ?_
  refine am_sipush C0 dX10_isWordOfNight_3 cs_5555 ?_
  refine am_callV C0 (m_M_isIn (σ := σ0) (Nat.le_refl _) x1 0 5555  rfl) mm_yX10_isIn ln_RX10_149 (As := fun b => [.int x1, .int 0, .int 5555]) (fun _ => rfl) (fun _ => rfl) (loM_7_0 kM0).1 (loM_7_0 kM0).2.1 rfl (Nat.le_trans (by decide) hd) rfl (Nat.le_of_ble_eq_true rfl) dX10_isWordOfNight_6 ?_
  refine am_ifB_ne C0 dX10_isWordOfNight_9 (tgt := 14) (by decide) (fun c_2 => ?_) (fun c_2 => ?_)
  · replace h := am_ip h c_2
    refine am_iconst C0 dX10_isWordOfNight_14 ci_0 ?_
    refine am_istore_n C0 dX10_isWordOfNight_15 rfl (by decide) rfl (lv' := [(0, .ref (am_b G 0)), (1, .int x1), (2, .int 0)]) rfl ?_
    exact am_sub [0, 1, 2] rfl (k_M_isWordOfNight_l16 C0 hd F hret F x1 0  h)
  · replace h := am_in h c_2
    refine am_iconst C0 dX10_isWordOfNight_12 ci_0 ?_
    have e := Option.some.inj h
    subst e
    exact hret _ _ dX10_isWordOfNight_13
set_option maxRecDepth 100000 in
set_option maxHeartbeats 4000000 in
theorem m_M_isWordOfNight {l : Launch} {d : Nat} {σ : am_SS} {q : Bool} (hd : 2 ≤ d) (F : Nat) (x1 : Int32) (h : M_isWordOfNight F x1 = some q) : am_Met l yX10_isWordOfNight cX10_isWordOfNight 3 (some .boolean) d 0 0 LM (fun b => [.ref (b 0), .int x1]) σ (some (.int (am_bI q))) σ :=
  am_metI (plainFor_of_name (by decide)) (am_bI_nr _) (lv := fun b => [(0, .ref (b 0)), (1, .int x1)]) (fun _ => rfl) (fun _ => Nat.le_of_ble_eq_true rfl) (fun G C0 _ hret => k_M_isWordOfNight C0 hd F hret x1  h)
set_option maxRecDepth 100000 in
set_option maxHeartbeats 4000000 in
theorem k_M_guess {G : am_T} {d0 : Nat} (C0 : am_C G cX10_guess 4 RX10 LM d0) (hd : 3 ≤ d0) (F : Nat) {q : Int32 × am_SS} (hret : am_retI G cX10_guess 4 q.1 q.2) (x1 : Int32) (x2 : Int32) (x3 : Int32) (σ : am_SS) (h : M_guess F x1 x2 x3 σ = some q) : am_K G 4 0 [(0, .ref (am_b G 0)), (1, .int x1), (2, .int x2), (3, .int x3)] [] σ := by
  unfold M_guess at h
  refine am_aload_n C0 dX10_guess_0 0 rfl ?_
  refine am_iconst C0 dX10_guess_1 ci_0 ?_
  obtain ⟨σ_1, e_σ_1, h⟩ := am_lt h
  refine am_putI C0 e_σ_1 fp_RX10_131 (loM_7_0 kM0).1 (loM_7_0 kM0).2.1 (loM_7_0 kM0).2.2.1 (loM_7_0 kM0).2.2.2 rfl rfl dX10_guess_2 ?_
  refine am_iload_n C0 dX10_guess_5 1 rfl ?_
  refine am_iconst C0 dX10_guess_6 ci_m1 ?_
  refine am_icmp_ne C0 dX10_guess_7 (tgt := 17) (by decide) (fun c_2 => ?_) (fun c_2 => ?_)
  · replace h := am_in h c_2
    refine am_aload_n C0 dX10_guess_17 0 rfl ?_
    refine am_iload_n C0 dX10_guess_18 1 rfl ?_
    obtain ⟨q_3, h_q_3, h⟩ := am_bind h
    refine am_callV C0 (m_M_isWordOfNight (σ := σ_1) (Nat.le_refl _) F x1  h_q_3) mm_yX10_isWordOfNight ln_RX10_410 (As := fun b => [.int x1]) (fun _ => rfl) (fun _ => rfl) (loM_7_0 kM0).1 (loM_7_0 kM0).2.1 rfl (Nat.le_trans (by decide) hd) rfl (Nat.le_of_ble_eq_true rfl) dX10_guess_19 ?_
    refine am_ifB_eq C0 dX10_guess_22 (tgt := 61) (by decide) (fun c_4 => ?_) (fun c_4 => ?_)
    · replace h := am_in h c_4
      refine am_iconst C0 dX10_guess_61 ci_m1 ?_
      have e := Option.some.inj h
      subst e
      exact hret _ _ dX10_guess_62
    · replace h := am_ip h c_4
      refine am_aload_n C0 dX10_guess_25 0 rfl ?_
      refine am_iload_n C0 dX10_guess_26 2 rfl ?_
      refine am_iconst C0 dX10_guess_27 ci_0 ?_
      refine am_iconst C0 dX10_guess_28 ci_4 ?_
      refine am_callV C0 (m_M_isIn (σ := σ_1) (Nat.le_refl _) x2 0 4  rfl) mm_yX10_isIn ln_RX10_149 (As := fun b => [.int x2, .int 0, .int 4]) (fun _ => rfl) (fun _ => rfl) (loM_7_0 kM0).1 (loM_7_0 kM0).2.1 rfl (Nat.le_trans (by decide) hd) rfl (Nat.le_of_ble_eq_true rfl) dX10_guess_29 ?_
      refine am_ifB_eq C0 dX10_guess_32 (tgt := 61) (by decide) (fun c_6 => ?_) (fun c_6 => ?_)
      · replace h := am_in h c_6
        refine am_iconst C0 dX10_guess_61 ci_m1 ?_
        have e := Option.some.inj h
        subst e
        exact hret _ _ dX10_guess_62
      · replace h := am_ip h c_6
        refine am_aload_n C0 dX10_guess_35 0 rfl ?_
        refine am_iload_n C0 dX10_guess_36 3 rfl ?_
        refine am_iconst C0 dX10_guess_37 ci_0 ?_
        refine am_iconst C0 dX10_guess_38 ci_4 ?_
        refine am_callV C0 (m_M_isIn (σ := σ_1) (Nat.le_refl _) x3 0 4  rfl) mm_yX10_isIn ln_RX10_149 (As := fun b => [.int x3, .int 0, .int 4]) (fun _ => rfl) (fun _ => rfl) (loM_7_0 kM0).1 (loM_7_0 kM0).2.1 rfl (Nat.le_trans (by decide) hd) rfl (Nat.le_of_ble_eq_true rfl) dX10_guess_39 ?_
        refine am_ifB_eq C0 dX10_guess_42 (tgt := 61) (by decide) (fun c_8 => ?_) (fun c_8 => ?_)
        · replace h := am_in h c_8
          refine am_iconst C0 dX10_guess_61 ci_m1 ?_
          have e := Option.some.inj h
          subst e
          exact hret _ _ dX10_guess_62
        · replace h := am_ip h c_8
          refine am_iload_n C0 dX10_guess_45 2 rfl ?_
          refine am_iload_n C0 dX10_guess_46 3 rfl ?_
          refine am_iadd C0 dX10_guess_47 ?_
          refine am_iconst C0 dX10_guess_48 ci_4 ?_
          refine am_icmp_gt C0 dX10_guess_49 (tgt := 61) (by decide) (fun c_9 => ?_) (fun c_9 => ?_)
          · replace h := am_ip h c_9
            refine am_iconst C0 dX10_guess_61 ci_m1 ?_
            have e := Option.some.inj h
            subst e
            exact hret _ _ dX10_guess_62
          · replace h := am_in h c_9
            refine am_aload_n C0 dX10_guess_52 0 rfl ?_
            refine am_getI C0 ff_RX10_407 (loM_7_44 kM0).1 (loM_7_44 kM0).2.1 (loM_7_44 kM0).2.2.1 (loM_7_44 kM0).2.2.2 dX10_guess_53 ?_
            refine am_bipush C0 dX10_guess_56 kb_8 ?_
            refine am_icmp_ne C0 dX10_guess_58 (tgt := 63) (by decide) (fun c_10 => ?_) (fun c_10 => ?_)
            · replace h := am_in h c_10
              refine am_aload_n C0 dX10_guess_63 0 rfl ?_
              refine am_getR C0 (j := 24) ff_RX10_83 (loM_7_45 kM0).1 (loM_7_45 kM0).2.1 (loM_7_45 kM0).2.2.1 (loM_7_45 kM0).2.2.2 dX10_guess_64 ?_
              refine am_aload_n C0 dX10_guess_67 0 rfl ?_
              refine am_getI C0 ff_RX10_407 (loM_7_44 kM0).1 (loM_7_44 kM0).2.1 (loM_7_44 kM0).2.2.1 (loM_7_44 kM0).2.2.2 dX10_guess_68 ?_
              refine am_iload_n C0 dX10_guess_71 1 rfl ?_
              obtain ⟨σ_11, h_σ_11, h⟩ := am_bind h
              refine am_iast C0 (ltM (tgM_7_45 kM0)) (tgM_7_45 kM0) (lnM_7_45 kM0) h_σ_11 dX10_guess_72 ?_
              refine am_aload_n C0 dX10_guess_73 0 rfl ?_
              refine am_getR C0 (j := 25) ff_RX10_86 (loM_7_46 kM0).1 (loM_7_46 kM0).2.1 (loM_7_46 kM0).2.2.1 (loM_7_46 kM0).2.2.2 dX10_guess_74 ?_
              refine am_aload_n C0 dX10_guess_77 0 rfl ?_
              refine am_getI C0 ff_RX10_407 (loM_7_44 kM0).1 (loM_7_44 kM0).2.1 (loM_7_44 kM0).2.2.1 (loM_7_44 kM0).2.2.2 dX10_guess_78 ?_
              refine am_iload_n C0 dX10_guess_81 2 rfl ?_
              obtain ⟨σ_12, h_σ_12, h⟩ := am_bind h
              refine am_iast C0 (ltM (tgM_7_46 kM0)) (tgM_7_46 kM0) (lnM_7_46 kM0) h_σ_12 dX10_guess_82 ?_
              refine am_aload_n C0 dX10_guess_83 0 rfl ?_
              refine am_getR C0 (j := 26) ff_RX10_89 (loM_7_47 kM0).1 (loM_7_47 kM0).2.1 (loM_7_47 kM0).2.2.1 (loM_7_47 kM0).2.2.2 dX10_guess_84 ?_
              refine am_aload_n C0 dX10_guess_87 0 rfl ?_
              refine am_getI C0 ff_RX10_407 (loM_7_44 kM0).1 (loM_7_44 kM0).2.1 (loM_7_44 kM0).2.2.1 (loM_7_44 kM0).2.2.2 dX10_guess_88 ?_
              refine am_iload_n C0 dX10_guess_91 3 rfl ?_
              obtain ⟨σ_13, h_σ_13, h⟩ := am_bind h
              refine am_iast C0 (ltM (tgM_7_47 kM0)) (tgM_7_47 kM0) (lnM_7_47 kM0) h_σ_13 dX10_guess_92 ?_
              refine am_aload_n C0 dX10_guess_93 0 rfl ?_
              refine am_aload_n C0 dX10_guess_94 0 rfl ?_
              refine am_getI C0 ff_RX10_407 (loM_7_44 kM0).1 (loM_7_44 kM0).2.1 (loM_7_44 kM0).2.2.1 (loM_7_44 kM0).2.2.2 dX10_guess_95 ?_
              refine am_iconst C0 dX10_guess_98 ci_1 ?_
              refine am_iadd C0 dX10_guess_99 ?_
              obtain ⟨σ_14, e_σ_14, h⟩ := am_lt h
              refine am_putI C0 e_σ_14 fp_RX10_407 (loM_7_44 kM0).1 (loM_7_44 kM0).2.1 (loM_7_44 kM0).2.2.1 (loM_7_44 kM0).2.2.2 rfl rfl dX10_guess_100 ?_
              refine am_aload_n C0 dX10_guess_103 0 rfl ?_
              refine am_getI C0 ff_RX10_407 (loM_7_44 kM0).1 (loM_7_44 kM0).2.1 (loM_7_44 kM0).2.2.1 (loM_7_44 kM0).2.2.2 dX10_guess_104 ?_
              have e := Option.some.inj h
              subst e
              exact hret _ _ dX10_guess_107
            · replace h := am_ip h c_10
              refine am_iconst C0 dX10_guess_61 ci_m1 ?_
              have e := Option.some.inj h
              subst e
              exact hret _ _ dX10_guess_62
  · replace h := am_ip h c_2
    refine am_aload_n C0 dX10_guess_10 0 rfl ?_
    refine am_iconst C0 dX10_guess_11 ci_0 ?_
    obtain ⟨σ_15, e_σ_15, h⟩ := am_lt h
    refine am_putI C0 e_σ_15 fp_RX10_407 (loM_7_44 kM0).1 (loM_7_44 kM0).2.1 (loM_7_44 kM0).2.2.1 (loM_7_44 kM0).2.2.2 rfl rfl dX10_guess_12 ?_
    refine am_iconst C0 dX10_guess_15 ci_0 ?_
    have e := Option.some.inj h
    subst e
    exact hret _ _ dX10_guess_16
set_option maxRecDepth 100000 in
set_option maxHeartbeats 4000000 in
theorem m_M_guess {l : Launch} {d : Nat} {σ : am_SS} {q : Int32 × am_SS} (hd : 3 ≤ d) (F : Nat) (x1 : Int32) (x2 : Int32) (x3 : Int32) (h : M_guess F x1 x2 x3 σ = some q) : am_Met l yX10_guess cX10_guess 4 (some .int) d 0 0 LM (fun b => [.ref (b 0), .int x1, .int x2, .int x3]) σ (some (.int q.1)) q.2 :=
  am_metI (plainFor_of_name (by decide)) rfl (lv := fun b => [(0, .ref (b 0)), (1, .int x1), (2, .int x2), (3, .int x3)]) (fun _ => rfl) (fun _ => Nat.le_of_ble_eq_true rfl) (fun G C0 _ hret => k_M_guess C0 hd F hret x1 x2 x3 σ  h)
set_option maxRecDepth 100000 in
set_option maxHeartbeats 4000000 in
theorem k_M_rightOf_p32 {G : am_T} {d0 : Nat} (C0 : am_C G cX10_rightOf 5 RX10 LM d0) (hd : 2 ≤ d0) (rec5 : Int32 → Int32 → Int32 → Int32 → Option Int32) (F : Nat) {σ0 : am_SS} {q : Int32} (hret : am_retI G cX10_rightOf 5 q σ0) (hrec5 : ∀ (x1 : Int32) (x2 : Int32) (x3 : Int32) (x4 : Int32), rec5 x1 x2 x3 x4 = some q → am_K G 5 5 [(0, .ref (am_b G 0)), (1, .int x1), (2, .int x2), (3, .int x3), (4, .int x4)] [] σ0) (x1 : Int32) (x2 : Int32) (x3 : Int32) (x4 : Int32) (h : M_rightOf_p32 rec5 F x1 x2 x3 x4 = some q) : am_K G 5 32 [(0, .ref (am_b G 0)), (1, .int x1), (2, .int x2), (3, .int x3), (4, .int x4)] [] σ0 := by
  unfold M_rightOf_p32 at h
  obtain ⟨x4_1, e_x4_1, h⟩ := am_lt h
  refine am_iinc C0 dX10_rightOf_32 4 rfl (by rw [ci_1]; exact e_x4_1) (by decide) rfl (lv' := [(0, .ref (am_b G 0)), (1, .int x1), (2, .int x2), (3, .int x3), (4, .int x4_1)]) rfl ?_
  refine am_goto C0 dX10_rightOf_35 (tgt := 5) (by decide) ?_
  exact am_sub [0, 1, 2, 3, 4] rfl (hrec5 x1 x2 x3 x4_1  h)
set_option maxRecDepth 100000 in
set_option maxHeartbeats 4000000 in
theorem k_M_rightOf_l5 {G : am_T} {d0 : Nat} (C0 : am_C G cX10_rightOf 5 RX10 LM d0) (hd : 2 ≤ d0) (F : Nat) {σ0 : am_SS} {q : Int32} (hret : am_retI G cX10_rightOf 5 q σ0) : ∀ (n : Nat) (x1 : Int32) (x2 : Int32) (x3 : Int32) (x4 : Int32) (h : M_rightOf_l5 F n x1 x2 x3 x4 = some q), am_K G 5 5 [(0, .ref (am_b G 0)), (1, .int x1), (2, .int x2), (3, .int x3), (4, .int x4)] [] σ0 := by
  intro n
  induction n with
  | zero =>
    intro x1 x2 x3 x4 h
    rw [M_rightOf_l5] at h
    cases h
  | succ n ih =>
    intro x1 x2 x3 x4 h
    rw [M_rightOf_l5] at h
    refine am_iload C0 dX10_rightOf_5 4 rfl ?_
    refine am_iconst C0 dX10_rightOf_7 ci_4 ?_
    refine am_icmp_ge C0 dX10_rightOf_8 (tgt := 38) (by decide) (fun c_1 => ?_) (fun c_1 => ?_)
    · replace h := am_in h c_1
      refine am_iload_n C0 dX10_rightOf_38 3 rfl ?_
      have e := Option.some.inj h
      subst e
      exact hret _ _ dX10_rightOf_39
    · replace h := am_ip h c_1
      refine am_aload_n C0 dX10_rightOf_11 0 rfl ?_
      refine am_iload_n C0 dX10_rightOf_12 1 rfl ?_
      refine am_iload C0 dX10_rightOf_13 4 rfl ?_
      refine am_callV C0 (m_M_digitOf (σ := σ0) (Nat.le_refl _) x1 x4  rfl) mm_yX10_digitOf ln_RX10_404 (As := fun b => [.int x1, .int x4]) (fun _ => rfl) (fun _ => rfl) (loM_7_0 kM0).1 (loM_7_0 kM0).2.1 rfl (Nat.le_trans (by decide) hd) rfl (Nat.le_of_ble_eq_true rfl) dX10_rightOf_15 ?_
      refine am_aload_n C0 dX10_rightOf_18 0 rfl ?_
      refine am_iload_n C0 dX10_rightOf_19 2 rfl ?_
      refine am_iload C0 dX10_rightOf_20 4 rfl ?_
      refine am_callV C0 (m_M_digitOf (σ := σ0) (Nat.le_refl _) x2 x4  rfl) mm_yX10_digitOf ln_RX10_404 (As := fun b => [.int x2, .int x4]) (fun _ => rfl) (fun _ => rfl) (loM_7_0 kM0).1 (loM_7_0 kM0).2.1 rfl (Nat.le_trans (by decide) hd) rfl (Nat.le_of_ble_eq_true rfl) dX10_rightOf_22 ?_
      refine am_icmp_ne C0 dX10_rightOf_25 (tgt := 32) (by decide) (fun c_4 => ?_) (fun c_4 => ?_)
      · replace h := am_in h c_4
        exact am_sub [0, 1, 2, 3, 4] rfl (k_M_rightOf_p32 C0 hd _ F hret (fun z1 z2 z3 z4 z => ih z1 z2 z3 z4 z) x1 x2 x3 x4  h)
      · replace h := am_ip h c_4
        refine am_iload_n C0 dX10_rightOf_28 3 rfl ?_
        refine am_iconst C0 dX10_rightOf_29 ci_1 ?_
        refine am_iadd C0 dX10_rightOf_30 ?_
        obtain ⟨x3_5, e_x3_5, h⟩ := am_lt h
        refine am_top e_x3_5 ?_
        refine am_istore_n C0 dX10_rightOf_31 rfl (by decide) rfl (lv' := [(0, .ref (am_b G 0)), (1, .int x1), (2, .int x2), (3, .int x3_5), (4, .int x4)]) rfl ?_
        exact am_sub [0, 1, 2, 3, 4] rfl (k_M_rightOf_p32 C0 hd _ F hret (fun z1 z2 z3 z4 z => ih z1 z2 z3 z4 z) x1 x2 x3_5 x4  h)
set_option maxRecDepth 100000 in
set_option maxHeartbeats 4000000 in
theorem k_M_rightOf {G : am_T} {d0 : Nat} (C0 : am_C G cX10_rightOf 5 RX10 LM d0) (hd : 2 ≤ d0) (F : Nat) {σ0 : am_SS} {q : Int32} (hret : am_retI G cX10_rightOf 5 q σ0) (x1 : Int32) (x2 : Int32) (h : M_rightOf F x1 x2 = some q) : am_K G 5 0 [(0, .ref (am_b G 0)), (1, .int x1), (2, .int x2)] [] σ0 := by
  unfold M_rightOf at h
  refine am_iconst C0 dX10_rightOf_0 ci_0 ?_
  refine am_istore_n C0 dX10_rightOf_1 rfl (by decide) rfl (lv' := [(0, .ref (am_b G 0)), (1, .int x1), (2, .int x2), (3, .int 0)]) rfl ?_
  refine am_iconst C0 dX10_rightOf_2 ci_0 ?_
  refine am_istore C0 dX10_rightOf_3 (by decide) rfl (lv' := [(0, .ref (am_b G 0)), (1, .int x1), (2, .int x2), (3, .int 0), (4, .int 0)]) rfl ?_
  exact am_sub [0, 1, 2, 3, 4] rfl (k_M_rightOf_l5 C0 hd F hret F x1 x2 0 0  h)
set_option maxRecDepth 100000 in
set_option maxHeartbeats 4000000 in
theorem m_M_rightOf {l : Launch} {d : Nat} {σ : am_SS} {q : Int32} (hd : 2 ≤ d) (F : Nat) (x1 : Int32) (x2 : Int32) (h : M_rightOf F x1 x2 = some q) : am_Met l yX10_rightOf cX10_rightOf 5 (some .int) d 0 0 LM (fun b => [.ref (b 0), .int x1, .int x2]) σ (some (.int q)) σ :=
  am_metI (plainFor_of_name (by decide)) rfl (lv := fun b => [(0, .ref (b 0)), (1, .int x1), (2, .int x2)]) (fun _ => rfl) (fun _ => Nat.le_of_ble_eq_true rfl) (fun G C0 _ hret => k_M_rightOf C0 hd F hret x1 x2  h)
set_option maxRecDepth 100000 in
set_option maxHeartbeats 4000000 in
theorem k_M_manyOf_p26 {G : am_T} {d0 : Nat} (C0 : am_C G cX10_manyOf 5 RX10 LM d0) (hd : 2 ≤ d0) (rec5 : Int32 → Int32 → Int32 → Int32 → Option Int32) (F : Nat) {σ0 : am_SS} {q : Int32} (hret : am_retI G cX10_manyOf 5 q σ0) (hrec5 : ∀ (x1 : Int32) (x2 : Int32) (x3 : Int32) (x4 : Int32), rec5 x1 x2 x3 x4 = some q → am_K G 5 5 [(0, .ref (am_b G 0)), (1, .int x1), (2, .int x2), (3, .int x3), (4, .int x4)] [] σ0) (x1 : Int32) (x2 : Int32) (x3 : Int32) (x4 : Int32) (h : M_manyOf_p26 rec5 F x1 x2 x3 x4 = some q) : am_K G 5 26 [(0, .ref (am_b G 0)), (1, .int x1), (2, .int x2), (3, .int x3), (4, .int x4)] [] σ0 := by
  unfold M_manyOf_p26 at h
  obtain ⟨x4_1, e_x4_1, h⟩ := am_lt h
  refine am_iinc C0 dX10_manyOf_26 4 rfl (by rw [ci_1]; exact e_x4_1) (by decide) rfl (lv' := [(0, .ref (am_b G 0)), (1, .int x1), (2, .int x2), (3, .int x3), (4, .int x4_1)]) rfl ?_
  refine am_goto C0 dX10_manyOf_29 (tgt := 5) (by decide) ?_
  exact am_sub [0, 1, 2, 3, 4] rfl (hrec5 x1 x2 x3 x4_1  h)
set_option maxRecDepth 100000 in
set_option maxHeartbeats 4000000 in
theorem k_M_manyOf_l5 {G : am_T} {d0 : Nat} (C0 : am_C G cX10_manyOf 5 RX10 LM d0) (hd : 2 ≤ d0) (F : Nat) {σ0 : am_SS} {q : Int32} (hret : am_retI G cX10_manyOf 5 q σ0) : ∀ (n : Nat) (x1 : Int32) (x2 : Int32) (x3 : Int32) (x4 : Int32) (h : M_manyOf_l5 F n x1 x2 x3 x4 = some q), am_K G 5 5 [(0, .ref (am_b G 0)), (1, .int x1), (2, .int x2), (3, .int x3), (4, .int x4)] [] σ0 := by
  intro n
  induction n with
  | zero =>
    intro x1 x2 x3 x4 h
    rw [M_manyOf_l5] at h
    cases h
  | succ n ih =>
    intro x1 x2 x3 x4 h
    rw [M_manyOf_l5] at h
    refine am_iload C0 dX10_manyOf_5 4 rfl ?_
    refine am_iconst C0 dX10_manyOf_7 ci_4 ?_
    refine am_icmp_ge C0 dX10_manyOf_8 (tgt := 32) (by decide) (fun c_1 => ?_) (fun c_1 => ?_)
    · replace h := am_in h c_1
      refine am_iload_n C0 dX10_manyOf_32 3 rfl ?_
      have e := Option.some.inj h
      subst e
      exact hret _ _ dX10_manyOf_33
    · replace h := am_ip h c_1
      refine am_aload_n C0 dX10_manyOf_11 0 rfl ?_
      refine am_iload_n C0 dX10_manyOf_12 1 rfl ?_
      refine am_iload C0 dX10_manyOf_13 4 rfl ?_
      refine am_callV C0 (m_M_digitOf (σ := σ0) (Nat.le_refl _) x1 x4  rfl) mm_yX10_digitOf ln_RX10_404 (As := fun b => [.int x1, .int x4]) (fun _ => rfl) (fun _ => rfl) (loM_7_0 kM0).1 (loM_7_0 kM0).2.1 rfl (Nat.le_trans (by decide) hd) rfl (Nat.le_of_ble_eq_true rfl) dX10_manyOf_15 ?_
      refine am_iload_n C0 dX10_manyOf_18 2 rfl ?_
      refine am_icmp_ne C0 dX10_manyOf_19 (tgt := 26) (by decide) (fun c_3 => ?_) (fun c_3 => ?_)
      · replace h := am_in h c_3
        exact am_sub [0, 1, 2, 3, 4] rfl (k_M_manyOf_p26 C0 hd _ F hret (fun z1 z2 z3 z4 z => ih z1 z2 z3 z4 z) x1 x2 x3 x4  h)
      · replace h := am_ip h c_3
        refine am_iload_n C0 dX10_manyOf_22 3 rfl ?_
        refine am_iconst C0 dX10_manyOf_23 ci_1 ?_
        refine am_iadd C0 dX10_manyOf_24 ?_
        obtain ⟨x3_4, e_x3_4, h⟩ := am_lt h
        refine am_top e_x3_4 ?_
        refine am_istore_n C0 dX10_manyOf_25 rfl (by decide) rfl (lv' := [(0, .ref (am_b G 0)), (1, .int x1), (2, .int x2), (3, .int x3_4), (4, .int x4)]) rfl ?_
        exact am_sub [0, 1, 2, 3, 4] rfl (k_M_manyOf_p26 C0 hd _ F hret (fun z1 z2 z3 z4 z => ih z1 z2 z3 z4 z) x1 x2 x3_4 x4  h)
set_option maxRecDepth 100000 in
set_option maxHeartbeats 4000000 in
theorem k_M_manyOf {G : am_T} {d0 : Nat} (C0 : am_C G cX10_manyOf 5 RX10 LM d0) (hd : 2 ≤ d0) (F : Nat) {σ0 : am_SS} {q : Int32} (hret : am_retI G cX10_manyOf 5 q σ0) (x1 : Int32) (x2 : Int32) (h : M_manyOf F x1 x2 = some q) : am_K G 5 0 [(0, .ref (am_b G 0)), (1, .int x1), (2, .int x2)] [] σ0 := by
  unfold M_manyOf at h
  refine am_iconst C0 dX10_manyOf_0 ci_0 ?_
  refine am_istore_n C0 dX10_manyOf_1 rfl (by decide) rfl (lv' := [(0, .ref (am_b G 0)), (1, .int x1), (2, .int x2), (3, .int 0)]) rfl ?_
  refine am_iconst C0 dX10_manyOf_2 ci_0 ?_
  refine am_istore C0 dX10_manyOf_3 (by decide) rfl (lv' := [(0, .ref (am_b G 0)), (1, .int x1), (2, .int x2), (3, .int 0), (4, .int 0)]) rfl ?_
  exact am_sub [0, 1, 2, 3, 4] rfl (k_M_manyOf_l5 C0 hd F hret F x1 x2 0 0  h)
set_option maxRecDepth 100000 in
set_option maxHeartbeats 4000000 in
theorem m_M_manyOf {l : Launch} {d : Nat} {σ : am_SS} {q : Int32} (hd : 2 ≤ d) (F : Nat) (x1 : Int32) (x2 : Int32) (h : M_manyOf F x1 x2 = some q) : am_Met l yX10_manyOf cX10_manyOf 5 (some .int) d 0 0 LM (fun b => [.ref (b 0), .int x1, .int x2]) σ (some (.int q)) σ :=
  am_metI (plainFor_of_name (by decide)) rfl (lv := fun b => [(0, .ref (b 0)), (1, .int x1), (2, .int x2)]) (fun _ => rfl) (fun _ => Nat.le_of_ble_eq_true rfl) (fun G C0 _ hret => k_M_manyOf C0 hd F hret x1 x2  h)
set_option maxRecDepth 100000 in
set_option maxHeartbeats 4000000 in
theorem k_M_doesFit_l15 {G : am_T} {d0 : Nat} (C0 : am_C G cX10_doesFit 5 RX10 LM d0) (hd : 3 ≤ d0) (rec2 : Int32 → Int32 → am_SS → Option Bool) (F : Nat) {σ : am_SS} {q : Bool} (hret : am_retI G cX10_doesFit 5 (am_bI q) σ) (hrec2 : ∀ (x1 : Int32) (x2 : Int32), rec2 x1 x2 σ = some q → am_K G 5 2 [(0, .ref (am_b G 0)), (1, .int x1), (2, .int x2)] [] σ) : ∀ (n : Nat) (x1 : Int32) (x2 : Int32) (x3 : Int32) (x4 : Int32) (h : M_doesFit_l15 rec2 F n x1 x2 x3 x4 σ = some q), am_K G 5 15 [(0, .ref (am_b G 0)), (1, .int x1), (2, .int x2), (3, .int x3), (4, .int x4)] [] σ := by
  intro n
  induction n with
  | zero =>
    intro x1 x2 x3 x4 h
    rw [M_doesFit_l15] at h
    cases h
  | succ n ih =>
    intro x1 x2 x3 x4 h
    rw [M_doesFit_l15] at h
    refine am_iload C0 dX10_doesFit_15 4 rfl ?_
    refine am_bipush C0 dX10_doesFit_17 kb_6 ?_
    refine am_icmp_ge C0 dX10_doesFit_19 (tgt := 54) (by decide) (fun c_1 => ?_) (fun c_1 => ?_)
    · replace h := am_in h c_1
      refine am_aload_n C0 dX10_doesFit_54 0 rfl ?_
      refine am_iload_n C0 dX10_doesFit_55 1 rfl ?_
      refine am_aload_n C0 dX10_doesFit_56 0 rfl ?_
      refine am_getR C0 (j := 24) ff_RX10_83 (loM_7_45 kM0).1 (loM_7_45 kM0).2.1 (loM_7_45 kM0).2.2.1 (loM_7_45 kM0).2.2.2 dX10_doesFit_57 ?_
      refine am_iload_n C0 dX10_doesFit_60 2 rfl ?_
      obtain ⟨t_2, h_t_2, h⟩ := am_bind h
      refine am_iald C0 (ltM (tgM_7_45 kM0)) (tgM_7_45 kM0) (lnM_7_45 kM0) h_t_2 dX10_doesFit_61 ?_
      obtain ⟨q_3, h_q_3, h⟩ := am_bind h
      refine am_callV C0 (m_M_rightOf (σ := σ) (Nat.le_refl _) F x1 t_2  h_q_3) mm_yX10_rightOf ln_RX10_416 (As := fun b => [.int x1, .int t_2]) (fun _ => rfl) (fun _ => rfl) (loM_7_0 kM0).1 (loM_7_0 kM0).2.1 rfl (Nat.le_trans (by decide) hd) rfl (Nat.le_of_ble_eq_true rfl) dX10_doesFit_62 ?_
      refine am_aload_n C0 dX10_doesFit_65 0 rfl ?_
      refine am_getR C0 (j := 25) ff_RX10_86 (loM_7_46 kM0).1 (loM_7_46 kM0).2.1 (loM_7_46 kM0).2.2.1 (loM_7_46 kM0).2.2.2 dX10_doesFit_66 ?_
      refine am_iload_n C0 dX10_doesFit_69 2 rfl ?_
      obtain ⟨t_4, h_t_4, h⟩ := am_bind h
      refine am_iald C0 (ltM (tgM_7_46 kM0)) (tgM_7_46 kM0) (lnM_7_46 kM0) h_t_4 dX10_doesFit_70 ?_
      refine am_icmp_ne C0 dX10_doesFit_71 (tgt := 91) (by decide) (fun c_5 => ?_) (fun c_5 => ?_)
      · replace h := am_in h c_5
        refine am_iconst C0 dX10_doesFit_91 ci_0 ?_
        have e := Option.some.inj h
        subst e
        exact hret _ _ dX10_doesFit_92
      · replace h := am_ip h c_5
        refine am_iload_n C0 dX10_doesFit_74 3 rfl ?_
        refine am_aload_n C0 dX10_doesFit_75 0 rfl ?_
        refine am_getR C0 (j := 25) ff_RX10_86 (loM_7_46 kM0).1 (loM_7_46 kM0).2.1 (loM_7_46 kM0).2.2.1 (loM_7_46 kM0).2.2.2 dX10_doesFit_76 ?_
        refine am_iload_n C0 dX10_doesFit_79 2 rfl ?_
        obtain ⟨t_6, h_t_6, h⟩ := am_bind h
        refine am_iald C0 (ltM (tgM_7_46 kM0)) (tgM_7_46 kM0) (lnM_7_46 kM0) h_t_6 dX10_doesFit_80 ?_
        refine am_aload_n C0 dX10_doesFit_81 0 rfl ?_
        refine am_getR C0 (j := 26) ff_RX10_89 (loM_7_47 kM0).1 (loM_7_47 kM0).2.1 (loM_7_47 kM0).2.2.1 (loM_7_47 kM0).2.2.2 dX10_doesFit_82 ?_
        refine am_iload_n C0 dX10_doesFit_85 2 rfl ?_
        obtain ⟨t_7, h_t_7, h⟩ := am_bind h
        refine am_iald C0 (ltM (tgM_7_47 kM0)) (tgM_7_47 kM0) (lnM_7_47 kM0) h_t_7 dX10_doesFit_86 ?_
        refine am_iadd C0 dX10_doesFit_87 ?_
        refine am_icmp_eq C0 dX10_doesFit_88 (tgt := 93) (by decide) (fun c_8 => ?_) (fun c_8 => ?_)
        · replace h := am_ip h c_8
          obtain ⟨x2_9, e_x2_9, h⟩ := am_lt h
          refine am_iinc C0 dX10_doesFit_93 2 rfl (by rw [ci_1]; exact e_x2_9) (by decide) rfl (lv' := [(0, .ref (am_b G 0)), (1, .int x1), (2, .int x2_9), (3, .int x3), (4, .int x4)]) rfl ?_
          refine am_goto C0 dX10_doesFit_96 (tgt := 2) (by decide) ?_
          exact am_sub [0, 1, 2] rfl (hrec2 x1 x2_9  h)
        · replace h := am_in h c_8
          refine am_iconst C0 dX10_doesFit_91 ci_0 ?_
          have e := Option.some.inj h
          subst e
          exact hret _ _ dX10_doesFit_92
    · replace h := am_ip h c_1
      refine am_iload_n C0 dX10_doesFit_22 3 rfl ?_
      refine am_aload_n C0 dX10_doesFit_23 0 rfl ?_
      refine am_aload_n C0 dX10_doesFit_24 0 rfl ?_
      refine am_iload_n C0 dX10_doesFit_25 1 rfl ?_
      refine am_iload C0 dX10_doesFit_26 4 rfl ?_
      obtain ⟨q_10, h_q_10, h⟩ := am_bind h
      refine am_callV C0 (m_M_manyOf (σ := σ) (Nat.le_refl _) F x1 x4  h_q_10) mm_yX10_manyOf ln_RX10_413 (As := fun b => [.int x1, .int x4]) (fun _ => rfl) (fun _ => rfl) (loM_7_0 kM0).1 (loM_7_0 kM0).2.1 rfl (Nat.le_trans (by decide) hd) rfl (Nat.le_of_ble_eq_true rfl) dX10_doesFit_28 ?_
      refine am_aload_n C0 dX10_doesFit_31 0 rfl ?_
      refine am_aload_n C0 dX10_doesFit_32 0 rfl ?_
      refine am_getR C0 (j := 24) ff_RX10_83 (loM_7_45 kM0).1 (loM_7_45 kM0).2.1 (loM_7_45 kM0).2.2.1 (loM_7_45 kM0).2.2.2 dX10_doesFit_33 ?_
      refine am_iload_n C0 dX10_doesFit_36 2 rfl ?_
      obtain ⟨t_11, h_t_11, h⟩ := am_bind h
      refine am_iald C0 (ltM (tgM_7_45 kM0)) (tgM_7_45 kM0) (lnM_7_45 kM0) h_t_11 dX10_doesFit_37 ?_
      refine am_iload C0 dX10_doesFit_38 4 rfl ?_
      obtain ⟨q_12, h_q_12, h⟩ := am_bind h
      refine am_callV C0 (m_M_manyOf (σ := σ) (Nat.le_refl _) F t_11 x4  h_q_12) mm_yX10_manyOf ln_RX10_413 (As := fun b => [.int t_11, .int x4]) (fun _ => rfl) (fun _ => rfl) (loM_7_0 kM0).1 (loM_7_0 kM0).2.1 rfl (Nat.le_trans (by decide) hd) rfl (Nat.le_of_ble_eq_true rfl) dX10_doesFit_40 ?_
      refine am_callV C0 (m_M_lesser (σ := σ) (Nat.le_refl _) q_10 q_12  rfl) mm_yX10_lesser ln_RX10_350 (As := fun b => [.int q_10, .int q_12]) (fun _ => rfl) (fun _ => rfl) (loM_7_0 kM0).1 (loM_7_0 kM0).2.1 rfl (Nat.le_trans (by decide) hd) rfl (Nat.le_of_ble_eq_true rfl) dX10_doesFit_43 ?_
      refine am_iadd C0 dX10_doesFit_46 ?_
      obtain ⟨x3_14, e_x3_14, h⟩ := am_lt h
      refine am_top e_x3_14 ?_
      refine am_istore_n C0 dX10_doesFit_47 rfl (by decide) rfl (lv' := [(0, .ref (am_b G 0)), (1, .int x1), (2, .int x2), (3, .int x3_14), (4, .int x4)]) rfl ?_
      obtain ⟨x4_15, e_x4_15, h⟩ := am_lt h
      refine am_iinc C0 dX10_doesFit_48 4 rfl (by rw [ci_1]; exact e_x4_15) (by decide) rfl (lv' := [(0, .ref (am_b G 0)), (1, .int x1), (2, .int x2), (3, .int x3_14), (4, .int x4_15)]) rfl ?_
      refine am_goto C0 dX10_doesFit_51 (tgt := 15) (by decide) ?_
      exact am_sub [0, 1, 2, 3, 4] rfl (ih x1 x2 x3_14 x4_15  h)
set_option maxRecDepth 100000 in
set_option maxHeartbeats 4000000 in
theorem k_M_doesFit_l2 {G : am_T} {d0 : Nat} (C0 : am_C G cX10_doesFit 5 RX10 LM d0) (hd : 3 ≤ d0) (F : Nat) {σ : am_SS} {q : Bool} (hret : am_retI G cX10_doesFit 5 (am_bI q) σ) : ∀ (n : Nat) (x1 : Int32) (x2 : Int32) (h : M_doesFit_l2 F n x1 x2 σ = some q), am_K G 5 2 [(0, .ref (am_b G 0)), (1, .int x1), (2, .int x2)] [] σ := by
  intro n
  induction n with
  | zero =>
    intro x1 x2 h
    rw [M_doesFit_l2] at h
    cases h
  | succ n ih =>
    intro x1 x2 h
    rw [M_doesFit_l2] at h
    refine am_iload_n C0 dX10_doesFit_2 2 rfl ?_
    refine am_aload_n C0 dX10_doesFit_3 0 rfl ?_
    refine am_getI C0 ff_RX10_407 (loM_7_44 kM0).1 (loM_7_44 kM0).2.1 (loM_7_44 kM0).2.2.1 (loM_7_44 kM0).2.2.2 dX10_doesFit_4 ?_
    refine am_icmp_ge C0 dX10_doesFit_7 (tgt := 99) (by decide) (fun c_1 => ?_) (fun c_1 => ?_)
    · replace h := am_in h c_1
      refine am_iconst C0 dX10_doesFit_99 ci_1 ?_
      have e := Option.some.inj h
      subst e
      exact hret _ _ dX10_doesFit_100
    · replace h := am_ip h c_1
      refine am_iconst C0 dX10_doesFit_10 ci_0 ?_
      refine am_istore_n C0 dX10_doesFit_11 rfl (by decide) rfl (lv' := [(0, .ref (am_b G 0)), (1, .int x1), (2, .int x2), (3, .int 0)]) rfl ?_
      refine am_iconst C0 dX10_doesFit_12 ci_0 ?_
      refine am_istore C0 dX10_doesFit_13 (by decide) rfl (lv' := [(0, .ref (am_b G 0)), (1, .int x1), (2, .int x2), (3, .int 0), (4, .int 0)]) rfl ?_
      exact am_sub [0, 1, 2, 3, 4] rfl (k_M_doesFit_l15 C0 hd _ F hret (fun z1 z2 z => ih z1 z2 z) F x1 x2 0 0  h)
set_option maxRecDepth 100000 in
set_option maxHeartbeats 4000000 in
theorem k_M_doesFit {G : am_T} {d0 : Nat} (C0 : am_C G cX10_doesFit 5 RX10 LM d0) (hd : 3 ≤ d0) (F : Nat) {σ : am_SS} {q : Bool} (hret : am_retI G cX10_doesFit 5 (am_bI q) σ) (x1 : Int32) (h : M_doesFit F x1 σ = some q) : am_K G 5 0 [(0, .ref (am_b G 0)), (1, .int x1)] [] σ := by
  unfold M_doesFit at h
  refine am_iconst C0 dX10_doesFit_0 ci_0 ?_
  refine am_istore_n C0 dX10_doesFit_1 rfl (by decide) rfl (lv' := [(0, .ref (am_b G 0)), (1, .int x1), (2, .int 0)]) rfl ?_
  exact am_sub [0, 1, 2] rfl (k_M_doesFit_l2 C0 hd F hret F x1 0  h)
set_option maxRecDepth 100000 in
set_option maxHeartbeats 4000000 in
theorem m_M_doesFit {l : Launch} {d : Nat} {σ : am_SS} {q : Bool} (hd : 3 ≤ d) (F : Nat) (x1 : Int32) (h : M_doesFit F x1 σ = some q) : am_Met l yX10_doesFit cX10_doesFit 5 (some .boolean) d 0 0 LM (fun b => [.ref (b 0), .int x1]) σ (some (.int (am_bI q))) σ :=
  am_metI (plainFor_of_name (by decide)) (am_bI_nr _) (lv := fun b => [(0, .ref (b 0)), (1, .int x1)]) (fun _ => rfl) (fun _ => Nat.le_of_ble_eq_true rfl) (fun G C0 _ hret => k_M_doesFit C0 hd F hret x1  h)
set_option maxRecDepth 100000 in
set_option maxHeartbeats 4000000 in
theorem k_M_words_p59 {G : am_T} {d0 : Nat} (C0 : am_C G cX10_words 5 RX10 LM d0) (hd : 4 ≤ d0) (rec26 : Int32 → Int32 → Int32 → Int32 → am_SS → Option (Int32 × am_SS)) (F : Nat) {q : Int32 × am_SS} (hret : am_retI G cX10_words 5 q.1 q.2) (hrec26 : ∀ (x1 : Int32) (x2 : Int32) (x3 : Int32) (x4 : Int32) (σ : am_SS), rec26 x1 x2 x3 x4 σ = some q → am_K G 5 26 [(0, .ref (am_b G 0)), (1, .int x1), (2, .int x2), (3, .int x3), (4, .int x4)] [] σ) (x1 : Int32) (x2 : Int32) (x3 : Int32) (x4 : Int32) (σ : am_SS) (h : M_words_p59 rec26 F x1 x2 x3 x4 σ = some q) : am_K G 5 59 [(0, .ref (am_b G 0)), (1, .int x1), (2, .int x2), (3, .int x3), (4, .int x4)] [] σ := by
  unfold M_words_p59 at h
  obtain ⟨x4_1, e_x4_1, h⟩ := am_lt h
  refine am_iinc C0 dX10_words_59 4 rfl (by rw [ci_m1]; exact e_x4_1) (by decide) rfl (lv' := [(0, .ref (am_b G 0)), (1, .int x1), (2, .int x2), (3, .int x3), (4, .int x4_1)]) rfl ?_
  refine am_goto C0 dX10_words_62 (tgt := 26) (by decide) ?_
  exact am_sub [0, 1, 2, 3, 4] rfl (hrec26 x1 x2 x3 x4_1 σ  h)
set_option maxRecDepth 100000 in
set_option maxHeartbeats 4000000 in
theorem k_M_words_l26 {G : am_T} {d0 : Nat} (C0 : am_C G cX10_words 5 RX10 LM d0) (hd : 4 ≤ d0) (F : Nat) {q : Int32 × am_SS} (hret : am_retI G cX10_words 5 q.1 q.2) : ∀ (n : Nat) (x1 : Int32) (x2 : Int32) (x3 : Int32) (x4 : Int32) (σ : am_SS) (h : M_words_l26 F n x1 x2 x3 x4 σ = some q), am_K G 5 26 [(0, .ref (am_b G 0)), (1, .int x1), (2, .int x2), (3, .int x3), (4, .int x4)] [] σ := by
  intro n
  induction n with
  | zero =>
    intro x1 x2 x3 x4 σ h
    rw [M_words_l26] at h
    cases h
  | succ n ih =>
    intro x1 x2 x3 x4 σ h
    rw [M_words_l26] at h
    refine am_iload C0 dX10_words_26 4 rfl ?_
    refine am_if_lt C0 dX10_words_28 (tgt := 65) (by decide) (fun c_1 => ?_) (fun c_1 => ?_)
    · replace h := am_ip h c_1
      refine am_iload_n C0 dX10_words_65 1 rfl ?_
      refine am_if_ne C0 dX10_words_66 (tgt := 73) (by decide) (fun c_2 => ?_) (fun c_2 => ?_)
      · replace h := am_in h c_2
        refine am_iload_n C0 dX10_words_73 3 rfl ?_
        have e := Option.some.inj h
        subst e
        exact hret _ _ dX10_words_74
      · replace h := am_ip h c_2
        refine am_iload_n C0 dX10_words_69 2 rfl ?_
        refine am_goto C0 dX10_words_70 (tgt := 74) (by decide) ?_
        have e := Option.some.inj h
        subst e
        exact hret _ _ dX10_words_74
    · replace h := am_in h c_1
      refine am_aload_n C0 dX10_words_31 0 rfl ?_
      refine am_iload C0 dX10_words_32 4 rfl ?_
      obtain ⟨q_3, h_q_3, h⟩ := am_bind h
      refine am_callV C0 (m_M_isWordOfNight (σ := σ) (Nat.le_refl _) F x4  h_q_3) mm_yX10_isWordOfNight ln_RX10_410 (As := fun b => [.int x4]) (fun _ => rfl) (fun _ => rfl) (loM_7_0 kM0).1 (loM_7_0 kM0).2.1 rfl (Nat.le_trans (by decide) hd) rfl (Nat.le_of_ble_eq_true rfl) dX10_words_34 ?_
      refine am_ifB_eq C0 dX10_words_37 (tgt := 59) (by decide) (fun c_4 => ?_) (fun c_4 => ?_)
      · replace h := am_in h c_4
        exact am_sub [0, 1, 2, 3, 4] rfl (k_M_words_p59 C0 hd _ F hret (fun z1 z2 z3 z4 zs z => ih z1 z2 z3 z4 zs z) x1 x2 x3 x4 σ  h)
      · replace h := am_ip h c_4
        refine am_aload_n C0 dX10_words_40 0 rfl ?_
        refine am_iload C0 dX10_words_41 4 rfl ?_
        obtain ⟨q_5, h_q_5, h⟩ := am_bind h
        refine am_callV C0 (m_M_doesFit (σ := σ) (Nat.le_refl _) F x4  h_q_5) mm_yX10_doesFit ln_RX10_419 (As := fun b => [.int x4]) (fun _ => rfl) (fun _ => rfl) (loM_7_0 kM0).1 (loM_7_0 kM0).2.1 rfl (Nat.le_trans (by decide) hd) rfl (Nat.le_of_ble_eq_true rfl) dX10_words_43 ?_
        refine am_ifB_ne C0 dX10_words_46 (tgt := 52) (by decide) (fun c_6 => ?_) (fun c_6 => ?_)
        · replace h := am_ip h c_6
          refine am_iload_n C0 dX10_words_52 2 rfl ?_
          refine am_iconst C0 dX10_words_53 ci_1 ?_
          refine am_iadd C0 dX10_words_54 ?_
          obtain ⟨x2_7, e_x2_7, h⟩ := am_lt h
          refine am_top e_x2_7 ?_
          refine am_istore_n C0 dX10_words_55 rfl (by decide) rfl (lv' := [(0, .ref (am_b G 0)), (1, .int x1), (2, .int x2_7), (3, .int x3), (4, .int x4)]) rfl ?_
          refine am_iload C0 dX10_words_56 4 rfl ?_
          refine am_istore_n C0 dX10_words_58 rfl (by decide) rfl (lv' := [(0, .ref (am_b G 0)), (1, .int x1), (2, .int x2_7), (3, .int x4), (4, .int x4)]) rfl ?_
          exact am_sub [0, 1, 2, 3, 4] rfl (k_M_words_p59 C0 hd _ F hret (fun z1 z2 z3 z4 zs z => ih z1 z2 z3 z4 zs z) x1 x2_7 x4 x4 σ  h)
        · replace h := am_in h c_6
          refine am_goto C0 dX10_words_49 (tgt := 59) (by decide) ?_
          exact am_sub [0, 1, 2, 3, 4] rfl (k_M_words_p59 C0 hd _ F hret (fun z1 z2 z3 z4 zs z => ih z1 z2 z3 z4 zs z) x1 x2 x3 x4 σ  h)
set_option maxRecDepth 100000 in
set_option maxHeartbeats 4000000 in
theorem k_M_words {G : am_T} {d0 : Nat} (C0 : am_C G cX10_words 5 RX10 LM d0) (hd : 4 ≤ d0) (F : Nat) {q : Int32 × am_SS} (hret : am_retI G cX10_words 5 q.1 q.2) (x1 : Int32) (σ : am_SS) (h : M_words F x1 σ = some q) : am_K G 5 0 [(0, .ref (am_b G 0)), (1, .int x1)] [] σ := by
  unfold M_words at h
  refine am_aload_n C0 dX10_words_0 0 rfl ?_
  refine am_iconst C0 dX10_words_1 ci_0 ?_
  obtain ⟨σ_1, e_σ_1, h⟩ := am_lt h
  refine am_putI C0 e_σ_1 fp_RX10_131 (loM_7_0 kM0).1 (loM_7_0 kM0).2.1 (loM_7_0 kM0).2.2.1 (loM_7_0 kM0).2.2.2 rfl rfl dX10_words_2 ?_
  refine am_aload_n C0 dX10_words_5 0 rfl ?_
  refine am_iload_n C0 dX10_words_6 1 rfl ?_
  refine am_iconst C0 dX10_words_7 ci_0 ?_
  refine am_iconst C0 dX10_words_8 ci_1 ?_
  refine am_callV C0 (m_M_isIn (σ := σ_1) (Nat.le_refl _) x1 0 1  rfl) mm_yX10_isIn ln_RX10_149 (As := fun b => [.int x1, .int 0, .int 1]) (fun _ => rfl) (fun _ => rfl) (loM_7_0 kM0).1 (loM_7_0 kM0).2.1 rfl (Nat.le_trans (by decide) hd) rfl (Nat.le_of_ble_eq_true rfl) dX10_words_9 ?_
  refine am_ifB_ne C0 dX10_words_12 (tgt := 17) (by decide) (fun c_3 => ?_) (fun c_3 => ?_)
  · replace h := am_ip h c_3
    refine am_iconst C0 dX10_words_17 ci_0 ?_
    refine am_istore_n C0 dX10_words_18 rfl (by decide) rfl (lv' := [(0, .ref (am_b G 0)), (1, .int x1), (2, .int 0)]) rfl ?_
    refine am_iconst C0 dX10_words_19 ci_m1 ?_
    refine am_istore_n C0 dX10_words_20 rfl (by decide) rfl (lv' := [(0, .ref (am_b G 0)), (1, .int x1), (2, .int 0), (3, .int (-1))]) rfl ?_
    refine am_sipush C0 dX10_words_21 cs_5555 ?_
    refine am_istore C0 dX10_words_24 (by decide) rfl (lv' := [(0, .ref (am_b G 0)), (1, .int x1), (2, .int 0), (3, .int (-1)), (4, .int 5555)]) rfl ?_
    exact am_sub [0, 1, 2, 3, 4] rfl (k_M_words_l26 C0 hd F hret F x1 0 (-1) 5555 σ_1  h)
  · replace h := am_in h c_3
    refine am_iconst C0 dX10_words_15 ci_m1 ?_
    have e := Option.some.inj h
    subst e
    exact hret _ _ dX10_words_16
set_option maxRecDepth 100000 in
set_option maxHeartbeats 4000000 in
theorem m_M_words {l : Launch} {d : Nat} {σ : am_SS} {q : Int32 × am_SS} (hd : 4 ≤ d) (F : Nat) (x1 : Int32) (h : M_words F x1 σ = some q) : am_Met l yX10_words cX10_words 5 (some .int) d 0 0 LM (fun b => [.ref (b 0), .int x1]) σ (some (.int q.1)) q.2 :=
  am_metI (plainFor_of_name (by decide)) rfl (lv := fun b => [(0, .ref (b 0)), (1, .int x1)]) (fun _ => rfl) (fun _ => Nat.le_of_ble_eq_true rfl) (fun G C0 _ hret => k_M_words C0 hd F hret x1 σ  h)
set_option maxRecDepth 100000 in
set_option maxHeartbeats 4000000 in
theorem k_M_boots_p102 {G : am_T} {d0 : Nat} (C0 : am_C G cX10_boots 9 RX10 LM d0) (hd : 2 ≤ d0) (rec58 : Int32 → Int32 → Int32 → Int32 → Int32 → am_SS → Option (Int32 × am_SS)) (F : Nat) {q : Int32 × am_SS} (hret : am_retI G cX10_boots 9 q.1 q.2) (hrec58 : ∀ (x2 : Int32) (x4 : Int32) (x5 : Int32) (x6 : Int32) (x7 : Int32) (σ : am_SS), rec58 x2 x4 x5 x6 x7 σ = some q → am_K G 9 58 [(2, .int x2), (4, .int x4), (5, .int x5), (6, .int x6), (7, .int x7)] [] σ) (x2 : Int32) (x4 : Int32) (x5 : Int32) (x6 : Int32) (x7 : Int32) (σ : am_SS) (h : M_boots_p102 rec58 F x2 x4 x5 x6 x7 σ = some q) : am_K G 9 102 [(2, .int x2), (4, .int x4), (5, .int x5), (6, .int x6), (7, .int x7)] [] σ := by
  unfold M_boots_p102 at h
  obtain ⟨x7_1, e_x7_1, h⟩ := am_lt h
  refine am_iinc C0 dX10_boots_102 4 rfl (by rw [ci_m1]; exact e_x7_1) (by decide) rfl (lv' := [(2, .int x2), (4, .int x4), (5, .int x5), (6, .int x6), (7, .int x7_1)]) rfl ?_
  refine am_goto C0 dX10_boots_105 (tgt := 58) (by decide) ?_
  exact am_sub [0, 1, 2, 3, 4] rfl (hrec58 x2 x4 x5 x6 x7_1 σ  h)
set_option maxRecDepth 100000 in
set_option maxHeartbeats 4000000 in
theorem k_M_boots_l58 {G : am_T} {d0 : Nat} (C0 : am_C G cX10_boots 9 RX10 LM d0) (hd : 2 ≤ d0) (F : Nat) {q : Int32 × am_SS} (hret : am_retI G cX10_boots 9 q.1 q.2) : ∀ (n : Nat) (x2 : Int32) (x4 : Int32) (x5 : Int32) (x6 : Int32) (x7 : Int32) (σ : am_SS) (h : M_boots_l58 F n x2 x4 x5 x6 x7 σ = some q), am_K G 9 58 [(2, .int x2), (4, .int x4), (5, .int x5), (6, .int x6), (7, .int x7)] [] σ := by
  intro n
  induction n with
  | zero =>
    intro x2 x4 x5 x6 x7 σ h
    rw [M_boots_l58] at h
    cases h
  | succ n ih =>
    intro x2 x4 x5 x6 x7 σ h
    rw [M_boots_l58] at h
    refine am_iload C0 dX10_boots_58 4 rfl ?_
    refine am_iload_n C0 dX10_boots_60 0 rfl ?_
    refine am_icmp_le C0 dX10_boots_61 (tgt := 108) (by decide) (fun c_1 => ?_) (fun c_1 => ?_)
    · replace h := am_in h c_1
      refine am_iload C0 dX10_boots_108 3 rfl ?_
      refine am_iconst C0 dX10_boots_110 ci_1 ?_
      refine am_iload_n C0 dX10_boots_111 0 rfl ?_
      refine am_ishl C0 dX10_boots_112 ?_
      refine am_icmp_lt C0 dX10_boots_113 (tgt := 121) (by decide) (fun c_2 => ?_) (fun c_2 => ?_)
      · replace h := am_ip h c_2
        refine am_iload C0 dX10_boots_121 1 rfl ?_
        have e := Option.some.inj h
        subst e
        exact hret _ _ dX10_boots_123
      · replace h := am_in h c_2
        refine am_iload C0 dX10_boots_116 2 rfl ?_
        refine am_goto C0 dX10_boots_118 (tgt := 123) (by decide) ?_
        have e := Option.some.inj h
        subst e
        exact hret _ _ dX10_boots_123
    · replace h := am_ip h c_1
      refine am_iconst C0 dX10_boots_64 ci_3 ?_
      refine am_iload C0 dX10_boots_65 1 rfl ?_
      refine am_isub C0 dX10_boots_67 ?_
      refine am_iload C0 dX10_boots_68 2 rfl ?_
      refine am_isub C0 dX10_boots_70 ?_
      obtain ⟨x8_3, e_x8_3, h⟩ := am_lt h
      refine am_top e_x8_3 ?_
      refine am_istore C0 dX10_boots_71 (by decide) rfl (lv' := [(2, .int x2), (4, .int x4), (5, .int x5), (6, .int x6), (7, .int x7), (8, .int x8_3)]) rfl ?_
      refine am_iload C0 dX10_boots_73 3 rfl ?_
      refine am_iconst C0 dX10_boots_75 ci_1 ?_
      refine am_iload C0 dX10_boots_76 4 rfl ?_
      refine am_ishl C0 dX10_boots_78 ?_
      refine am_icmp_lt C0 dX10_boots_79 (tgt := 98) (by decide) (fun c_4 => ?_) (fun c_4 => ?_)
      · replace h := am_ip h c_4
        refine am_iload C0 dX10_boots_98 5 rfl ?_
        refine am_istore C0 dX10_boots_100 (by decide) rfl (lv' := [(2, .int x2), (4, .int x4), (5, .int x8_3), (6, .int x6), (7, .int x7), (8, .int x8_3)]) rfl ?_
        exact am_sub [0, 1, 2, 3, 4] rfl (k_M_boots_p102 C0 hd _ F hret (fun z0 z1 z2 z3 z4 zs z => ih z0 z1 z2 z3 z4 zs z) x2 x4 x8_3 x6 x7 σ  h)
      · replace h := am_in h c_4
        refine am_iload C0 dX10_boots_82 3 rfl ?_
        refine am_iconst C0 dX10_boots_84 ci_1 ?_
        refine am_iload C0 dX10_boots_85 4 rfl ?_
        refine am_ishl C0 dX10_boots_87 ?_
        refine am_isub C0 dX10_boots_88 ?_
        obtain ⟨x6_5, e_x6_5, h⟩ := am_lt h
        refine am_top e_x6_5 ?_
        refine am_istore C0 dX10_boots_89 (by decide) rfl (lv' := [(2, .int x2), (4, .int x4), (5, .int x5), (6, .int x6_5), (7, .int x7), (8, .int x8_3)]) rfl ?_
        refine am_iload C0 dX10_boots_91 5 rfl ?_
        refine am_istore C0 dX10_boots_93 (by decide) rfl (lv' := [(2, .int x2), (4, .int x8_3), (5, .int x5), (6, .int x6_5), (7, .int x7), (8, .int x8_3)]) rfl ?_
        refine am_goto C0 dX10_boots_95 (tgt := 102) (by decide) ?_
        exact am_sub [0, 1, 2, 3, 4] rfl (k_M_boots_p102 C0 hd _ F hret (fun z0 z1 z2 z3 z4 zs z => ih z0 z1 z2 z3 z4 zs z) x2 x8_3 x5 x6_5 x7 σ  h)
set_option maxRecDepth 100000 in
set_option maxHeartbeats 4000000 in
theorem k_M_boots {G : am_T} {d0 : Nat} (C0 : am_C G cX10_boots 9 RX10 LM d0) (hd : 2 ≤ d0) (F : Nat) {q : Int32 × am_SS} (hret : am_retI G cX10_boots 9 q.1 q.2) (x1 : Int32) (x2 : Int32) (x3 : Int32) (σ : am_SS) (h : M_boots F x1 x2 x3 σ = some q) : am_K G 9 0 [(0, .ref (am_b G 0)), (1, .int x1), (2, .int x2), (3, .int x3)] [] σ := by
  unfold M_boots at h
  refine am_aload_n C0 dX10_boots_0 0 rfl ?_
  refine am_iconst C0 dX10_boots_1 ci_0 ?_
  obtain ⟨σ_1, e_σ_1, h⟩ := am_lt h
  refine am_putI C0 e_σ_1 fp_RX10_131 (loM_7_0 kM0).1 (loM_7_0 kM0).2.1 (loM_7_0 kM0).2.2.1 (loM_7_0 kM0).2.2.2 rfl rfl dX10_boots_2 ?_
  refine am_aload_n C0 dX10_boots_5 0 rfl ?_
  refine am_iload_n C0 dX10_boots_6 1 rfl ?_
  refine am_iconst C0 dX10_boots_7 ci_1 ?_
  refine am_bipush C0 dX10_boots_8 kb_10 ?_
  refine am_callV C0 (m_M_isIn (σ := σ_1) (Nat.le_refl _) x1 1 10  rfl) mm_yX10_isIn ln_RX10_149 (As := fun b => [.int x1, .int 1, .int 10]) (fun _ => rfl) (fun _ => rfl) (loM_7_0 kM0).1 (loM_7_0 kM0).2.1 rfl (Nat.le_trans (by decide) hd) rfl (Nat.le_of_ble_eq_true rfl) dX10_boots_10 ?_
  refine am_ifB_eq C0 dX10_boots_13 (tgt := 42) (by decide) (fun c_3 => ?_) (fun c_3 => ?_)
  · replace h := am_in h c_3
    refine am_iconst C0 dX10_boots_42 ci_m1 ?_
    have e := Option.some.inj h
    subst e
    exact hret _ _ dX10_boots_43
  · replace h := am_ip h c_3
    refine am_aload_n C0 dX10_boots_16 0 rfl ?_
    refine am_iload_n C0 dX10_boots_17 2 rfl ?_
    refine am_iconst C0 dX10_boots_18 ci_0 ?_
    refine am_iload_n C0 dX10_boots_19 1 rfl ?_
    refine am_iconst C0 dX10_boots_20 ci_1 ?_
    refine am_isub C0 dX10_boots_21 ?_
    refine am_callV C0 (m_M_isIn (σ := σ_1) (Nat.le_refl _) x2 0 (x1 - 1)  rfl) mm_yX10_isIn ln_RX10_149 (As := fun b => [.int x2, .int 0, .int (x1 - 1)]) (fun _ => rfl) (fun _ => rfl) (loM_7_0 kM0).1 (loM_7_0 kM0).2.1 rfl (Nat.le_trans (by decide) hd) rfl (Nat.le_of_ble_eq_true rfl) dX10_boots_22 ?_
    refine am_ifB_eq C0 dX10_boots_25 (tgt := 42) (by decide) (fun c_5 => ?_) (fun c_5 => ?_)
    · replace h := am_in h c_5
      refine am_iconst C0 dX10_boots_42 ci_m1 ?_
      have e := Option.some.inj h
      subst e
      exact hret _ _ dX10_boots_43
    · replace h := am_ip h c_5
      refine am_aload_n C0 dX10_boots_28 0 rfl ?_
      refine am_iload_n C0 dX10_boots_29 3 rfl ?_
      refine am_iconst C0 dX10_boots_30 ci_0 ?_
      refine am_iconst C0 dX10_boots_31 ci_1 ?_
      refine am_iload_n C0 dX10_boots_32 1 rfl ?_
      refine am_ishl C0 dX10_boots_33 ?_
      refine am_iconst C0 dX10_boots_34 ci_1 ?_
      refine am_isub C0 dX10_boots_35 ?_
      refine am_callV C0 (m_M_isIn (σ := σ_1) (Nat.le_refl _) x3 0 ((1 <<< (x1 &&& 31)) - 1)  rfl) mm_yX10_isIn ln_RX10_149 (As := fun b => [.int x3, .int 0, .int ((1 <<< (x1 &&& 31)) - 1)]) (fun _ => rfl) (fun _ => rfl) (loM_7_0 kM0).1 (loM_7_0 kM0).2.1 rfl (Nat.le_trans (by decide) hd) rfl (Nat.le_of_ble_eq_true rfl) dX10_boots_36 ?_
      refine am_ifB_ne C0 dX10_boots_39 (tgt := 44) (by decide) (fun c_7 => ?_) (fun c_7 => ?_)
      · replace h := am_ip h c_7
        refine am_iconst C0 dX10_boots_44 ci_0 ?_
        refine am_istore C0 dX10_boots_45 (by decide) rfl (lv' := [(0, .ref (am_b G 0)), (1, .int x1), (2, .int x2), (3, .int x3), (4, .int 0)]) rfl ?_
        refine am_iconst C0 dX10_boots_47 ci_2 ?_
        refine am_istore C0 dX10_boots_48 (by decide) rfl (lv' := [(0, .ref (am_b G 0)), (1, .int x1), (2, .int x2), (3, .int x3), (4, .int 0), (5, .int 2)]) rfl ?_
        refine am_iload_n C0 dX10_boots_50 3 rfl ?_
        refine am_istore C0 dX10_boots_51 (by decide) rfl (lv' := [(0, .ref (am_b G 0)), (1, .int x1), (2, .int x2), (3, .int x3), (4, .int 0), (5, .int 2), (6, .int x3)]) rfl ?_
        refine am_iload_n C0 dX10_boots_53 1 rfl ?_
        refine am_iconst C0 dX10_boots_54 ci_1 ?_
        refine am_isub C0 dX10_boots_55 ?_
        obtain ⟨x7_8, e_x7_8, h⟩ := am_lt h
        refine am_top e_x7_8 ?_
        refine am_istore C0 dX10_boots_56 (by decide) rfl (lv' := [(0, .ref (am_b G 0)), (1, .int x1), (2, .int x2), (3, .int x3), (4, .int 0), (5, .int 2), (6, .int x3), (7, .int x7_8)]) rfl ?_
        exact am_sub [2, 4, 5, 6, 7] rfl (k_M_boots_l58 C0 hd F hret F x2 0 2 x3 x7_8 σ_1  h)
      · replace h := am_in h c_7
        refine am_iconst C0 dX10_boots_42 ci_m1 ?_
        have e := Option.some.inj h
        subst e
        exact hret _ _ dX10_boots_43
set_option maxRecDepth 100000 in
set_option maxHeartbeats 4000000 in
theorem m_M_boots {l : Launch} {d : Nat} {σ : am_SS} {q : Int32 × am_SS} (hd : 2 ≤ d) (F : Nat) (x1 : Int32) (x2 : Int32) (x3 : Int32) (h : M_boots F x1 x2 x3 σ = some q) : am_Met l yX10_boots cX10_boots 9 (some .int) d 0 0 LM (fun b => [.ref (b 0), .int x1, .int x2, .int x3]) σ (some (.int q.1)) q.2 :=
  am_metI (plainFor_of_name (by decide)) rfl (lv := fun b => [(0, .ref (b 0)), (1, .int x1), (2, .int x2), (3, .int x3)]) (fun _ => rfl) (fun _ => Nat.le_of_ble_eq_true rfl) (fun G C0 _ hret => k_M_boots C0 hd F hret x1 x2 x3 σ  h)
set_option maxRecDepth 100000 in
set_option maxHeartbeats 4000000 in
theorem k_M_moves_p121 {G : am_T} {d0 : Nat} (C0 : am_C G cX10_moves 7 RX10 LM d0) (hd : 1 ≤ d0) (rec73 : Int32 → Int32 → Int32 → Int32 → am_SS → Option (Int32 × am_SS)) (F : Nat) {q : Int32 × am_SS} (hret : am_retI G cX10_moves 7 q.1 q.2) (hrec73 : ∀ (x2 : Int32) (x4 : Int32) (x5 : Int32) (x6 : Int32) (σ : am_SS), rec73 x2 x4 x5 x6 σ = some q → am_K G 7 73 [(0, .ref (am_b G 0)), (2, .int x2), (4, .int x4), (5, .int x5), (6, .int x6)] [] σ) (x2 : Int32) (x4 : Int32) (x5 : Int32) (x6 : Int32) (σ : am_SS) (h : M_moves_p121 rec73 F x2 x4 x5 x6 σ = some q) : am_K G 7 121 [(0, .ref (am_b G 0)), (2, .int x2), (4, .int x4), (5, .int x5), (6, .int x6)] [] σ := by
  unfold M_moves_p121 at h
  obtain ⟨x6_1, e_x6_1, h⟩ := am_lt h
  refine am_iinc C0 dX10_moves_121 4 rfl (by rw [ci_1]; exact e_x6_1) (by decide) rfl (lv' := [(0, .ref (am_b G 0)), (2, .int x2), (4, .int x4), (5, .int x5), (6, .int x6_1)]) rfl ?_
  refine am_goto C0 dX10_moves_124 (tgt := 73) (by decide) ?_
  exact am_sub [0, 1, 2, 3, 4] rfl (hrec73 x2 x4 x5 x6_1 σ  h)
set_option maxRecDepth 100000 in
set_option maxHeartbeats 4000000 in
theorem k_M_moves_l73 {G : am_T} {d0 : Nat} (C0 : am_C G cX10_moves 7 RX10 LM d0) (hd : 1 ≤ d0) (F : Nat) {q : Int32 × am_SS} (hret : am_retI G cX10_moves 7 q.1 q.2) : ∀ (n : Nat) (x2 : Int32) (x4 : Int32) (x5 : Int32) (x6 : Int32) (σ : am_SS) (h : M_moves_l73 F n x2 x4 x5 x6 σ = some q), am_K G 7 73 [(0, .ref (am_b G 0)), (2, .int x2), (4, .int x4), (5, .int x5), (6, .int x6)] [] σ := by
  intro n
  induction n with
  | zero =>
    intro x2 x4 x5 x6 σ h
    rw [M_moves_l73] at h
    cases h
  | succ n ih =>
    intro x2 x4 x5 x6 σ h
    rw [M_moves_l73] at h
    refine am_iload C0 dX10_moves_73 4 rfl ?_
    refine am_iload_n C0 dX10_moves_75 1 rfl ?_
    refine am_icmp_ge C0 dX10_moves_76 (tgt := 127) (by decide) (fun c_1 => ?_) (fun c_1 => ?_)
    · replace h := am_in h c_1
      refine am_iload C0 dX10_moves_127 3 rfl ?_
      have e := Option.some.inj h
      subst e
      exact hret _ _ dX10_moves_129
    · replace h := am_ip h c_1
      refine am_aload_n C0 dX10_moves_79 0 rfl ?_
      refine am_getR C0 (j := 27) ff_RX10_92 (loM_7_48 kM0).1 (loM_7_48 kM0).2.1 (loM_7_48 kM0).2.2.1 (loM_7_48 kM0).2.2.2 dX10_moves_80 ?_
      refine am_iload C0 dX10_moves_83 4 rfl ?_
      obtain ⟨t_2, h_t_2, h⟩ := am_bind h
      refine am_iald C0 (ltM (tgM_7_48 kM0)) (tgM_7_48 kM0) (lnM_7_48 kM0) h_t_2 dX10_moves_85 ?_
      refine am_iload C0 dX10_moves_86 2 rfl ?_
      refine am_icmp_ne C0 dX10_moves_88 (tgt := 94) (by decide) (fun c_3 => ?_) (fun c_3 => ?_)
      · replace h := am_in h c_3
        refine am_iload C0 dX10_moves_94 3 rfl ?_
        refine am_iconst C0 dX10_moves_96 ci_1 ?_
        refine am_iload_n C0 dX10_moves_97 1 rfl ?_
        refine am_iconst C0 dX10_moves_98 ci_1 ?_
        refine am_isub C0 dX10_moves_99 ?_
        refine am_iload C0 dX10_moves_100 4 rfl ?_
        refine am_isub C0 dX10_moves_102 ?_
        refine am_ishl C0 dX10_moves_103 ?_
        refine am_iadd C0 dX10_moves_104 ?_
        obtain ⟨x5_4, e_x5_4, h⟩ := am_lt h
        refine am_top e_x5_4 ?_
        refine am_istore C0 dX10_moves_105 (by decide) rfl (lv' := [(0, .ref (am_b G 0)), (2, .int x2), (4, .int x4), (5, .int x5_4), (6, .int x6)]) rfl ?_
        refine am_iconst C0 dX10_moves_107 ci_3 ?_
        refine am_iload C0 dX10_moves_108 2 rfl ?_
        refine am_isub C0 dX10_moves_110 ?_
        refine am_aload_n C0 dX10_moves_111 0 rfl ?_
        refine am_getR C0 (j := 27) ff_RX10_92 (loM_7_48 kM0).1 (loM_7_48 kM0).2.1 (loM_7_48 kM0).2.2.1 (loM_7_48 kM0).2.2.2 dX10_moves_112 ?_
        refine am_iload C0 dX10_moves_115 4 rfl ?_
        obtain ⟨t_5, h_t_5, h⟩ := am_bind h
        refine am_iald C0 (ltM (tgM_7_48 kM0)) (tgM_7_48 kM0) (lnM_7_48 kM0) h_t_5 dX10_moves_117 ?_
        refine am_isub C0 dX10_moves_118 ?_
        obtain ⟨x4_6, e_x4_6, h⟩ := am_lt h
        refine am_top e_x4_6 ?_
        refine am_istore C0 dX10_moves_119 (by decide) rfl (lv' := [(0, .ref (am_b G 0)), (2, .int x2), (4, .int x4_6), (5, .int x5_4), (6, .int x6)]) rfl ?_
        exact am_sub [0, 1, 2, 3, 4] rfl (k_M_moves_p121 C0 hd _ F hret (fun z1 z2 z3 z4 zs z => ih z1 z2 z3 z4 zs z) x2 x4_6 x5_4 x6 σ  h)
      · replace h := am_ip h c_3
        refine am_goto C0 dX10_moves_91 (tgt := 121) (by decide) ?_
        exact am_sub [0, 1, 2, 3, 4] rfl (k_M_moves_p121 C0 hd _ F hret (fun z1 z2 z3 z4 zs z => ih z1 z2 z3 z4 zs z) x2 x4 x5 x6 σ  h)
set_option maxRecDepth 100000 in
set_option maxHeartbeats 4000000 in
theorem k_M_moves_l9 {G : am_T} {d0 : Nat} (C0 : am_C G cX10_moves 7 RX10 LM d0) (hd : 1 ≤ d0) (F : Nat) {q : Int32 × am_SS} (hret : am_retI G cX10_moves 7 q.1 q.2) : ∀ (n : Nat) (x2 : Int32) (x3 : Int32) (σ : am_SS) (h : M_moves_l9 F n x2 x3 σ = some q), am_K G 7 9 [(0, .ref (am_b G 0)), (2, .int x2), (3, .int x3)] [] σ := by
  intro n
  induction n with
  | zero =>
    intro x2 x3 σ h
    rw [M_moves_l9] at h
    cases h
  | succ n ih =>
    intro x2 x3 σ h
    rw [M_moves_l9] at h
    refine am_iload_n C0 dX10_moves_9 2 rfl ?_
    refine am_bipush C0 dX10_moves_10 kb_9 ?_
    refine am_icmp_le C0 dX10_moves_12 (tgt := 53) (by decide) (fun c_1 => ?_) (fun c_1 => ?_)
    · replace h := am_in h c_1
      refine am_iload_n C0 dX10_moves_53 2 rfl ?_
      refine am_iconst C0 dX10_moves_54 ci_1 ?_
      refine am_icmp_ne C0 dX10_moves_55 (tgt := 62) (by decide) (fun c_2 => ?_) (fun c_2 => ?_)
      · replace h := am_in h c_2
        refine am_iconst C0 dX10_moves_62 ci_m1 ?_
        have e := Option.some.inj h
        subst e
        exact hret _ _ dX10_moves_63
      · replace h := am_ip h c_2
        refine am_iload_n C0 dX10_moves_58 1 rfl ?_
        refine am_if_ne C0 dX10_moves_59 (tgt := 64) (by decide) (fun c_3 => ?_) (fun c_3 => ?_)
        · replace h := am_in h c_3
          refine am_iconst C0 dX10_moves_64 ci_2 ?_
          refine am_istore C0 dX10_moves_65 (by decide) rfl (lv' := [(0, .ref (am_b G 0)), (2, .int x2), (3, .int x3), (4, .int 2)]) rfl ?_
          refine am_iconst C0 dX10_moves_67 ci_0 ?_
          refine am_istore C0 dX10_moves_68 (by decide) rfl (lv' := [(0, .ref (am_b G 0)), (2, .int x2), (3, .int x3), (4, .int 2), (5, .int 0)]) rfl ?_
          refine am_iconst C0 dX10_moves_70 ci_0 ?_
          refine am_istore C0 dX10_moves_71 (by decide) rfl (lv' := [(0, .ref (am_b G 0)), (2, .int x2), (3, .int x3), (4, .int 2), (5, .int 0), (6, .int 0)]) rfl ?_
          exact am_sub [0, 1, 3, 4, 5] rfl (k_M_moves_l73 C0 hd F hret F x2 2 0 0 σ  h)
        · replace h := am_ip h c_3
          refine am_iconst C0 dX10_moves_62 ci_m1 ?_
          have e := Option.some.inj h
          subst e
          exact hret _ _ dX10_moves_63
    · replace h := am_ip h c_1
      refine am_iload_n C0 dX10_moves_15 2 rfl ?_
      refine am_bipush C0 dX10_moves_16 kb_10 ?_
      refine am_irem C0 dX10_moves_18 nz_10 ?_
      refine am_iconst C0 dX10_moves_19 ci_2 ?_
      refine am_icmp_gt C0 dX10_moves_20 (tgt := 29) (by decide) (fun c_4 => ?_) (fun c_4 => ?_)
      · replace h := am_ip h c_4
        refine am_iconst C0 dX10_moves_29 ci_m1 ?_
        have e := Option.some.inj h
        subst e
        exact hret _ _ dX10_moves_30
      · replace h := am_in h c_4
        refine am_iload_n C0 dX10_moves_23 1 rfl ?_
        refine am_bipush C0 dX10_moves_24 kb_10 ?_
        refine am_icmp_ne C0 dX10_moves_26 (tgt := 31) (by decide) (fun c_5 => ?_) (fun c_5 => ?_)
        · replace h := am_in h c_5
          refine am_aload_n C0 dX10_moves_31 0 rfl ?_
          refine am_getR C0 (j := 27) ff_RX10_92 (loM_7_48 kM0).1 (loM_7_48 kM0).2.1 (loM_7_48 kM0).2.2.1 (loM_7_48 kM0).2.2.2 dX10_moves_32 ?_
          refine am_iload_n C0 dX10_moves_35 1 rfl ?_
          refine am_iload_n C0 dX10_moves_36 2 rfl ?_
          refine am_bipush C0 dX10_moves_37 kb_10 ?_
          refine am_irem C0 dX10_moves_39 nz_10 ?_
          obtain ⟨σ_6, h_σ_6, h⟩ := am_bind h
          refine am_iast C0 (ltM (tgM_7_48 kM0)) (tgM_7_48 kM0) (lnM_7_48 kM0) h_σ_6 dX10_moves_40 ?_
          refine am_iload_n C0 dX10_moves_41 1 rfl ?_
          refine am_iconst C0 dX10_moves_42 ci_1 ?_
          refine am_iadd C0 dX10_moves_43 ?_
          obtain ⟨x2_7, e_x2_7, h⟩ := am_lt h
          refine am_top e_x2_7 ?_
          refine am_istore_n C0 dX10_moves_44 rfl (by decide) rfl (lv' := [(0, .ref (am_b G 0)), (2, .int x2_7), (3, .int x3)]) rfl ?_
          refine am_iload_n C0 dX10_moves_45 2 rfl ?_
          refine am_bipush C0 dX10_moves_46 kb_10 ?_
          refine am_idiv C0 dX10_moves_48 nz_10 ?_
          obtain ⟨x3_8, e_x3_8, h⟩ := am_lt h
          refine am_top e_x3_8 ?_
          refine am_istore_n C0 dX10_moves_49 rfl (by decide) rfl (lv' := [(0, .ref (am_b G 0)), (2, .int x2_7), (3, .int x3_8)]) rfl ?_
          refine am_goto C0 dX10_moves_50 (tgt := 9) (by decide) ?_
          exact am_sub [0, 1, 2] rfl (ih x2_7 x3_8 σ_6  h)
        · replace h := am_ip h c_5
          refine am_iconst C0 dX10_moves_29 ci_m1 ?_
          have e := Option.some.inj h
          subst e
          exact hret _ _ dX10_moves_30
set_option maxRecDepth 100000 in
set_option maxHeartbeats 4000000 in
theorem k_M_moves {G : am_T} {d0 : Nat} (C0 : am_C G cX10_moves 7 RX10 LM d0) (hd : 1 ≤ d0) (F : Nat) {q : Int32 × am_SS} (hret : am_retI G cX10_moves 7 q.1 q.2) (x1 : Int32) (σ : am_SS) (h : M_moves F x1 σ = some q) : am_K G 7 0 [(0, .ref (am_b G 0)), (1, .int x1)] [] σ := by
  unfold M_moves at h
  refine am_aload_n C0 dX10_moves_0 0 rfl ?_
  refine am_iconst C0 dX10_moves_1 ci_0 ?_
  obtain ⟨σ_1, e_σ_1, h⟩ := am_lt h
  refine am_putI C0 e_σ_1 fp_RX10_131 (loM_7_0 kM0).1 (loM_7_0 kM0).2.1 (loM_7_0 kM0).2.2.1 (loM_7_0 kM0).2.2.2 rfl rfl dX10_moves_2 ?_
  refine am_iconst C0 dX10_moves_5 ci_0 ?_
  refine am_istore_n C0 dX10_moves_6 rfl (by decide) rfl (lv' := [(0, .ref (am_b G 0)), (1, .int x1), (2, .int 0)]) rfl ?_
  refine am_iload_n C0 dX10_moves_7 1 rfl ?_
  refine am_istore_n C0 dX10_moves_8 rfl (by decide) rfl (lv' := [(0, .ref (am_b G 0)), (1, .int x1), (2, .int 0), (3, .int x1)]) rfl ?_
  exact am_sub [0, 2, 3] rfl (k_M_moves_l9 C0 hd F hret F 0 x1 σ_1  h)
set_option maxRecDepth 100000 in
set_option maxHeartbeats 4000000 in
theorem m_M_moves {l : Launch} {d : Nat} {σ : am_SS} {q : Int32 × am_SS} (hd : 1 ≤ d) (F : Nat) (x1 : Int32) (h : M_moves F x1 σ = some q) : am_Met l yX10_moves cX10_moves 7 (some .int) d 0 0 LM (fun b => [.ref (b 0), .int x1]) σ (some (.int q.1)) q.2 :=
  am_metI (plainFor_of_name (by decide)) rfl (lv := fun b => [(0, .ref (b 0)), (1, .int x1)]) (fun _ => rfl) (fun _ => Nat.le_of_ble_eq_true rfl) (fun G C0 _ hret => k_M_moves C0 hd F hret x1 σ  h)
set_option maxRecDepth 100000 in
set_option maxHeartbeats 4000000 in
theorem k_M_billets_p141 {G : am_T} {d0 : Nat} (C0 : am_C G cX10_billets 7 RX10 LM d0) (hd : 2 ≤ d0) (rec34 : Int32 → Int32 → Int32 → Int32 → am_SS → Option (Int32 × am_SS)) (rec43 : Int32 → Int32 → Int32 → Int32 → Int32 → am_SS → Option (Int32 × am_SS)) (F : Nat) {q : Int32 × am_SS} (hret : am_retI G cX10_billets 7 q.1 q.2) (hrec34 : ∀ (x1 : Int32) (x2 : Int32) (x3 : Int32) (x4 : Int32) (σ : am_SS), rec34 x1 x2 x3 x4 σ = some q → am_K G 7 34 [(0, .ref (am_b G 0)), (1, .int x1), (2, .int x2), (3, .int x3), (4, .int x4)] [] σ) (hrec43 : ∀ (x1 : Int32) (x2 : Int32) (x3 : Int32) (x4 : Int32) (x5 : Int32) (σ : am_SS), rec43 x1 x2 x3 x4 x5 σ = some q → am_K G 7 43 [(0, .ref (am_b G 0)), (1, .int x1), (2, .int x2), (3, .int x3), (4, .int x4), (5, .int x5)] [] σ) (x1 : Int32) (x2 : Int32) (x3 : Int32) (x4 : Int32) (x5 : Int32) (σ : am_SS) (h : M_billets_p141 rec34 rec43 F x1 x2 x3 x4 x5 σ = some q) : am_K G 7 141 [(0, .ref (am_b G 0)), (1, .int x1), (2, .int x2), (3, .int x3), (4, .int x4), (5, .int x5)] [] σ := by
  unfold M_billets_p141 at h
  obtain ⟨x5_1, e_x5_1, h⟩ := am_lt h
  refine am_iinc C0 dX10_billets_141 5 rfl (by rw [ci_1]; exact e_x5_1) (by decide) rfl (lv' := [(0, .ref (am_b G 0)), (1, .int x1), (2, .int x2), (3, .int x3), (4, .int x4), (5, .int x5_1)]) rfl ?_
  refine am_goto C0 dX10_billets_144 (tgt := 43) (by decide) ?_
  exact am_sub [0, 1, 2, 3, 4, 5] rfl (hrec43 x1 x2 x3 x4 x5_1 σ  h)
set_option maxRecDepth 100000 in
set_option maxHeartbeats 4000000 in
theorem k_M_billets_p115 {G : am_T} {d0 : Nat} (C0 : am_C G cX10_billets 7 RX10 LM d0) (hd : 2 ≤ d0) (rec34 : Int32 → Int32 → Int32 → Int32 → am_SS → Option (Int32 × am_SS)) (rec43 : Int32 → Int32 → Int32 → Int32 → Int32 → am_SS → Option (Int32 × am_SS)) (F : Nat) {q : Int32 × am_SS} (hret : am_retI G cX10_billets 7 q.1 q.2) (hrec34 : ∀ (x1 : Int32) (x2 : Int32) (x3 : Int32) (x4 : Int32) (σ : am_SS), rec34 x1 x2 x3 x4 σ = some q → am_K G 7 34 [(0, .ref (am_b G 0)), (1, .int x1), (2, .int x2), (3, .int x3), (4, .int x4)] [] σ) (hrec43 : ∀ (x1 : Int32) (x2 : Int32) (x3 : Int32) (x4 : Int32) (x5 : Int32) (σ : am_SS), rec43 x1 x2 x3 x4 x5 σ = some q → am_K G 7 43 [(0, .ref (am_b G 0)), (1, .int x1), (2, .int x2), (3, .int x3), (4, .int x4), (5, .int x5)] [] σ) (x1 : Int32) (x2 : Int32) (x3 : Int32) (x4 : Int32) (x5 : Int32) (x6 : Int32) (σ : am_SS) (h : M_billets_p115 rec34 rec43 F x1 x2 x3 x4 x5 x6 σ = some q) : am_K G 7 115 [(0, .ref (am_b G 0)), (1, .int x1), (2, .int x2), (3, .int x3), (4, .int x4), (5, .int x5), (6, .int x6)] [] σ := by
  unfold M_billets_p115 at h
  refine am_aload_n C0 dX10_billets_115 0 rfl ?_
  refine am_getR C0 (j := 28) ff_RX10_95 (loM_7_49 kM0).1 (loM_7_49 kM0).2.1 (loM_7_49 kM0).2.2.1 (loM_7_49 kM0).2.2.2 dX10_billets_116 ?_
  refine am_bipush C0 dX10_billets_119 kb_11 ?_
  refine am_iload C0 dX10_billets_121 4 rfl ?_
  refine am_imul C0 dX10_billets_123 ?_
  refine am_iload C0 dX10_billets_124 5 rfl ?_
  refine am_iadd C0 dX10_billets_126 ?_
  refine am_iload C0 dX10_billets_127 6 rfl ?_
  obtain ⟨σ_1, h_σ_1, h⟩ := am_bind h
  refine am_iast C0 (ltM (tgM_7_49 kM0)) (tgM_7_49 kM0) (lnM_7_49 kM0) h_σ_1 dX10_billets_129 ?_
  refine am_iload C0 dX10_billets_130 4 rfl ?_
  refine am_iload_n C0 dX10_billets_132 1 rfl ?_
  refine am_icmp_ne C0 dX10_billets_133 (tgt := 141) (by decide) (fun c_2 => ?_) (fun c_2 => ?_)
  · replace h := am_in h c_2
    exact am_sub [0, 1, 2, 3, 4, 5] rfl (k_M_billets_p141 C0 hd rec34 rec43 F hret hrec34 hrec43 x1 x2 x3 x4 x5 σ_1  h)
  · replace h := am_ip h c_2
    refine am_iload_n C0 dX10_billets_136 3 rfl ?_
    refine am_iload C0 dX10_billets_137 6 rfl ?_
    refine am_iadd C0 dX10_billets_139 ?_
    obtain ⟨x3_3, e_x3_3, h⟩ := am_lt h
    refine am_top e_x3_3 ?_
    refine am_istore_n C0 dX10_billets_140 rfl (by decide) rfl (lv' := [(0, .ref (am_b G 0)), (1, .int x1), (2, .int x2), (3, .int x3_3), (4, .int x4), (5, .int x5), (6, .int x6)]) rfl ?_
    exact am_sub [0, 1, 2, 3, 4, 5] rfl (k_M_billets_p141 C0 hd rec34 rec43 F hret hrec34 hrec43 x1 x2 x3_3 x4 x5 σ_1  h)
set_option maxRecDepth 100000 in
set_option maxHeartbeats 4000000 in
theorem k_M_billets_p65 {G : am_T} {d0 : Nat} (C0 : am_C G cX10_billets 7 RX10 LM d0) (hd : 2 ≤ d0) (rec34 : Int32 → Int32 → Int32 → Int32 → am_SS → Option (Int32 × am_SS)) (rec43 : Int32 → Int32 → Int32 → Int32 → Int32 → am_SS → Option (Int32 × am_SS)) (F : Nat) {q : Int32 × am_SS} (hret : am_retI G cX10_billets 7 q.1 q.2) (hrec34 : ∀ (x1 : Int32) (x2 : Int32) (x3 : Int32) (x4 : Int32) (σ : am_SS), rec34 x1 x2 x3 x4 σ = some q → am_K G 7 34 [(0, .ref (am_b G 0)), (1, .int x1), (2, .int x2), (3, .int x3), (4, .int x4)] [] σ) (hrec43 : ∀ (x1 : Int32) (x2 : Int32) (x3 : Int32) (x4 : Int32) (x5 : Int32) (σ : am_SS), rec43 x1 x2 x3 x4 x5 σ = some q → am_K G 7 43 [(0, .ref (am_b G 0)), (1, .int x1), (2, .int x2), (3, .int x3), (4, .int x4), (5, .int x5)] [] σ) (x1 : Int32) (x2 : Int32) (x3 : Int32) (x4 : Int32) (x5 : Int32) (s0 : Bool) (σ : am_SS) (h : M_billets_p65 rec34 rec43 F x1 x2 x3 x4 x5 s0 σ = some q) : am_K G 7 65 [(0, .ref (am_b G 0)), (1, .int x1), (2, .int x2), (3, .int x3), (4, .int x4), (5, .int x5)] [.int (am_bI s0)] σ := by
  unfold M_billets_p65 at h
  refine am_istore C0 dX10_billets_65 (by decide) rfl (lv' := [(0, .ref (am_b G 0)), (1, .int x1), (2, .int x2), (3, .int x3), (4, .int x4), (5, .int x5), (6, .int (am_bI s0))]) rfl ?_
  refine am_iload C0 dX10_billets_67 4 rfl ?_
  refine am_if_le C0 dX10_billets_69 (tgt := 115) (by decide) (fun c_1 => ?_) (fun c_1 => ?_)
  · replace h := am_in h c_1
    exact am_sub [0, 1, 2, 3, 4, 5, 6] rfl (k_M_billets_p115 C0 hd rec34 rec43 F hret hrec34 hrec43 x1 x2 x3 x4 x5 (am_bI s0) σ  h)
  · replace h := am_ip h c_1
    refine am_iload C0 dX10_billets_72 5 rfl ?_
    refine am_if_le C0 dX10_billets_74 (tgt := 115) (by decide) (fun c_2 => ?_) (fun c_2 => ?_)
    · replace h := am_in h c_2
      exact am_sub [0, 1, 2, 3, 4, 5, 6] rfl (k_M_billets_p115 C0 hd rec34 rec43 F hret hrec34 hrec43 x1 x2 x3 x4 x5 (am_bI s0) σ  h)
    · replace h := am_ip h c_2
      refine am_aload_n C0 dX10_billets_77 0 rfl ?_
      refine am_getR C0 (j := 28) ff_RX10_95 (loM_7_49 kM0).1 (loM_7_49 kM0).2.1 (loM_7_49 kM0).2.2.1 (loM_7_49 kM0).2.2.2 dX10_billets_78 ?_
      refine am_bipush C0 dX10_billets_81 kb_11 ?_
      refine am_iload C0 dX10_billets_83 4 rfl ?_
      refine am_iconst C0 dX10_billets_85 ci_1 ?_
      refine am_isub C0 dX10_billets_86 ?_
      refine am_imul C0 dX10_billets_87 ?_
      refine am_iload C0 dX10_billets_88 5 rfl ?_
      refine am_iadd C0 dX10_billets_90 ?_
      refine am_iconst C0 dX10_billets_91 ci_1 ?_
      refine am_isub C0 dX10_billets_92 ?_
      obtain ⟨t_3, h_t_3, h⟩ := am_bind h
      refine am_iald C0 (ltM (tgM_7_49 kM0)) (tgM_7_49 kM0) (lnM_7_49 kM0) h_t_3 dX10_billets_93 ?_
      refine am_iload C0 dX10_billets_94 5 rfl ?_
      refine am_aload_n C0 dX10_billets_96 0 rfl ?_
      refine am_getR C0 (j := 28) ff_RX10_95 (loM_7_49 kM0).1 (loM_7_49 kM0).2.1 (loM_7_49 kM0).2.2.1 (loM_7_49 kM0).2.2.2 dX10_billets_97 ?_
      refine am_bipush C0 dX10_billets_100 kb_11 ?_
      refine am_iload C0 dX10_billets_102 4 rfl ?_
      refine am_iconst C0 dX10_billets_104 ci_1 ?_
      refine am_isub C0 dX10_billets_105 ?_
      refine am_imul C0 dX10_billets_106 ?_
      refine am_iload C0 dX10_billets_107 5 rfl ?_
      refine am_iadd C0 dX10_billets_109 ?_
      obtain ⟨t_4, h_t_4, h⟩ := am_bind h
      refine am_iald C0 (ltM (tgM_7_49 kM0)) (tgM_7_49 kM0) (lnM_7_49 kM0) h_t_4 dX10_billets_110 ?_
      refine am_imul C0 dX10_billets_111 ?_
      refine am_iadd C0 dX10_billets_112 ?_
      obtain ⟨x6_5, e_x6_5, h⟩ := am_lt h
      refine am_top e_x6_5 ?_
      refine am_istore C0 dX10_billets_113 (by decide) rfl (lv' := [(0, .ref (am_b G 0)), (1, .int x1), (2, .int x2), (3, .int x3), (4, .int x4), (5, .int x5), (6, .int x6_5)]) rfl ?_
      exact am_sub [0, 1, 2, 3, 4, 5, 6] rfl (k_M_billets_p115 C0 hd rec34 rec43 F hret hrec34 hrec43 x1 x2 x3 x4 x5 x6_5 σ  h)
set_option maxRecDepth 100000 in
set_option maxHeartbeats 4000000 in
theorem k_M_billets_p64 {G : am_T} {d0 : Nat} (C0 : am_C G cX10_billets 7 RX10 LM d0) (hd : 2 ≤ d0) (rec34 : Int32 → Int32 → Int32 → Int32 → am_SS → Option (Int32 × am_SS)) (rec43 : Int32 → Int32 → Int32 → Int32 → Int32 → am_SS → Option (Int32 × am_SS)) (F : Nat) {q : Int32 × am_SS} (hret : am_retI G cX10_billets 7 q.1 q.2) (hrec34 : ∀ (x1 : Int32) (x2 : Int32) (x3 : Int32) (x4 : Int32) (σ : am_SS), rec34 x1 x2 x3 x4 σ = some q → am_K G 7 34 [(0, .ref (am_b G 0)), (1, .int x1), (2, .int x2), (3, .int x3), (4, .int x4)] [] σ) (hrec43 : ∀ (x1 : Int32) (x2 : Int32) (x3 : Int32) (x4 : Int32) (x5 : Int32) (σ : am_SS), rec43 x1 x2 x3 x4 x5 σ = some q → am_K G 7 43 [(0, .ref (am_b G 0)), (1, .int x1), (2, .int x2), (3, .int x3), (4, .int x4), (5, .int x5)] [] σ) (x1 : Int32) (x2 : Int32) (x3 : Int32) (x4 : Int32) (x5 : Int32) (σ : am_SS) (h : M_billets_p64 rec34 rec43 F x1 x2 x3 x4 x5 σ = some q) : am_K G 7 64 [(0, .ref (am_b G 0)), (1, .int x1), (2, .int x2), (3, .int x3), (4, .int x4), (5, .int x5)] [] σ := by
  unfold M_billets_p64 at h
  refine am_iconst C0 dX10_billets_64 ci_0 ?_
  exact am_sub [0, 1, 2, 3, 4, 5] rfl (k_M_billets_p65 C0 hd rec34 rec43 F hret hrec34 hrec43 x1 x2 x3 x4 x5 false σ  h)
set_option maxRecDepth 100000 in
set_option maxHeartbeats 4000000 in
theorem k_M_billets_l43 {G : am_T} {d0 : Nat} (C0 : am_C G cX10_billets 7 RX10 LM d0) (hd : 2 ≤ d0) (rec34 : Int32 → Int32 → Int32 → Int32 → am_SS → Option (Int32 × am_SS)) (F : Nat) {q : Int32 × am_SS} (hret : am_retI G cX10_billets 7 q.1 q.2) (hrec34 : ∀ (x1 : Int32) (x2 : Int32) (x3 : Int32) (x4 : Int32) (σ : am_SS), rec34 x1 x2 x3 x4 σ = some q → am_K G 7 34 [(0, .ref (am_b G 0)), (1, .int x1), (2, .int x2), (3, .int x3), (4, .int x4)] [] σ) : ∀ (n : Nat) (x1 : Int32) (x2 : Int32) (x3 : Int32) (x4 : Int32) (x5 : Int32) (σ : am_SS) (h : M_billets_l43 rec34 F n x1 x2 x3 x4 x5 σ = some q), am_K G 7 43 [(0, .ref (am_b G 0)), (1, .int x1), (2, .int x2), (3, .int x3), (4, .int x4), (5, .int x5)] [] σ := by
  intro n
  induction n with
  | zero =>
    intro x1 x2 x3 x4 x5 σ h
    rw [M_billets_l43] at h
    cases h
  | succ n ih =>
    intro x1 x2 x3 x4 x5 σ h
    rw [M_billets_l43] at h
    refine am_iload C0 dX10_billets_43 5 rfl ?_
    refine am_bipush C0 dX10_billets_45 kb_11 ?_
    refine am_icmp_ge C0 dX10_billets_47 (tgt := 147) (by decide) (fun c_1 => ?_) (fun c_1 => ?_)
    · replace h := am_in h c_1
      obtain ⟨x4_2, e_x4_2, h⟩ := am_lt h
      refine am_iinc C0 dX10_billets_147 4 rfl (by rw [ci_1]; exact e_x4_2) (by decide) rfl (lv' := [(0, .ref (am_b G 0)), (1, .int x1), (2, .int x2), (3, .int x3), (4, .int x4_2), (5, .int x5)]) rfl ?_
      refine am_goto C0 dX10_billets_150 (tgt := 34) (by decide) ?_
      exact am_sub [0, 1, 2, 3, 4] rfl (hrec34 x1 x2 x3 x4_2 σ  h)
    · replace h := am_ip h c_1
      refine am_iload C0 dX10_billets_50 4 rfl ?_
      refine am_if_ne C0 dX10_billets_52 (tgt := 64) (by decide) (fun c_3 => ?_) (fun c_3 => ?_)
      · replace h := am_in h c_3
        exact am_sub [0, 1, 2, 3, 4, 5] rfl (k_M_billets_p64 C0 hd rec34 _ F hret hrec34 (fun z1 z2 z3 z4 z5 zs z => ih z1 z2 z3 z4 z5 zs z) x1 x2 x3 x4 x5 σ  h)
      · replace h := am_ip h c_3
        refine am_iload C0 dX10_billets_55 5 rfl ?_
        refine am_if_ne C0 dX10_billets_57 (tgt := 64) (by decide) (fun c_4 => ?_) (fun c_4 => ?_)
        · replace h := am_in h c_4
          exact am_sub [0, 1, 2, 3, 4, 5] rfl (k_M_billets_p64 C0 hd rec34 _ F hret hrec34 (fun z1 z2 z3 z4 z5 zs z => ih z1 z2 z3 z4 z5 zs z) x1 x2 x3 x4 x5 σ  h)
        · replace h := am_ip h c_4
          refine am_iconst C0 dX10_billets_60 ci_1 ?_
          refine am_goto C0 dX10_billets_61 (tgt := 65) (by decide) ?_
          exact am_sub [0, 1, 2, 3, 4, 5] rfl (k_M_billets_p65 C0 hd rec34 _ F hret hrec34 (fun z1 z2 z3 z4 z5 zs z => ih z1 z2 z3 z4 z5 zs z) x1 x2 x3 x4 x5 true σ  h)
set_option maxRecDepth 100000 in
set_option maxHeartbeats 4000000 in
theorem k_M_billets_l34 {G : am_T} {d0 : Nat} (C0 : am_C G cX10_billets 7 RX10 LM d0) (hd : 2 ≤ d0) (F : Nat) {q : Int32 × am_SS} (hret : am_retI G cX10_billets 7 q.1 q.2) : ∀ (n : Nat) (x1 : Int32) (x2 : Int32) (x3 : Int32) (x4 : Int32) (σ : am_SS) (h : M_billets_l34 F n x1 x2 x3 x4 σ = some q), am_K G 7 34 [(0, .ref (am_b G 0)), (1, .int x1), (2, .int x2), (3, .int x3), (4, .int x4)] [] σ := by
  intro n
  induction n with
  | zero =>
    intro x1 x2 x3 x4 σ h
    rw [M_billets_l34] at h
    cases h
  | succ n ih =>
    intro x1 x2 x3 x4 σ h
    rw [M_billets_l34] at h
    refine am_iload C0 dX10_billets_34 4 rfl ?_
    refine am_iload_n C0 dX10_billets_36 1 rfl ?_
    refine am_icmp_gt C0 dX10_billets_37 (tgt := 153) (by decide) (fun c_1 => ?_) (fun c_1 => ?_)
    · replace h := am_ip h c_1
      refine am_iload_n C0 dX10_billets_153 2 rfl ?_
      refine am_iconst C0 dX10_billets_154 ci_m1 ?_
      refine am_icmp_ne C0 dX10_billets_155 (tgt := 162) (by decide) (fun c_2 => ?_) (fun c_2 => ?_)
      · replace h := am_in h c_2
        refine am_aload_n C0 dX10_billets_162 0 rfl ?_
        refine am_getR C0 (j := 28) ff_RX10_95 (loM_7_49 kM0).1 (loM_7_49 kM0).2.1 (loM_7_49 kM0).2.2.1 (loM_7_49 kM0).2.2.2 dX10_billets_163 ?_
        refine am_bipush C0 dX10_billets_166 kb_11 ?_
        refine am_iload_n C0 dX10_billets_168 1 rfl ?_
        refine am_imul C0 dX10_billets_169 ?_
        refine am_iload_n C0 dX10_billets_170 2 rfl ?_
        refine am_iadd C0 dX10_billets_171 ?_
        obtain ⟨t_3, h_t_3, h⟩ := am_bind h
        refine am_iald C0 (ltM (tgM_7_49 kM0)) (tgM_7_49 kM0) (lnM_7_49 kM0) h_t_3 dX10_billets_172 ?_
        have e := Option.some.inj h
        subst e
        exact hret _ _ dX10_billets_173
      · replace h := am_ip h c_2
        refine am_iload_n C0 dX10_billets_158 3 rfl ?_
        refine am_goto C0 dX10_billets_159 (tgt := 173) (by decide) ?_
        have e := Option.some.inj h
        subst e
        exact hret _ _ dX10_billets_173
    · replace h := am_in h c_1
      refine am_iconst C0 dX10_billets_40 ci_0 ?_
      refine am_istore C0 dX10_billets_41 (by decide) rfl (lv' := [(0, .ref (am_b G 0)), (1, .int x1), (2, .int x2), (3, .int x3), (4, .int x4), (5, .int 0)]) rfl ?_
      exact am_sub [0, 1, 2, 3, 4, 5] rfl (k_M_billets_l43 C0 hd _ F hret (fun z1 z2 z3 z4 zs z => ih z1 z2 z3 z4 zs z) F x1 x2 x3 x4 0 σ  h)
set_option maxRecDepth 100000 in
set_option maxHeartbeats 4000000 in
theorem k_M_billets {G : am_T} {d0 : Nat} (C0 : am_C G cX10_billets 7 RX10 LM d0) (hd : 2 ≤ d0) (F : Nat) {q : Int32 × am_SS} (hret : am_retI G cX10_billets 7 q.1 q.2) (x1 : Int32) (x2 : Int32) (σ : am_SS) (h : M_billets F x1 x2 σ = some q) : am_K G 7 0 [(0, .ref (am_b G 0)), (1, .int x1), (2, .int x2)] [] σ := by
  unfold M_billets at h
  refine am_aload_n C0 dX10_billets_0 0 rfl ?_
  refine am_iconst C0 dX10_billets_1 ci_0 ?_
  obtain ⟨σ_1, e_σ_1, h⟩ := am_lt h
  refine am_putI C0 e_σ_1 fp_RX10_131 (loM_7_0 kM0).1 (loM_7_0 kM0).2.1 (loM_7_0 kM0).2.2.1 (loM_7_0 kM0).2.2.2 rfl rfl dX10_billets_2 ?_
  refine am_aload_n C0 dX10_billets_5 0 rfl ?_
  refine am_iload_n C0 dX10_billets_6 1 rfl ?_
  refine am_iconst C0 dX10_billets_7 ci_0 ?_
  refine am_bipush C0 dX10_billets_8 kb_10 ?_
  refine am_callV C0 (m_M_isIn (σ := σ_1) (Nat.le_refl _) x1 0 10  rfl) mm_yX10_isIn ln_RX10_149 (As := fun b => [.int x1, .int 0, .int 10]) (fun _ => rfl) (fun _ => rfl) (loM_7_0 kM0).1 (loM_7_0 kM0).2.1 rfl (Nat.le_trans (by decide) hd) rfl (Nat.le_of_ble_eq_true rfl) dX10_billets_10 ?_
  refine am_ifB_eq C0 dX10_billets_13 (tgt := 27) (by decide) (fun c_3 => ?_) (fun c_3 => ?_)
  · replace h := am_in h c_3
    refine am_iconst C0 dX10_billets_27 ci_m1 ?_
    have e := Option.some.inj h
    subst e
    exact hret _ _ dX10_billets_28
  · replace h := am_ip h c_3
    refine am_aload_n C0 dX10_billets_16 0 rfl ?_
    refine am_iload_n C0 dX10_billets_17 2 rfl ?_
    refine am_iconst C0 dX10_billets_18 ci_m1 ?_
    refine am_bipush C0 dX10_billets_19 kb_10 ?_
    refine am_callV C0 (m_M_isIn (σ := σ_1) (Nat.le_refl _) x2 (-1) 10  rfl) mm_yX10_isIn ln_RX10_149 (As := fun b => [.int x2, .int (-1), .int 10]) (fun _ => rfl) (fun _ => rfl) (loM_7_0 kM0).1 (loM_7_0 kM0).2.1 rfl (Nat.le_trans (by decide) hd) rfl (Nat.le_of_ble_eq_true rfl) dX10_billets_21 ?_
    refine am_ifB_ne C0 dX10_billets_24 (tgt := 29) (by decide) (fun c_5 => ?_) (fun c_5 => ?_)
    · replace h := am_ip h c_5
      refine am_iconst C0 dX10_billets_29 ci_0 ?_
      refine am_istore_n C0 dX10_billets_30 rfl (by decide) rfl (lv' := [(0, .ref (am_b G 0)), (1, .int x1), (2, .int x2), (3, .int 0)]) rfl ?_
      refine am_iconst C0 dX10_billets_31 ci_0 ?_
      refine am_istore C0 dX10_billets_32 (by decide) rfl (lv' := [(0, .ref (am_b G 0)), (1, .int x1), (2, .int x2), (3, .int 0), (4, .int 0)]) rfl ?_
      exact am_sub [0, 1, 2, 3, 4] rfl (k_M_billets_l34 C0 hd F hret F x1 x2 0 0 σ_1  h)
    · replace h := am_in h c_5
      refine am_iconst C0 dX10_billets_27 ci_m1 ?_
      have e := Option.some.inj h
      subst e
      exact hret _ _ dX10_billets_28
set_option maxRecDepth 100000 in
set_option maxHeartbeats 4000000 in
theorem m_M_billets {l : Launch} {d : Nat} {σ : am_SS} {q : Int32 × am_SS} (hd : 2 ≤ d) (F : Nat) (x1 : Int32) (x2 : Int32) (h : M_billets F x1 x2 σ = some q) : am_Met l yX10_billets cX10_billets 7 (some .int) d 0 0 LM (fun b => [.ref (b 0), .int x1, .int x2]) σ (some (.int q.1)) q.2 :=
  am_metI (plainFor_of_name (by decide)) rfl (lv := fun b => [(0, .ref (b 0)), (1, .int x1), (2, .int x2)]) (fun _ => rfl) (fun _ => Nat.le_of_ble_eq_true rfl) (fun G C0 _ hret => k_M_billets C0 hd F hret x1 x2 σ  h)
set_option maxRecDepth 100000 in
set_option maxHeartbeats 4000000 in
theorem k_M_chosen_l5 {G : am_T} {d0 : Nat} (C0 : am_C G cX10_chosen 5 RX10 LM d0) (hd : 1 ≤ d0) (F : Nat) {σ0 : am_SS} {q : Int32} (hret : am_retI G cX10_chosen 5 q σ0) : ∀ (n : Nat) (x1 : Int32) (x2 : Int32) (x3 : Int32) (x4 : Int32) (h : M_chosen_l5 F n x1 x2 x3 x4 = some q), am_K G 5 5 [(1, .int x1), (2, .int x2), (3, .int x3), (4, .int x4)] [] σ0 := by
  intro n
  induction n with
  | zero =>
    intro x1 x2 x3 x4 h
    rw [M_chosen_l5] at h
    cases h
  | succ n ih =>
    intro x1 x2 x3 x4 h
    rw [M_chosen_l5] at h
    refine am_iload C0 dX10_chosen_5 3 rfl ?_
    refine am_iload_n C0 dX10_chosen_7 1 rfl ?_
    refine am_icmp_gt C0 dX10_chosen_8 (tgt := 29) (by decide) (fun c_1 => ?_) (fun c_1 => ?_)
    · replace h := am_ip h c_1
      refine am_iload_n C0 dX10_chosen_29 2 rfl ?_
      have e := Option.some.inj h
      subst e
      exact hret _ _ dX10_chosen_30
    · replace h := am_in h c_1
      refine am_iload_n C0 dX10_chosen_11 2 rfl ?_
      refine am_iload_n C0 dX10_chosen_12 0 rfl ?_
      refine am_iload_n C0 dX10_chosen_13 1 rfl ?_
      refine am_isub C0 dX10_chosen_14 ?_
      refine am_iload C0 dX10_chosen_15 3 rfl ?_
      refine am_iadd C0 dX10_chosen_17 ?_
      refine am_imul C0 dX10_chosen_18 ?_
      refine am_iload C0 dX10_chosen_19 3 rfl ?_
      obtain ⟨hz_2, h⟩ := am_gd h
      refine am_idiv C0 dX10_chosen_21 hz_2 ?_
      obtain ⟨x3_3, e_x3_3, h⟩ := am_lt h
      refine am_top e_x3_3 ?_
      refine am_istore_n C0 dX10_chosen_22 rfl (by decide) rfl (lv' := [(1, .int x1), (2, .int x2), (3, .int x3_3), (4, .int x4)]) rfl ?_
      obtain ⟨x4_4, e_x4_4, h⟩ := am_lt h
      refine am_iinc C0 dX10_chosen_23 3 rfl (by rw [ci_1]; exact e_x4_4) (by decide) rfl (lv' := [(1, .int x1), (2, .int x2), (3, .int x3_3), (4, .int x4_4)]) rfl ?_
      refine am_goto C0 dX10_chosen_26 (tgt := 5) (by decide) ?_
      exact am_sub [0, 1, 2, 3] rfl (ih x1 x2 x3_3 x4_4  h)
set_option maxRecDepth 100000 in
set_option maxHeartbeats 4000000 in
theorem k_M_chosen {G : am_T} {d0 : Nat} (C0 : am_C G cX10_chosen 5 RX10 LM d0) (hd : 1 ≤ d0) (F : Nat) {σ0 : am_SS} {q : Int32} (hret : am_retI G cX10_chosen 5 q σ0) (x1 : Int32) (x2 : Int32) (h : M_chosen F x1 x2 = some q) : am_K G 5 0 [(0, .ref (am_b G 0)), (1, .int x1), (2, .int x2)] [] σ0 := by
  unfold M_chosen at h
  refine am_iconst C0 dX10_chosen_0 ci_1 ?_
  refine am_istore_n C0 dX10_chosen_1 rfl (by decide) rfl (lv' := [(0, .ref (am_b G 0)), (1, .int x1), (2, .int x2), (3, .int 1)]) rfl ?_
  refine am_iconst C0 dX10_chosen_2 ci_1 ?_
  refine am_istore C0 dX10_chosen_3 (by decide) rfl (lv' := [(0, .ref (am_b G 0)), (1, .int x1), (2, .int x2), (3, .int 1), (4, .int 1)]) rfl ?_
  exact am_sub [1, 2, 3, 4] rfl (k_M_chosen_l5 C0 hd F hret F x1 x2 1 1  h)
set_option maxRecDepth 100000 in
set_option maxHeartbeats 4000000 in
theorem m_M_chosen {l : Launch} {d : Nat} {σ : am_SS} {q : Int32} (hd : 1 ≤ d) (F : Nat) (x1 : Int32) (x2 : Int32) (h : M_chosen F x1 x2 = some q) : am_Met l yX10_chosen cX10_chosen 5 (some .int) d 0 0 LM (fun b => [.ref (b 0), .int x1, .int x2]) σ (some (.int q)) σ :=
  am_metI (plainFor_of_name (by decide)) rfl (lv := fun b => [(0, .ref (b 0)), (1, .int x1), (2, .int x2)]) (fun _ => rfl) (fun _ => Nat.le_of_ble_eq_true rfl) (fun G C0 _ hret => k_M_chosen C0 hd F hret x1 x2  h)
set_option maxRecDepth 100000 in
set_option maxHeartbeats 4000000 in
theorem k_M_pairs_p57 {G : am_T} {d0 : Nat} (C0 : am_C G cX10_pairs 5 RX10 LM d0) (hd : 2 ≤ d0) (rec33 : Int32 → Int32 → Int32 → Int32 → am_SS → Option (Int32 × am_SS)) (F : Nat) {q : Int32 × am_SS} (hret : am_retI G cX10_pairs 5 q.1 q.2) (hrec33 : ∀ (x1 : Int32) (x2 : Int32) (x3 : Int32) (x4 : Int32) (σ : am_SS), rec33 x1 x2 x3 x4 σ = some q → am_K G 5 33 [(0, .ref (am_b G 0)), (1, .int x1), (2, .int x2), (3, .int x3), (4, .int x4)] [] σ) (x1 : Int32) (x2 : Int32) (x4 : Int32) (s0 : Int32) (s1 : Int32) (σ : am_SS) (h : M_pairs_p57 rec33 F x1 x2 x4 s0 s1 σ = some q) : am_K G 5 57 [(0, .ref (am_b G 0)), (1, .int x1), (2, .int x2), (4, .int x4)] [.int s1, .int s0] σ := by
  unfold M_pairs_p57 at h
  refine am_iadd C0 dX10_pairs_57 ?_
  obtain ⟨x3_1, e_x3_1, h⟩ := am_lt h
  refine am_top e_x3_1 ?_
  refine am_istore_n C0 dX10_pairs_58 rfl (by decide) rfl (lv' := [(0, .ref (am_b G 0)), (1, .int x1), (2, .int x2), (4, .int x4), (3, .int x3_1)]) rfl ?_
  obtain ⟨x4_2, e_x4_2, h⟩ := am_lt h
  refine am_iinc C0 dX10_pairs_59 3 rfl (by rw [ci_1]; exact e_x4_2) (by decide) rfl (lv' := [(0, .ref (am_b G 0)), (1, .int x1), (2, .int x2), (4, .int x4_2), (3, .int x3_1)]) rfl ?_
  refine am_goto C0 dX10_pairs_62 (tgt := 33) (by decide) ?_
  exact am_sub [0, 1, 2, 4, 3] rfl (hrec33 x1 x2 x3_1 x4_2 σ  h)
set_option maxRecDepth 100000 in
set_option maxHeartbeats 4000000 in
theorem k_M_pairs_l33 {G : am_T} {d0 : Nat} (C0 : am_C G cX10_pairs 5 RX10 LM d0) (hd : 2 ≤ d0) (F : Nat) {q : Int32 × am_SS} (hret : am_retI G cX10_pairs 5 q.1 q.2) : ∀ (n : Nat) (x1 : Int32) (x2 : Int32) (x3 : Int32) (x4 : Int32) (σ : am_SS) (h : M_pairs_l33 F n x1 x2 x3 x4 σ = some q), am_K G 5 33 [(0, .ref (am_b G 0)), (1, .int x1), (2, .int x2), (3, .int x3), (4, .int x4)] [] σ := by
  intro n
  induction n with
  | zero =>
    intro x1 x2 x3 x4 σ h
    rw [M_pairs_l33] at h
    cases h
  | succ n ih =>
    intro x1 x2 x3 x4 σ h
    rw [M_pairs_l33] at h
    refine am_iload C0 dX10_pairs_33 4 rfl ?_
    refine am_iload_n C0 dX10_pairs_35 1 rfl ?_
    refine am_iload_n C0 dX10_pairs_36 2 rfl ?_
    refine am_isub C0 dX10_pairs_37 ?_
    refine am_icmp_gt C0 dX10_pairs_38 (tgt := 65) (by decide) (fun c_1 => ?_) (fun c_1 => ?_)
    · replace h := am_ip h c_1
      refine am_aload_n C0 dX10_pairs_65 0 rfl ?_
      refine am_iload_n C0 dX10_pairs_66 1 rfl ?_
      refine am_iload_n C0 dX10_pairs_67 2 rfl ?_
      obtain ⟨q_2, h_q_2, h⟩ := am_bind h
      refine am_callV C0 (m_M_chosen (σ := σ) (Nat.le_refl _) F x1 x2  h_q_2) mm_yX10_chosen ln_RX10_422 (As := fun b => [.int x1, .int x2]) (fun _ => rfl) (fun _ => rfl) (loM_7_0 kM0).1 (loM_7_0 kM0).2.1 rfl (Nat.le_trans (by decide) hd) rfl (Nat.le_of_ble_eq_true rfl) dX10_pairs_68 ?_
      refine am_iload_n C0 dX10_pairs_71 3 rfl ?_
      refine am_imul C0 dX10_pairs_72 ?_
      have e := Option.some.inj h
      subst e
      exact hret _ _ dX10_pairs_73
    · replace h := am_in h c_1
      refine am_iload_n C0 dX10_pairs_41 3 rfl ?_
      refine am_iload C0 dX10_pairs_42 4 rfl ?_
      refine am_imul C0 dX10_pairs_44 ?_
      refine am_iload C0 dX10_pairs_45 4 rfl ?_
      refine am_iconst C0 dX10_pairs_47 ci_2 ?_
      refine am_irem C0 dX10_pairs_48 nz_2 ?_
      refine am_if_ne C0 dX10_pairs_49 (tgt := 56) (by decide) (fun c_3 => ?_) (fun c_3 => ?_)
      · replace h := am_in h c_3
        refine am_iconst C0 dX10_pairs_56 ci_m1 ?_
        exact am_sub [0, 1, 2, 4] rfl (k_M_pairs_p57 C0 hd _ F hret (fun z1 z2 z3 z4 zs z => ih z1 z2 z3 z4 zs z) x1 x2 x4 (x3 * x4) (-1) σ  h)
      · replace h := am_ip h c_3
        refine am_iconst C0 dX10_pairs_52 ci_1 ?_
        refine am_goto C0 dX10_pairs_53 (tgt := 57) (by decide) ?_
        exact am_sub [0, 1, 2, 4] rfl (k_M_pairs_p57 C0 hd _ F hret (fun z1 z2 z3 z4 zs z => ih z1 z2 z3 z4 zs z) x1 x2 x4 (x3 * x4) 1 σ  h)
set_option maxRecDepth 100000 in
set_option maxHeartbeats 4000000 in
theorem k_M_pairs {G : am_T} {d0 : Nat} (C0 : am_C G cX10_pairs 5 RX10 LM d0) (hd : 2 ≤ d0) (F : Nat) {q : Int32 × am_SS} (hret : am_retI G cX10_pairs 5 q.1 q.2) (x1 : Int32) (x2 : Int32) (σ : am_SS) (h : M_pairs F x1 x2 σ = some q) : am_K G 5 0 [(0, .ref (am_b G 0)), (1, .int x1), (2, .int x2)] [] σ := by
  unfold M_pairs at h
  refine am_aload_n C0 dX10_pairs_0 0 rfl ?_
  refine am_iconst C0 dX10_pairs_1 ci_0 ?_
  obtain ⟨σ_1, e_σ_1, h⟩ := am_lt h
  refine am_putI C0 e_σ_1 fp_RX10_131 (loM_7_0 kM0).1 (loM_7_0 kM0).2.1 (loM_7_0 kM0).2.2.1 (loM_7_0 kM0).2.2.2 rfl rfl dX10_pairs_2 ?_
  refine am_aload_n C0 dX10_pairs_5 0 rfl ?_
  refine am_iload_n C0 dX10_pairs_6 1 rfl ?_
  refine am_iconst C0 dX10_pairs_7 ci_0 ?_
  refine am_bipush C0 dX10_pairs_8 kb_10 ?_
  refine am_callV C0 (m_M_isIn (σ := σ_1) (Nat.le_refl _) x1 0 10  rfl) mm_yX10_isIn ln_RX10_149 (As := fun b => [.int x1, .int 0, .int 10]) (fun _ => rfl) (fun _ => rfl) (loM_7_0 kM0).1 (loM_7_0 kM0).2.1 rfl (Nat.le_trans (by decide) hd) rfl (Nat.le_of_ble_eq_true rfl) dX10_pairs_10 ?_
  refine am_ifB_eq C0 dX10_pairs_13 (tgt := 26) (by decide) (fun c_3 => ?_) (fun c_3 => ?_)
  · replace h := am_in h c_3
    refine am_iconst C0 dX10_pairs_26 ci_m1 ?_
    have e := Option.some.inj h
    subst e
    exact hret _ _ dX10_pairs_27
  · replace h := am_ip h c_3
    refine am_aload_n C0 dX10_pairs_16 0 rfl ?_
    refine am_iload_n C0 dX10_pairs_17 2 rfl ?_
    refine am_iconst C0 dX10_pairs_18 ci_0 ?_
    refine am_iload_n C0 dX10_pairs_19 1 rfl ?_
    refine am_callV C0 (m_M_isIn (σ := σ_1) (Nat.le_refl _) x2 0 x1  rfl) mm_yX10_isIn ln_RX10_149 (As := fun b => [.int x2, .int 0, .int x1]) (fun _ => rfl) (fun _ => rfl) (loM_7_0 kM0).1 (loM_7_0 kM0).2.1 rfl (Nat.le_trans (by decide) hd) rfl (Nat.le_of_ble_eq_true rfl) dX10_pairs_20 ?_
    refine am_ifB_ne C0 dX10_pairs_23 (tgt := 28) (by decide) (fun c_5 => ?_) (fun c_5 => ?_)
    · replace h := am_ip h c_5
      refine am_iconst C0 dX10_pairs_28 ci_1 ?_
      refine am_istore_n C0 dX10_pairs_29 rfl (by decide) rfl (lv' := [(0, .ref (am_b G 0)), (1, .int x1), (2, .int x2), (3, .int 1)]) rfl ?_
      refine am_iconst C0 dX10_pairs_30 ci_1 ?_
      refine am_istore C0 dX10_pairs_31 (by decide) rfl (lv' := [(0, .ref (am_b G 0)), (1, .int x1), (2, .int x2), (3, .int 1), (4, .int 1)]) rfl ?_
      exact am_sub [0, 1, 2, 3, 4] rfl (k_M_pairs_l33 C0 hd F hret F x1 x2 1 1 σ_1  h)
    · replace h := am_in h c_5
      refine am_iconst C0 dX10_pairs_26 ci_m1 ?_
      have e := Option.some.inj h
      subst e
      exact hret _ _ dX10_pairs_27
set_option maxRecDepth 100000 in
set_option maxHeartbeats 4000000 in
theorem m_M_pairs {l : Launch} {d : Nat} {σ : am_SS} {q : Int32 × am_SS} (hd : 2 ≤ d) (F : Nat) (x1 : Int32) (x2 : Int32) (h : M_pairs F x1 x2 σ = some q) : am_Met l yX10_pairs cX10_pairs 5 (some .int) d 0 0 LM (fun b => [.ref (b 0), .int x1, .int x2]) σ (some (.int q.1)) q.2 :=
  am_metI (plainFor_of_name (by decide)) rfl (lv := fun b => [(0, .ref (b 0)), (1, .int x1), (2, .int x2)]) (fun _ => rfl) (fun _ => Nat.le_of_ble_eq_true rfl) (fun G C0 _ hret => k_M_pairs C0 hd F hret x1 x2 σ  h)
