set_option maxRecDepth 100000 in
set_option maxHeartbeats 4000000 in
theorem k_M_ahead_p128 {G : am_T} {d0 : Nat} (C0 : am_C G cX10_ahead 7 RX10 LM d0) (hd : 2 ≤ d0) (rec47 : Int32 → Int32 → Int32 → Int32 → am_SS → Option (Int32 × am_SS)) (rec56 : Int32 → Int32 → Int32 → Int32 → Int32 → am_SS → Option (Int32 × am_SS)) (F : Nat) {q : Int32 × am_SS} (hret : am_retI G cX10_ahead 7 q.1 q.2) (hrec47 : ∀ (x1 : Int32) (x2 : Int32) (x3 : Int32) (x4 : Int32) (σ : am_SS), rec47 x1 x2 x3 x4 σ = some q → am_K G 7 47 [(0, .ref (am_b G 0)), (1, .int x1), (2, .int x2), (3, .int x3), (4, .int x4)] [] σ) (hrec56 : ∀ (x1 : Int32) (x2 : Int32) (x3 : Int32) (x4 : Int32) (x5 : Int32) (σ : am_SS), rec56 x1 x2 x3 x4 x5 σ = some q → am_K G 7 56 [(0, .ref (am_b G 0)), (1, .int x1), (2, .int x2), (3, .int x3), (4, .int x4), (5, .int x5)] [] σ) (x1 : Int32) (x2 : Int32) (x3 : Int32) (x4 : Int32) (x5 : Int32) (x6 : Int32) (σ : am_SS) (h : M_ahead_p128 rec47 rec56 F x1 x2 x3 x4 x5 x6 σ = some q) : am_K G 7 128 [(0, .ref (am_b G 0)), (1, .int x1), (2, .int x2), (3, .int x3), (4, .int x4), (5, .int x5), (6, .int x6)] [] σ := by
  unfold M_ahead_p128 at h
  refine am_aload_n C0 dX10_ahead_128 0 rfl ?_
  refine am_getR C0 (j := 29) ff_RX10_98 (loM_7_50 kM0).1 (loM_7_50 kM0).2.1 (loM_7_50 kM0).2.2.1 (loM_7_50 kM0).2.2.2 dX10_ahead_129 ?_
  refine am_bipush C0 dX10_ahead_132 kb_13 ?_
  refine am_iload C0 dX10_ahead_134 4 rfl ?_
  refine am_imul C0 dX10_ahead_136 ?_
  refine am_iload C0 dX10_ahead_137 5 rfl ?_
  refine am_iadd C0 dX10_ahead_139 ?_
  refine am_iload C0 dX10_ahead_140 6 rfl ?_
  obtain ⟨σ_1, h_σ_1, h⟩ := am_bind h
  refine am_iast C0 (ltM (tgM_7_50 kM0)) (tgM_7_50 kM0) (lnM_7_50 kM0) h_σ_1 dX10_ahead_142 ?_
  obtain ⟨x5_2, e_x5_2, h⟩ := am_lt h
  refine am_iinc C0 dX10_ahead_143 5 rfl (by rw [ci_1]; exact e_x5_2) (by decide) rfl (lv' := [(0, .ref (am_b G 0)), (1, .int x1), (2, .int x2), (3, .int x3), (4, .int x4), (5, .int x5_2), (6, .int x6)]) rfl ?_
  refine am_goto C0 dX10_ahead_146 (tgt := 56) (by decide) ?_
  exact am_sub [0, 1, 2, 3, 4, 5] rfl (hrec56 x1 x2 x3 x4 x5_2 σ_1  h)
set_option maxRecDepth 100000 in
set_option maxHeartbeats 4000000 in
theorem k_M_ahead_p125 {G : am_T} {d0 : Nat} (C0 : am_C G cX10_ahead 7 RX10 LM d0) (hd : 2 ≤ d0) (rec47 : Int32 → Int32 → Int32 → Int32 → am_SS → Option (Int32 × am_SS)) (rec56 : Int32 → Int32 → Int32 → Int32 → Int32 → am_SS → Option (Int32 × am_SS)) (F : Nat) {q : Int32 × am_SS} (hret : am_retI G cX10_ahead 7 q.1 q.2) (hrec47 : ∀ (x1 : Int32) (x2 : Int32) (x3 : Int32) (x4 : Int32) (σ : am_SS), rec47 x1 x2 x3 x4 σ = some q → am_K G 7 47 [(0, .ref (am_b G 0)), (1, .int x1), (2, .int x2), (3, .int x3), (4, .int x4)] [] σ) (hrec56 : ∀ (x1 : Int32) (x2 : Int32) (x3 : Int32) (x4 : Int32) (x5 : Int32) (σ : am_SS), rec56 x1 x2 x3 x4 x5 σ = some q → am_K G 7 56 [(0, .ref (am_b G 0)), (1, .int x1), (2, .int x2), (3, .int x3), (4, .int x4), (5, .int x5)] [] σ) (x1 : Int32) (x2 : Int32) (x3 : Int32) (x4 : Int32) (x5 : Int32) (s0 : Int32) (s1 : Int32) (σ : am_SS) (h : M_ahead_p125 rec47 rec56 F x1 x2 x3 x4 x5 s0 s1 σ = some q) : am_K G 7 125 [(0, .ref (am_b G 0)), (1, .int x1), (2, .int x2), (3, .int x3), (4, .int x4), (5, .int x5)] [.int s1, .int s0] σ := by
  unfold M_ahead_p125 at h
  refine am_iadd C0 dX10_ahead_125 ?_
  obtain ⟨x6_1, e_x6_1, h⟩ := am_lt h
  refine am_top e_x6_1 ?_
  refine am_istore C0 dX10_ahead_126 (by decide) rfl (lv' := [(0, .ref (am_b G 0)), (1, .int x1), (2, .int x2), (3, .int x3), (4, .int x4), (5, .int x5), (6, .int x6_1)]) rfl ?_
  exact am_sub [0, 1, 2, 3, 4, 5, 6] rfl (k_M_ahead_p128 C0 hd rec47 rec56 F hret hrec47 hrec56 x1 x2 x3 x4 x5 x6_1 σ  h)
set_option maxRecDepth 100000 in
set_option maxHeartbeats 4000000 in
theorem k_M_ahead_p77 {G : am_T} {d0 : Nat} (C0 : am_C G cX10_ahead 7 RX10 LM d0) (hd : 2 ≤ d0) (rec47 : Int32 → Int32 → Int32 → Int32 → am_SS → Option (Int32 × am_SS)) (rec56 : Int32 → Int32 → Int32 → Int32 → Int32 → am_SS → Option (Int32 × am_SS)) (F : Nat) {q : Int32 × am_SS} (hret : am_retI G cX10_ahead 7 q.1 q.2) (hrec47 : ∀ (x1 : Int32) (x2 : Int32) (x3 : Int32) (x4 : Int32) (σ : am_SS), rec47 x1 x2 x3 x4 σ = some q → am_K G 7 47 [(0, .ref (am_b G 0)), (1, .int x1), (2, .int x2), (3, .int x3), (4, .int x4)] [] σ) (hrec56 : ∀ (x1 : Int32) (x2 : Int32) (x3 : Int32) (x4 : Int32) (x5 : Int32) (σ : am_SS), rec56 x1 x2 x3 x4 x5 σ = some q → am_K G 7 56 [(0, .ref (am_b G 0)), (1, .int x1), (2, .int x2), (3, .int x3), (4, .int x4), (5, .int x5)] [] σ) (x1 : Int32) (x2 : Int32) (x3 : Int32) (x4 : Int32) (x5 : Int32) (s0 : Bool) (σ : am_SS) (h : M_ahead_p77 rec47 rec56 F x1 x2 x3 x4 x5 s0 σ = some q) : am_K G 7 77 [(0, .ref (am_b G 0)), (1, .int x1), (2, .int x2), (3, .int x3), (4, .int x4), (5, .int x5)] [.int (am_bI s0)] σ := by
  unfold M_ahead_p77 at h
  refine am_istore C0 dX10_ahead_77 (by decide) rfl (lv' := [(0, .ref (am_b G 0)), (1, .int x1), (2, .int x2), (3, .int x3), (4, .int x4), (5, .int x5), (6, .int (am_bI s0))]) rfl ?_
  refine am_iload C0 dX10_ahead_79 4 rfl ?_
  refine am_iload C0 dX10_ahead_81 5 rfl ?_
  refine am_icmp_le C0 dX10_ahead_83 (tgt := 128) (by decide) (fun c_1 => ?_) (fun c_1 => ?_)
  · replace h := am_in h c_1
    exact am_sub [0, 1, 2, 3, 4, 5, 6] rfl (k_M_ahead_p128 C0 hd rec47 rec56 F hret hrec47 hrec56 x1 x2 x3 x4 x5 (am_bI s0) σ  h)
  · replace h := am_ip h c_1
    refine am_aload_n C0 dX10_ahead_86 0 rfl ?_
    refine am_getR C0 (j := 29) ff_RX10_98 (loM_7_50 kM0).1 (loM_7_50 kM0).2.1 (loM_7_50 kM0).2.2.1 (loM_7_50 kM0).2.2.2 dX10_ahead_87 ?_
    refine am_bipush C0 dX10_ahead_90 kb_13 ?_
    refine am_iload C0 dX10_ahead_92 4 rfl ?_
    refine am_iconst C0 dX10_ahead_94 ci_1 ?_
    refine am_isub C0 dX10_ahead_95 ?_
    refine am_imul C0 dX10_ahead_96 ?_
    refine am_iload C0 dX10_ahead_97 5 rfl ?_
    refine am_iadd C0 dX10_ahead_99 ?_
    obtain ⟨t_2, h_t_2, h⟩ := am_bind h
    refine am_iald C0 (ltM (tgM_7_50 kM0)) (tgM_7_50 kM0) (lnM_7_50 kM0) h_t_2 dX10_ahead_100 ?_
    refine am_iload C0 dX10_ahead_101 5 rfl ?_
    refine am_if_ne C0 dX10_ahead_103 (tgt := 110) (by decide) (fun c_3 => ?_) (fun c_3 => ?_)
    · replace h := am_in h c_3
      refine am_aload_n C0 dX10_ahead_110 0 rfl ?_
      refine am_getR C0 (j := 29) ff_RX10_98 (loM_7_50 kM0).1 (loM_7_50 kM0).2.1 (loM_7_50 kM0).2.2.1 (loM_7_50 kM0).2.2.2 dX10_ahead_111 ?_
      refine am_bipush C0 dX10_ahead_114 kb_13 ?_
      refine am_iload C0 dX10_ahead_116 4 rfl ?_
      refine am_imul C0 dX10_ahead_118 ?_
      refine am_iload C0 dX10_ahead_119 5 rfl ?_
      refine am_iadd C0 dX10_ahead_121 ?_
      refine am_iconst C0 dX10_ahead_122 ci_1 ?_
      refine am_isub C0 dX10_ahead_123 ?_
      obtain ⟨t_4, h_t_4, h⟩ := am_bind h
      refine am_iald C0 (ltM (tgM_7_50 kM0)) (tgM_7_50 kM0) (lnM_7_50 kM0) h_t_4 dX10_ahead_124 ?_
      exact am_sub [0, 1, 2, 3, 4, 5] rfl (k_M_ahead_p125 C0 hd rec47 rec56 F hret hrec47 hrec56 x1 x2 x3 x4 x5 t_2 t_4 σ  h)
    · replace h := am_ip h c_3
      refine am_iconst C0 dX10_ahead_106 ci_0 ?_
      refine am_goto C0 dX10_ahead_107 (tgt := 125) (by decide) ?_
      exact am_sub [0, 1, 2, 3, 4, 5] rfl (k_M_ahead_p125 C0 hd rec47 rec56 F hret hrec47 hrec56 x1 x2 x3 x4 x5 t_2 0 σ  h)
set_option maxRecDepth 100000 in
set_option maxHeartbeats 4000000 in
theorem k_M_ahead_p76 {G : am_T} {d0 : Nat} (C0 : am_C G cX10_ahead 7 RX10 LM d0) (hd : 2 ≤ d0) (rec47 : Int32 → Int32 → Int32 → Int32 → am_SS → Option (Int32 × am_SS)) (rec56 : Int32 → Int32 → Int32 → Int32 → Int32 → am_SS → Option (Int32 × am_SS)) (F : Nat) {q : Int32 × am_SS} (hret : am_retI G cX10_ahead 7 q.1 q.2) (hrec47 : ∀ (x1 : Int32) (x2 : Int32) (x3 : Int32) (x4 : Int32) (σ : am_SS), rec47 x1 x2 x3 x4 σ = some q → am_K G 7 47 [(0, .ref (am_b G 0)), (1, .int x1), (2, .int x2), (3, .int x3), (4, .int x4)] [] σ) (hrec56 : ∀ (x1 : Int32) (x2 : Int32) (x3 : Int32) (x4 : Int32) (x5 : Int32) (σ : am_SS), rec56 x1 x2 x3 x4 x5 σ = some q → am_K G 7 56 [(0, .ref (am_b G 0)), (1, .int x1), (2, .int x2), (3, .int x3), (4, .int x4), (5, .int x5)] [] σ) (x1 : Int32) (x2 : Int32) (x3 : Int32) (x4 : Int32) (x5 : Int32) (σ : am_SS) (h : M_ahead_p76 rec47 rec56 F x1 x2 x3 x4 x5 σ = some q) : am_K G 7 76 [(0, .ref (am_b G 0)), (1, .int x1), (2, .int x2), (3, .int x3), (4, .int x4), (5, .int x5)] [] σ := by
  unfold M_ahead_p76 at h
  refine am_iconst C0 dX10_ahead_76 ci_0 ?_
  exact am_sub [0, 1, 2, 3, 4, 5] rfl (k_M_ahead_p77 C0 hd rec47 rec56 F hret hrec47 hrec56 x1 x2 x3 x4 x5 false σ  h)
set_option maxRecDepth 100000 in
set_option maxHeartbeats 4000000 in
theorem k_M_ahead_l56 {G : am_T} {d0 : Nat} (C0 : am_C G cX10_ahead 7 RX10 LM d0) (hd : 2 ≤ d0) (rec47 : Int32 → Int32 → Int32 → Int32 → am_SS → Option (Int32 × am_SS)) (F : Nat) {q : Int32 × am_SS} (hret : am_retI G cX10_ahead 7 q.1 q.2) (hrec47 : ∀ (x1 : Int32) (x2 : Int32) (x3 : Int32) (x4 : Int32) (σ : am_SS), rec47 x1 x2 x3 x4 σ = some q → am_K G 7 47 [(0, .ref (am_b G 0)), (1, .int x1), (2, .int x2), (3, .int x3), (4, .int x4)] [] σ) : ∀ (n : Nat) (x1 : Int32) (x2 : Int32) (x3 : Int32) (x4 : Int32) (x5 : Int32) (σ : am_SS) (h : M_ahead_l56 rec47 F n x1 x2 x3 x4 x5 σ = some q), am_K G 7 56 [(0, .ref (am_b G 0)), (1, .int x1), (2, .int x2), (3, .int x3), (4, .int x4), (5, .int x5)] [] σ := by
  intro n
  induction n with
  | zero =>
    intro x1 x2 x3 x4 x5 σ h
    rw [M_ahead_l56] at h
    cases h
  | succ n ih =>
    intro x1 x2 x3 x4 x5 σ h
    rw [M_ahead_l56] at h
    refine am_iload C0 dX10_ahead_56 5 rfl ?_
    refine am_iload_n C0 dX10_ahead_58 2 rfl ?_
    refine am_icmp_gt C0 dX10_ahead_59 (tgt := 149) (by decide) (fun c_1 => ?_) (fun c_1 => ?_)
    · replace h := am_ip h c_1
      obtain ⟨x4_2, e_x4_2, h⟩ := am_lt h
      refine am_iinc C0 dX10_ahead_149 4 rfl (by rw [ci_1]; exact e_x4_2) (by decide) rfl (lv' := [(0, .ref (am_b G 0)), (1, .int x1), (2, .int x2), (3, .int x3), (4, .int x4_2), (5, .int x5)]) rfl ?_
      refine am_goto C0 dX10_ahead_152 (tgt := 47) (by decide) ?_
      exact am_sub [0, 1, 2, 3, 4] rfl (hrec47 x1 x2 x3 x4_2 σ  h)
    · replace h := am_in h c_1
      refine am_iload C0 dX10_ahead_62 4 rfl ?_
      refine am_if_ne C0 dX10_ahead_64 (tgt := 76) (by decide) (fun c_3 => ?_) (fun c_3 => ?_)
      · replace h := am_in h c_3
        exact am_sub [0, 1, 2, 3, 4, 5] rfl (k_M_ahead_p76 C0 hd rec47 _ F hret hrec47 (fun z1 z2 z3 z4 z5 zs z => ih z1 z2 z3 z4 z5 zs z) x1 x2 x3 x4 x5 σ  h)
      · replace h := am_ip h c_3
        refine am_iload C0 dX10_ahead_67 5 rfl ?_
        refine am_if_ne C0 dX10_ahead_69 (tgt := 76) (by decide) (fun c_4 => ?_) (fun c_4 => ?_)
        · replace h := am_in h c_4
          exact am_sub [0, 1, 2, 3, 4, 5] rfl (k_M_ahead_p76 C0 hd rec47 _ F hret hrec47 (fun z1 z2 z3 z4 z5 zs z => ih z1 z2 z3 z4 z5 zs z) x1 x2 x3 x4 x5 σ  h)
        · replace h := am_ip h c_4
          refine am_iconst C0 dX10_ahead_72 ci_1 ?_
          refine am_goto C0 dX10_ahead_73 (tgt := 77) (by decide) ?_
          exact am_sub [0, 1, 2, 3, 4, 5] rfl (k_M_ahead_p77 C0 hd rec47 _ F hret hrec47 (fun z1 z2 z3 z4 z5 zs z => ih z1 z2 z3 z4 z5 zs z) x1 x2 x3 x4 x5 true σ  h)
set_option maxRecDepth 100000 in
set_option maxHeartbeats 4000000 in
theorem k_M_ahead_l47 {G : am_T} {d0 : Nat} (C0 : am_C G cX10_ahead 7 RX10 LM d0) (hd : 2 ≤ d0) (F : Nat) {q : Int32 × am_SS} (hret : am_retI G cX10_ahead 7 q.1 q.2) : ∀ (n : Nat) (x1 : Int32) (x2 : Int32) (x3 : Int32) (x4 : Int32) (σ : am_SS) (h : M_ahead_l47 F n x1 x2 x3 x4 σ = some q), am_K G 7 47 [(0, .ref (am_b G 0)), (1, .int x1), (2, .int x2), (3, .int x3), (4, .int x4)] [] σ := by
  intro n
  induction n with
  | zero =>
    intro x1 x2 x3 x4 σ h
    rw [M_ahead_l47] at h
    cases h
  | succ n ih =>
    intro x1 x2 x3 x4 σ h
    rw [M_ahead_l47] at h
    refine am_iload C0 dX10_ahead_47 4 rfl ?_
    refine am_iload_n C0 dX10_ahead_49 1 rfl ?_
    refine am_icmp_gt C0 dX10_ahead_50 (tgt := 155) (by decide) (fun c_1 => ?_) (fun c_1 => ?_)
    · replace h := am_ip h c_1
      refine am_aload_n C0 dX10_ahead_155 0 rfl ?_
      refine am_getR C0 (j := 29) ff_RX10_98 (loM_7_50 kM0).1 (loM_7_50 kM0).2.1 (loM_7_50 kM0).2.2.1 (loM_7_50 kM0).2.2.2 dX10_ahead_156 ?_
      refine am_bipush C0 dX10_ahead_159 kb_13 ?_
      refine am_iload_n C0 dX10_ahead_161 1 rfl ?_
      refine am_imul C0 dX10_ahead_162 ?_
      refine am_iload_n C0 dX10_ahead_163 2 rfl ?_
      refine am_iadd C0 dX10_ahead_164 ?_
      obtain ⟨t_2, h_t_2, h⟩ := am_bind h
      refine am_iald C0 (ltM (tgM_7_50 kM0)) (tgM_7_50 kM0) (lnM_7_50 kM0) h_t_2 dX10_ahead_165 ?_
      refine am_istore C0 dX10_ahead_166 (by decide) rfl (lv' := [(0, .ref (am_b G 0)), (1, .int x1), (2, .int x2), (3, .int x3), (4, .int t_2)]) rfl ?_
      refine am_aload_n C0 dX10_ahead_168 0 rfl ?_
      refine am_iload_n C0 dX10_ahead_169 1 rfl ?_
      refine am_iload_n C0 dX10_ahead_170 2 rfl ?_
      refine am_iadd C0 dX10_ahead_171 ?_
      refine am_iload_n C0 dX10_ahead_172 2 rfl ?_
      obtain ⟨q_3, h_q_3, h⟩ := am_bind h
      refine am_callV C0 (m_M_chosen (σ := σ) (Nat.le_refl _) F (x1 + x2) x2  h_q_3) mm_yX10_chosen ln_RX10_422 (As := fun b => [.int (x1 + x2), .int x2]) (fun _ => rfl) (fun _ => rfl) (loM_7_0 kM0).1 (loM_7_0 kM0).2.1 rfl (Nat.le_trans (by decide) hd) rfl (Nat.le_of_ble_eq_true rfl) dX10_ahead_173 ?_
      refine am_istore C0 dX10_ahead_176 (by decide) rfl (lv' := [(0, .ref (am_b G 0)), (1, .int x1), (2, .int x2), (3, .int x3), (4, .int t_2), (5, .int q_3)]) rfl ?_
      refine am_aload_n C0 dX10_ahead_178 0 rfl ?_
      refine am_iload C0 dX10_ahead_179 4 rfl ?_
      refine am_iload C0 dX10_ahead_181 5 rfl ?_
      obtain ⟨q_4, h_q_4, h⟩ := am_bind h
      refine am_callV C0 (m_M_common (σ := σ) (Nat.le_refl _) F t_2 q_3  h_q_4) mm_yX10_common ln_RX10_425 (As := fun b => [.int t_2, .int q_3]) (fun _ => rfl) (fun _ => rfl) (loM_7_0 kM0).1 (loM_7_0 kM0).2.1 rfl (Nat.le_trans (by decide) hd) rfl (Nat.le_of_ble_eq_true rfl) dX10_ahead_183 ?_
      refine am_istore C0 dX10_ahead_186 (by decide) rfl (lv' := [(0, .ref (am_b G 0)), (1, .int x1), (2, .int x2), (3, .int x3), (4, .int t_2), (5, .int q_3), (6, .int q_4)]) rfl ?_
      refine am_iload_n C0 dX10_ahead_188 3 rfl ?_
      refine am_if_ne C0 dX10_ahead_189 (tgt := 197) (by decide) (fun c_5 => ?_) (fun c_5 => ?_)
      · replace h := am_in h c_5
        refine am_iload_n C0 dX10_ahead_197 3 rfl ?_
        refine am_iconst C0 dX10_ahead_198 ci_1 ?_
        refine am_icmp_ne C0 dX10_ahead_199 (tgt := 210) (by decide) (fun c_6 => ?_) (fun c_6 => ?_)
        · replace h := am_in h c_6
          refine am_iload C0 dX10_ahead_210 5 rfl ?_
          refine am_iload C0 dX10_ahead_212 6 rfl ?_
          obtain ⟨hz_7, h⟩ := am_gd h
          refine am_idiv C0 dX10_ahead_214 hz_7 ?_
          have e := Option.some.inj h
          subst e
          exact hret _ _ dX10_ahead_215
        · replace h := am_ip h c_6
          refine am_iload C0 dX10_ahead_202 4 rfl ?_
          refine am_iload C0 dX10_ahead_204 6 rfl ?_
          obtain ⟨hz_8, h⟩ := am_gd h
          refine am_idiv C0 dX10_ahead_206 hz_8 ?_
          refine am_goto C0 dX10_ahead_207 (tgt := 215) (by decide) ?_
          have e := Option.some.inj h
          subst e
          exact hret _ _ dX10_ahead_215
      · replace h := am_ip h c_5
        refine am_iload C0 dX10_ahead_192 4 rfl ?_
        refine am_goto C0 dX10_ahead_194 (tgt := 215) (by decide) ?_
        have e := Option.some.inj h
        subst e
        exact hret _ _ dX10_ahead_215
    · replace h := am_in h c_1
      refine am_iconst C0 dX10_ahead_53 ci_0 ?_
      refine am_istore C0 dX10_ahead_54 (by decide) rfl (lv' := [(0, .ref (am_b G 0)), (1, .int x1), (2, .int x2), (3, .int x3), (4, .int x4), (5, .int 0)]) rfl ?_
      exact am_sub [0, 1, 2, 3, 4, 5] rfl (k_M_ahead_l56 C0 hd _ F hret (fun z1 z2 z3 z4 zs z => ih z1 z2 z3 z4 zs z) F x1 x2 x3 x4 0 σ  h)
set_option maxRecDepth 100000 in
set_option maxHeartbeats 4000000 in
theorem k_M_ahead {G : am_T} {d0 : Nat} (C0 : am_C G cX10_ahead 7 RX10 LM d0) (hd : 2 ≤ d0) (F : Nat) {q : Int32 × am_SS} (hret : am_retI G cX10_ahead 7 q.1 q.2) (x1 : Int32) (x2 : Int32) (x3 : Int32) (σ : am_SS) (h : M_ahead F x1 x2 x3 σ = some q) : am_K G 7 0 [(0, .ref (am_b G 0)), (1, .int x1), (2, .int x2), (3, .int x3)] [] σ := by
  unfold M_ahead at h
  refine am_aload_n C0 dX10_ahead_0 0 rfl ?_
  refine am_iconst C0 dX10_ahead_1 ci_0 ?_
  obtain ⟨σ_1, e_σ_1, h⟩ := am_lt h
  refine am_putI C0 e_σ_1 fp_RX10_131 (loM_7_0 kM0).1 (loM_7_0 kM0).2.1 (loM_7_0 kM0).2.2.1 (loM_7_0 kM0).2.2.2 rfl rfl dX10_ahead_2 ?_
  refine am_aload_n C0 dX10_ahead_5 0 rfl ?_
  refine am_iload_n C0 dX10_ahead_6 1 rfl ?_
  refine am_iconst C0 dX10_ahead_7 ci_0 ?_
  refine am_bipush C0 dX10_ahead_8 kb_12 ?_
  refine am_callV C0 (m_M_isIn (σ := σ_1) (Nat.le_refl _) x1 0 12  rfl) mm_yX10_isIn ln_RX10_149 (As := fun b => [.int x1, .int 0, .int 12]) (fun _ => rfl) (fun _ => rfl) (loM_7_0 kM0).1 (loM_7_0 kM0).2.1 rfl (Nat.le_trans (by decide) hd) rfl (Nat.le_of_ble_eq_true rfl) dX10_ahead_10 ?_
  refine am_ifB_eq C0 dX10_ahead_13 (tgt := 42) (by decide) (fun c_3 => ?_) (fun c_3 => ?_)
  · replace h := am_in h c_3
    refine am_iconst C0 dX10_ahead_42 ci_m1 ?_
    have e := Option.some.inj h
    subst e
    exact hret _ _ dX10_ahead_43
  · replace h := am_ip h c_3
    refine am_aload_n C0 dX10_ahead_16 0 rfl ?_
    refine am_iload_n C0 dX10_ahead_17 2 rfl ?_
    refine am_iconst C0 dX10_ahead_18 ci_0 ?_
    refine am_bipush C0 dX10_ahead_19 kb_12 ?_
    refine am_callV C0 (m_M_isIn (σ := σ_1) (Nat.le_refl _) x2 0 12  rfl) mm_yX10_isIn ln_RX10_149 (As := fun b => [.int x2, .int 0, .int 12]) (fun _ => rfl) (fun _ => rfl) (loM_7_0 kM0).1 (loM_7_0 kM0).2.1 rfl (Nat.le_trans (by decide) hd) rfl (Nat.le_of_ble_eq_true rfl) dX10_ahead_21 ?_
    refine am_ifB_eq C0 dX10_ahead_24 (tgt := 42) (by decide) (fun c_5 => ?_) (fun c_5 => ?_)
    · replace h := am_in h c_5
      refine am_iconst C0 dX10_ahead_42 ci_m1 ?_
      have e := Option.some.inj h
      subst e
      exact hret _ _ dX10_ahead_43
    · replace h := am_ip h c_5
      refine am_iload_n C0 dX10_ahead_27 1 rfl ?_
      refine am_iload_n C0 dX10_ahead_28 2 rfl ?_
      refine am_icmp_le C0 dX10_ahead_29 (tgt := 42) (by decide) (fun c_6 => ?_) (fun c_6 => ?_)
      · replace h := am_in h c_6
        refine am_iconst C0 dX10_ahead_42 ci_m1 ?_
        have e := Option.some.inj h
        subst e
        exact hret _ _ dX10_ahead_43
      · replace h := am_ip h c_6
        refine am_aload_n C0 dX10_ahead_32 0 rfl ?_
        refine am_iload_n C0 dX10_ahead_33 3 rfl ?_
        refine am_iconst C0 dX10_ahead_34 ci_0 ?_
        refine am_iconst C0 dX10_ahead_35 ci_2 ?_
        refine am_callV C0 (m_M_isIn (σ := σ_1) (Nat.le_refl _) x3 0 2  rfl) mm_yX10_isIn ln_RX10_149 (As := fun b => [.int x3, .int 0, .int 2]) (fun _ => rfl) (fun _ => rfl) (loM_7_0 kM0).1 (loM_7_0 kM0).2.1 rfl (Nat.le_trans (by decide) hd) rfl (Nat.le_of_ble_eq_true rfl) dX10_ahead_36 ?_
        refine am_ifB_ne C0 dX10_ahead_39 (tgt := 44) (by decide) (fun c_8 => ?_) (fun c_8 => ?_)
        · replace h := am_ip h c_8
          refine am_iconst C0 dX10_ahead_44 ci_0 ?_
          refine am_istore C0 dX10_ahead_45 (by decide) rfl (lv' := [(0, .ref (am_b G 0)), (1, .int x1), (2, .int x2), (3, .int x3), (4, .int 0)]) rfl ?_
          exact am_sub [0, 1, 2, 3, 4] rfl (k_M_ahead_l47 C0 hd F hret F x1 x2 x3 0 σ_1  h)
        · replace h := am_in h c_8
          refine am_iconst C0 dX10_ahead_42 ci_m1 ?_
          have e := Option.some.inj h
          subst e
          exact hret _ _ dX10_ahead_43
set_option maxRecDepth 100000 in
set_option maxHeartbeats 4000000 in
theorem m_M_ahead {l : Launch} {d : Nat} {σ : am_SS} {q : Int32 × am_SS} (hd : 2 ≤ d) (F : Nat) (x1 : Int32) (x2 : Int32) (x3 : Int32) (h : M_ahead F x1 x2 x3 σ = some q) : am_Met l yX10_ahead cX10_ahead 7 (some .int) d 0 0 LM (fun b => [.ref (b 0), .int x1, .int x2, .int x3]) σ (some (.int q.1)) q.2 :=
  am_metI (plainFor_of_name (by decide)) rfl (lv := fun b => [(0, .ref (b 0)), (1, .int x1), (2, .int x2), (3, .int x3)]) (fun _ => rfl) (fun _ => Nat.le_of_ble_eq_true rfl) (fun G C0 _ hret => k_M_ahead C0 hd F hret x1 x2 x3 σ  h)
set_option maxRecDepth 100000 in
set_option maxHeartbeats 4000000 in
theorem k_M_feast {G : am_T} {d0 : Nat} (C0 : am_C G cX10_feast 12 RX10 LM d0) (hd : 2 ≤ d0) {q : Int32 × am_SS} (hret : am_retI G cX10_feast 12 q.1 q.2) (x1 : Int32) (x2 : Int32) (σ : am_SS) (h : M_feast x1 x2 σ = q) : am_K G 12 0 [(0, .ref (am_b G 0)), (1, .int x1), (2, .int x2)] [] σ := by
  unfold M_feast at h
  refine am_aload_n C0 dX10_feast_0 0 rfl ?_
  refine am_iconst C0 dX10_feast_1 ci_0 ?_
  obtain ⟨σ_1, e_σ_1, h⟩ := am_lt h
  refine am_putI C0 e_σ_1 fp_RX10_131 (loM_7_0 kM0).1 (loM_7_0 kM0).2.1 (loM_7_0 kM0).2.2.1 (loM_7_0 kM0).2.2.2 rfl rfl dX10_feast_2 ?_
  refine am_aload_n C0 dX10_feast_5 0 rfl ?_
  refine am_iload_n C0 dX10_feast_6 1 rfl ?_
  refine am_sipush C0 dX10_feast_7 cs_1600 ?_
  refine am_sipush C0 dX10_feast_10 cs_2400 ?_
  refine am_callV C0 (m_M_isIn (σ := σ_1) (Nat.le_refl _) x1 1600 2400  rfl) mm_yX10_isIn ln_RX10_149 (As := fun b => [.int x1, .int 1600, .int 2400]) (fun _ => rfl) (fun _ => rfl) (loM_7_0 kM0).1 (loM_7_0 kM0).2.1 rfl (Nat.le_trans (by decide) hd) rfl (Nat.le_of_ble_eq_true rfl) dX10_feast_13 ?_
  refine am_ifB_eq C0 dX10_feast_16 (tgt := 29) (by decide) (fun c_3 => ?_) (fun c_3 => ?_)
  · replace h := am_in h c_3
    refine am_iconst C0 dX10_feast_29 ci_m1 ?_
    have e := h
    subst e
    exact hret _ _ dX10_feast_30
  · replace h := am_ip h c_3
    refine am_aload_n C0 dX10_feast_19 0 rfl ?_
    refine am_iload_n C0 dX10_feast_20 2 rfl ?_
    refine am_iconst C0 dX10_feast_21 ci_0 ?_
    refine am_iconst C0 dX10_feast_22 ci_1 ?_
    refine am_callV C0 (m_M_isIn (σ := σ_1) (Nat.le_refl _) x2 0 1  rfl) mm_yX10_isIn ln_RX10_149 (As := fun b => [.int x2, .int 0, .int 1]) (fun _ => rfl) (fun _ => rfl) (loM_7_0 kM0).1 (loM_7_0 kM0).2.1 rfl (Nat.le_trans (by decide) hd) rfl (Nat.le_of_ble_eq_true rfl) dX10_feast_23 ?_
    refine am_ifB_ne C0 dX10_feast_26 (tgt := 31) (by decide) (fun c_5 => ?_) (fun c_5 => ?_)
    · replace h := am_ip h c_5
      refine am_iload_n C0 dX10_feast_31 1 rfl ?_
      refine am_bipush C0 dX10_feast_32 kb_19 ?_
      refine am_irem C0 dX10_feast_34 nz_19 ?_
      obtain ⟨x3_6, e_x3_6, h⟩ := am_lt h
      refine am_top e_x3_6 ?_
      refine am_istore_n C0 dX10_feast_35 rfl (by decide) rfl (lv' := [(0, .ref (am_b G 0)), (1, .int x1), (2, .int x2), (3, .int x3_6)]) rfl ?_
      refine am_iload_n C0 dX10_feast_36 1 rfl ?_
      refine am_bipush C0 dX10_feast_37 kb_100 ?_
      refine am_idiv C0 dX10_feast_39 nz_100 ?_
      obtain ⟨x4_7, e_x4_7, h⟩ := am_lt h
      refine am_top e_x4_7 ?_
      refine am_istore C0 dX10_feast_40 (by decide) rfl (lv' := [(0, .ref (am_b G 0)), (1, .int x1), (2, .int x2), (3, .int x3_6), (4, .int x4_7)]) rfl ?_
      refine am_iload_n C0 dX10_feast_42 1 rfl ?_
      refine am_bipush C0 dX10_feast_43 kb_100 ?_
      refine am_irem C0 dX10_feast_45 nz_100 ?_
      obtain ⟨x5_8, e_x5_8, h⟩ := am_lt h
      refine am_top e_x5_8 ?_
      refine am_istore C0 dX10_feast_46 (by decide) rfl (lv' := [(0, .ref (am_b G 0)), (1, .int x1), (2, .int x2), (3, .int x3_6), (4, .int x4_7), (5, .int x5_8)]) rfl ?_
      refine am_iload C0 dX10_feast_48 4 rfl ?_
      refine am_bipush C0 dX10_feast_50 kb_8 ?_
      refine am_iadd C0 dX10_feast_52 ?_
      refine am_bipush C0 dX10_feast_53 kb_25 ?_
      refine am_idiv C0 dX10_feast_55 nz_25 ?_
      obtain ⟨x6_9, e_x6_9, h⟩ := am_lt h
      refine am_top e_x6_9 ?_
      refine am_istore C0 dX10_feast_56 (by decide) rfl (lv' := [(0, .ref (am_b G 0)), (1, .int x1), (2, .int x2), (3, .int x3_6), (4, .int x4_7), (5, .int x5_8), (6, .int x6_9)]) rfl ?_
      refine am_iload C0 dX10_feast_58 4 rfl ?_
      refine am_iload C0 dX10_feast_60 6 rfl ?_
      refine am_isub C0 dX10_feast_62 ?_
      refine am_iconst C0 dX10_feast_63 ci_1 ?_
      refine am_iadd C0 dX10_feast_64 ?_
      refine am_iconst C0 dX10_feast_65 ci_3 ?_
      refine am_idiv C0 dX10_feast_66 nz_3 ?_
      obtain ⟨x7_10, e_x7_10, h⟩ := am_lt h
      refine am_top e_x7_10 ?_
      refine am_istore C0 dX10_feast_67 (by decide) rfl (lv' := [(0, .ref (am_b G 0)), (1, .int x1), (2, .int x2), (3, .int x3_6), (4, .int x4_7), (5, .int x5_8), (6, .int x6_9), (7, .int x7_10)]) rfl ?_
      refine am_bipush C0 dX10_feast_69 kb_19 ?_
      refine am_iload_n C0 dX10_feast_71 3 rfl ?_
      refine am_imul C0 dX10_feast_72 ?_
      refine am_iload C0 dX10_feast_73 4 rfl ?_
      refine am_iadd C0 dX10_feast_75 ?_
      refine am_iload C0 dX10_feast_76 4 rfl ?_
      refine am_iconst C0 dX10_feast_78 ci_4 ?_
      refine am_idiv C0 dX10_feast_79 nz_4 ?_
      refine am_isub C0 dX10_feast_80 ?_
      refine am_iload C0 dX10_feast_81 7 rfl ?_
      refine am_isub C0 dX10_feast_83 ?_
      refine am_bipush C0 dX10_feast_84 kb_15 ?_
      refine am_iadd C0 dX10_feast_86 ?_
      refine am_bipush C0 dX10_feast_87 kb_30 ?_
      refine am_irem C0 dX10_feast_89 nz_30 ?_
      obtain ⟨x8_11, e_x8_11, h⟩ := am_lt h
      refine am_top e_x8_11 ?_
      refine am_istore C0 dX10_feast_90 (by decide) rfl (lv' := [(0, .ref (am_b G 0)), (1, .int x1), (2, .int x2), (3, .int x3_6), (4, .int x4_7), (5, .int x5_8), (6, .int x6_9), (7, .int x7_10), (8, .int x8_11)]) rfl ?_
      refine am_bipush C0 dX10_feast_92 kb_32 ?_
      refine am_iconst C0 dX10_feast_94 ci_2 ?_
      refine am_iload C0 dX10_feast_95 4 rfl ?_
      refine am_iconst C0 dX10_feast_97 ci_4 ?_
      refine am_irem C0 dX10_feast_98 nz_4 ?_
      refine am_imul C0 dX10_feast_99 ?_
      refine am_iadd C0 dX10_feast_100 ?_
      refine am_iconst C0 dX10_feast_101 ci_2 ?_
      refine am_iload C0 dX10_feast_102 5 rfl ?_
      refine am_iconst C0 dX10_feast_104 ci_4 ?_
      refine am_idiv C0 dX10_feast_105 nz_4 ?_
      refine am_imul C0 dX10_feast_106 ?_
      refine am_iadd C0 dX10_feast_107 ?_
      refine am_iload C0 dX10_feast_108 8 rfl ?_
      refine am_isub C0 dX10_feast_110 ?_
      refine am_iload C0 dX10_feast_111 5 rfl ?_
      refine am_iconst C0 dX10_feast_113 ci_4 ?_
      refine am_irem C0 dX10_feast_114 nz_4 ?_
      refine am_isub C0 dX10_feast_115 ?_
      refine am_bipush C0 dX10_feast_116 kb_7 ?_
      refine am_irem C0 dX10_feast_118 nz_7 ?_
      obtain ⟨x9_12, e_x9_12, h⟩ := am_lt h
      refine am_top e_x9_12 ?_
      refine am_istore C0 dX10_feast_119 (by decide) rfl (lv' := [(0, .ref (am_b G 0)), (1, .int x1), (2, .int x2), (3, .int x3_6), (4, .int x4_7), (5, .int x5_8), (6, .int x6_9), (7, .int x7_10), (8, .int x8_11), (9, .int x9_12)]) rfl ?_
      refine am_iload_n C0 dX10_feast_121 3 rfl ?_
      refine am_bipush C0 dX10_feast_122 kb_11 ?_
      refine am_iload C0 dX10_feast_124 8 rfl ?_
      refine am_imul C0 dX10_feast_126 ?_
      refine am_iadd C0 dX10_feast_127 ?_
      refine am_bipush C0 dX10_feast_128 kb_22 ?_
      refine am_iload C0 dX10_feast_130 9 rfl ?_
      refine am_imul C0 dX10_feast_132 ?_
      refine am_iadd C0 dX10_feast_133 ?_
      refine am_sipush C0 dX10_feast_134 cs_451 ?_
      refine am_idiv C0 dX10_feast_137 nz_451 ?_
      obtain ⟨x10_13, e_x10_13, h⟩ := am_lt h
      refine am_top e_x10_13 ?_
      refine am_istore C0 dX10_feast_138 (by decide) rfl (lv' := [(0, .ref (am_b G 0)), (1, .int x1), (2, .int x2), (3, .int x3_6), (4, .int x4_7), (5, .int x5_8), (6, .int x6_9), (7, .int x7_10), (8, .int x8_11), (9, .int x9_12), (10, .int x10_13)]) rfl ?_
      refine am_iload C0 dX10_feast_140 8 rfl ?_
      refine am_iload C0 dX10_feast_142 9 rfl ?_
      refine am_iadd C0 dX10_feast_144 ?_
      refine am_bipush C0 dX10_feast_145 kb_7 ?_
      refine am_iload C0 dX10_feast_147 10 rfl ?_
      refine am_imul C0 dX10_feast_149 ?_
      refine am_isub C0 dX10_feast_150 ?_
      refine am_bipush C0 dX10_feast_151 kb_114 ?_
      refine am_iadd C0 dX10_feast_153 ?_
      obtain ⟨x11_14, e_x11_14, h⟩ := am_lt h
      refine am_top e_x11_14 ?_
      refine am_istore C0 dX10_feast_154 (by decide) rfl (lv' := [(0, .ref (am_b G 0)), (1, .int x1), (2, .int x2), (3, .int x3_6), (4, .int x4_7), (5, .int x5_8), (6, .int x6_9), (7, .int x7_10), (8, .int x8_11), (9, .int x9_12), (10, .int x10_13), (11, .int x11_14)]) rfl ?_
      refine am_iload_n C0 dX10_feast_156 2 rfl ?_
      refine am_if_ne C0 dX10_feast_157 (tgt := 168) (by decide) (fun c_15 => ?_) (fun c_15 => ?_)
      · replace h := am_in h c_15
        refine am_iload C0 dX10_feast_168 11 rfl ?_
        refine am_bipush C0 dX10_feast_170 kb_31 ?_
        refine am_irem C0 dX10_feast_172 nz_31 ?_
        refine am_iconst C0 dX10_feast_173 ci_1 ?_
        refine am_iadd C0 dX10_feast_174 ?_
        have e := h
        subst e
        exact hret _ _ dX10_feast_175
      · replace h := am_ip h c_15
        refine am_iload C0 dX10_feast_160 11 rfl ?_
        refine am_bipush C0 dX10_feast_162 kb_31 ?_
        refine am_idiv C0 dX10_feast_164 nz_31 ?_
        refine am_goto C0 dX10_feast_165 (tgt := 175) (by decide) ?_
        have e := h
        subst e
        exact hret _ _ dX10_feast_175
    · replace h := am_in h c_5
      refine am_iconst C0 dX10_feast_29 ci_m1 ?_
      have e := h
      subst e
      exact hret _ _ dX10_feast_30
set_option maxRecDepth 100000 in
set_option maxHeartbeats 4000000 in
theorem m_M_feast {l : Launch} {d : Nat} {σ : am_SS} {q : Int32 × am_SS} (hd : 2 ≤ d) (x1 : Int32) (x2 : Int32) (h : M_feast x1 x2 σ = q) : am_Met l yX10_feast cX10_feast 12 (some .int) d 0 0 LM (fun b => [.ref (b 0), .int x1, .int x2]) σ (some (.int q.1)) q.2 :=
  am_metI (plainFor_of_name (by decide)) rfl (lv := fun b => [(0, .ref (b 0)), (1, .int x1), (2, .int x2)]) (fun _ => rfl) (fun _ => Nat.le_of_ble_eq_true rfl) (fun G C0 _ hret => k_M_feast C0 hd hret x1 x2 σ  h)
set_option maxRecDepth 100000 in
set_option maxHeartbeats 4000000 in
theorem k_M_squares_l4 {G : am_T} {d0 : Nat} (C0 : am_C G cX10_squares 4 RX10 LM d0) (hd : 1 ≤ d0) (F : Nat) {σ0 : am_SS} {q : Int32} (hret : am_retI G cX10_squares 4 q σ0) : ∀ (n : Nat) (x2 : Int32) (x3 : Int32) (h : M_squares_l4 F n x2 x3 = some q), am_K G 4 4 [(2, .int x2), (3, .int x3)] [] σ0 := by
  intro n
  induction n with
  | zero =>
    intro x2 x3 h
    rw [M_squares_l4] at h
    cases h
  | succ n ih =>
    intro x2 x3 h
    rw [M_squares_l4] at h
    refine am_iload_n C0 dX10_squares_4 1 rfl ?_
    refine am_if_le C0 dX10_squares_5 (tgt := 28) (by decide) (fun c_1 => ?_) (fun c_1 => ?_)
    · replace h := am_in h c_1
      refine am_iload_n C0 dX10_squares_28 0 rfl ?_
      have e := Option.some.inj h
      subst e
      exact hret _ _ dX10_squares_29
    · replace h := am_ip h c_1
      refine am_iload_n C0 dX10_squares_8 0 rfl ?_
      refine am_iload_n C0 dX10_squares_9 1 rfl ?_
      refine am_bipush C0 dX10_squares_10 kb_10 ?_
      refine am_irem C0 dX10_squares_12 nz_10 ?_
      refine am_iload_n C0 dX10_squares_13 1 rfl ?_
      refine am_bipush C0 dX10_squares_14 kb_10 ?_
      refine am_irem C0 dX10_squares_16 nz_10 ?_
      refine am_imul C0 dX10_squares_17 ?_
      refine am_iadd C0 dX10_squares_18 ?_
      obtain ⟨x2_2, e_x2_2, h⟩ := am_lt h
      refine am_top e_x2_2 ?_
      refine am_istore_n C0 dX10_squares_19 rfl (by decide) rfl (lv' := [(2, .int x2_2), (3, .int x3)]) rfl ?_
      refine am_iload_n C0 dX10_squares_20 1 rfl ?_
      refine am_bipush C0 dX10_squares_21 kb_10 ?_
      refine am_idiv C0 dX10_squares_23 nz_10 ?_
      obtain ⟨x3_3, e_x3_3, h⟩ := am_lt h
      refine am_top e_x3_3 ?_
      refine am_istore_n C0 dX10_squares_24 rfl (by decide) rfl (lv' := [(2, .int x2_2), (3, .int x3_3)]) rfl ?_
      refine am_goto C0 dX10_squares_25 (tgt := 4) (by decide) ?_
      exact am_sub [0, 1] rfl (ih x2_2 x3_3  h)
set_option maxRecDepth 100000 in
set_option maxHeartbeats 4000000 in
theorem k_M_squares {G : am_T} {d0 : Nat} (C0 : am_C G cX10_squares 4 RX10 LM d0) (hd : 1 ≤ d0) (F : Nat) {σ0 : am_SS} {q : Int32} (hret : am_retI G cX10_squares 4 q σ0) (x1 : Int32) (h : M_squares F x1 = some q) : am_K G 4 0 [(0, .ref (am_b G 0)), (1, .int x1)] [] σ0 := by
  unfold M_squares at h
  refine am_iconst C0 dX10_squares_0 ci_0 ?_
  refine am_istore_n C0 dX10_squares_1 rfl (by decide) rfl (lv' := [(0, .ref (am_b G 0)), (1, .int x1), (2, .int 0)]) rfl ?_
  refine am_iload_n C0 dX10_squares_2 1 rfl ?_
  refine am_istore_n C0 dX10_squares_3 rfl (by decide) rfl (lv' := [(0, .ref (am_b G 0)), (1, .int x1), (2, .int 0), (3, .int x1)]) rfl ?_
  exact am_sub [2, 3] rfl (k_M_squares_l4 C0 hd F hret F 0 x1  h)
set_option maxRecDepth 100000 in
set_option maxHeartbeats 4000000 in
theorem m_M_squares {l : Launch} {d : Nat} {σ : am_SS} {q : Int32} (hd : 1 ≤ d) (F : Nat) (x1 : Int32) (h : M_squares F x1 = some q) : am_Met l yX10_squares cX10_squares 4 (some .int) d 0 0 LM (fun b => [.ref (b 0), .int x1]) σ (some (.int q)) σ :=
  am_metI (plainFor_of_name (by decide)) rfl (lv := fun b => [(0, .ref (b 0)), (1, .int x1)]) (fun _ => rfl) (fun _ => Nat.le_of_ble_eq_true rfl) (fun G C0 _ hret => k_M_squares C0 hd F hret x1  h)
set_option maxRecDepth 100000 in
set_option maxHeartbeats 4000000 in
theorem k_M_stepsToEnd_l4 {G : am_T} {d0 : Nat} (C0 : am_C G cX10_stepsToEnd 4 RX10 LM d0) (hd : 2 ≤ d0) (F : Nat) {σ0 : am_SS} {q : Int32} (hret : am_retI G cX10_stepsToEnd 4 q σ0) : ∀ (n : Nat) (x2 : Int32) (x3 : Int32) (h : M_stepsToEnd_l4 F n x2 x3 = some q), am_K G 4 4 [(0, .ref (am_b G 0)), (2, .int x2), (3, .int x3)] [] σ0 := by
  intro n
  induction n with
  | zero =>
    intro x2 x3 h
    rw [M_stepsToEnd_l4] at h
    cases h
  | succ n ih =>
    intro x2 x3 h
    rw [M_stepsToEnd_l4] at h
    refine am_iload_n C0 dX10_stepsToEnd_4 2 rfl ?_
    refine am_iconst C0 dX10_stepsToEnd_5 ci_1 ?_
    refine am_icmp_eq C0 dX10_stepsToEnd_6 (tgt := 27) (by decide) (fun c_1 => ?_) (fun c_1 => ?_)
    · replace h := am_ip h c_1
      refine am_iload_n C0 dX10_stepsToEnd_27 1 rfl ?_
      have e := Option.some.inj h
      subst e
      exact hret _ _ dX10_stepsToEnd_28
    · replace h := am_in h c_1
      refine am_iload_n C0 dX10_stepsToEnd_9 2 rfl ?_
      refine am_iconst C0 dX10_stepsToEnd_10 ci_4 ?_
      refine am_icmp_eq C0 dX10_stepsToEnd_11 (tgt := 27) (by decide) (fun c_2 => ?_) (fun c_2 => ?_)
      · replace h := am_ip h c_2
        refine am_iload_n C0 dX10_stepsToEnd_27 1 rfl ?_
        have e := Option.some.inj h
        subst e
        exact hret _ _ dX10_stepsToEnd_28
      · replace h := am_in h c_2
        refine am_iload_n C0 dX10_stepsToEnd_14 1 rfl ?_
        refine am_iconst C0 dX10_stepsToEnd_15 ci_1 ?_
        refine am_iadd C0 dX10_stepsToEnd_16 ?_
        obtain ⟨x2_3, e_x2_3, h⟩ := am_lt h
        refine am_top e_x2_3 ?_
        refine am_istore_n C0 dX10_stepsToEnd_17 rfl (by decide) rfl (lv' := [(0, .ref (am_b G 0)), (2, .int x2_3), (3, .int x3)]) rfl ?_
        refine am_aload_n C0 dX10_stepsToEnd_18 0 rfl ?_
        refine am_iload_n C0 dX10_stepsToEnd_19 2 rfl ?_
        obtain ⟨q_4, h_q_4, h⟩ := am_bind h
        refine am_callV C0 (m_M_squares (σ := σ0) (Nat.le_refl _) F x3  h_q_4) mm_yX10_squares ln_RX10_428 (As := fun b => [.int x3]) (fun _ => rfl) (fun _ => rfl) (loM_7_0 kM0).1 (loM_7_0 kM0).2.1 rfl (Nat.le_trans (by decide) hd) rfl (Nat.le_of_ble_eq_true rfl) dX10_stepsToEnd_20 ?_
        refine am_istore_n C0 dX10_stepsToEnd_23 rfl (by decide) rfl (lv' := [(0, .ref (am_b G 0)), (2, .int x2_3), (3, .int q_4)]) rfl ?_
        refine am_goto C0 dX10_stepsToEnd_24 (tgt := 4) (by decide) ?_
        exact am_sub [0, 1, 2] rfl (ih x2_3 q_4  h)
set_option maxRecDepth 100000 in
set_option maxHeartbeats 4000000 in
theorem k_M_stepsToEnd {G : am_T} {d0 : Nat} (C0 : am_C G cX10_stepsToEnd 4 RX10 LM d0) (hd : 2 ≤ d0) (F : Nat) {σ0 : am_SS} {q : Int32} (hret : am_retI G cX10_stepsToEnd 4 q σ0) (x1 : Int32) (h : M_stepsToEnd F x1 = some q) : am_K G 4 0 [(0, .ref (am_b G 0)), (1, .int x1)] [] σ0 := by
  unfold M_stepsToEnd at h
  refine am_iconst C0 dX10_stepsToEnd_0 ci_0 ?_
  refine am_istore_n C0 dX10_stepsToEnd_1 rfl (by decide) rfl (lv' := [(0, .ref (am_b G 0)), (1, .int x1), (2, .int 0)]) rfl ?_
  refine am_iload_n C0 dX10_stepsToEnd_2 1 rfl ?_
  refine am_istore_n C0 dX10_stepsToEnd_3 rfl (by decide) rfl (lv' := [(0, .ref (am_b G 0)), (1, .int x1), (2, .int 0), (3, .int x1)]) rfl ?_
  exact am_sub [0, 2, 3] rfl (k_M_stepsToEnd_l4 C0 hd F hret F 0 x1  h)
set_option maxRecDepth 100000 in
set_option maxHeartbeats 4000000 in
theorem m_M_stepsToEnd {l : Launch} {d : Nat} {σ : am_SS} {q : Int32} (hd : 2 ≤ d) (F : Nat) (x1 : Int32) (h : M_stepsToEnd F x1 = some q) : am_Met l yX10_stepsToEnd cX10_stepsToEnd 4 (some .int) d 0 0 LM (fun b => [.ref (b 0), .int x1]) σ (some (.int q)) σ :=
  am_metI (plainFor_of_name (by decide)) rfl (lv := fun b => [(0, .ref (b 0)), (1, .int x1)]) (fun _ => rfl) (fun _ => Nat.le_of_ble_eq_true rfl) (fun G C0 _ hret => k_M_stepsToEnd C0 hd F hret x1  h)
set_option maxRecDepth 100000 in
set_option maxHeartbeats 4000000 in
theorem k_M_isHappy_p21 {G : am_T} {d0 : Nat} (C0 : am_C G cX10_isHappy 3 RX10 LM d0) (hd : 2 ≤ d0) (F : Nat) {σ0 : am_SS} {q : Bool} (hret : am_retI G cX10_isHappy 3 (am_bI q) σ0) (x2 : Int32) (h : M_isHappy_p21 F x2 = some q) : am_K G 3 21 [(2, .int x2)] [] σ0 := by
  unfold M_isHappy_p21 at h
  refine am_iload_n C0 dX10_isHappy_21 0 rfl ?_
  refine am_iconst C0 dX10_isHappy_22 ci_1 ?_
  refine am_icmp_ne C0 dX10_isHappy_23 (tgt := 30) (by decide) (fun c_1 => ?_) (fun c_1 => ?_)
  · replace h := am_in h c_1
    refine am_iconst C0 dX10_isHappy_30 ci_0 ?_
    have e := Option.some.inj h
    subst e
    exact hret _ _ dX10_isHappy_31
  · replace h := am_ip h c_1
    refine am_iconst C0 dX10_isHappy_26 ci_1 ?_
    refine am_goto C0 dX10_isHappy_27 (tgt := 31) (by decide) ?_
    have e := Option.some.inj h
    subst e
    exact hret _ _ dX10_isHappy_31
set_option maxRecDepth 100000 in
set_option maxHeartbeats 4000000 in
theorem k_M_isHappy_l2 {G : am_T} {d0 : Nat} (C0 : am_C G cX10_isHappy 3 RX10 LM d0) (hd : 2 ≤ d0) (F : Nat) {σ0 : am_SS} {q : Bool} (hret : am_retI G cX10_isHappy 3 (am_bI q) σ0) : ∀ (n : Nat) (x2 : Int32) (h : M_isHappy_l2 F n x2 = some q), am_K G 3 2 [(0, .ref (am_b G 0)), (2, .int x2)] [] σ0 := by
  intro n
  induction n with
  | zero =>
    intro x2 h
    rw [M_isHappy_l2] at h
    cases h
  | succ n ih =>
    intro x2 h
    rw [M_isHappy_l2] at h
    refine am_iload_n C0 dX10_isHappy_2 1 rfl ?_
    refine am_iconst C0 dX10_isHappy_3 ci_1 ?_
    refine am_icmp_eq C0 dX10_isHappy_4 (tgt := 21) (by decide) (fun c_1 => ?_) (fun c_1 => ?_)
    · replace h := am_ip h c_1
      exact am_sub [1] rfl (k_M_isHappy_p21 C0 hd F hret x2  h)
    · replace h := am_in h c_1
      refine am_iload_n C0 dX10_isHappy_7 1 rfl ?_
      refine am_iconst C0 dX10_isHappy_8 ci_4 ?_
      refine am_icmp_eq C0 dX10_isHappy_9 (tgt := 21) (by decide) (fun c_2 => ?_) (fun c_2 => ?_)
      · replace h := am_ip h c_2
        exact am_sub [1] rfl (k_M_isHappy_p21 C0 hd F hret x2  h)
      · replace h := am_in h c_2
        refine am_aload_n C0 dX10_isHappy_12 0 rfl ?_
        refine am_iload_n C0 dX10_isHappy_13 1 rfl ?_
        obtain ⟨q_3, h_q_3, h⟩ := am_bind h
        refine am_callV C0 (m_M_squares (σ := σ0) (Nat.le_refl _) F x2  h_q_3) mm_yX10_squares ln_RX10_428 (As := fun b => [.int x2]) (fun _ => rfl) (fun _ => rfl) (loM_7_0 kM0).1 (loM_7_0 kM0).2.1 rfl (Nat.le_trans (by decide) hd) rfl (Nat.le_of_ble_eq_true rfl) dX10_isHappy_14 ?_
        refine am_istore_n C0 dX10_isHappy_17 rfl (by decide) rfl (lv' := [(0, .ref (am_b G 0)), (2, .int q_3)]) rfl ?_
        refine am_goto C0 dX10_isHappy_18 (tgt := 2) (by decide) ?_
        exact am_sub [0, 1] rfl (ih q_3  h)
set_option maxRecDepth 100000 in
set_option maxHeartbeats 4000000 in
theorem k_M_isHappy {G : am_T} {d0 : Nat} (C0 : am_C G cX10_isHappy 3 RX10 LM d0) (hd : 2 ≤ d0) (F : Nat) {σ0 : am_SS} {q : Bool} (hret : am_retI G cX10_isHappy 3 (am_bI q) σ0) (x1 : Int32) (h : M_isHappy F x1 = some q) : am_K G 3 0 [(0, .ref (am_b G 0)), (1, .int x1)] [] σ0 := by
  unfold M_isHappy at h
  refine am_iload_n C0 dX10_isHappy_0 1 rfl ?_
  refine am_istore_n C0 dX10_isHappy_1 rfl (by decide) rfl (lv' := [(0, .ref (am_b G 0)), (1, .int x1), (2, .int x1)]) rfl ?_
  exact am_sub [0, 2] rfl (k_M_isHappy_l2 C0 hd F hret F x1  h)
set_option maxRecDepth 100000 in
set_option maxHeartbeats 4000000 in
theorem m_M_isHappy {l : Launch} {d : Nat} {σ : am_SS} {q : Bool} (hd : 2 ≤ d) (F : Nat) (x1 : Int32) (h : M_isHappy F x1 = some q) : am_Met l yX10_isHappy cX10_isHappy 3 (some .boolean) d 0 0 LM (fun b => [.ref (b 0), .int x1]) σ (some (.int (am_bI q))) σ :=
  am_metI (plainFor_of_name (by decide)) (am_bI_nr _) (lv := fun b => [(0, .ref (b 0)), (1, .int x1)]) (fun _ => rfl) (fun _ => Nat.le_of_ble_eq_true rfl) (fun G C0 _ hret => k_M_isHappy C0 hd F hret x1  h)
set_option maxRecDepth 100000 in
set_option maxHeartbeats 4000000 in
theorem k_M_happy_p93 {G : am_T} {d0 : Nat} (C0 : am_C G cX10_happy 5 RX10 LM d0) (hd : 3 ≤ d0) (rec74 : Int32 → Int32 → Int32 → am_SS → Option (Int32 × am_SS)) (F : Nat) {q : Int32 × am_SS} (hret : am_retI G cX10_happy 5 q.1 q.2) (hrec74 : ∀ (x1 : Int32) (x3 : Int32) (x4 : Int32) (σ : am_SS), rec74 x1 x3 x4 σ = some q → am_K G 5 74 [(0, .ref (am_b G 0)), (1, .int x1), (3, .int x3), (4, .int x4)] [] σ) (x1 : Int32) (x3 : Int32) (x4 : Int32) (σ : am_SS) (h : M_happy_p93 rec74 F x1 x3 x4 σ = some q) : am_K G 5 93 [(0, .ref (am_b G 0)), (1, .int x1), (3, .int x3), (4, .int x4)] [] σ := by
  unfold M_happy_p93 at h
  obtain ⟨x4_1, e_x4_1, h⟩ := am_lt h
  refine am_iinc C0 dX10_happy_93 3 rfl (by rw [ci_1]; exact e_x4_1) (by decide) rfl (lv' := [(0, .ref (am_b G 0)), (1, .int x1), (3, .int x3), (4, .int x4_1)]) rfl ?_
  refine am_goto C0 dX10_happy_96 (tgt := 74) (by decide) ?_
  exact am_sub [0, 1, 2, 3] rfl (hrec74 x1 x3 x4_1 σ  h)
set_option maxRecDepth 100000 in
set_option maxHeartbeats 4000000 in
theorem k_M_happy_l74 {G : am_T} {d0 : Nat} (C0 : am_C G cX10_happy 5 RX10 LM d0) (hd : 3 ≤ d0) (F : Nat) {q : Int32 × am_SS} (hret : am_retI G cX10_happy 5 q.1 q.2) : ∀ (n : Nat) (x1 : Int32) (x3 : Int32) (x4 : Int32) (σ : am_SS) (h : M_happy_l74 F n x1 x3 x4 σ = some q), am_K G 5 74 [(0, .ref (am_b G 0)), (1, .int x1), (3, .int x3), (4, .int x4)] [] σ := by
  intro n
  induction n with
  | zero =>
    intro x1 x3 x4 σ h
    rw [M_happy_l74] at h
    cases h
  | succ n ih =>
    intro x1 x3 x4 σ h
    rw [M_happy_l74] at h
    refine am_iload C0 dX10_happy_74 3 rfl ?_
    refine am_iload_n C0 dX10_happy_76 1 rfl ?_
    refine am_icmp_gt C0 dX10_happy_77 (tgt := 99) (by decide) (fun c_1 => ?_) (fun c_1 => ?_)
    · replace h := am_ip h c_1
      refine am_iload_n C0 dX10_happy_99 2 rfl ?_
      have e := Option.some.inj h
      subst e
      exact hret _ _ dX10_happy_100
    · replace h := am_in h c_1
      refine am_aload_n C0 dX10_happy_80 0 rfl ?_
      refine am_iload C0 dX10_happy_81 3 rfl ?_
      obtain ⟨q_2, h_q_2, h⟩ := am_bind h
      refine am_callV C0 (m_M_isHappy (σ := σ) (Nat.le_refl _) F x4  h_q_2) mm_yX10_isHappy ln_RX10_435 (As := fun b => [.int x4]) (fun _ => rfl) (fun _ => rfl) (loM_7_0 kM0).1 (loM_7_0 kM0).2.1 rfl (Nat.le_trans (by decide) hd) rfl (Nat.le_of_ble_eq_true rfl) dX10_happy_83 ?_
      refine am_ifB_eq C0 dX10_happy_86 (tgt := 93) (by decide) (fun c_3 => ?_) (fun c_3 => ?_)
      · replace h := am_in h c_3
        exact am_sub [0, 1, 2, 3] rfl (k_M_happy_p93 C0 hd _ F hret (fun z1 z2 z3 zs z => ih z1 z2 z3 zs z) x1 x3 x4 σ  h)
      · replace h := am_ip h c_3
        refine am_iload_n C0 dX10_happy_89 2 rfl ?_
        refine am_iconst C0 dX10_happy_90 ci_1 ?_
        refine am_iadd C0 dX10_happy_91 ?_
        obtain ⟨x3_4, e_x3_4, h⟩ := am_lt h
        refine am_top e_x3_4 ?_
        refine am_istore_n C0 dX10_happy_92 rfl (by decide) rfl (lv' := [(0, .ref (am_b G 0)), (1, .int x1), (3, .int x3_4), (4, .int x4)]) rfl ?_
        exact am_sub [0, 1, 2, 3] rfl (k_M_happy_p93 C0 hd _ F hret (fun z1 z2 z3 zs z => ih z1 z2 z3 zs z) x1 x3_4 x4 σ  h)
set_option maxRecDepth 100000 in
set_option maxHeartbeats 4000000 in
theorem k_M_happy_p22 {G : am_T} {d0 : Nat} (C0 : am_C G cX10_happy 5 RX10 LM d0) (hd : 3 ≤ d0) (F : Nat) {q : Int32 × am_SS} (hret : am_retI G cX10_happy 5 q.1 q.2) (x1 : Int32) (x2 : Int32) (s1 : Int32) (s2 : Bool) (s3 : Int32) (σ : am_SS) (h : M_happy_p22 F x1 x2 s1 s2 s3 σ = some q) : am_K G 5 22 [(0, .ref (am_b G 0)), (1, .int x1), (2, .int x2)] [.int s3, .int (am_bI s2), .int s1, .ref (am_b G 0)] σ := by
  unfold M_happy_p22 at h
  refine am_callV C0 (m_M_isIn (σ := σ) (Nat.le_refl _) s1 (am_bI s2) s3  rfl) mm_yX10_isIn ln_RX10_149 (As := fun b => [.int s1, .int (am_bI s2), .int s3]) (fun _ => rfl) (fun _ => rfl) (loM_7_0 kM0).1 (loM_7_0 kM0).2.1 rfl (Nat.le_trans (by decide) hd) rfl (Nat.le_of_ble_eq_true rfl) dX10_happy_22 ?_
  refine am_ifB_eq C0 dX10_happy_25 (tgt := 38) (by decide) (fun c_2 => ?_) (fun c_2 => ?_)
  · replace h := am_in h c_2
    refine am_iconst C0 dX10_happy_38 ci_m1 ?_
    have e := Option.some.inj h
    subst e
    exact hret _ _ dX10_happy_39
  · replace h := am_ip h c_2
    refine am_aload_n C0 dX10_happy_28 0 rfl ?_
    refine am_iload_n C0 dX10_happy_29 2 rfl ?_
    refine am_iconst C0 dX10_happy_30 ci_0 ?_
    refine am_iconst C0 dX10_happy_31 ci_2 ?_
    refine am_callV C0 (m_M_isIn (σ := σ) (Nat.le_refl _) x2 0 2  rfl) mm_yX10_isIn ln_RX10_149 (As := fun b => [.int x2, .int 0, .int 2]) (fun _ => rfl) (fun _ => rfl) (loM_7_0 kM0).1 (loM_7_0 kM0).2.1 rfl (Nat.le_trans (by decide) hd) rfl (Nat.le_of_ble_eq_true rfl) dX10_happy_32 ?_
    refine am_ifB_ne C0 dX10_happy_35 (tgt := 40) (by decide) (fun c_4 => ?_) (fun c_4 => ?_)
    · replace h := am_ip h c_4
      refine am_iload_n C0 dX10_happy_40 2 rfl ?_
      refine am_iconst C0 dX10_happy_41 ci_1 ?_
      refine am_icmp_ne C0 dX10_happy_42 (tgt := 51) (by decide) (fun c_5 => ?_) (fun c_5 => ?_)
      · replace h := am_in h c_5
        refine am_iload_n C0 dX10_happy_51 2 rfl ?_
        refine am_if_ne C0 dX10_happy_52 (tgt := 69) (by decide) (fun c_6 => ?_) (fun c_6 => ?_)
        · replace h := am_in h c_6
          refine am_iconst C0 dX10_happy_69 ci_0 ?_
          refine am_istore_n C0 dX10_happy_70 rfl (by decide) rfl (lv' := [(0, .ref (am_b G 0)), (1, .int x1), (2, .int x2), (3, .int 0)]) rfl ?_
          refine am_iconst C0 dX10_happy_71 ci_1 ?_
          refine am_istore C0 dX10_happy_72 (by decide) rfl (lv' := [(0, .ref (am_b G 0)), (1, .int x1), (2, .int x2), (3, .int 0), (4, .int 1)]) rfl ?_
          exact am_sub [0, 1, 3, 4] rfl (k_M_happy_l74 C0 hd F hret F x1 0 1 σ  h)
        · replace h := am_ip h c_6
          refine am_aload_n C0 dX10_happy_55 0 rfl ?_
          refine am_iload_n C0 dX10_happy_56 1 rfl ?_
          obtain ⟨q_7, h_q_7, h⟩ := am_bind h
          refine am_callV C0 (m_M_isHappy (σ := σ) (Nat.le_refl _) F x1  h_q_7) mm_yX10_isHappy ln_RX10_435 (As := fun b => [.int x1]) (fun _ => rfl) (fun _ => rfl) (loM_7_0 kM0).1 (loM_7_0 kM0).2.1 rfl (Nat.le_trans (by decide) hd) rfl (Nat.le_of_ble_eq_true rfl) dX10_happy_57 ?_
          refine am_ifB_eq C0 dX10_happy_60 (tgt := 67) (by decide) (fun c_8 => ?_) (fun c_8 => ?_)
          · replace h := am_in h c_8
            refine am_iconst C0 dX10_happy_67 ci_0 ?_
            have e := Option.some.inj h
            subst e
            exact hret _ _ dX10_happy_68
          · replace h := am_ip h c_8
            refine am_iconst C0 dX10_happy_63 ci_1 ?_
            refine am_goto C0 dX10_happy_64 (tgt := 68) (by decide) ?_
            have e := Option.some.inj h
            subst e
            exact hret _ _ dX10_happy_68
      · replace h := am_ip h c_5
        refine am_aload_n C0 dX10_happy_45 0 rfl ?_
        refine am_iload_n C0 dX10_happy_46 1 rfl ?_
        obtain ⟨q_9, h_q_9, h⟩ := am_bind h
        refine am_callV C0 (m_M_stepsToEnd (σ := σ) (Nat.le_refl _) F x1  h_q_9) mm_yX10_stepsToEnd ln_RX10_432 (As := fun b => [.int x1]) (fun _ => rfl) (fun _ => rfl) (loM_7_0 kM0).1 (loM_7_0 kM0).2.1 rfl (Nat.le_trans (by decide) hd) rfl (Nat.le_of_ble_eq_true rfl) dX10_happy_47 ?_
        have e := Option.some.inj h
        subst e
        exact hret _ _ dX10_happy_50
    · replace h := am_in h c_4
      refine am_iconst C0 dX10_happy_38 ci_m1 ?_
      have e := Option.some.inj h
      subst e
      exact hret _ _ dX10_happy_39
set_option maxRecDepth 100000 in
set_option maxHeartbeats 4000000 in
theorem k_M_happy {G : am_T} {d0 : Nat} (C0 : am_C G cX10_happy 5 RX10 LM d0) (hd : 3 ≤ d0) (F : Nat) {q : Int32 × am_SS} (hret : am_retI G cX10_happy 5 q.1 q.2) (x1 : Int32) (x2 : Int32) (σ : am_SS) (h : M_happy F x1 x2 σ = some q) : am_K G 5 0 [(0, .ref (am_b G 0)), (1, .int x1), (2, .int x2)] [] σ := by
  unfold M_happy at h
  refine am_aload_n C0 dX10_happy_0 0 rfl ?_
  refine am_iconst C0 dX10_happy_1 ci_0 ?_
  obtain ⟨σ_1, e_σ_1, h⟩ := am_lt h
  refine am_putI C0 e_σ_1 fp_RX10_131 (loM_7_0 kM0).1 (loM_7_0 kM0).2.1 (loM_7_0 kM0).2.2.1 (loM_7_0 kM0).2.2.2 rfl rfl dX10_happy_2 ?_
  refine am_aload_n C0 dX10_happy_5 0 rfl ?_
  refine am_iload_n C0 dX10_happy_6 1 rfl ?_
  refine am_iconst C0 dX10_happy_7 ci_1 ?_
  refine am_iload_n C0 dX10_happy_8 2 rfl ?_
  refine am_iconst C0 dX10_happy_9 ci_2 ?_
  refine am_icmp_ne C0 dX10_happy_10 (tgt := 19) (by decide) (fun c_2 => ?_) (fun c_2 => ?_)
  · replace h := am_in h c_2
    refine am_ldcw C0 kc_RX10_431 dX10_happy_19 ?_
    exact am_sub [0, 1, 2] rfl (k_M_happy_p22 C0 hd F hret x1 x2 x1 true 99999 σ_1  h)
  · replace h := am_ip h c_2
    refine am_sipush C0 dX10_happy_13 cs_999 ?_
    refine am_goto C0 dX10_happy_16 (tgt := 22) (by decide) ?_
    exact am_sub [0, 1, 2] rfl (k_M_happy_p22 C0 hd F hret x1 x2 x1 true 999 σ_1  h)
set_option maxRecDepth 100000 in
set_option maxHeartbeats 4000000 in
theorem m_M_happy {l : Launch} {d : Nat} {σ : am_SS} {q : Int32 × am_SS} (hd : 3 ≤ d) (F : Nat) (x1 : Int32) (x2 : Int32) (h : M_happy F x1 x2 σ = some q) : am_Met l yX10_happy cX10_happy 5 (some .int) d 0 0 LM (fun b => [.ref (b 0), .int x1, .int x2]) σ (some (.int q.1)) q.2 :=
  am_metI (plainFor_of_name (by decide)) rfl (lv := fun b => [(0, .ref (b 0)), (1, .int x1), (2, .int x2)]) (fun _ => rfl) (fun _ => Nat.le_of_ble_eq_true rfl) (fun G C0 _ hret => k_M_happy C0 hd F hret x1 x2 σ  h)
set_option maxRecDepth 100000 in
set_option maxHeartbeats 4000000 in
theorem k_M_letter_p58 {G : am_T} {d0 : Nat} (C0 : am_C G cX10_letter 3 RX10 LM d0) (hd : 2 ≤ d0) {q : Int32 × am_SS} (hret : am_retI G cX10_letter 3 q.1 q.2) (x1 : Int32) (x2 : Int32) (s0 : Int32) (s1 : Int32) (σ : am_SS) (h : M_letter_p58 x1 x2 s0 s1 σ = some q) : am_K G 3 58 [(0, .ref (am_b G 0)), (1, .int x1), (2, .int x2)] [.int s1, .int s0] σ := by
  unfold M_letter_p58 at h
  refine am_icmp_ne C0 dX10_letter_58 (tgt := 63) (by decide) (fun c_1 => ?_) (fun c_1 => ?_)
  · replace h := am_in h c_1
    refine am_aload_n C0 dX10_letter_63 0 rfl ?_
    refine am_getR C0 (j := 31) ff_RX10_104 (loM_7_52 kM0).1 (loM_7_52 kM0).2.1 (loM_7_52 kM0).2.2.1 (loM_7_52 kM0).2.2.2 dX10_letter_64 ?_
    refine am_bipush C0 dX10_letter_67 kb_12 ?_
    refine am_iload_n C0 dX10_letter_69 1 rfl ?_
    refine am_imul C0 dX10_letter_70 ?_
    refine am_aload_n C0 dX10_letter_71 0 rfl ?_
    refine am_getR C0 (j := 30) ff_RX10_101 (loM_7_51 kM0).1 (loM_7_51 kM0).2.1 (loM_7_51 kM0).2.2.1 (loM_7_51 kM0).2.2.2 dX10_letter_72 ?_
    refine am_iload_n C0 dX10_letter_75 1 rfl ?_
    obtain ⟨t_2, h_t_2, h⟩ := am_bind h
    refine am_iald C0 (ltM (tgM_7_51 kM0)) (tgM_7_51 kM0) (lnM_7_51 kM0) h_t_2 dX10_letter_76 ?_
    refine am_iadd C0 dX10_letter_77 ?_
    refine am_iload_n C0 dX10_letter_78 2 rfl ?_
    obtain ⟨σ_3, h_σ_3, h⟩ := am_bind h
    refine am_iast C0 (ltM (tgM_7_52 kM0)) (tgM_7_52 kM0) (lnM_7_52 kM0) h_σ_3 dX10_letter_79 ?_
    refine am_aload_n C0 dX10_letter_80 0 rfl ?_
    refine am_getR C0 (j := 30) ff_RX10_101 (loM_7_51 kM0).1 (loM_7_51 kM0).2.1 (loM_7_51 kM0).2.2.1 (loM_7_51 kM0).2.2.2 dX10_letter_81 ?_
    refine am_iload_n C0 dX10_letter_84 1 rfl ?_
    refine am_aload_n C0 dX10_letter_85 0 rfl ?_
    refine am_getR C0 (j := 30) ff_RX10_101 (loM_7_51 kM0).1 (loM_7_51 kM0).2.1 (loM_7_51 kM0).2.2.1 (loM_7_51 kM0).2.2.2 dX10_letter_86 ?_
    refine am_iload_n C0 dX10_letter_89 1 rfl ?_
    obtain ⟨t_4, h_t_4, h⟩ := am_bind h
    refine am_iald C0 (ltM (tgM_7_51 kM0)) (tgM_7_51 kM0) (lnM_7_51 kM0) h_t_4 dX10_letter_90 ?_
    refine am_iconst C0 dX10_letter_91 ci_1 ?_
    refine am_iadd C0 dX10_letter_92 ?_
    obtain ⟨σ_5, h_σ_5, h⟩ := am_bind h
    refine am_iast C0 (ltM (tgM_7_51 kM0)) (tgM_7_51 kM0) (lnM_7_51 kM0) h_σ_5 dX10_letter_93 ?_
    refine am_aload_n C0 dX10_letter_94 0 rfl ?_
    refine am_getR C0 (j := 30) ff_RX10_101 (loM_7_51 kM0).1 (loM_7_51 kM0).2.1 (loM_7_51 kM0).2.2.1 (loM_7_51 kM0).2.2.2 dX10_letter_95 ?_
    refine am_iload_n C0 dX10_letter_98 1 rfl ?_
    obtain ⟨t_6, h_t_6, h⟩ := am_bind h
    refine am_iald C0 (ltM (tgM_7_51 kM0)) (tgM_7_51 kM0) (lnM_7_51 kM0) h_t_6 dX10_letter_99 ?_
    have e := Option.some.inj h
    subst e
    exact hret _ _ dX10_letter_100
  · replace h := am_ip h c_1
    refine am_iconst C0 dX10_letter_61 ci_m1 ?_
    have e := Option.some.inj h
    subst e
    exact hret _ _ dX10_letter_62
set_option maxRecDepth 100000 in
set_option maxHeartbeats 4000000 in
theorem k_M_letter {G : am_T} {d0 : Nat} (C0 : am_C G cX10_letter 3 RX10 LM d0) (hd : 2 ≤ d0) {q : Int32 × am_SS} (hret : am_retI G cX10_letter 3 q.1 q.2) (x1 : Int32) (x2 : Int32) (σ : am_SS) (h : M_letter x1 x2 σ = some q) : am_K G 3 0 [(0, .ref (am_b G 0)), (1, .int x1), (2, .int x2)] [] σ := by
  unfold M_letter at h
  refine am_aload_n C0 dX10_letter_0 0 rfl ?_
  refine am_iconst C0 dX10_letter_1 ci_0 ?_
  obtain ⟨σ_1, e_σ_1, h⟩ := am_lt h
  refine am_putI C0 e_σ_1 fp_RX10_131 (loM_7_0 kM0).1 (loM_7_0 kM0).2.1 (loM_7_0 kM0).2.2.1 (loM_7_0 kM0).2.2.2 rfl rfl dX10_letter_2 ?_
  refine am_aload_n C0 dX10_letter_5 0 rfl ?_
  refine am_iload_n C0 dX10_letter_6 1 rfl ?_
  refine am_iconst C0 dX10_letter_7 ci_0 ?_
  refine am_iconst C0 dX10_letter_8 ci_1 ?_
  refine am_callV C0 (m_M_isIn (σ := σ_1) (Nat.le_refl _) x1 0 1  rfl) mm_yX10_isIn ln_RX10_149 (As := fun b => [.int x1, .int 0, .int 1]) (fun _ => rfl) (fun _ => rfl) (loM_7_0 kM0).1 (loM_7_0 kM0).2.1 rfl (Nat.le_trans (by decide) hd) rfl (Nat.le_of_ble_eq_true rfl) dX10_letter_9 ?_
  refine am_ifB_ne C0 dX10_letter_12 (tgt := 17) (by decide) (fun c_3 => ?_) (fun c_3 => ?_)
  · replace h := am_ip h c_3
    refine am_iload_n C0 dX10_letter_17 2 rfl ?_
    refine am_iconst C0 dX10_letter_18 ci_m1 ?_
    refine am_icmp_ne C0 dX10_letter_19 (tgt := 31) (by decide) (fun c_4 => ?_) (fun c_4 => ?_)
    · replace h := am_in h c_4
      refine am_aload_n C0 dX10_letter_31 0 rfl ?_
      refine am_iload_n C0 dX10_letter_32 2 rfl ?_
      refine am_iconst C0 dX10_letter_33 ci_0 ?_
      refine am_bipush C0 dX10_letter_34 kb_25 ?_
      refine am_callV C0 (m_M_isIn (σ := σ_1) (Nat.le_refl _) x2 0 25  rfl) mm_yX10_isIn ln_RX10_149 (As := fun b => [.int x2, .int 0, .int 25]) (fun _ => rfl) (fun _ => rfl) (loM_7_0 kM0).1 (loM_7_0 kM0).2.1 rfl (Nat.le_trans (by decide) hd) rfl (Nat.le_of_ble_eq_true rfl) dX10_letter_36 ?_
      refine am_ifB_eq C0 dX10_letter_39 (tgt := 61) (by decide) (fun c_6 => ?_) (fun c_6 => ?_)
      · replace h := am_in h c_6
        refine am_iconst C0 dX10_letter_61 ci_m1 ?_
        have e := Option.some.inj h
        subst e
        exact hret _ _ dX10_letter_62
      · replace h := am_ip h c_6
        refine am_aload_n C0 dX10_letter_42 0 rfl ?_
        refine am_getR C0 (j := 30) ff_RX10_101 (loM_7_51 kM0).1 (loM_7_51 kM0).2.1 (loM_7_51 kM0).2.2.1 (loM_7_51 kM0).2.2.2 dX10_letter_43 ?_
        refine am_iload_n C0 dX10_letter_46 1 rfl ?_
        obtain ⟨t_7, h_t_7, h⟩ := am_bind h
        refine am_iald C0 (ltM (tgM_7_51 kM0)) (tgM_7_51 kM0) (lnM_7_51 kM0) h_t_7 dX10_letter_47 ?_
        refine am_iload_n C0 dX10_letter_48 1 rfl ?_
        refine am_if_ne C0 dX10_letter_49 (tgt := 57) (by decide) (fun c_8 => ?_) (fun c_8 => ?_)
        · replace h := am_in h c_8
          refine am_iconst C0 dX10_letter_57 ci_4 ?_
          exact am_sub [0, 1, 2] rfl (k_M_letter_p58 C0 hd hret x1 x2 t_7 4 σ_1  h)
        · replace h := am_ip h c_8
          refine am_bipush C0 dX10_letter_52 kb_12 ?_
          refine am_goto C0 dX10_letter_54 (tgt := 58) (by decide) ?_
          exact am_sub [0, 1, 2] rfl (k_M_letter_p58 C0 hd hret x1 x2 t_7 12 σ_1  h)
    · replace h := am_ip h c_4
      refine am_aload_n C0 dX10_letter_22 0 rfl ?_
      refine am_getR C0 (j := 30) ff_RX10_101 (loM_7_51 kM0).1 (loM_7_51 kM0).2.1 (loM_7_51 kM0).2.2.1 (loM_7_51 kM0).2.2.2 dX10_letter_23 ?_
      refine am_iload_n C0 dX10_letter_26 1 rfl ?_
      refine am_iconst C0 dX10_letter_27 ci_0 ?_
      obtain ⟨σ_9, h_σ_9, h⟩ := am_bind h
      refine am_iast C0 (ltM (tgM_7_51 kM0)) (tgM_7_51 kM0) (lnM_7_51 kM0) h_σ_9 dX10_letter_28 ?_
      refine am_iconst C0 dX10_letter_29 ci_0 ?_
      have e := Option.some.inj h
      subst e
      exact hret _ _ dX10_letter_30
  · replace h := am_in h c_3
    refine am_iconst C0 dX10_letter_15 ci_m1 ?_
    have e := Option.some.inj h
    subst e
    exact hret _ _ dX10_letter_16
set_option maxRecDepth 100000 in
set_option maxHeartbeats 4000000 in
theorem m_M_letter {l : Launch} {d : Nat} {σ : am_SS} {q : Int32 × am_SS} (hd : 2 ≤ d) (x1 : Int32) (x2 : Int32) (h : M_letter x1 x2 σ = some q) : am_Met l yX10_letter cX10_letter 3 (some .int) d 0 0 LM (fun b => [.ref (b 0), .int x1, .int x2]) σ (some (.int q.1)) q.2 :=
  am_metI (plainFor_of_name (by decide)) rfl (lv := fun b => [(0, .ref (b 0)), (1, .int x1), (2, .int x2)]) (fun _ => rfl) (fun _ => Nat.le_of_ble_eq_true rfl) (fun G C0 _ hret => k_M_letter C0 hd hret x1 x2 σ  h)
set_option maxRecDepth 100000 in
set_option maxHeartbeats 4000000 in
theorem k_M_railOf {G : am_T} {d0 : Nat} (C0 : am_C G cX10_railOf 4 RX10 LM d0) (hd : 1 ≤ d0) {σ0 : am_SS} {q : Int32} (hret : am_retI G cX10_railOf 4 q σ0) (x1 : Int32) (x2 : Int32) (h : M_railOf x1 x2 = some q) : am_K G 4 0 [(0, .ref (am_b G 0)), (1, .int x1), (2, .int x2)] [] σ0 := by
  unfold M_railOf at h
  refine am_iload_n C0 dX10_railOf_0 2 rfl ?_
  refine am_iconst C0 dX10_railOf_1 ci_1 ?_
  refine am_icmp_ne C0 dX10_railOf_2 (tgt := 7) (by decide) (fun c_1 => ?_) (fun c_1 => ?_)
  · replace h := am_in h c_1
    refine am_iload_n C0 dX10_railOf_7 1 rfl ?_
    refine am_iconst C0 dX10_railOf_8 ci_2 ?_
    refine am_iload_n C0 dX10_railOf_9 2 rfl ?_
    refine am_imul C0 dX10_railOf_10 ?_
    refine am_iconst C0 dX10_railOf_11 ci_2 ?_
    refine am_isub C0 dX10_railOf_12 ?_
    obtain ⟨hz_2, h⟩ := am_gd h
    refine am_irem C0 dX10_railOf_13 hz_2 ?_
    obtain ⟨x3_3, e_x3_3, h⟩ := am_lt h
    refine am_top e_x3_3 ?_
    refine am_istore_n C0 dX10_railOf_14 rfl (by decide) rfl (lv' := [(0, .ref (am_b G 0)), (1, .int x1), (2, .int x2), (3, .int x3_3)]) rfl ?_
    refine am_iload_n C0 dX10_railOf_15 3 rfl ?_
    refine am_iload_n C0 dX10_railOf_16 2 rfl ?_
    refine am_icmp_ge C0 dX10_railOf_17 (tgt := 24) (by decide) (fun c_4 => ?_) (fun c_4 => ?_)
    · replace h := am_in h c_4
      refine am_iconst C0 dX10_railOf_24 ci_2 ?_
      refine am_iload_n C0 dX10_railOf_25 2 rfl ?_
      refine am_imul C0 dX10_railOf_26 ?_
      refine am_iconst C0 dX10_railOf_27 ci_2 ?_
      refine am_isub C0 dX10_railOf_28 ?_
      refine am_iload_n C0 dX10_railOf_29 3 rfl ?_
      refine am_isub C0 dX10_railOf_30 ?_
      have e := Option.some.inj h
      subst e
      exact hret _ _ dX10_railOf_31
    · replace h := am_ip h c_4
      refine am_iload_n C0 dX10_railOf_20 3 rfl ?_
      refine am_goto C0 dX10_railOf_21 (tgt := 31) (by decide) ?_
      have e := Option.some.inj h
      subst e
      exact hret _ _ dX10_railOf_31
  · replace h := am_ip h c_1
    refine am_iconst C0 dX10_railOf_5 ci_0 ?_
    have e := Option.some.inj h
    subst e
    exact hret _ _ dX10_railOf_6
set_option maxRecDepth 100000 in
set_option maxHeartbeats 4000000 in
theorem m_M_railOf {l : Launch} {d : Nat} {σ : am_SS} {q : Int32} (hd : 1 ≤ d) (x1 : Int32) (x2 : Int32) (h : M_railOf x1 x2 = some q) : am_Met l yX10_railOf cX10_railOf 4 (some .int) d 0 0 LM (fun b => [.ref (b 0), .int x1, .int x2]) σ (some (.int q)) σ :=
  am_metI (plainFor_of_name (by decide)) rfl (lv := fun b => [(0, .ref (b 0)), (1, .int x1), (2, .int x2)]) (fun _ => rfl) (fun _ => Nat.le_of_ble_eq_true rfl) (fun G C0 _ hret => k_M_railOf C0 hd hret x1 x2  h)
set_option maxRecDepth 100000 in
set_option maxHeartbeats 4000000 in
theorem k_M_byRails_p57 {G : am_T} {d0 : Nat} (C0 : am_C G cX10_byRails 6 RX10 LM d0) (hd : 2 ≤ d0) (rec5 : Int32 → Int32 → Int32 → Int32 → am_SS → Option Int32) (rec14 : Int32 → Int32 → Int32 → Int32 → Int32 → am_SS → Option Int32) (F : Nat) {σ : am_SS} {q : Int32} (hret : am_retI G cX10_byRails 6 q σ) (hrec5 : ∀ (x1 : Int32) (x2 : Int32) (x3 : Int32) (x4 : Int32), rec5 x1 x2 x3 x4 σ = some q → am_K G 6 5 [(0, .ref (am_b G 0)), (1, .int x1), (2, .int x2), (3, .int x3), (4, .int x4)] [] σ) (hrec14 : ∀ (x1 : Int32) (x2 : Int32) (x3 : Int32) (x4 : Int32) (x5 : Int32), rec14 x1 x2 x3 x4 x5 σ = some q → am_K G 6 14 [(0, .ref (am_b G 0)), (1, .int x1), (2, .int x2), (3, .int x3), (4, .int x4), (5, .int x5)] [] σ) (x1 : Int32) (x2 : Int32) (x3 : Int32) (x4 : Int32) (x5 : Int32) (h : M_byRails_p57 rec5 rec14 F x1 x2 x3 x4 x5 σ = some q) : am_K G 6 57 [(0, .ref (am_b G 0)), (1, .int x1), (2, .int x2), (3, .int x3), (4, .int x4), (5, .int x5)] [] σ := by
  unfold M_byRails_p57 at h
  obtain ⟨x5_1, e_x5_1, h⟩ := am_lt h
  refine am_iinc C0 dX10_byRails_57 5 rfl (by rw [ci_1]; exact e_x5_1) (by decide) rfl (lv' := [(0, .ref (am_b G 0)), (1, .int x1), (2, .int x2), (3, .int x3), (4, .int x4), (5, .int x5_1)]) rfl ?_
  refine am_goto C0 dX10_byRails_60 (tgt := 14) (by decide) ?_
  exact am_sub [0, 1, 2, 3, 4, 5] rfl (hrec14 x1 x2 x3 x4 x5_1  h)
set_option maxRecDepth 100000 in
set_option maxHeartbeats 4000000 in
theorem k_M_byRails_l14 {G : am_T} {d0 : Nat} (C0 : am_C G cX10_byRails 6 RX10 LM d0) (hd : 2 ≤ d0) (rec5 : Int32 → Int32 → Int32 → Int32 → am_SS → Option Int32) (F : Nat) {σ : am_SS} {q : Int32} (hret : am_retI G cX10_byRails 6 q σ) (hrec5 : ∀ (x1 : Int32) (x2 : Int32) (x3 : Int32) (x4 : Int32), rec5 x1 x2 x3 x4 σ = some q → am_K G 6 5 [(0, .ref (am_b G 0)), (1, .int x1), (2, .int x2), (3, .int x3), (4, .int x4)] [] σ) : ∀ (n : Nat) (x1 : Int32) (x2 : Int32) (x3 : Int32) (x4 : Int32) (x5 : Int32) (h : M_byRails_l14 rec5 F n x1 x2 x3 x4 x5 σ = some q), am_K G 6 14 [(0, .ref (am_b G 0)), (1, .int x1), (2, .int x2), (3, .int x3), (4, .int x4), (5, .int x5)] [] σ := by
  intro n
  induction n with
  | zero =>
    intro x1 x2 x3 x4 x5 h
    rw [M_byRails_l14] at h
    cases h
  | succ n ih =>
    intro x1 x2 x3 x4 x5 h
    rw [M_byRails_l14] at h
    refine am_iload C0 dX10_byRails_14 5 rfl ?_
    refine am_aload_n C0 dX10_byRails_16 0 rfl ?_
    refine am_getR C0 (j := 30) ff_RX10_101 (loM_7_51 kM0).1 (loM_7_51 kM0).2.1 (loM_7_51 kM0).2.2.1 (loM_7_51 kM0).2.2.2 dX10_byRails_17 ?_
    refine am_iconst C0 dX10_byRails_20 ci_0 ?_
    obtain ⟨t_1, h_t_1, h⟩ := am_bind h
    refine am_iald C0 (ltM (tgM_7_51 kM0)) (tgM_7_51 kM0) (lnM_7_51 kM0) h_t_1 dX10_byRails_21 ?_
    refine am_icmp_ge C0 dX10_byRails_22 (tgt := 63) (by decide) (fun c_2 => ?_) (fun c_2 => ?_)
    · replace h := am_in h c_2
      obtain ⟨x4_3, e_x4_3, h⟩ := am_lt h
      refine am_iinc C0 dX10_byRails_63 4 rfl (by rw [ci_1]; exact e_x4_3) (by decide) rfl (lv' := [(0, .ref (am_b G 0)), (1, .int x1), (2, .int x2), (3, .int x3), (4, .int x4_3), (5, .int x5)]) rfl ?_
      refine am_goto C0 dX10_byRails_66 (tgt := 5) (by decide) ?_
      exact am_sub [0, 1, 2, 3, 4] rfl (hrec5 x1 x2 x3 x4_3  h)
    · replace h := am_ip h c_2
      refine am_aload_n C0 dX10_byRails_25 0 rfl ?_
      refine am_iload C0 dX10_byRails_26 5 rfl ?_
      refine am_iload_n C0 dX10_byRails_28 1 rfl ?_
      obtain ⟨q_4, h_q_4, h⟩ := am_bind h
      refine am_callV C0 (m_M_railOf (σ := σ) (Nat.le_refl _) x5 x1  h_q_4) mm_yX10_railOf ln_RX10_438 (As := fun b => [.int x5, .int x1]) (fun _ => rfl) (fun _ => rfl) (loM_7_0 kM0).1 (loM_7_0 kM0).2.1 rfl (Nat.le_trans (by decide) hd) rfl (Nat.le_of_ble_eq_true rfl) dX10_byRails_29 ?_
      refine am_iload C0 dX10_byRails_32 4 rfl ?_
      refine am_icmp_eq C0 dX10_byRails_34 (tgt := 40) (by decide) (fun c_5 => ?_) (fun c_5 => ?_)
      · replace h := am_ip h c_5
        refine am_iload_n C0 dX10_byRails_40 3 rfl ?_
        refine am_iload_n C0 dX10_byRails_41 2 rfl ?_
        refine am_icmp_ne C0 dX10_byRails_42 (tgt := 53) (by decide) (fun c_6 => ?_) (fun c_6 => ?_)
        · replace h := am_in h c_6
          refine am_iload_n C0 dX10_byRails_53 3 rfl ?_
          refine am_iconst C0 dX10_byRails_54 ci_1 ?_
          refine am_iadd C0 dX10_byRails_55 ?_
          obtain ⟨x3_7, e_x3_7, h⟩ := am_lt h
          refine am_top e_x3_7 ?_
          refine am_istore_n C0 dX10_byRails_56 rfl (by decide) rfl (lv' := [(0, .ref (am_b G 0)), (1, .int x1), (2, .int x2), (3, .int x3_7), (4, .int x4), (5, .int x5)]) rfl ?_
          exact am_sub [0, 1, 2, 3, 4, 5] rfl (k_M_byRails_p57 C0 hd rec5 _ F hret hrec5 (fun z1 z2 z3 z4 z5 z => ih z1 z2 z3 z4 z5 z) x1 x2 x3_7 x4 x5  h)
        · replace h := am_ip h c_6
          refine am_aload_n C0 dX10_byRails_45 0 rfl ?_
          refine am_getR C0 (j := 31) ff_RX10_104 (loM_7_52 kM0).1 (loM_7_52 kM0).2.1 (loM_7_52 kM0).2.2.1 (loM_7_52 kM0).2.2.2 dX10_byRails_46 ?_
          refine am_iload C0 dX10_byRails_49 5 rfl ?_
          obtain ⟨t_8, h_t_8, h⟩ := am_bind h
          refine am_iald C0 (ltM (tgM_7_52 kM0)) (tgM_7_52 kM0) (lnM_7_52 kM0) h_t_8 dX10_byRails_51 ?_
          have e := Option.some.inj h
          subst e
          exact hret _ _ dX10_byRails_52
      · replace h := am_in h c_5
        refine am_goto C0 dX10_byRails_37 (tgt := 57) (by decide) ?_
        exact am_sub [0, 1, 2, 3, 4, 5] rfl (k_M_byRails_p57 C0 hd rec5 _ F hret hrec5 (fun z1 z2 z3 z4 z5 z => ih z1 z2 z3 z4 z5 z) x1 x2 x3 x4 x5  h)
set_option maxRecDepth 100000 in
set_option maxHeartbeats 4000000 in
theorem k_M_byRails_l5 {G : am_T} {d0 : Nat} (C0 : am_C G cX10_byRails 6 RX10 LM d0) (hd : 2 ≤ d0) (F : Nat) {σ : am_SS} {q : Int32} (hret : am_retI G cX10_byRails 6 q σ) : ∀ (n : Nat) (x1 : Int32) (x2 : Int32) (x3 : Int32) (x4 : Int32) (h : M_byRails_l5 F n x1 x2 x3 x4 σ = some q), am_K G 6 5 [(0, .ref (am_b G 0)), (1, .int x1), (2, .int x2), (3, .int x3), (4, .int x4)] [] σ := by
  intro n
  induction n with
  | zero =>
    intro x1 x2 x3 x4 h
    rw [M_byRails_l5] at h
    cases h
  | succ n ih =>
    intro x1 x2 x3 x4 h
    rw [M_byRails_l5] at h
    refine am_iload C0 dX10_byRails_5 4 rfl ?_
    refine am_iload_n C0 dX10_byRails_7 1 rfl ?_
    refine am_icmp_ge C0 dX10_byRails_8 (tgt := 69) (by decide) (fun c_1 => ?_) (fun c_1 => ?_)
    · replace h := am_in h c_1
      refine am_iconst C0 dX10_byRails_69 ci_m1 ?_
      have e := Option.some.inj h
      subst e
      exact hret _ _ dX10_byRails_70
    · replace h := am_ip h c_1
      refine am_iconst C0 dX10_byRails_11 ci_0 ?_
      refine am_istore C0 dX10_byRails_12 (by decide) rfl (lv' := [(0, .ref (am_b G 0)), (1, .int x1), (2, .int x2), (3, .int x3), (4, .int x4), (5, .int 0)]) rfl ?_
      exact am_sub [0, 1, 2, 3, 4, 5] rfl (k_M_byRails_l14 C0 hd _ F hret (fun z1 z2 z3 z4 z => ih z1 z2 z3 z4 z) F x1 x2 x3 x4 0  h)
set_option maxRecDepth 100000 in
set_option maxHeartbeats 4000000 in
theorem k_M_byRails {G : am_T} {d0 : Nat} (C0 : am_C G cX10_byRails 6 RX10 LM d0) (hd : 2 ≤ d0) (F : Nat) {σ : am_SS} {q : Int32} (hret : am_retI G cX10_byRails 6 q σ) (x1 : Int32) (x2 : Int32) (h : M_byRails F x1 x2 σ = some q) : am_K G 6 0 [(0, .ref (am_b G 0)), (1, .int x1), (2, .int x2)] [] σ := by
  unfold M_byRails at h
  refine am_iconst C0 dX10_byRails_0 ci_0 ?_
  refine am_istore_n C0 dX10_byRails_1 rfl (by decide) rfl (lv' := [(0, .ref (am_b G 0)), (1, .int x1), (2, .int x2), (3, .int 0)]) rfl ?_
  refine am_iconst C0 dX10_byRails_2 ci_0 ?_
  refine am_istore C0 dX10_byRails_3 (by decide) rfl (lv' := [(0, .ref (am_b G 0)), (1, .int x1), (2, .int x2), (3, .int 0), (4, .int 0)]) rfl ?_
  exact am_sub [0, 1, 2, 3, 4] rfl (k_M_byRails_l5 C0 hd F hret F x1 x2 0 0  h)
set_option maxRecDepth 100000 in
set_option maxHeartbeats 4000000 in
theorem m_M_byRails {l : Launch} {d : Nat} {σ : am_SS} {q : Int32} (hd : 2 ≤ d) (F : Nat) (x1 : Int32) (x2 : Int32) (h : M_byRails F x1 x2 σ = some q) : am_Met l yX10_byRails cX10_byRails 6 (some .int) d 0 0 LM (fun b => [.ref (b 0), .int x1, .int x2]) σ (some (.int q)) σ :=
  am_metI (plainFor_of_name (by decide)) rfl (lv := fun b => [(0, .ref (b 0)), (1, .int x1), (2, .int x2)]) (fun _ => rfl) (fun _ => Nat.le_of_ble_eq_true rfl) (fun G C0 _ hret => k_M_byRails C0 hd F hret x1 x2  h)
set_option maxRecDepth 100000 in
set_option maxHeartbeats 4000000 in
theorem k_M_message_p146 {G : am_T} {d0 : Nat} (C0 : am_C G cX10_message 5 RX10 LM d0) (hd : 3 ≤ d0) (F : Nat) {q : Int32 × am_SS} (hret : am_retI G cX10_message 5 q.1 q.2) (s0 : Int32) (s1 : Int32) (σ : am_SS) (h : M_message_p146 F s0 s1 σ = some q) : am_K G 5 146 [] [.int s1, .int s0] σ := by
  unfold M_message_p146 at h
  refine am_iadd C0 dX10_message_146 ?_
  refine am_bipush C0 dX10_message_147 kb_26 ?_
  refine am_irem C0 dX10_message_149 nz_26 ?_
  have e := Option.some.inj h
  subst e
  exact hret _ _ dX10_message_150
set_option maxRecDepth 100000 in
set_option maxHeartbeats 4000000 in
theorem k_M_message_p124 {G : am_T} {d0 : Nat} (C0 : am_C G cX10_message 5 RX10 LM d0) (hd : 3 ≤ d0) (F : Nat) {q : Int32 × am_SS} (hret : am_retI G cX10_message 5 q.1 q.2) (x1 : Int32) (x2 : Int32) (s0 : Int32) (σ : am_SS) (h : M_message_p124 F x1 x2 s0 σ = some q) : am_K G 5 124 [(0, .ref (am_b G 0)), (1, .int x1), (2, .int x2)] [.int s0] σ := by
  unfold M_message_p124 at h
  refine am_istore C0 dX10_message_124 (by decide) rfl (lv' := [(0, .ref (am_b G 0)), (1, .int x1), (2, .int x2), (4, .int s0)]) rfl ?_
  refine am_aload_n C0 dX10_message_126 0 rfl ?_
  refine am_getR C0 (j := 31) ff_RX10_104 (loM_7_52 kM0).1 (loM_7_52 kM0).2.1 (loM_7_52 kM0).2.2.1 (loM_7_52 kM0).2.2.2 dX10_message_127 ?_
  refine am_iload_n C0 dX10_message_130 2 rfl ?_
  obtain ⟨t_1, h_t_1, h⟩ := am_bind h
  refine am_iald C0 (ltM (tgM_7_52 kM0)) (tgM_7_52 kM0) (lnM_7_52 kM0) h_t_1 dX10_message_131 ?_
  refine am_iload_n C0 dX10_message_132 1 rfl ?_
  refine am_if_ne C0 dX10_message_133 (tgt := 141) (by decide) (fun c_2 => ?_) (fun c_2 => ?_)
  · replace h := am_in h c_2
    refine am_bipush C0 dX10_message_141 kb_26 ?_
    refine am_iload C0 dX10_message_143 3 rfl ?_
    refine am_isub C0 dX10_message_145 ?_
    exact am_sub [] rfl (k_M_message_p146 C0 hd F hret t_1 (26 - s0) σ  h)
  · replace h := am_ip h c_2
    refine am_iload C0 dX10_message_136 3 rfl ?_
    refine am_goto C0 dX10_message_138 (tgt := 146) (by decide) ?_
    exact am_sub [] rfl (k_M_message_p146 C0 hd F hret t_1 s0 σ  h)
set_option maxRecDepth 100000 in
set_option maxHeartbeats 4000000 in
theorem k_M_message {G : am_T} {d0 : Nat} (C0 : am_C G cX10_message 5 RX10 LM d0) (hd : 3 ≤ d0) (F : Nat) {q : Int32 × am_SS} (hret : am_retI G cX10_message 5 q.1 q.2) (x1 : Int32) (x2 : Int32) (σ : am_SS) (h : M_message F x1 x2 σ = some q) : am_K G 5 0 [(0, .ref (am_b G 0)), (1, .int x1), (2, .int x2)] [] σ := by
  unfold M_message at h
  refine am_aload_n C0 dX10_message_0 0 rfl ?_
  refine am_iconst C0 dX10_message_1 ci_0 ?_
  obtain ⟨σ_1, e_σ_1, h⟩ := am_lt h
  refine am_putI C0 e_σ_1 fp_RX10_131 (loM_7_0 kM0).1 (loM_7_0 kM0).2.1 (loM_7_0 kM0).2.2.1 (loM_7_0 kM0).2.2.2 rfl rfl dX10_message_2 ?_
  refine am_aload_n C0 dX10_message_5 0 rfl ?_
  refine am_getR C0 (j := 30) ff_RX10_101 (loM_7_51 kM0).1 (loM_7_51 kM0).2.1 (loM_7_51 kM0).2.2.1 (loM_7_51 kM0).2.2.2 dX10_message_6 ?_
  refine am_iconst C0 dX10_message_9 ci_0 ?_
  obtain ⟨t_2, h_t_2, h⟩ := am_bind h
  refine am_iald C0 (ltM (tgM_7_51 kM0)) (tgM_7_51 kM0) (lnM_7_51 kM0) h_t_2 dX10_message_10 ?_
  refine am_istore_n C0 dX10_message_11 rfl (by decide) rfl (lv' := [(0, .ref (am_b G 0)), (1, .int x1), (2, .int x2), (3, .int t_2)]) rfl ?_
  refine am_iload_n C0 dX10_message_12 1 rfl ?_
  refine am_iconst C0 dX10_message_13 ci_2 ?_
  refine am_icmp_ne C0 dX10_message_14 (tgt := 47) (by decide) (fun c_3 => ?_) (fun c_3 => ?_)
  · replace h := am_in h c_3
    refine am_aload_n C0 dX10_message_47 0 rfl ?_
    refine am_iload_n C0 dX10_message_48 2 rfl ?_
    refine am_iconst C0 dX10_message_49 ci_0 ?_
    refine am_iload_n C0 dX10_message_50 3 rfl ?_
    refine am_iconst C0 dX10_message_51 ci_1 ?_
    refine am_isub C0 dX10_message_52 ?_
    refine am_callV C0 (m_M_isIn (σ := σ_1) (Nat.le_refl _) x2 0 (t_2 - 1)  rfl) mm_yX10_isIn ln_RX10_149 (As := fun b => [.int x2, .int 0, .int (t_2 - 1)]) (fun _ => rfl) (fun _ => rfl) (loM_7_0 kM0).1 (loM_7_0 kM0).2.1 rfl (Nat.le_trans (by decide) hd) rfl (Nat.le_of_ble_eq_true rfl) dX10_message_53 ?_
    refine am_ifB_ne C0 dX10_message_56 (tgt := 61) (by decide) (fun c_5 => ?_) (fun c_5 => ?_)
    · replace h := am_ip h c_5
      refine am_aload_n C0 dX10_message_61 0 rfl ?_
      refine am_iload_n C0 dX10_message_62 1 rfl ?_
      refine am_bipush C0 dX10_message_63 kb_11 ?_
      refine am_bipush C0 dX10_message_65 kb_16 ?_
      refine am_callV C0 (m_M_isIn (σ := σ_1) (Nat.le_refl _) x1 11 16  rfl) mm_yX10_isIn ln_RX10_149 (As := fun b => [.int x1, .int 11, .int 16]) (fun _ => rfl) (fun _ => rfl) (loM_7_0 kM0).1 (loM_7_0 kM0).2.1 rfl (Nat.le_trans (by decide) hd) rfl (Nat.le_of_ble_eq_true rfl) dX10_message_67 ?_
      refine am_ifB_eq C0 dX10_message_70 (tgt := 83) (by decide) (fun c_7 => ?_) (fun c_7 => ?_)
      · replace h := am_in h c_7
        refine am_aload_n C0 dX10_message_83 0 rfl ?_
        refine am_iload_n C0 dX10_message_84 1 rfl ?_
        refine am_iconst C0 dX10_message_85 ci_0 ?_
        refine am_iconst C0 dX10_message_86 ci_1 ?_
        refine am_callV C0 (m_M_isIn (σ := σ_1) (Nat.le_refl _) x1 0 1  rfl) mm_yX10_isIn ln_RX10_149 (As := fun b => [.int x1, .int 0, .int 1]) (fun _ => rfl) (fun _ => rfl) (loM_7_0 kM0).1 (loM_7_0 kM0).2.1 rfl (Nat.le_trans (by decide) hd) rfl (Nat.le_of_ble_eq_true rfl) dX10_message_87 ?_
        refine am_ifB_ne C0 dX10_message_90 (tgt := 95) (by decide) (fun c_9 => ?_) (fun c_9 => ?_)
        · replace h := am_ip h c_9
          refine am_aload_n C0 dX10_message_95 0 rfl ?_
          refine am_getR C0 (j := 30) ff_RX10_101 (loM_7_51 kM0).1 (loM_7_51 kM0).2.1 (loM_7_51 kM0).2.2.1 (loM_7_51 kM0).2.2.2 dX10_message_96 ?_
          refine am_iconst C0 dX10_message_99 ci_1 ?_
          obtain ⟨t_10, h_t_10, h⟩ := am_bind h
          refine am_iald C0 (ltM (tgM_7_51 kM0)) (tgM_7_51 kM0) (lnM_7_51 kM0) h_t_10 dX10_message_100 ?_
          refine am_if_ne C0 dX10_message_101 (tgt := 108) (by decide) (fun c_11 => ?_) (fun c_11 => ?_)
          · replace h := am_in h c_11
            refine am_aload_n C0 dX10_message_108 0 rfl ?_
            refine am_getR C0 (j := 31) ff_RX10_104 (loM_7_52 kM0).1 (loM_7_52 kM0).2.1 (loM_7_52 kM0).2.2.1 (loM_7_52 kM0).2.2.2 dX10_message_109 ?_
            refine am_bipush C0 dX10_message_112 kb_12 ?_
            refine am_iload_n C0 dX10_message_114 2 rfl ?_
            refine am_aload_n C0 dX10_message_115 0 rfl ?_
            refine am_getR C0 (j := 30) ff_RX10_101 (loM_7_51 kM0).1 (loM_7_51 kM0).2.1 (loM_7_51 kM0).2.2.1 (loM_7_51 kM0).2.2.2 dX10_message_116 ?_
            refine am_iconst C0 dX10_message_119 ci_1 ?_
            obtain ⟨t_12, h_t_12, h⟩ := am_bind h
            refine am_iald C0 (ltM (tgM_7_51 kM0)) (tgM_7_51 kM0) (lnM_7_51 kM0) h_t_12 dX10_message_120 ?_
            obtain ⟨hz_13, h⟩ := am_gd h
            refine am_irem C0 dX10_message_121 hz_13 ?_
            refine am_iadd C0 dX10_message_122 ?_
            obtain ⟨t_14, h_t_14, h⟩ := am_bind h
            refine am_iald C0 (ltM (tgM_7_52 kM0)) (tgM_7_52 kM0) (lnM_7_52 kM0) h_t_14 dX10_message_123 ?_
            exact am_sub [0, 1, 2] rfl (k_M_message_p124 C0 hd F hret x1 x2 t_14 σ_1  h)
          · replace h := am_ip h c_11
            refine am_iconst C0 dX10_message_104 ci_0 ?_
            refine am_goto C0 dX10_message_105 (tgt := 124) (by decide) ?_
            exact am_sub [0, 1, 2] rfl (k_M_message_p124 C0 hd F hret x1 x2 0 σ_1  h)
        · replace h := am_in h c_9
          refine am_iconst C0 dX10_message_93 ci_m1 ?_
          have e := Option.some.inj h
          subst e
          exact hret _ _ dX10_message_94
      · replace h := am_ip h c_7
        refine am_aload_n C0 dX10_message_73 0 rfl ?_
        refine am_iload_n C0 dX10_message_74 1 rfl ?_
        refine am_bipush C0 dX10_message_75 kb_10 ?_
        refine am_isub C0 dX10_message_77 ?_
        refine am_iload_n C0 dX10_message_78 2 rfl ?_
        obtain ⟨q_15, h_q_15, h⟩ := am_bind h
        refine am_callV C0 (m_M_byRails (σ := σ_1) (Nat.le_refl _) F (x1 - 10) x2  h_q_15) mm_yX10_byRails ln_RX10_441 (As := fun b => [.int (x1 - 10), .int x2]) (fun _ => rfl) (fun _ => rfl) (loM_7_0 kM0).1 (loM_7_0 kM0).2.1 rfl (Nat.le_trans (by decide) hd) rfl (Nat.le_of_ble_eq_true rfl) dX10_message_79 ?_
        have e := Option.some.inj h
        subst e
        exact hret _ _ dX10_message_82
    · replace h := am_in h c_5
      refine am_iconst C0 dX10_message_59 ci_m1 ?_
      have e := Option.some.inj h
      subst e
      exact hret _ _ dX10_message_60
  · replace h := am_ip h c_3
    refine am_iload_n C0 dX10_message_17 3 rfl ?_
    refine am_if_ne C0 dX10_message_18 (tgt := 25) (by decide) (fun c_16 => ?_) (fun c_16 => ?_)
    · replace h := am_in h c_16
      refine am_aload_n C0 dX10_message_25 0 rfl ?_
      refine am_getR C0 (j := 31) ff_RX10_104 (loM_7_52 kM0).1 (loM_7_52 kM0).2.1 (loM_7_52 kM0).2.2.1 (loM_7_52 kM0).2.2.2 dX10_message_26 ?_
      refine am_iload_n C0 dX10_message_29 3 rfl ?_
      refine am_iconst C0 dX10_message_30 ci_1 ?_
      refine am_isub C0 dX10_message_31 ?_
      obtain ⟨t_17, h_t_17, h⟩ := am_bind h
      refine am_iald C0 (ltM (tgM_7_52 kM0)) (tgM_7_52 kM0) (lnM_7_52 kM0) h_t_17 dX10_message_32 ?_
      refine am_aload_n C0 dX10_message_33 0 rfl ?_
      refine am_getR C0 (j := 31) ff_RX10_104 (loM_7_52 kM0).1 (loM_7_52 kM0).2.1 (loM_7_52 kM0).2.2.1 (loM_7_52 kM0).2.2.2 dX10_message_34 ?_
      refine am_iconst C0 dX10_message_37 ci_0 ?_
      obtain ⟨t_18, h_t_18, h⟩ := am_bind h
      refine am_iald C0 (ltM (tgM_7_52 kM0)) (tgM_7_52 kM0) (lnM_7_52 kM0) h_t_18 dX10_message_38 ?_
      refine am_isub C0 dX10_message_39 ?_
      refine am_bipush C0 dX10_message_40 kb_26 ?_
      refine am_iadd C0 dX10_message_42 ?_
      refine am_bipush C0 dX10_message_43 kb_26 ?_
      refine am_irem C0 dX10_message_45 nz_26 ?_
      have e := Option.some.inj h
      subst e
      exact hret _ _ dX10_message_46
    · replace h := am_ip h c_16
      refine am_iconst C0 dX10_message_21 ci_m1 ?_
      refine am_goto C0 dX10_message_22 (tgt := 46) (by decide) ?_
      have e := Option.some.inj h
      subst e
      exact hret _ _ dX10_message_46
set_option maxRecDepth 100000 in
set_option maxHeartbeats 4000000 in
theorem m_M_message {l : Launch} {d : Nat} {σ : am_SS} {q : Int32 × am_SS} (hd : 3 ≤ d) (F : Nat) (x1 : Int32) (x2 : Int32) (h : M_message F x1 x2 σ = some q) : am_Met l yX10_message cX10_message 5 (some .int) d 0 0 LM (fun b => [.ref (b 0), .int x1, .int x2]) σ (some (.int q.1)) q.2 :=
  am_metI (plainFor_of_name (by decide)) rfl (lv := fun b => [(0, .ref (b 0)), (1, .int x1), (2, .int x2)]) (fun _ => rfl) (fun _ => Nat.le_of_ble_eq_true rfl) (fun G C0 _ hret => k_M_message C0 hd F hret x1 x2 σ  h)
set_option maxRecDepth 100000 in
set_option maxHeartbeats 4000000 in
theorem k_M_bit {G : am_T} {d0 : Nat} (C0 : am_C G cX10_bit 2 RX10 LM d0) (hd : 2 ≤ d0) {q : Int32 × am_SS} (hret : am_retI G cX10_bit 2 q.1 q.2) (x1 : Int32) (σ : am_SS) (h : M_bit x1 σ = some q) : am_K G 2 0 [(0, .ref (am_b G 0)), (1, .int x1)] [] σ := by
  unfold M_bit at h
  refine am_aload_n C0 dX10_bit_0 0 rfl ?_
  refine am_iconst C0 dX10_bit_1 ci_0 ?_
  obtain ⟨σ_1, e_σ_1, h⟩ := am_lt h
  refine am_putI C0 e_σ_1 fp_RX10_131 (loM_7_0 kM0).1 (loM_7_0 kM0).2.1 (loM_7_0 kM0).2.2.1 (loM_7_0 kM0).2.2.2 rfl rfl dX10_bit_2 ?_
  refine am_iload_n C0 dX10_bit_5 1 rfl ?_
  refine am_iconst C0 dX10_bit_6 ci_m1 ?_
  refine am_icmp_ne C0 dX10_bit_7 (tgt := 17) (by decide) (fun c_2 => ?_) (fun c_2 => ?_)
  · replace h := am_in h c_2
    refine am_aload_n C0 dX10_bit_17 0 rfl ?_
    refine am_iload_n C0 dX10_bit_18 1 rfl ?_
    refine am_iconst C0 dX10_bit_19 ci_0 ?_
    refine am_iconst C0 dX10_bit_20 ci_1 ?_
    refine am_callV C0 (m_M_isIn (σ := σ_1) (Nat.le_refl _) x1 0 1  rfl) mm_yX10_isIn ln_RX10_149 (As := fun b => [.int x1, .int 0, .int 1]) (fun _ => rfl) (fun _ => rfl) (loM_7_0 kM0).1 (loM_7_0 kM0).2.1 rfl (Nat.le_trans (by decide) hd) rfl (Nat.le_of_ble_eq_true rfl) dX10_bit_21 ?_
    refine am_ifB_eq C0 dX10_bit_24 (tgt := 36) (by decide) (fun c_4 => ?_) (fun c_4 => ?_)
    · replace h := am_in h c_4
      refine am_iconst C0 dX10_bit_36 ci_m1 ?_
      have e := Option.some.inj h
      subst e
      exact hret _ _ dX10_bit_37
    · replace h := am_ip h c_4
      refine am_aload_n C0 dX10_bit_27 0 rfl ?_
      refine am_getI C0 ff_RX10_444 (loM_7_53 kM0).1 (loM_7_53 kM0).2.1 (loM_7_53 kM0).2.2.1 (loM_7_53 kM0).2.2.2 dX10_bit_28 ?_
      refine am_bipush C0 dX10_bit_31 kb_16 ?_
      refine am_icmp_ne C0 dX10_bit_33 (tgt := 38) (by decide) (fun c_5 => ?_) (fun c_5 => ?_)
      · replace h := am_in h c_5
        refine am_aload_n C0 dX10_bit_38 0 rfl ?_
        refine am_getR C0 (j := 32) ff_RX10_107 (loM_7_54 kM0).1 (loM_7_54 kM0).2.1 (loM_7_54 kM0).2.2.1 (loM_7_54 kM0).2.2.2 dX10_bit_39 ?_
        refine am_aload_n C0 dX10_bit_42 0 rfl ?_
        refine am_getI C0 ff_RX10_444 (loM_7_53 kM0).1 (loM_7_53 kM0).2.1 (loM_7_53 kM0).2.2.1 (loM_7_53 kM0).2.2.2 dX10_bit_43 ?_
        refine am_iload_n C0 dX10_bit_46 1 rfl ?_
        obtain ⟨σ_6, h_σ_6, h⟩ := am_bind h
        refine am_iast C0 (ltM (tgM_7_54 kM0)) (tgM_7_54 kM0) (lnM_7_54 kM0) h_σ_6 dX10_bit_47 ?_
        refine am_aload_n C0 dX10_bit_48 0 rfl ?_
        refine am_aload_n C0 dX10_bit_49 0 rfl ?_
        refine am_getI C0 ff_RX10_444 (loM_7_53 kM0).1 (loM_7_53 kM0).2.1 (loM_7_53 kM0).2.2.1 (loM_7_53 kM0).2.2.2 dX10_bit_50 ?_
        refine am_iconst C0 dX10_bit_53 ci_1 ?_
        refine am_iadd C0 dX10_bit_54 ?_
        obtain ⟨σ_7, e_σ_7, h⟩ := am_lt h
        refine am_putI C0 e_σ_7 fp_RX10_444 (loM_7_53 kM0).1 (loM_7_53 kM0).2.1 (loM_7_53 kM0).2.2.1 (loM_7_53 kM0).2.2.2 rfl rfl dX10_bit_55 ?_
        refine am_aload_n C0 dX10_bit_58 0 rfl ?_
        refine am_getI C0 ff_RX10_444 (loM_7_53 kM0).1 (loM_7_53 kM0).2.1 (loM_7_53 kM0).2.2.1 (loM_7_53 kM0).2.2.2 dX10_bit_59 ?_
        have e := Option.some.inj h
        subst e
        exact hret _ _ dX10_bit_62
      · replace h := am_ip h c_5
        refine am_iconst C0 dX10_bit_36 ci_m1 ?_
        have e := Option.some.inj h
        subst e
        exact hret _ _ dX10_bit_37
  · replace h := am_ip h c_2
    refine am_aload_n C0 dX10_bit_10 0 rfl ?_
    refine am_iconst C0 dX10_bit_11 ci_0 ?_
    obtain ⟨σ_8, e_σ_8, h⟩ := am_lt h
    refine am_putI C0 e_σ_8 fp_RX10_444 (loM_7_53 kM0).1 (loM_7_53 kM0).2.1 (loM_7_53 kM0).2.2.1 (loM_7_53 kM0).2.2.2 rfl rfl dX10_bit_12 ?_
    refine am_iconst C0 dX10_bit_15 ci_0 ?_
    have e := Option.some.inj h
    subst e
    exact hret _ _ dX10_bit_16
set_option maxRecDepth 100000 in
set_option maxHeartbeats 4000000 in
theorem m_M_bit {l : Launch} {d : Nat} {σ : am_SS} {q : Int32 × am_SS} (hd : 2 ≤ d) (x1 : Int32) (h : M_bit x1 σ = some q) : am_Met l yX10_bit cX10_bit 2 (some .int) d 0 0 LM (fun b => [.ref (b 0), .int x1]) σ (some (.int q.1)) q.2 :=
  am_metI (plainFor_of_name (by decide)) rfl (lv := fun b => [(0, .ref (b 0)), (1, .int x1)]) (fun _ => rfl) (fun _ => Nat.le_of_ble_eq_true rfl) (fun G C0 _ hret => k_M_bit C0 hd hret x1 σ  h)
set_option maxRecDepth 100000 in
set_option maxHeartbeats 4000000 in
theorem k_M_cutPieces_p88 {G : am_T} {d0 : Nat} (C0 : am_C G cX10_cutPieces 6 RX10 LM d0) (hd : 1 ≤ d0) (rec6 : Int32 → Int32 → Int32 → am_SS → Option (Int32 × am_SS)) (F : Nat) {q : Int32 × am_SS} (hret : am_retI G cX10_cutPieces 6 q.1 q.2) (hrec6 : ∀ (x1 : Int32) (x2 : Int32) (x3 : Int32) (σ : am_SS), rec6 x1 x2 x3 σ = some q → am_K G 6 6 [(0, .ref (am_b G 0)), (1, .int x1), (2, .int x2), (3, .int x3)] [] σ) (x1 : Int32) (x2 : Int32) (x3 : Int32) (σ : am_SS) (h : M_cutPieces_p88 rec6 F x1 x2 x3 σ = some q) : am_K G 6 88 [(0, .ref (am_b G 0)), (1, .int x1), (2, .int x2), (3, .int x3)] [] σ := by
  unfold M_cutPieces_p88 at h
  obtain ⟨x3_1, e_x3_1, h⟩ := am_lt h
  refine am_iinc C0 dX10_cutPieces_88 3 rfl (by rw [ci_1]; exact e_x3_1) (by decide) rfl (lv' := [(0, .ref (am_b G 0)), (1, .int x1), (2, .int x2), (3, .int x3_1)]) rfl ?_
  refine am_goto C0 dX10_cutPieces_91 (tgt := 6) (by decide) ?_
  exact am_sub [0, 1, 2, 3] rfl (hrec6 x1 x2 x3_1 σ  h)
set_option maxRecDepth 100000 in
set_option maxHeartbeats 4000000 in
theorem k_M_cutPieces_p75 {G : am_T} {d0 : Nat} (C0 : am_C G cX10_cutPieces 6 RX10 LM d0) (hd : 1 ≤ d0) (rec6 : Int32 → Int32 → Int32 → am_SS → Option (Int32 × am_SS)) (F : Nat) {q : Int32 × am_SS} (hret : am_retI G cX10_cutPieces 6 q.1 q.2) (hrec6 : ∀ (x1 : Int32) (x2 : Int32) (x3 : Int32) (σ : am_SS), rec6 x1 x2 x3 σ = some q → am_K G 6 6 [(0, .ref (am_b G 0)), (1, .int x1), (2, .int x2), (3, .int x3)] [] σ) (x1 : Int32) (x2 : Int32) (x3 : Int32) (σ : am_SS) (h : M_cutPieces_p75 rec6 F x1 x2 x3 σ = some q) : am_K G 6 75 [(0, .ref (am_b G 0)), (1, .int x1), (2, .int x2), (3, .int x3)] [] σ := by
  unfold M_cutPieces_p75 at h
  refine am_aload_n C0 dX10_cutPieces_75 0 rfl ?_
  refine am_getR C0 (j := 33) ff_RX10_110 (loM_7_55 kM0).1 (loM_7_55 kM0).2.1 (loM_7_55 kM0).2.2.1 (loM_7_55 kM0).2.2.2 dX10_cutPieces_76 ?_
  refine am_iload_n C0 dX10_cutPieces_79 1 rfl ?_
  refine am_iload_n C0 dX10_cutPieces_80 2 rfl ?_
  obtain ⟨σ_1, h_σ_1, h⟩ := am_bind h
  refine am_iast C0 (ltM (tgM_7_55 kM0)) (tgM_7_55 kM0) (lnM_7_55 kM0) h_σ_1 dX10_cutPieces_81 ?_
  refine am_iload_n C0 dX10_cutPieces_82 1 rfl ?_
  refine am_iconst C0 dX10_cutPieces_83 ci_1 ?_
  refine am_iadd C0 dX10_cutPieces_84 ?_
  obtain ⟨x1_2, e_x1_2, h⟩ := am_lt h
  refine am_top e_x1_2 ?_
  refine am_istore_n C0 dX10_cutPieces_85 rfl (by decide) rfl (lv' := [(0, .ref (am_b G 0)), (1, .int x1_2), (2, .int x2), (3, .int x3)]) rfl ?_
  refine am_iconst C0 dX10_cutPieces_86 ci_1 ?_
  refine am_istore_n C0 dX10_cutPieces_87 rfl (by decide) rfl (lv' := [(0, .ref (am_b G 0)), (1, .int x1_2), (2, .int 1), (3, .int x3)]) rfl ?_
  exact am_sub [0, 1, 2, 3] rfl (k_M_cutPieces_p88 C0 hd rec6 F hret hrec6 x1_2 1 x3 σ_1  h)
set_option maxRecDepth 100000 in
set_option maxHeartbeats 4000000 in
theorem k_M_cutPieces_p51 {G : am_T} {d0 : Nat} (C0 : am_C G cX10_cutPieces 6 RX10 LM d0) (hd : 1 ≤ d0) (rec6 : Int32 → Int32 → Int32 → am_SS → Option (Int32 × am_SS)) (rec31 : Int32 → Int32 → Int32 → Bool → Int32 → am_SS → Option (Int32 × am_SS)) (F : Nat) {q : Int32 × am_SS} (hret : am_retI G cX10_cutPieces 6 q.1 q.2) (hrec6 : ∀ (x1 : Int32) (x2 : Int32) (x3 : Int32) (σ : am_SS), rec6 x1 x2 x3 σ = some q → am_K G 6 6 [(0, .ref (am_b G 0)), (1, .int x1), (2, .int x2), (3, .int x3)] [] σ) (hrec31 : ∀ (x1 : Int32) (x2 : Int32) (x3 : Int32) (x4 : Bool) (x5 : Int32) (σ : am_SS), rec31 x1 x2 x3 x4 x5 σ = some q → am_K G 6 31 [(0, .ref (am_b G 0)), (1, .int x1), (2, .int x2), (3, .int x3), (4, .int (am_bI x4)), (5, .int x5)] [] σ) (x1 : Int32) (x2 : Int32) (x3 : Int32) (x4 : Bool) (x5 : Int32) (σ : am_SS) (h : M_cutPieces_p51 rec6 rec31 F x1 x2 x3 x4 x5 σ = some q) : am_K G 6 51 [(0, .ref (am_b G 0)), (1, .int x1), (2, .int x2), (3, .int x3), (4, .int (am_bI x4)), (5, .int x5)] [] σ := by
  unfold M_cutPieces_p51 at h
  obtain ⟨x5_1, e_x5_1, h⟩ := am_lt h
  refine am_iinc C0 dX10_cutPieces_51 5 rfl (by rw [ci_1]; exact e_x5_1) (by decide) rfl (lv' := [(0, .ref (am_b G 0)), (1, .int x1), (2, .int x2), (3, .int x3), (4, .int (am_bI x4)), (5, .int x5_1)]) rfl ?_
  refine am_goto C0 dX10_cutPieces_54 (tgt := 31) (by decide) ?_
  exact am_sub [0, 1, 2, 3, 4, 5] rfl (hrec31 x1 x2 x3 x4 x5_1 σ  h)
set_option maxRecDepth 100000 in
set_option maxHeartbeats 4000000 in
theorem k_M_cutPieces_l31 {G : am_T} {d0 : Nat} (C0 : am_C G cX10_cutPieces 6 RX10 LM d0) (hd : 1 ≤ d0) (rec6 : Int32 → Int32 → Int32 → am_SS → Option (Int32 × am_SS)) (F : Nat) {q : Int32 × am_SS} (hret : am_retI G cX10_cutPieces 6 q.1 q.2) (hrec6 : ∀ (x1 : Int32) (x2 : Int32) (x3 : Int32) (σ : am_SS), rec6 x1 x2 x3 σ = some q → am_K G 6 6 [(0, .ref (am_b G 0)), (1, .int x1), (2, .int x2), (3, .int x3)] [] σ) : ∀ (n : Nat) (x1 : Int32) (x2 : Int32) (x3 : Int32) (x4 : Bool) (x5 : Int32) (σ : am_SS) (h : M_cutPieces_l31 rec6 F n x1 x2 x3 x4 x5 σ = some q), am_K G 6 31 [(0, .ref (am_b G 0)), (1, .int x1), (2, .int x2), (3, .int x3), (4, .int (am_bI x4)), (5, .int x5)] [] σ := by
  intro n
  induction n with
  | zero =>
    intro x1 x2 x3 x4 x5 σ h
    rw [M_cutPieces_l31] at h
    cases h
  | succ n ih =>
    intro x1 x2 x3 x4 x5 σ h
    rw [M_cutPieces_l31] at h
    refine am_iload C0 dX10_cutPieces_31 5 rfl ?_
    refine am_iload_n C0 dX10_cutPieces_33 1 rfl ?_
    refine am_icmp_ge C0 dX10_cutPieces_34 (tgt := 57) (by decide) (fun c_1 => ?_) (fun c_1 => ?_)
    · replace h := am_in h c_1
      refine am_iload C0 dX10_cutPieces_57 4 rfl ?_
      refine am_ifB_eq C0 dX10_cutPieces_59 (tgt := 75) (by decide) (fun c_2 => ?_) (fun c_2 => ?_)
      · replace h := am_in h c_2
        exact am_sub [0, 1, 2, 3] rfl (k_M_cutPieces_p75 C0 hd rec6 F hret hrec6 x1 x2 x3 σ  h)
      · replace h := am_ip h c_2
        refine am_iload_n C0 dX10_cutPieces_62 3 rfl ?_
        refine am_aload_n C0 dX10_cutPieces_63 0 rfl ?_
        refine am_getI C0 ff_RX10_444 (loM_7_53 kM0).1 (loM_7_53 kM0).2.1 (loM_7_53 kM0).2.2.1 (loM_7_53 kM0).2.2.2 dX10_cutPieces_64 ?_
        refine am_iconst C0 dX10_cutPieces_67 ci_1 ?_
        refine am_isub C0 dX10_cutPieces_68 ?_
        refine am_icmp_ge C0 dX10_cutPieces_69 (tgt := 75) (by decide) (fun c_3 => ?_) (fun c_3 => ?_)
        · replace h := am_in h c_3
          exact am_sub [0, 1, 2, 3] rfl (k_M_cutPieces_p75 C0 hd rec6 F hret hrec6 x1 x2 x3 σ  h)
        · replace h := am_ip h c_3
          refine am_goto C0 dX10_cutPieces_72 (tgt := 88) (by decide) ?_
          exact am_sub [0, 1, 2, 3] rfl (k_M_cutPieces_p88 C0 hd rec6 F hret hrec6 x1 x2 x3 σ  h)
    · replace h := am_ip h c_1
      refine am_aload_n C0 dX10_cutPieces_37 0 rfl ?_
      refine am_getR C0 (j := 33) ff_RX10_110 (loM_7_55 kM0).1 (loM_7_55 kM0).2.1 (loM_7_55 kM0).2.2.1 (loM_7_55 kM0).2.2.2 dX10_cutPieces_38 ?_
      refine am_iload C0 dX10_cutPieces_41 5 rfl ?_
      obtain ⟨t_4, h_t_4, h⟩ := am_bind h
      refine am_iald C0 (ltM (tgM_7_55 kM0)) (tgM_7_55 kM0) (lnM_7_55 kM0) h_t_4 dX10_cutPieces_43 ?_
      refine am_iload_n C0 dX10_cutPieces_44 2 rfl ?_
      refine am_icmp_ne C0 dX10_cutPieces_45 (tgt := 51) (by decide) (fun c_5 => ?_) (fun c_5 => ?_)
      · replace h := am_in h c_5
        exact am_sub [0, 1, 2, 3, 4, 5] rfl (k_M_cutPieces_p51 C0 hd rec6 _ F hret hrec6 (fun z1 z2 z3 z4 z5 zs z => ih z1 z2 z3 z4 z5 zs z) x1 x2 x3 x4 x5 σ  h)
      · replace h := am_ip h c_5
        refine am_iconst C0 dX10_cutPieces_48 ci_1 ?_
        refine am_istore C0 dX10_cutPieces_49 (by decide) rfl (lv' := [(0, .ref (am_b G 0)), (1, .int x1), (2, .int x2), (3, .int x3), (4, .int 1), (5, .int x5)]) rfl ?_
        exact am_sub [0, 1, 2, 3, 4, 5] rfl (k_M_cutPieces_p51 C0 hd rec6 _ F hret hrec6 (fun z1 z2 z3 z4 z5 zs z => ih z1 z2 z3 z4 z5 zs z) x1 x2 x3 true x5 σ  h)
set_option maxRecDepth 100000 in
set_option maxHeartbeats 4000000 in
theorem k_M_cutPieces_l6 {G : am_T} {d0 : Nat} (C0 : am_C G cX10_cutPieces 6 RX10 LM d0) (hd : 1 ≤ d0) (F : Nat) {q : Int32 × am_SS} (hret : am_retI G cX10_cutPieces 6 q.1 q.2) : ∀ (n : Nat) (x1 : Int32) (x2 : Int32) (x3 : Int32) (σ : am_SS) (h : M_cutPieces_l6 F n x1 x2 x3 σ = some q), am_K G 6 6 [(0, .ref (am_b G 0)), (1, .int x1), (2, .int x2), (3, .int x3)] [] σ := by
  intro n
  induction n with
  | zero =>
    intro x1 x2 x3 σ h
    rw [M_cutPieces_l6] at h
    cases h
  | succ n ih =>
    intro x1 x2 x3 σ h
    rw [M_cutPieces_l6] at h
    refine am_iload_n C0 dX10_cutPieces_6 3 rfl ?_
    refine am_aload_n C0 dX10_cutPieces_7 0 rfl ?_
    refine am_getI C0 ff_RX10_444 (loM_7_53 kM0).1 (loM_7_53 kM0).2.1 (loM_7_53 kM0).2.2.1 (loM_7_53 kM0).2.2.2 dX10_cutPieces_8 ?_
    refine am_icmp_ge C0 dX10_cutPieces_11 (tgt := 94) (by decide) (fun c_1 => ?_) (fun c_1 => ?_)
    · replace h := am_in h c_1
      refine am_iload_n C0 dX10_cutPieces_94 1 rfl ?_
      have e := Option.some.inj h
      subst e
      exact hret _ _ dX10_cutPieces_95
    · replace h := am_ip h c_1
      refine am_iconst C0 dX10_cutPieces_14 ci_2 ?_
      refine am_iload_n C0 dX10_cutPieces_15 2 rfl ?_
      refine am_imul C0 dX10_cutPieces_16 ?_
      refine am_aload_n C0 dX10_cutPieces_17 0 rfl ?_
      refine am_getR C0 (j := 32) ff_RX10_107 (loM_7_54 kM0).1 (loM_7_54 kM0).2.1 (loM_7_54 kM0).2.2.1 (loM_7_54 kM0).2.2.2 dX10_cutPieces_18 ?_
      refine am_iload_n C0 dX10_cutPieces_21 3 rfl ?_
      obtain ⟨t_2, h_t_2, h⟩ := am_bind h
      refine am_iald C0 (ltM (tgM_7_54 kM0)) (tgM_7_54 kM0) (lnM_7_54 kM0) h_t_2 dX10_cutPieces_22 ?_
      refine am_iadd C0 dX10_cutPieces_23 ?_
      obtain ⟨x2_3, e_x2_3, h⟩ := am_lt h
      refine am_top e_x2_3 ?_
      refine am_istore_n C0 dX10_cutPieces_24 rfl (by decide) rfl (lv' := [(0, .ref (am_b G 0)), (1, .int x1), (2, .int x2_3), (3, .int x3)]) rfl ?_
      refine am_iconst C0 dX10_cutPieces_25 ci_0 ?_
      refine am_istore C0 dX10_cutPieces_26 (by decide) rfl (lv' := [(0, .ref (am_b G 0)), (1, .int x1), (2, .int x2_3), (3, .int x3), (4, .int 0)]) rfl ?_
      refine am_iconst C0 dX10_cutPieces_28 ci_0 ?_
      refine am_istore C0 dX10_cutPieces_29 (by decide) rfl (lv' := [(0, .ref (am_b G 0)), (1, .int x1), (2, .int x2_3), (3, .int x3), (4, .int 0), (5, .int 0)]) rfl ?_
      exact am_sub [0, 1, 2, 3, 4, 5] rfl (k_M_cutPieces_l31 C0 hd _ F hret (fun z1 z2 z3 zs z => ih z1 z2 z3 zs z) F x1 x2_3 x3 false 0 σ  h)
set_option maxRecDepth 100000 in
set_option maxHeartbeats 4000000 in
theorem k_M_cutPieces {G : am_T} {d0 : Nat} (C0 : am_C G cX10_cutPieces 6 RX10 LM d0) (hd : 1 ≤ d0) (F : Nat) {q : Int32 × am_SS} (hret : am_retI G cX10_cutPieces 6 q.1 q.2) (σ : am_SS) (h : M_cutPieces F  σ = some q) : am_K G 6 0 [(0, .ref (am_b G 0))] [] σ := by
  unfold M_cutPieces at h
  refine am_iconst C0 dX10_cutPieces_0 ci_0 ?_
  refine am_istore_n C0 dX10_cutPieces_1 rfl (by decide) rfl (lv' := [(0, .ref (am_b G 0)), (1, .int 0)]) rfl ?_
  refine am_iconst C0 dX10_cutPieces_2 ci_1 ?_
  refine am_istore_n C0 dX10_cutPieces_3 rfl (by decide) rfl (lv' := [(0, .ref (am_b G 0)), (1, .int 0), (2, .int 1)]) rfl ?_
  refine am_iconst C0 dX10_cutPieces_4 ci_0 ?_
  refine am_istore_n C0 dX10_cutPieces_5 rfl (by decide) rfl (lv' := [(0, .ref (am_b G 0)), (1, .int 0), (2, .int 1), (3, .int 0)]) rfl ?_
  exact am_sub [0, 1, 2, 3] rfl (k_M_cutPieces_l6 C0 hd F hret F 0 1 0 σ  h)
set_option maxRecDepth 100000 in
set_option maxHeartbeats 4000000 in
theorem m_M_cutPieces {l : Launch} {d : Nat} {σ : am_SS} {q : Int32 × am_SS} (hd : 1 ≤ d) (F : Nat) (h : M_cutPieces F  σ = some q) : am_Met l yX10_cutPieces cX10_cutPieces 6 (some .int) d 0 0 LM (fun b => [.ref (b 0)]) σ (some (.int q.1)) q.2 :=
  am_metI (plainFor_of_name (by decide)) rfl (lv := fun b => [(0, .ref (b 0))]) (fun _ => rfl) (fun _ => Nat.le_of_ble_eq_true rfl) (fun G C0 _ hret => k_M_cutPieces C0 hd F hret  σ  h)
set_option maxRecDepth 100000 in
set_option maxHeartbeats 4000000 in
theorem k_M_readsAlike_l2 {G : am_T} {d0 : Nat} (C0 : am_C G cX10_readsAlike 4 RX10 LM d0) (hd : 1 ≤ d0) (F : Nat) {σ : am_SS} {q : Bool} (hret : am_retI G cX10_readsAlike 4 (am_bI q) σ) : ∀ (n : Nat) (x1 : Int32) (x2 : Int32) (x3 : Int32) (h : M_readsAlike_l2 F n x1 x2 x3 σ = some q), am_K G 4 2 [(0, .ref (am_b G 0)), (1, .int x1), (2, .int x2), (3, .int x3)] [] σ := by
  intro n
  induction n with
  | zero =>
    intro x1 x2 x3 h
    rw [M_readsAlike_l2] at h
    cases h
  | succ n ih =>
    intro x1 x2 x3 h
    rw [M_readsAlike_l2] at h
    refine am_iload_n C0 dX10_readsAlike_2 3 rfl ?_
    refine am_iload_n C0 dX10_readsAlike_3 2 rfl ?_
    refine am_icmp_ge C0 dX10_readsAlike_4 (tgt := 38) (by decide) (fun c_1 => ?_) (fun c_1 => ?_)
    · replace h := am_in h c_1
      refine am_iconst C0 dX10_readsAlike_38 ci_1 ?_
      have e := Option.some.inj h
      subst e
      exact hret _ _ dX10_readsAlike_39
    · replace h := am_ip h c_1
      refine am_aload_n C0 dX10_readsAlike_7 0 rfl ?_
      refine am_getR C0 (j := 32) ff_RX10_107 (loM_7_54 kM0).1 (loM_7_54 kM0).2.1 (loM_7_54 kM0).2.2.1 (loM_7_54 kM0).2.2.2 dX10_readsAlike_8 ?_
      refine am_iload_n C0 dX10_readsAlike_11 1 rfl ?_
      refine am_iload_n C0 dX10_readsAlike_12 3 rfl ?_
      refine am_iadd C0 dX10_readsAlike_13 ?_
      obtain ⟨t_2, h_t_2, h⟩ := am_bind h
      refine am_iald C0 (ltM (tgM_7_54 kM0)) (tgM_7_54 kM0) (lnM_7_54 kM0) h_t_2 dX10_readsAlike_14 ?_
      refine am_aload_n C0 dX10_readsAlike_15 0 rfl ?_
      refine am_getR C0 (j := 32) ff_RX10_107 (loM_7_54 kM0).1 (loM_7_54 kM0).2.1 (loM_7_54 kM0).2.2.1 (loM_7_54 kM0).2.2.2 dX10_readsAlike_16 ?_
      refine am_iload_n C0 dX10_readsAlike_19 1 rfl ?_
      refine am_iload_n C0 dX10_readsAlike_20 2 rfl ?_
      refine am_iadd C0 dX10_readsAlike_21 ?_
      refine am_iconst C0 dX10_readsAlike_22 ci_1 ?_
      refine am_isub C0 dX10_readsAlike_23 ?_
      refine am_iload_n C0 dX10_readsAlike_24 3 rfl ?_
      refine am_isub C0 dX10_readsAlike_25 ?_
      obtain ⟨t_3, h_t_3, h⟩ := am_bind h
      refine am_iald C0 (ltM (tgM_7_54 kM0)) (tgM_7_54 kM0) (lnM_7_54 kM0) h_t_3 dX10_readsAlike_26 ?_
      refine am_icmp_eq C0 dX10_readsAlike_27 (tgt := 32) (by decide) (fun c_4 => ?_) (fun c_4 => ?_)
      · replace h := am_ip h c_4
        obtain ⟨x3_5, e_x3_5, h⟩ := am_lt h
        refine am_iinc C0 dX10_readsAlike_32 3 rfl (by rw [ci_1]; exact e_x3_5) (by decide) rfl (lv' := [(0, .ref (am_b G 0)), (1, .int x1), (2, .int x2), (3, .int x3_5)]) rfl ?_
        refine am_goto C0 dX10_readsAlike_35 (tgt := 2) (by decide) ?_
        exact am_sub [0, 1, 2, 3] rfl (ih x1 x2 x3_5  h)
      · replace h := am_in h c_4
        refine am_iconst C0 dX10_readsAlike_30 ci_0 ?_
        have e := Option.some.inj h
        subst e
        exact hret _ _ dX10_readsAlike_31
set_option maxRecDepth 100000 in
set_option maxHeartbeats 4000000 in
theorem k_M_readsAlike {G : am_T} {d0 : Nat} (C0 : am_C G cX10_readsAlike 4 RX10 LM d0) (hd : 1 ≤ d0) (F : Nat) {σ : am_SS} {q : Bool} (hret : am_retI G cX10_readsAlike 4 (am_bI q) σ) (x1 : Int32) (x2 : Int32) (h : M_readsAlike F x1 x2 σ = some q) : am_K G 4 0 [(0, .ref (am_b G 0)), (1, .int x1), (2, .int x2)] [] σ := by
  unfold M_readsAlike at h
  refine am_iconst C0 dX10_readsAlike_0 ci_0 ?_
  refine am_istore_n C0 dX10_readsAlike_1 rfl (by decide) rfl (lv' := [(0, .ref (am_b G 0)), (1, .int x1), (2, .int x2), (3, .int 0)]) rfl ?_
  exact am_sub [0, 1, 2, 3] rfl (k_M_readsAlike_l2 C0 hd F hret F x1 x2 0  h)
set_option maxRecDepth 100000 in
set_option maxHeartbeats 4000000 in
theorem m_M_readsAlike {l : Launch} {d : Nat} {σ : am_SS} {q : Bool} (hd : 1 ≤ d) (F : Nat) (x1 : Int32) (x2 : Int32) (h : M_readsAlike F x1 x2 σ = some q) : am_Met l yX10_readsAlike cX10_readsAlike 4 (some .boolean) d 0 0 LM (fun b => [.ref (b 0), .int x1, .int x2]) σ (some (.int (am_bI q))) σ :=
  am_metI (plainFor_of_name (by decide)) (am_bI_nr _) (lv := fun b => [(0, .ref (b 0)), (1, .int x1), (2, .int x2)]) (fun _ => rfl) (fun _ => Nat.le_of_ble_eq_true rfl) (fun G C0 _ hret => k_M_readsAlike C0 hd F hret x1 x2  h)
set_option maxRecDepth 100000 in
set_option maxHeartbeats 4000000 in
theorem k_M_anew_l37 {G : am_T} {d0 : Nat} (C0 : am_C G cX10_anew 4 RX10 LM d0) (hd : 2 ≤ d0) (rec31 : Int32 → Int32 → am_SS → Option (Int32 × am_SS)) (F : Nat) {q : Int32 × am_SS} (hret : am_retI G cX10_anew 4 q.1 q.2) (hrec31 : ∀ (x1 : Int32) (x2 : Int32) (σ : am_SS), rec31 x1 x2 σ = some q → am_K G 4 31 [(0, .ref (am_b G 0)), (1, .int x1), (2, .int x2)] [] σ) : ∀ (n : Nat) (x1 : Int32) (x2 : Int32) (x3 : Int32) (σ : am_SS) (h : M_anew_l37 rec31 F n x1 x2 x3 σ = some q), am_K G 4 37 [(0, .ref (am_b G 0)), (1, .int x1), (2, .int x2), (3, .int x3)] [] σ := by
  intro n
  induction n with
  | zero =>
    intro x1 x2 x3 σ h
    rw [M_anew_l37] at h
    cases h
  | succ n ih =>
    intro x1 x2 x3 σ h
    rw [M_anew_l37] at h
    refine am_iload_n C0 dX10_anew_37 3 rfl ?_
    refine am_iload_n C0 dX10_anew_38 2 rfl ?_
    refine am_iadd C0 dX10_anew_39 ?_
    refine am_aload_n C0 dX10_anew_40 0 rfl ?_
    refine am_getI C0 ff_RX10_444 (loM_7_53 kM0).1 (loM_7_53 kM0).2.1 (loM_7_53 kM0).2.2.1 (loM_7_53 kM0).2.2.2 dX10_anew_41 ?_
    refine am_icmp_gt C0 dX10_anew_44 (tgt := 73) (by decide) (fun c_1 => ?_) (fun c_1 => ?_)
    · replace h := am_ip h c_1
      obtain ⟨x2_2, e_x2_2, h⟩ := am_lt h
      refine am_iinc C0 dX10_anew_73 2 rfl (by rw [ci_m1]; exact e_x2_2) (by decide) rfl (lv' := [(0, .ref (am_b G 0)), (1, .int x1), (2, .int x2_2), (3, .int x3)]) rfl ?_
      refine am_goto C0 dX10_anew_76 (tgt := 31) (by decide) ?_
      exact am_sub [0, 1, 2] rfl (hrec31 x1 x2_2 σ  h)
    · replace h := am_in h c_1
      refine am_aload_n C0 dX10_anew_47 0 rfl ?_
      refine am_iload_n C0 dX10_anew_48 3 rfl ?_
      refine am_iload_n C0 dX10_anew_49 2 rfl ?_
      obtain ⟨q_3, h_q_3, h⟩ := am_bind h
      refine am_callV C0 (m_M_readsAlike (σ := σ) (Nat.le_refl _) F x3 x2  h_q_3) mm_yX10_readsAlike ln_RX10_450 (As := fun b => [.int x3, .int x2]) (fun _ => rfl) (fun _ => rfl) (loM_7_0 kM0).1 (loM_7_0 kM0).2.1 rfl (Nat.le_trans (by decide) hd) rfl (Nat.le_of_ble_eq_true rfl) dX10_anew_50 ?_
      refine am_ifB_eq C0 dX10_anew_53 (tgt := 67) (by decide) (fun c_4 => ?_) (fun c_4 => ?_)
      · replace h := am_in h c_4
        obtain ⟨x3_5, e_x3_5, h⟩ := am_lt h
        refine am_iinc C0 dX10_anew_67 3 rfl (by rw [ci_1]; exact e_x3_5) (by decide) rfl (lv' := [(0, .ref (am_b G 0)), (1, .int x1), (2, .int x2), (3, .int x3_5)]) rfl ?_
        refine am_goto C0 dX10_anew_70 (tgt := 37) (by decide) ?_
        exact am_sub [0, 1, 2, 3] rfl (ih x1 x2 x3_5 σ  h)
      · replace h := am_ip h c_4
        refine am_iload_n C0 dX10_anew_56 1 rfl ?_
        refine am_iconst C0 dX10_anew_57 ci_1 ?_
        refine am_icmp_ne C0 dX10_anew_58 (tgt := 65) (by decide) (fun c_6 => ?_) (fun c_6 => ?_)
        · replace h := am_in h c_6
          refine am_iload_n C0 dX10_anew_65 3 rfl ?_
          have e := Option.some.inj h
          subst e
          exact hret _ _ dX10_anew_66
        · replace h := am_ip h c_6
          refine am_iload_n C0 dX10_anew_61 2 rfl ?_
          refine am_goto C0 dX10_anew_62 (tgt := 66) (by decide) ?_
          have e := Option.some.inj h
          subst e
          exact hret _ _ dX10_anew_66
set_option maxRecDepth 100000 in
set_option maxHeartbeats 4000000 in
theorem k_M_anew_l31 {G : am_T} {d0 : Nat} (C0 : am_C G cX10_anew 4 RX10 LM d0) (hd : 2 ≤ d0) (F : Nat) {q : Int32 × am_SS} (hret : am_retI G cX10_anew 4 q.1 q.2) : ∀ (n : Nat) (x1 : Int32) (x2 : Int32) (σ : am_SS) (h : M_anew_l31 F n x1 x2 σ = some q), am_K G 4 31 [(0, .ref (am_b G 0)), (1, .int x1), (2, .int x2)] [] σ := by
  intro n
  induction n with
  | zero =>
    intro x1 x2 σ h
    rw [M_anew_l31] at h
    cases h
  | succ n ih =>
    intro x1 x2 σ h
    rw [M_anew_l31] at h
    refine am_iload_n C0 dX10_anew_31 2 rfl ?_
    refine am_if_le C0 dX10_anew_32 (tgt := 79) (by decide) (fun c_1 => ?_) (fun c_1 => ?_)
    · replace h := am_in h c_1
      refine am_iload_n C0 dX10_anew_79 1 rfl ?_
      refine am_iconst C0 dX10_anew_80 ci_1 ?_
      refine am_icmp_ne C0 dX10_anew_81 (tgt := 88) (by decide) (fun c_2 => ?_) (fun c_2 => ?_)
      · replace h := am_in h c_2
        refine am_iconst C0 dX10_anew_88 ci_m1 ?_
        have e := Option.some.inj h
        subst e
        exact hret _ _ dX10_anew_89
      · replace h := am_ip h c_2
        refine am_iconst C0 dX10_anew_84 ci_0 ?_
        refine am_goto C0 dX10_anew_85 (tgt := 89) (by decide) ?_
        have e := Option.some.inj h
        subst e
        exact hret _ _ dX10_anew_89
    · replace h := am_ip h c_1
      refine am_iconst C0 dX10_anew_35 ci_0 ?_
      refine am_istore_n C0 dX10_anew_36 rfl (by decide) rfl (lv' := [(0, .ref (am_b G 0)), (1, .int x1), (2, .int x2), (3, .int 0)]) rfl ?_
      exact am_sub [0, 1, 2, 3] rfl (k_M_anew_l37 C0 hd _ F hret (fun z1 z2 zs z => ih z1 z2 zs z) F x1 x2 0 σ  h)
set_option maxRecDepth 100000 in
set_option maxHeartbeats 4000000 in
theorem k_M_anew {G : am_T} {d0 : Nat} (C0 : am_C G cX10_anew 4 RX10 LM d0) (hd : 2 ≤ d0) (F : Nat) {q : Int32 × am_SS} (hret : am_retI G cX10_anew 4 q.1 q.2) (x1 : Int32) (σ : am_SS) (h : M_anew F x1 σ = some q) : am_K G 4 0 [(0, .ref (am_b G 0)), (1, .int x1)] [] σ := by
  unfold M_anew at h
  refine am_aload_n C0 dX10_anew_0 0 rfl ?_
  refine am_iconst C0 dX10_anew_1 ci_0 ?_
  obtain ⟨σ_1, e_σ_1, h⟩ := am_lt h
  refine am_putI C0 e_σ_1 fp_RX10_131 (loM_7_0 kM0).1 (loM_7_0 kM0).2.1 (loM_7_0 kM0).2.2.1 (loM_7_0 kM0).2.2.2 rfl rfl dX10_anew_2 ?_
  refine am_aload_n C0 dX10_anew_5 0 rfl ?_
  refine am_iload_n C0 dX10_anew_6 1 rfl ?_
  refine am_iconst C0 dX10_anew_7 ci_0 ?_
  refine am_iconst C0 dX10_anew_8 ci_2 ?_
  refine am_callV C0 (m_M_isIn (σ := σ_1) (Nat.le_refl _) x1 0 2  rfl) mm_yX10_isIn ln_RX10_149 (As := fun b => [.int x1, .int 0, .int 2]) (fun _ => rfl) (fun _ => rfl) (loM_7_0 kM0).1 (loM_7_0 kM0).2.1 rfl (Nat.le_trans (by decide) hd) rfl (Nat.le_of_ble_eq_true rfl) dX10_anew_9 ?_
  refine am_ifB_ne C0 dX10_anew_12 (tgt := 17) (by decide) (fun c_3 => ?_) (fun c_3 => ?_)
  · replace h := am_ip h c_3
    refine am_iload_n C0 dX10_anew_17 1 rfl ?_
    refine am_if_ne C0 dX10_anew_18 (tgt := 26) (by decide) (fun c_4 => ?_) (fun c_4 => ?_)
    · replace h := am_in h c_4
      refine am_aload_n C0 dX10_anew_26 0 rfl ?_
      refine am_getI C0 ff_RX10_444 (loM_7_53 kM0).1 (loM_7_53 kM0).2.1 (loM_7_53 kM0).2.2.1 (loM_7_53 kM0).2.2.2 dX10_anew_27 ?_
      obtain ⟨x2_5, e_x2_5, h⟩ := am_lt h
      refine am_top e_x2_5 ?_
      refine am_istore_n C0 dX10_anew_30 rfl (by decide) rfl (lv' := [(0, .ref (am_b G 0)), (1, .int x1), (2, .int x2_5)]) rfl ?_
      exact am_sub [0, 1, 2] rfl (k_M_anew_l31 C0 hd F hret F x1 x2_5 σ_1  h)
    · replace h := am_ip h c_4
      refine am_aload_n C0 dX10_anew_21 0 rfl ?_
      obtain ⟨q_6, h_q_6, h⟩ := am_bind h
      refine am_callV C0 (m_M_cutPieces (σ := σ_1) (Nat.le_refl _) F   h_q_6) mm_yX10_cutPieces ln_RX10_447 (As := fun b => []) (fun _ => rfl) (fun _ => rfl) (loM_7_0 kM0).1 (loM_7_0 kM0).2.1 rfl (Nat.le_trans (by decide) hd) rfl (Nat.le_of_ble_eq_true rfl) dX10_anew_22 ?_
      have e := Option.some.inj h
      subst e
      exact hret _ _ dX10_anew_25
  · replace h := am_in h c_3
    refine am_iconst C0 dX10_anew_15 ci_m1 ?_
    have e := Option.some.inj h
    subst e
    exact hret _ _ dX10_anew_16
set_option maxRecDepth 100000 in
set_option maxHeartbeats 4000000 in
theorem m_M_anew {l : Launch} {d : Nat} {σ : am_SS} {q : Int32 × am_SS} (hd : 2 ≤ d) (F : Nat) (x1 : Int32) (h : M_anew F x1 σ = some q) : am_Met l yX10_anew cX10_anew 4 (some .int) d 0 0 LM (fun b => [.ref (b 0), .int x1]) σ (some (.int q.1)) q.2 :=
  am_metI (plainFor_of_name (by decide)) rfl (lv := fun b => [(0, .ref (b 0)), (1, .int x1)]) (fun _ => rfl) (fun _ => Nat.le_of_ble_eq_true rfl) (fun G C0 _ hret => k_M_anew C0 hd F hret x1 σ  h)
set_option maxRecDepth 100000 in
set_option maxHeartbeats 4000000 in
theorem k_M_queen_l52 {G : am_T} {d0 : Nat} (C0 : am_C G cX10_queen 4 RX10 LM d0) (hd : 2 ≤ d0) (F : Nat) {q : Int32 × am_SS} (hret : am_retI G cX10_queen 4 q.1 q.2) : ∀ (n : Nat) (x1 : Int32) (x2 : Int32) (x3 : Int32) (σ : am_SS) (h : M_queen_l52 F n x1 x2 x3 σ = some q), am_K G 4 52 [(0, .ref (am_b G 0)), (1, .int x1), (2, .int x2), (3, .int x3)] [] σ := by
  intro n
  induction n with
  | zero =>
    intro x1 x2 x3 σ h
    rw [M_queen_l52] at h
    cases h
  | succ n ih =>
    intro x1 x2 x3 σ h
    rw [M_queen_l52] at h
    refine am_iload_n C0 dX10_queen_52 3 rfl ?_
    refine am_aload_n C0 dX10_queen_53 0 rfl ?_
    refine am_getI C0 ff_RX10_453 (loM_7_56 kM0).1 (loM_7_56 kM0).2.1 (loM_7_56 kM0).2.2.1 (loM_7_56 kM0).2.2.2 dX10_queen_54 ?_
    refine am_icmp_ge C0 dX10_queen_57 (tgt := 83) (by decide) (fun c_1 => ?_) (fun c_1 => ?_)
    · replace h := am_in h c_1
      refine am_aload_n C0 dX10_queen_83 0 rfl ?_
      refine am_getR C0 (j := 34) ff_RX10_113 (loM_7_57 kM0).1 (loM_7_57 kM0).2.1 (loM_7_57 kM0).2.2.1 (loM_7_57 kM0).2.2.2 dX10_queen_84 ?_
      refine am_aload_n C0 dX10_queen_87 0 rfl ?_
      refine am_getI C0 ff_RX10_453 (loM_7_56 kM0).1 (loM_7_56 kM0).2.1 (loM_7_56 kM0).2.2.1 (loM_7_56 kM0).2.2.2 dX10_queen_88 ?_
      refine am_bipush C0 dX10_queen_91 kb_7 ?_
      refine am_iload_n C0 dX10_queen_93 2 rfl ?_
      refine am_imul C0 dX10_queen_94 ?_
      refine am_iload_n C0 dX10_queen_95 1 rfl ?_
      refine am_iadd C0 dX10_queen_96 ?_
      obtain ⟨σ_2, h_σ_2, h⟩ := am_bind h
      refine am_iast C0 (ltM (tgM_7_57 kM0)) (tgM_7_57 kM0) (lnM_7_57 kM0) h_σ_2 dX10_queen_97 ?_
      refine am_aload_n C0 dX10_queen_98 0 rfl ?_
      refine am_aload_n C0 dX10_queen_99 0 rfl ?_
      refine am_getI C0 ff_RX10_453 (loM_7_56 kM0).1 (loM_7_56 kM0).2.1 (loM_7_56 kM0).2.2.1 (loM_7_56 kM0).2.2.2 dX10_queen_100 ?_
      refine am_iconst C0 dX10_queen_103 ci_1 ?_
      refine am_iadd C0 dX10_queen_104 ?_
      obtain ⟨σ_3, e_σ_3, h⟩ := am_lt h
      refine am_putI C0 e_σ_3 fp_RX10_453 (loM_7_56 kM0).1 (loM_7_56 kM0).2.1 (loM_7_56 kM0).2.2.1 (loM_7_56 kM0).2.2.2 rfl rfl dX10_queen_105 ?_
      refine am_aload_n C0 dX10_queen_108 0 rfl ?_
      refine am_getI C0 ff_RX10_453 (loM_7_56 kM0).1 (loM_7_56 kM0).2.1 (loM_7_56 kM0).2.2.1 (loM_7_56 kM0).2.2.2 dX10_queen_109 ?_
      have e := Option.some.inj h
      subst e
      exact hret _ _ dX10_queen_112
    · replace h := am_ip h c_1
      refine am_aload_n C0 dX10_queen_60 0 rfl ?_
      refine am_getR C0 (j := 34) ff_RX10_113 (loM_7_57 kM0).1 (loM_7_57 kM0).2.1 (loM_7_57 kM0).2.2.1 (loM_7_57 kM0).2.2.2 dX10_queen_61 ?_
      refine am_iload_n C0 dX10_queen_64 3 rfl ?_
      obtain ⟨t_4, h_t_4, h⟩ := am_bind h
      refine am_iald C0 (ltM (tgM_7_57 kM0)) (tgM_7_57 kM0) (lnM_7_57 kM0) h_t_4 dX10_queen_65 ?_
      refine am_bipush C0 dX10_queen_66 kb_7 ?_
      refine am_iload_n C0 dX10_queen_68 2 rfl ?_
      refine am_imul C0 dX10_queen_69 ?_
      refine am_iload_n C0 dX10_queen_70 1 rfl ?_
      refine am_iadd C0 dX10_queen_71 ?_
      refine am_icmp_ne C0 dX10_queen_72 (tgt := 77) (by decide) (fun c_5 => ?_) (fun c_5 => ?_)
      · replace h := am_in h c_5
        obtain ⟨x3_6, e_x3_6, h⟩ := am_lt h
        refine am_iinc C0 dX10_queen_77 3 rfl (by rw [ci_1]; exact e_x3_6) (by decide) rfl (lv' := [(0, .ref (am_b G 0)), (1, .int x1), (2, .int x2), (3, .int x3_6)]) rfl ?_
        refine am_goto C0 dX10_queen_80 (tgt := 52) (by decide) ?_
        exact am_sub [0, 1, 2, 3] rfl (ih x1 x2 x3_6 σ  h)
      · replace h := am_ip h c_5
        refine am_iconst C0 dX10_queen_75 ci_m1 ?_
        have e := Option.some.inj h
        subst e
        exact hret _ _ dX10_queen_76
set_option maxRecDepth 100000 in
set_option maxHeartbeats 4000000 in
theorem k_M_queen {G : am_T} {d0 : Nat} (C0 : am_C G cX10_queen 4 RX10 LM d0) (hd : 2 ≤ d0) (F : Nat) {q : Int32 × am_SS} (hret : am_retI G cX10_queen 4 q.1 q.2) (x1 : Int32) (x2 : Int32) (σ : am_SS) (h : M_queen F x1 x2 σ = some q) : am_K G 4 0 [(0, .ref (am_b G 0)), (1, .int x1), (2, .int x2)] [] σ := by
  unfold M_queen at h
  refine am_aload_n C0 dX10_queen_0 0 rfl ?_
  refine am_iconst C0 dX10_queen_1 ci_0 ?_
  obtain ⟨σ_1, e_σ_1, h⟩ := am_lt h
  refine am_putI C0 e_σ_1 fp_RX10_131 (loM_7_0 kM0).1 (loM_7_0 kM0).2.1 (loM_7_0 kM0).2.2.1 (loM_7_0 kM0).2.2.2 rfl rfl dX10_queen_2 ?_
  refine am_iload_n C0 dX10_queen_5 1 rfl ?_
  refine am_iconst C0 dX10_queen_6 ci_m1 ?_
  refine am_icmp_ne C0 dX10_queen_7 (tgt := 17) (by decide) (fun c_2 => ?_) (fun c_2 => ?_)
  · replace h := am_in h c_2
    refine am_aload_n C0 dX10_queen_17 0 rfl ?_
    refine am_iload_n C0 dX10_queen_18 1 rfl ?_
    refine am_iconst C0 dX10_queen_19 ci_0 ?_
    refine am_bipush C0 dX10_queen_20 kb_6 ?_
    refine am_callV C0 (m_M_isIn (σ := σ_1) (Nat.le_refl _) x1 0 6  rfl) mm_yX10_isIn ln_RX10_149 (As := fun b => [.int x1, .int 0, .int 6]) (fun _ => rfl) (fun _ => rfl) (loM_7_0 kM0).1 (loM_7_0 kM0).2.1 rfl (Nat.le_trans (by decide) hd) rfl (Nat.le_of_ble_eq_true rfl) dX10_queen_22 ?_
    refine am_ifB_eq C0 dX10_queen_25 (tgt := 48) (by decide) (fun c_4 => ?_) (fun c_4 => ?_)
    · replace h := am_in h c_4
      refine am_iconst C0 dX10_queen_48 ci_m1 ?_
      have e := Option.some.inj h
      subst e
      exact hret _ _ dX10_queen_49
    · replace h := am_ip h c_4
      refine am_aload_n C0 dX10_queen_28 0 rfl ?_
      refine am_iload_n C0 dX10_queen_29 2 rfl ?_
      refine am_iconst C0 dX10_queen_30 ci_0 ?_
      refine am_bipush C0 dX10_queen_31 kb_6 ?_
      refine am_callV C0 (m_M_isIn (σ := σ_1) (Nat.le_refl _) x2 0 6  rfl) mm_yX10_isIn ln_RX10_149 (As := fun b => [.int x2, .int 0, .int 6]) (fun _ => rfl) (fun _ => rfl) (loM_7_0 kM0).1 (loM_7_0 kM0).2.1 rfl (Nat.le_trans (by decide) hd) rfl (Nat.le_of_ble_eq_true rfl) dX10_queen_33 ?_
      refine am_ifB_eq C0 dX10_queen_36 (tgt := 48) (by decide) (fun c_6 => ?_) (fun c_6 => ?_)
      · replace h := am_in h c_6
        refine am_iconst C0 dX10_queen_48 ci_m1 ?_
        have e := Option.some.inj h
        subst e
        exact hret _ _ dX10_queen_49
      · replace h := am_ip h c_6
        refine am_aload_n C0 dX10_queen_39 0 rfl ?_
        refine am_getI C0 ff_RX10_453 (loM_7_56 kM0).1 (loM_7_56 kM0).2.1 (loM_7_56 kM0).2.2.1 (loM_7_56 kM0).2.2.2 dX10_queen_40 ?_
        refine am_bipush C0 dX10_queen_43 kb_7 ?_
        refine am_icmp_ne C0 dX10_queen_45 (tgt := 50) (by decide) (fun c_7 => ?_) (fun c_7 => ?_)
        · replace h := am_in h c_7
          refine am_iconst C0 dX10_queen_50 ci_0 ?_
          refine am_istore_n C0 dX10_queen_51 rfl (by decide) rfl (lv' := [(0, .ref (am_b G 0)), (1, .int x1), (2, .int x2), (3, .int 0)]) rfl ?_
          exact am_sub [0, 1, 2, 3] rfl (k_M_queen_l52 C0 hd F hret F x1 x2 0 σ_1  h)
        · replace h := am_ip h c_7
          refine am_iconst C0 dX10_queen_48 ci_m1 ?_
          have e := Option.some.inj h
          subst e
          exact hret _ _ dX10_queen_49
  · replace h := am_ip h c_2
    refine am_aload_n C0 dX10_queen_10 0 rfl ?_
    refine am_iconst C0 dX10_queen_11 ci_0 ?_
    obtain ⟨σ_8, e_σ_8, h⟩ := am_lt h
    refine am_putI C0 e_σ_8 fp_RX10_453 (loM_7_56 kM0).1 (loM_7_56 kM0).2.1 (loM_7_56 kM0).2.2.1 (loM_7_56 kM0).2.2.2 rfl rfl dX10_queen_12 ?_
    refine am_iconst C0 dX10_queen_15 ci_0 ?_
    have e := Option.some.inj h
    subst e
    exact hret _ _ dX10_queen_16
set_option maxRecDepth 100000 in
set_option maxHeartbeats 4000000 in
theorem m_M_queen {l : Launch} {d : Nat} {σ : am_SS} {q : Int32 × am_SS} (hd : 2 ≤ d) (F : Nat) (x1 : Int32) (x2 : Int32) (h : M_queen F x1 x2 σ = some q) : am_Met l yX10_queen cX10_queen 4 (some .int) d 0 0 LM (fun b => [.ref (b 0), .int x1, .int x2]) σ (some (.int q.1)) q.2 :=
  am_metI (plainFor_of_name (by decide)) rfl (lv := fun b => [(0, .ref (b 0)), (1, .int x1), (2, .int x2)]) (fun _ => rfl) (fun _ => Nat.le_of_ble_eq_true rfl) (fun G C0 _ hret => k_M_queen C0 hd F hret x1 x2 σ  h)
set_option maxRecDepth 100000 in
set_option maxHeartbeats 4000000 in
theorem k_M_doStand_p119 {G : am_T} {d0 : Nat} (C0 : am_C G cX10_doStand 5 RX10 LM d0) (hd : 1 ≤ d0) (rec66 : Int32 → Int32 → am_SS → Option Bool) (F : Nat) {σ : am_SS} {q : Bool} (hret : am_retI G cX10_doStand 5 (am_bI q) σ) (hrec66 : ∀ (x1 : Int32) (x2 : Int32), rec66 x1 x2 σ = some q → am_K G 5 66 [(0, .ref (am_b G 0)), (1, .int x1), (2, .int x2)] [] σ) (x1 : Int32) (x2 : Int32) (h : M_doStand_p119 rec66 F x1 x2 σ = some q) : am_K G 5 119 [(0, .ref (am_b G 0)), (1, .int x1), (2, .int x2)] [] σ := by
  unfold M_doStand_p119 at h
  obtain ⟨x2_1, e_x2_1, h⟩ := am_lt h
  refine am_iinc C0 dX10_doStand_119 2 rfl (by rw [ci_1]; exact e_x2_1) (by decide) rfl (lv' := [(0, .ref (am_b G 0)), (1, .int x1), (2, .int x2_1)]) rfl ?_
  refine am_goto C0 dX10_doStand_122 (tgt := 66) (by decide) ?_
  exact am_sub [0, 1, 2] rfl (hrec66 x1 x2_1  h)
set_option maxRecDepth 100000 in
set_option maxHeartbeats 4000000 in
theorem k_M_doStand_l66 {G : am_T} {d0 : Nat} (C0 : am_C G cX10_doStand 5 RX10 LM d0) (hd : 1 ≤ d0) (F : Nat) {σ : am_SS} {q : Bool} (hret : am_retI G cX10_doStand 5 (am_bI q) σ) : ∀ (n : Nat) (x1 : Int32) (x2 : Int32) (h : M_doStand_l66 F n x1 x2 σ = some q), am_K G 5 66 [(0, .ref (am_b G 0)), (1, .int x1), (2, .int x2)] [] σ := by
  intro n
  induction n with
  | zero =>
    intro x1 x2 h
    rw [M_doStand_l66] at h
    cases h
  | succ n ih =>
    intro x1 x2 h
    rw [M_doStand_l66] at h
    refine am_iload_n C0 dX10_doStand_66 2 rfl ?_
    refine am_aload_n C0 dX10_doStand_67 0 rfl ?_
    refine am_getI C0 ff_RX10_453 (loM_7_56 kM0).1 (loM_7_56 kM0).2.1 (loM_7_56 kM0).2.2.1 (loM_7_56 kM0).2.2.2 dX10_doStand_68 ?_
    refine am_icmp_ge C0 dX10_doStand_71 (tgt := 125) (by decide) (fun c_1 => ?_) (fun c_1 => ?_)
    · replace h := am_in h c_1
      refine am_iconst C0 dX10_doStand_125 ci_1 ?_
      have e := Option.some.inj h
      subst e
      exact hret _ _ dX10_doStand_126
    · replace h := am_ip h c_1
      refine am_aload_n C0 dX10_doStand_74 0 rfl ?_
      refine am_getR C0 (j := 34) ff_RX10_113 (loM_7_57 kM0).1 (loM_7_57 kM0).2.1 (loM_7_57 kM0).2.2.1 (loM_7_57 kM0).2.2.2 dX10_doStand_75 ?_
      refine am_iload_n C0 dX10_doStand_78 2 rfl ?_
      obtain ⟨t_2, h_t_2, h⟩ := am_bind h
      refine am_iald C0 (ltM (tgM_7_57 kM0)) (tgM_7_57 kM0) (lnM_7_57 kM0) h_t_2 dX10_doStand_79 ?_
      refine am_bipush C0 dX10_doStand_80 kb_7 ?_
      refine am_irem C0 dX10_doStand_82 nz_7 ?_
      obtain ⟨x3_3, e_x3_3, h⟩ := am_lt h
      refine am_top e_x3_3 ?_
      refine am_istore_n C0 dX10_doStand_83 rfl (by decide) rfl (lv' := [(0, .ref (am_b G 0)), (1, .int x1), (2, .int x2), (3, .int x3_3)]) rfl ?_
      refine am_aload_n C0 dX10_doStand_84 0 rfl ?_
      refine am_getR C0 (j := 34) ff_RX10_113 (loM_7_57 kM0).1 (loM_7_57 kM0).2.1 (loM_7_57 kM0).2.2.1 (loM_7_57 kM0).2.2.2 dX10_doStand_85 ?_
      refine am_iload_n C0 dX10_doStand_88 2 rfl ?_
      obtain ⟨t_4, h_t_4, h⟩ := am_bind h
      refine am_iald C0 (ltM (tgM_7_57 kM0)) (tgM_7_57 kM0) (lnM_7_57 kM0) h_t_4 dX10_doStand_89 ?_
      refine am_bipush C0 dX10_doStand_90 kb_7 ?_
      refine am_idiv C0 dX10_doStand_92 nz_7 ?_
      obtain ⟨x4_5, e_x4_5, h⟩ := am_lt h
      refine am_top e_x4_5 ?_
      refine am_istore C0 dX10_doStand_93 (by decide) rfl (lv' := [(0, .ref (am_b G 0)), (1, .int x1), (2, .int x2), (3, .int x3_3), (4, .int x4_5)]) rfl ?_
      refine am_iload_n C0 dX10_doStand_95 3 rfl ?_
      refine am_iload_n C0 dX10_doStand_96 1 rfl ?_
      refine am_icmp_ge C0 dX10_doStand_97 (tgt := 119) (by decide) (fun c_6 => ?_) (fun c_6 => ?_)
      · replace h := am_in h c_6
        exact am_sub [0, 1, 2] rfl (k_M_doStand_p119 C0 hd _ F hret (fun z1 z2 z => ih z1 z2 z) x1 x2  h)
      · replace h := am_ip h c_6
        refine am_iload C0 dX10_doStand_100 4 rfl ?_
        refine am_iload_n C0 dX10_doStand_102 1 rfl ?_
        refine am_icmp_ge C0 dX10_doStand_103 (tgt := 119) (by decide) (fun c_7 => ?_) (fun c_7 => ?_)
        · replace h := am_in h c_7
          exact am_sub [0, 1, 2] rfl (k_M_doStand_p119 C0 hd _ F hret (fun z1 z2 z => ih z1 z2 z) x1 x2  h)
        · replace h := am_ip h c_7
          refine am_aload_n C0 dX10_doStand_106 0 rfl ?_
          refine am_getR C0 (j := 35) ff_RX10_116 (loM_7_58 kM0).1 (loM_7_58 kM0).2.1 (loM_7_58 kM0).2.2.1 (loM_7_58 kM0).2.2.2 dX10_doStand_107 ?_
          refine am_iload C0 dX10_doStand_110 4 rfl ?_
          obtain ⟨t_8, h_t_8, h⟩ := am_bind h
          refine am_iald C0 (ltM (tgM_7_58 kM0)) (tgM_7_58 kM0) (lnM_7_58 kM0) h_t_8 dX10_doStand_112 ?_
          refine am_iload_n C0 dX10_doStand_113 3 rfl ?_
          refine am_icmp_eq C0 dX10_doStand_114 (tgt := 119) (by decide) (fun c_9 => ?_) (fun c_9 => ?_)
          · replace h := am_ip h c_9
            exact am_sub [0, 1, 2] rfl (k_M_doStand_p119 C0 hd _ F hret (fun z1 z2 z => ih z1 z2 z) x1 x2  h)
          · replace h := am_in h c_9
            refine am_iconst C0 dX10_doStand_117 ci_0 ?_
            have e := Option.some.inj h
            subst e
            exact hret _ _ dX10_doStand_118
set_option maxRecDepth 100000 in
set_option maxHeartbeats 4000000 in
theorem k_M_doStand_l9 {G : am_T} {d0 : Nat} (C0 : am_C G cX10_doStand 5 RX10 LM d0) (hd : 1 ≤ d0) (rec2 : Int32 → Int32 → am_SS → Option Bool) (F : Nat) {σ : am_SS} {q : Bool} (hret : am_retI G cX10_doStand 5 (am_bI q) σ) (hrec2 : ∀ (x1 : Int32) (x2 : Int32), rec2 x1 x2 σ = some q → am_K G 5 2 [(0, .ref (am_b G 0)), (1, .int x1), (2, .int x2)] [] σ) : ∀ (n : Nat) (x1 : Int32) (x2 : Int32) (x3 : Int32) (h : M_doStand_l9 rec2 F n x1 x2 x3 σ = some q), am_K G 5 9 [(0, .ref (am_b G 0)), (1, .int x1), (2, .int x2), (3, .int x3)] [] σ := by
  intro n
  induction n with
  | zero =>
    intro x1 x2 x3 h
    rw [M_doStand_l9] at h
    cases h
  | succ n ih =>
    intro x1 x2 x3 h
    rw [M_doStand_l9] at h
    refine am_iload_n C0 dX10_doStand_9 3 rfl ?_
    refine am_iload_n C0 dX10_doStand_10 2 rfl ?_
    refine am_icmp_ge C0 dX10_doStand_11 (tgt := 58) (by decide) (fun c_1 => ?_) (fun c_1 => ?_)
    · replace h := am_in h c_1
      obtain ⟨x2_2, e_x2_2, h⟩ := am_lt h
      refine am_iinc C0 dX10_doStand_58 2 rfl (by rw [ci_1]; exact e_x2_2) (by decide) rfl (lv' := [(0, .ref (am_b G 0)), (1, .int x1), (2, .int x2_2), (3, .int x3)]) rfl ?_
      refine am_goto C0 dX10_doStand_61 (tgt := 2) (by decide) ?_
      exact am_sub [0, 1, 2] rfl (hrec2 x1 x2_2  h)
    · replace h := am_ip h c_1
      refine am_aload_n C0 dX10_doStand_14 0 rfl ?_
      refine am_getR C0 (j := 35) ff_RX10_116 (loM_7_58 kM0).1 (loM_7_58 kM0).2.1 (loM_7_58 kM0).2.2.1 (loM_7_58 kM0).2.2.2 dX10_doStand_15 ?_
      refine am_iload_n C0 dX10_doStand_18 2 rfl ?_
      obtain ⟨t_3, h_t_3, h⟩ := am_bind h
      refine am_iald C0 (ltM (tgM_7_58 kM0)) (tgM_7_58 kM0) (lnM_7_58 kM0) h_t_3 dX10_doStand_19 ?_
      refine am_aload_n C0 dX10_doStand_20 0 rfl ?_
      refine am_getR C0 (j := 35) ff_RX10_116 (loM_7_58 kM0).1 (loM_7_58 kM0).2.1 (loM_7_58 kM0).2.2.1 (loM_7_58 kM0).2.2.2 dX10_doStand_21 ?_
      refine am_iload_n C0 dX10_doStand_24 3 rfl ?_
      obtain ⟨t_4, h_t_4, h⟩ := am_bind h
      refine am_iald C0 (ltM (tgM_7_58 kM0)) (tgM_7_58 kM0) (lnM_7_58 kM0) h_t_4 dX10_doStand_25 ?_
      refine am_isub C0 dX10_doStand_26 ?_
      obtain ⟨x4_5, e_x4_5, h⟩ := am_lt h
      refine am_top e_x4_5 ?_
      refine am_istore C0 dX10_doStand_27 (by decide) rfl (lv' := [(0, .ref (am_b G 0)), (1, .int x1), (2, .int x2), (3, .int x3), (4, .int x4_5)]) rfl ?_
      refine am_iload C0 dX10_doStand_29 4 rfl ?_
      refine am_if_eq C0 dX10_doStand_31 (tgt := 50) (by decide) (fun c_6 => ?_) (fun c_6 => ?_)
      · replace h := am_ip h c_6
        refine am_iconst C0 dX10_doStand_50 ci_0 ?_
        have e := Option.some.inj h
        subst e
        exact hret _ _ dX10_doStand_51
      · replace h := am_in h c_6
        refine am_iload C0 dX10_doStand_34 4 rfl ?_
        refine am_iload_n C0 dX10_doStand_36 2 rfl ?_
        refine am_iload_n C0 dX10_doStand_37 3 rfl ?_
        refine am_isub C0 dX10_doStand_38 ?_
        refine am_icmp_eq C0 dX10_doStand_39 (tgt := 50) (by decide) (fun c_7 => ?_) (fun c_7 => ?_)
        · replace h := am_ip h c_7
          refine am_iconst C0 dX10_doStand_50 ci_0 ?_
          have e := Option.some.inj h
          subst e
          exact hret _ _ dX10_doStand_51
        · replace h := am_in h c_7
          refine am_iload C0 dX10_doStand_42 4 rfl ?_
          refine am_iload_n C0 dX10_doStand_44 3 rfl ?_
          refine am_iload_n C0 dX10_doStand_45 2 rfl ?_
          refine am_isub C0 dX10_doStand_46 ?_
          refine am_icmp_ne C0 dX10_doStand_47 (tgt := 52) (by decide) (fun c_8 => ?_) (fun c_8 => ?_)
          · replace h := am_in h c_8
            obtain ⟨x3_9, e_x3_9, h⟩ := am_lt h
            refine am_iinc C0 dX10_doStand_52 3 rfl (by rw [ci_1]; exact e_x3_9) (by decide) rfl (lv' := [(0, .ref (am_b G 0)), (1, .int x1), (2, .int x2), (3, .int x3_9), (4, .int x4_5)]) rfl ?_
            refine am_goto C0 dX10_doStand_55 (tgt := 9) (by decide) ?_
            exact am_sub [0, 1, 2, 3] rfl (ih x1 x2 x3_9  h)
          · replace h := am_ip h c_8
            refine am_iconst C0 dX10_doStand_50 ci_0 ?_
            have e := Option.some.inj h
            subst e
            exact hret _ _ dX10_doStand_51
set_option maxRecDepth 100000 in
set_option maxHeartbeats 4000000 in
theorem k_M_doStand_l2 {G : am_T} {d0 : Nat} (C0 : am_C G cX10_doStand 5 RX10 LM d0) (hd : 1 ≤ d0) (F : Nat) {σ : am_SS} {q : Bool} (hret : am_retI G cX10_doStand 5 (am_bI q) σ) : ∀ (n : Nat) (x1 : Int32) (x2 : Int32) (h : M_doStand_l2 F n x1 x2 σ = some q), am_K G 5 2 [(0, .ref (am_b G 0)), (1, .int x1), (2, .int x2)] [] σ := by
  intro n
  induction n with
  | zero =>
    intro x1 x2 h
    rw [M_doStand_l2] at h
    cases h
  | succ n ih =>
    intro x1 x2 h
    rw [M_doStand_l2] at h
    refine am_iload_n C0 dX10_doStand_2 2 rfl ?_
    refine am_iload_n C0 dX10_doStand_3 1 rfl ?_
    refine am_icmp_ge C0 dX10_doStand_4 (tgt := 64) (by decide) (fun c_1 => ?_) (fun c_1 => ?_)
    · replace h := am_in h c_1
      refine am_iconst C0 dX10_doStand_64 ci_0 ?_
      refine am_istore_n C0 dX10_doStand_65 rfl (by decide) rfl (lv' := [(0, .ref (am_b G 0)), (1, .int x1), (2, .int 0)]) rfl ?_
      exact am_sub [0, 1, 2] rfl (k_M_doStand_l66 C0 hd F hret F x1 0  h)
    · replace h := am_ip h c_1
      refine am_iconst C0 dX10_doStand_7 ci_0 ?_
      refine am_istore_n C0 dX10_doStand_8 rfl (by decide) rfl (lv' := [(0, .ref (am_b G 0)), (1, .int x1), (2, .int x2), (3, .int 0)]) rfl ?_
      exact am_sub [0, 1, 2, 3] rfl (k_M_doStand_l9 C0 hd _ F hret (fun z1 z2 z => ih z1 z2 z) F x1 x2 0  h)
set_option maxRecDepth 100000 in
set_option maxHeartbeats 4000000 in
theorem k_M_doStand {G : am_T} {d0 : Nat} (C0 : am_C G cX10_doStand 5 RX10 LM d0) (hd : 1 ≤ d0) (F : Nat) {σ : am_SS} {q : Bool} (hret : am_retI G cX10_doStand 5 (am_bI q) σ) (x1 : Int32) (h : M_doStand F x1 σ = some q) : am_K G 5 0 [(0, .ref (am_b G 0)), (1, .int x1)] [] σ := by
  unfold M_doStand at h
  refine am_iconst C0 dX10_doStand_0 ci_0 ?_
  refine am_istore_n C0 dX10_doStand_1 rfl (by decide) rfl (lv' := [(0, .ref (am_b G 0)), (1, .int x1), (2, .int 0)]) rfl ?_
  exact am_sub [0, 1, 2] rfl (k_M_doStand_l2 C0 hd F hret F x1 0  h)
set_option maxRecDepth 100000 in
set_option maxHeartbeats 4000000 in
theorem m_M_doStand {l : Launch} {d : Nat} {σ : am_SS} {q : Bool} (hd : 1 ≤ d) (F : Nat) (x1 : Int32) (h : M_doStand F x1 σ = some q) : am_Met l yX10_doStand cX10_doStand 5 (some .boolean) d 0 0 LM (fun b => [.ref (b 0), .int x1]) σ (some (.int (am_bI q))) σ :=
  am_metI (plainFor_of_name (by decide)) (am_bI_nr _) (lv := fun b => [(0, .ref (b 0)), (1, .int x1)]) (fun _ => rfl) (fun _ => Nat.le_of_ble_eq_true rfl) (fun G C0 _ hret => k_M_doStand C0 hd F hret x1  h)
set_option maxRecDepth 100000 in
set_option maxHeartbeats 4000000 in
theorem k_M_queens_p96 {G : am_T} {d0 : Nat} (C0 : am_C G cX10_queens 7 RX10 LM d0) (hd : 2 ≤ d0) (rec42 : Int32 → Int32 → Int32 → Int32 → am_SS → Option (Int32 × am_SS)) (F : Nat) {q : Int32 × am_SS} (hret : am_retI G cX10_queens 7 q.1 q.2) (hrec42 : ∀ (x1 : Int32) (x2 : Int32) (x3 : Int32) (x4 : Int32) (σ : am_SS), rec42 x1 x2 x3 x4 σ = some q → am_K G 7 42 [(0, .ref (am_b G 0)), (1, .int x1), (2, .int x2), (3, .int x3), (4, .int x4)] [] σ) (x1 : Int32) (x2 : Int32) (x3 : Int32) (x4 : Int32) (σ : am_SS) (h : M_queens_p96 rec42 F x1 x2 x3 x4 σ = some q) : am_K G 7 96 [(0, .ref (am_b G 0)), (1, .int x1), (2, .int x2), (3, .int x3), (4, .int x4)] [] σ := by
  unfold M_queens_p96 at h
  obtain ⟨x4_1, e_x4_1, h⟩ := am_lt h
  refine am_iinc C0 dX10_queens_96 4 rfl (by rw [ci_1]; exact e_x4_1) (by decide) rfl (lv' := [(0, .ref (am_b G 0)), (1, .int x1), (2, .int x2), (3, .int x3), (4, .int x4_1)]) rfl ?_
  refine am_goto C0 dX10_queens_99 (tgt := 42) (by decide) ?_
  exact am_sub [0, 1, 2, 3, 4] rfl (hrec42 x1 x2 x3 x4_1 σ  h)
set_option maxRecDepth 100000 in
set_option maxHeartbeats 4000000 in
theorem k_M_queens_l55 {G : am_T} {d0 : Nat} (C0 : am_C G cX10_queens 7 RX10 LM d0) (hd : 2 ≤ d0) (rec42 : Int32 → Int32 → Int32 → Int32 → am_SS → Option (Int32 × am_SS)) (F : Nat) {q : Int32 × am_SS} (hret : am_retI G cX10_queens 7 q.1 q.2) (hrec42 : ∀ (x1 : Int32) (x2 : Int32) (x3 : Int32) (x4 : Int32) (σ : am_SS), rec42 x1 x2 x3 x4 σ = some q → am_K G 7 42 [(0, .ref (am_b G 0)), (1, .int x1), (2, .int x2), (3, .int x3), (4, .int x4)] [] σ) : ∀ (n : Nat) (x1 : Int32) (x2 : Int32) (x3 : Int32) (x4 : Int32) (x5 : Int32) (x6 : Int32) (σ : am_SS) (h : M_queens_l55 rec42 F n x1 x2 x3 x4 x5 x6 σ = some q), am_K G 7 55 [(0, .ref (am_b G 0)), (1, .int x1), (2, .int x2), (3, .int x3), (4, .int x4), (5, .int x5), (6, .int x6)] [] σ := by
  intro n
  induction n with
  | zero =>
    intro x1 x2 x3 x4 x5 x6 σ h
    rw [M_queens_l55] at h
    cases h
  | succ n ih =>
    intro x1 x2 x3 x4 x5 x6 σ h
    rw [M_queens_l55] at h
    refine am_iload C0 dX10_queens_55 6 rfl ?_
    refine am_iload_n C0 dX10_queens_57 1 rfl ?_
    refine am_icmp_ge C0 dX10_queens_58 (tgt := 84) (by decide) (fun c_1 => ?_) (fun c_1 => ?_)
    · replace h := am_in h c_1
      refine am_aload_n C0 dX10_queens_84 0 rfl ?_
      refine am_iload_n C0 dX10_queens_85 1 rfl ?_
      obtain ⟨q_2, h_q_2, h⟩ := am_bind h
      refine am_callV C0 (m_M_doStand (σ := σ) (Nat.le_refl _) F x1  h_q_2) mm_yX10_doStand ln_RX10_456 (As := fun b => [.int x1]) (fun _ => rfl) (fun _ => rfl) (loM_7_0 kM0).1 (loM_7_0 kM0).2.1 rfl (Nat.le_trans (by decide) hd) rfl (Nat.le_of_ble_eq_true rfl) dX10_queens_86 ?_
      refine am_ifB_eq C0 dX10_queens_89 (tgt := 96) (by decide) (fun c_3 => ?_) (fun c_3 => ?_)
      · replace h := am_in h c_3
        exact am_sub [0, 1, 2, 3, 4] rfl (k_M_queens_p96 C0 hd rec42 F hret hrec42 x1 x2 x3 x4 σ  h)
      · replace h := am_ip h c_3
        refine am_iload_n C0 dX10_queens_92 3 rfl ?_
        refine am_iconst C0 dX10_queens_93 ci_1 ?_
        refine am_iadd C0 dX10_queens_94 ?_
        obtain ⟨x3_4, e_x3_4, h⟩ := am_lt h
        refine am_top e_x3_4 ?_
        refine am_istore_n C0 dX10_queens_95 rfl (by decide) rfl (lv' := [(0, .ref (am_b G 0)), (1, .int x1), (2, .int x2), (3, .int x3_4), (4, .int x4), (5, .int x5), (6, .int x6)]) rfl ?_
        exact am_sub [0, 1, 2, 3, 4] rfl (k_M_queens_p96 C0 hd rec42 F hret hrec42 x1 x2 x3_4 x4 σ  h)
    · replace h := am_ip h c_1
      refine am_aload_n C0 dX10_queens_61 0 rfl ?_
      refine am_getR C0 (j := 35) ff_RX10_116 (loM_7_58 kM0).1 (loM_7_58 kM0).2.1 (loM_7_58 kM0).2.2.1 (loM_7_58 kM0).2.2.2 dX10_queens_62 ?_
      refine am_iload C0 dX10_queens_65 6 rfl ?_
      refine am_iload C0 dX10_queens_67 5 rfl ?_
      refine am_iload_n C0 dX10_queens_69 1 rfl ?_
      obtain ⟨hz_5, h⟩ := am_gd h
      refine am_irem C0 dX10_queens_70 hz_5 ?_
      obtain ⟨σ_6, h_σ_6, h⟩ := am_bind h
      refine am_iast C0 (ltM (tgM_7_58 kM0)) (tgM_7_58 kM0) (lnM_7_58 kM0) h_σ_6 dX10_queens_71 ?_
      refine am_iload C0 dX10_queens_72 5 rfl ?_
      refine am_iload_n C0 dX10_queens_74 1 rfl ?_
      obtain ⟨hz_7, h⟩ := am_gd h
      refine am_idiv C0 dX10_queens_75 hz_7 ?_
      obtain ⟨x5_8, e_x5_8, h⟩ := am_lt h
      refine am_top e_x5_8 ?_
      refine am_istore C0 dX10_queens_76 (by decide) rfl (lv' := [(0, .ref (am_b G 0)), (1, .int x1), (2, .int x2), (3, .int x3), (4, .int x4), (5, .int x5_8), (6, .int x6)]) rfl ?_
      obtain ⟨x6_9, e_x6_9, h⟩ := am_lt h
      refine am_iinc C0 dX10_queens_78 6 rfl (by rw [ci_1]; exact e_x6_9) (by decide) rfl (lv' := [(0, .ref (am_b G 0)), (1, .int x1), (2, .int x2), (3, .int x3), (4, .int x4), (5, .int x5_8), (6, .int x6_9)]) rfl ?_
      refine am_goto C0 dX10_queens_81 (tgt := 55) (by decide) ?_
      exact am_sub [0, 1, 2, 3, 4, 5, 6] rfl (ih x1 x2 x3 x4 x5_8 x6_9 σ_6  h)
set_option maxRecDepth 100000 in
set_option maxHeartbeats 4000000 in
theorem k_M_queens_l42 {G : am_T} {d0 : Nat} (C0 : am_C G cX10_queens 7 RX10 LM d0) (hd : 2 ≤ d0) (F : Nat) {q : Int32 × am_SS} (hret : am_retI G cX10_queens 7 q.1 q.2) : ∀ (n : Nat) (x1 : Int32) (x2 : Int32) (x3 : Int32) (x4 : Int32) (σ : am_SS) (h : M_queens_l42 F n x1 x2 x3 x4 σ = some q), am_K G 7 42 [(0, .ref (am_b G 0)), (1, .int x1), (2, .int x2), (3, .int x3), (4, .int x4)] [] σ := by
  intro n
  induction n with
  | zero =>
    intro x1 x2 x3 x4 σ h
    rw [M_queens_l42] at h
    cases h
  | succ n ih =>
    intro x1 x2 x3 x4 σ h
    rw [M_queens_l42] at h
    refine am_iload C0 dX10_queens_42 4 rfl ?_
    refine am_iload_n C0 dX10_queens_44 2 rfl ?_
    refine am_icmp_ge C0 dX10_queens_45 (tgt := 102) (by decide) (fun c_1 => ?_) (fun c_1 => ?_)
    · replace h := am_in h c_1
      refine am_iload_n C0 dX10_queens_102 3 rfl ?_
      have e := Option.some.inj h
      subst e
      exact hret _ _ dX10_queens_103
    · replace h := am_ip h c_1
      refine am_iload C0 dX10_queens_48 4 rfl ?_
      refine am_istore C0 dX10_queens_50 (by decide) rfl (lv' := [(0, .ref (am_b G 0)), (1, .int x1), (2, .int x2), (3, .int x3), (4, .int x4), (5, .int x4)]) rfl ?_
      refine am_iconst C0 dX10_queens_52 ci_0 ?_
      refine am_istore C0 dX10_queens_53 (by decide) rfl (lv' := [(0, .ref (am_b G 0)), (1, .int x1), (2, .int x2), (3, .int x3), (4, .int x4), (5, .int x4), (6, .int 0)]) rfl ?_
      exact am_sub [0, 1, 2, 3, 4, 5, 6] rfl (k_M_queens_l55 C0 hd _ F hret (fun z1 z2 z3 z4 zs z => ih z1 z2 z3 z4 zs z) F x1 x2 x3 x4 x4 0 σ  h)
set_option maxRecDepth 100000 in
set_option maxHeartbeats 4000000 in
theorem k_M_queens_l22 {G : am_T} {d0 : Nat} (C0 : am_C G cX10_queens 7 RX10 LM d0) (hd : 2 ≤ d0) (F : Nat) {q : Int32 × am_SS} (hret : am_retI G cX10_queens 7 q.1 q.2) : ∀ (n : Nat) (x1 : Int32) (x2 : Int32) (x3 : Int32) (σ : am_SS) (h : M_queens_l22 F n x1 x2 x3 σ = some q), am_K G 7 22 [(0, .ref (am_b G 0)), (1, .int x1), (2, .int x2), (3, .int x3)] [] σ := by
  intro n
  induction n with
  | zero =>
    intro x1 x2 x3 σ h
    rw [M_queens_l22] at h
    cases h
  | succ n ih =>
    intro x1 x2 x3 σ h
    rw [M_queens_l22] at h
    refine am_iload_n C0 dX10_queens_22 3 rfl ?_
    refine am_iload_n C0 dX10_queens_23 1 rfl ?_
    refine am_icmp_ge C0 dX10_queens_24 (tgt := 37) (by decide) (fun c_1 => ?_) (fun c_1 => ?_)
    · replace h := am_in h c_1
      refine am_iconst C0 dX10_queens_37 ci_0 ?_
      refine am_istore_n C0 dX10_queens_38 rfl (by decide) rfl (lv' := [(0, .ref (am_b G 0)), (1, .int x1), (2, .int x2), (3, .int 0)]) rfl ?_
      refine am_iconst C0 dX10_queens_39 ci_0 ?_
      refine am_istore C0 dX10_queens_40 (by decide) rfl (lv' := [(0, .ref (am_b G 0)), (1, .int x1), (2, .int x2), (3, .int 0), (4, .int 0)]) rfl ?_
      exact am_sub [0, 1, 2, 3, 4] rfl (k_M_queens_l42 C0 hd F hret F x1 x2 0 0 σ  h)
    · replace h := am_ip h c_1
      refine am_iload_n C0 dX10_queens_27 2 rfl ?_
      refine am_iload_n C0 dX10_queens_28 1 rfl ?_
      refine am_imul C0 dX10_queens_29 ?_
      obtain ⟨x2_2, e_x2_2, h⟩ := am_lt h
      refine am_top e_x2_2 ?_
      refine am_istore_n C0 dX10_queens_30 rfl (by decide) rfl (lv' := [(0, .ref (am_b G 0)), (1, .int x1), (2, .int x2_2), (3, .int x3)]) rfl ?_
      obtain ⟨x3_3, e_x3_3, h⟩ := am_lt h
      refine am_iinc C0 dX10_queens_31 3 rfl (by rw [ci_1]; exact e_x3_3) (by decide) rfl (lv' := [(0, .ref (am_b G 0)), (1, .int x1), (2, .int x2_2), (3, .int x3_3)]) rfl ?_
      refine am_goto C0 dX10_queens_34 (tgt := 22) (by decide) ?_
      exact am_sub [0, 1, 2, 3] rfl (ih x1 x2_2 x3_3 σ  h)
set_option maxRecDepth 100000 in
set_option maxHeartbeats 4000000 in
theorem k_M_queens {G : am_T} {d0 : Nat} (C0 : am_C G cX10_queens 7 RX10 LM d0) (hd : 2 ≤ d0) (F : Nat) {q : Int32 × am_SS} (hret : am_retI G cX10_queens 7 q.1 q.2) (x1 : Int32) (σ : am_SS) (h : M_queens F x1 σ = some q) : am_K G 7 0 [(0, .ref (am_b G 0)), (1, .int x1)] [] σ := by
  unfold M_queens at h
  refine am_aload_n C0 dX10_queens_0 0 rfl ?_
  refine am_iconst C0 dX10_queens_1 ci_0 ?_
  obtain ⟨σ_1, e_σ_1, h⟩ := am_lt h
  refine am_putI C0 e_σ_1 fp_RX10_131 (loM_7_0 kM0).1 (loM_7_0 kM0).2.1 (loM_7_0 kM0).2.2.1 (loM_7_0 kM0).2.2.2 rfl rfl dX10_queens_2 ?_
  refine am_aload_n C0 dX10_queens_5 0 rfl ?_
  refine am_iload_n C0 dX10_queens_6 1 rfl ?_
  refine am_iconst C0 dX10_queens_7 ci_1 ?_
  refine am_bipush C0 dX10_queens_8 kb_7 ?_
  refine am_callV C0 (m_M_isIn (σ := σ_1) (Nat.le_refl _) x1 1 7  rfl) mm_yX10_isIn ln_RX10_149 (As := fun b => [.int x1, .int 1, .int 7]) (fun _ => rfl) (fun _ => rfl) (loM_7_0 kM0).1 (loM_7_0 kM0).2.1 rfl (Nat.le_trans (by decide) hd) rfl (Nat.le_of_ble_eq_true rfl) dX10_queens_10 ?_
  refine am_ifB_ne C0 dX10_queens_13 (tgt := 18) (by decide) (fun c_3 => ?_) (fun c_3 => ?_)
  · replace h := am_ip h c_3
    refine am_iconst C0 dX10_queens_18 ci_1 ?_
    refine am_istore_n C0 dX10_queens_19 rfl (by decide) rfl (lv' := [(0, .ref (am_b G 0)), (1, .int x1), (2, .int 1)]) rfl ?_
    refine am_iconst C0 dX10_queens_20 ci_0 ?_
    refine am_istore_n C0 dX10_queens_21 rfl (by decide) rfl (lv' := [(0, .ref (am_b G 0)), (1, .int x1), (2, .int 1), (3, .int 0)]) rfl ?_
    exact am_sub [0, 1, 2, 3] rfl (k_M_queens_l22 C0 hd F hret F x1 1 0 σ_1  h)
  · replace h := am_in h c_3
    refine am_iconst C0 dX10_queens_16 ci_m1 ?_
    have e := Option.some.inj h
    subst e
    exact hret _ _ dX10_queens_17
set_option maxRecDepth 100000 in
set_option maxHeartbeats 4000000 in
theorem m_M_queens {l : Launch} {d : Nat} {σ : am_SS} {q : Int32 × am_SS} (hd : 2 ≤ d) (F : Nat) (x1 : Int32) (h : M_queens F x1 σ = some q) : am_Met l yX10_queens cX10_queens 7 (some .int) d 0 0 LM (fun b => [.ref (b 0), .int x1]) σ (some (.int q.1)) q.2 :=
  am_metI (plainFor_of_name (by decide)) rfl (lv := fun b => [(0, .ref (b 0)), (1, .int x1)]) (fun _ => rfl) (fun _ => Nat.le_of_ble_eq_true rfl) (fun G C0 _ hret => k_M_queens C0 hd F hret x1 σ  h)
set_option maxRecDepth 100000 in
set_option maxHeartbeats 4000000 in
theorem k_M_corner {G : am_T} {d0 : Nat} (C0 : am_C G cX10_corner 3 RX10 LM d0) (hd : 2 ≤ d0) {q : Int32 × am_SS} (hret : am_retI G cX10_corner 3 q.1 q.2) (x1 : Int32) (x2 : Int32) (σ : am_SS) (h : M_corner x1 x2 σ = some q) : am_K G 3 0 [(0, .ref (am_b G 0)), (1, .int x1), (2, .int x2)] [] σ := by
  unfold M_corner at h
  refine am_aload_n C0 dX10_corner_0 0 rfl ?_
  refine am_iconst C0 dX10_corner_1 ci_0 ?_
  obtain ⟨σ_1, e_σ_1, h⟩ := am_lt h
  refine am_putI C0 e_σ_1 fp_RX10_131 (loM_7_0 kM0).1 (loM_7_0 kM0).2.1 (loM_7_0 kM0).2.2.1 (loM_7_0 kM0).2.2.2 rfl rfl dX10_corner_2 ?_
  refine am_iload_n C0 dX10_corner_5 1 rfl ?_
  refine am_bipush C0 dX10_corner_6 kb_m100 ?_
  refine am_icmp_ne C0 dX10_corner_8 (tgt := 18) (by decide) (fun c_2 => ?_) (fun c_2 => ?_)
  · replace h := am_in h c_2
    refine am_aload_n C0 dX10_corner_18 0 rfl ?_
    refine am_iload_n C0 dX10_corner_19 1 rfl ?_
    refine am_bipush C0 dX10_corner_20 kb_m50 ?_
    refine am_bipush C0 dX10_corner_22 kb_50 ?_
    refine am_callV C0 (m_M_isIn (σ := σ_1) (Nat.le_refl _) x1 (-50) 50  rfl) mm_yX10_isIn ln_RX10_149 (As := fun b => [.int x1, .int (-50), .int 50]) (fun _ => rfl) (fun _ => rfl) (loM_7_0 kM0).1 (loM_7_0 kM0).2.1 rfl (Nat.le_trans (by decide) hd) rfl (Nat.le_of_ble_eq_true rfl) dX10_corner_24 ?_
    refine am_ifB_eq C0 dX10_corner_27 (tgt := 51) (by decide) (fun c_4 => ?_) (fun c_4 => ?_)
    · replace h := am_in h c_4
      refine am_iconst C0 dX10_corner_51 ci_m1 ?_
      have e := Option.some.inj h
      subst e
      exact hret _ _ dX10_corner_52
    · replace h := am_ip h c_4
      refine am_aload_n C0 dX10_corner_30 0 rfl ?_
      refine am_iload_n C0 dX10_corner_31 2 rfl ?_
      refine am_bipush C0 dX10_corner_32 kb_m50 ?_
      refine am_bipush C0 dX10_corner_34 kb_50 ?_
      refine am_callV C0 (m_M_isIn (σ := σ_1) (Nat.le_refl _) x2 (-50) 50  rfl) mm_yX10_isIn ln_RX10_149 (As := fun b => [.int x2, .int (-50), .int 50]) (fun _ => rfl) (fun _ => rfl) (loM_7_0 kM0).1 (loM_7_0 kM0).2.1 rfl (Nat.le_trans (by decide) hd) rfl (Nat.le_of_ble_eq_true rfl) dX10_corner_36 ?_
      refine am_ifB_eq C0 dX10_corner_39 (tgt := 51) (by decide) (fun c_6 => ?_) (fun c_6 => ?_)
      · replace h := am_in h c_6
        refine am_iconst C0 dX10_corner_51 ci_m1 ?_
        have e := Option.some.inj h
        subst e
        exact hret _ _ dX10_corner_52
      · replace h := am_ip h c_6
        refine am_aload_n C0 dX10_corner_42 0 rfl ?_
        refine am_getI C0 ff_RX10_459 (loM_7_59 kM0).1 (loM_7_59 kM0).2.1 (loM_7_59 kM0).2.2.1 (loM_7_59 kM0).2.2.2 dX10_corner_43 ?_
        refine am_bipush C0 dX10_corner_46 kb_8 ?_
        refine am_icmp_ne C0 dX10_corner_48 (tgt := 53) (by decide) (fun c_7 => ?_) (fun c_7 => ?_)
        · replace h := am_in h c_7
          refine am_aload_n C0 dX10_corner_53 0 rfl ?_
          refine am_getR C0 (j := 36) ff_RX10_119 (loM_7_60 kM0).1 (loM_7_60 kM0).2.1 (loM_7_60 kM0).2.2.1 (loM_7_60 kM0).2.2.2 dX10_corner_54 ?_
          refine am_aload_n C0 dX10_corner_57 0 rfl ?_
          refine am_getI C0 ff_RX10_459 (loM_7_59 kM0).1 (loM_7_59 kM0).2.1 (loM_7_59 kM0).2.2.1 (loM_7_59 kM0).2.2.2 dX10_corner_58 ?_
          refine am_iload_n C0 dX10_corner_61 1 rfl ?_
          obtain ⟨σ_8, h_σ_8, h⟩ := am_bind h
          refine am_iast C0 (ltM (tgM_7_60 kM0)) (tgM_7_60 kM0) (lnM_7_60 kM0) h_σ_8 dX10_corner_62 ?_
          refine am_aload_n C0 dX10_corner_63 0 rfl ?_
          refine am_getR C0 (j := 37) ff_RX10_122 (loM_7_61 kM0).1 (loM_7_61 kM0).2.1 (loM_7_61 kM0).2.2.1 (loM_7_61 kM0).2.2.2 dX10_corner_64 ?_
          refine am_aload_n C0 dX10_corner_67 0 rfl ?_
          refine am_getI C0 ff_RX10_459 (loM_7_59 kM0).1 (loM_7_59 kM0).2.1 (loM_7_59 kM0).2.2.1 (loM_7_59 kM0).2.2.2 dX10_corner_68 ?_
          refine am_iload_n C0 dX10_corner_71 2 rfl ?_
          obtain ⟨σ_9, h_σ_9, h⟩ := am_bind h
          refine am_iast C0 (ltM (tgM_7_61 kM0)) (tgM_7_61 kM0) (lnM_7_61 kM0) h_σ_9 dX10_corner_72 ?_
          refine am_aload_n C0 dX10_corner_73 0 rfl ?_
          refine am_aload_n C0 dX10_corner_74 0 rfl ?_
          refine am_getI C0 ff_RX10_459 (loM_7_59 kM0).1 (loM_7_59 kM0).2.1 (loM_7_59 kM0).2.2.1 (loM_7_59 kM0).2.2.2 dX10_corner_75 ?_
          refine am_iconst C0 dX10_corner_78 ci_1 ?_
          refine am_iadd C0 dX10_corner_79 ?_
          obtain ⟨σ_10, e_σ_10, h⟩ := am_lt h
          refine am_putI C0 e_σ_10 fp_RX10_459 (loM_7_59 kM0).1 (loM_7_59 kM0).2.1 (loM_7_59 kM0).2.2.1 (loM_7_59 kM0).2.2.2 rfl rfl dX10_corner_80 ?_
          refine am_aload_n C0 dX10_corner_83 0 rfl ?_
          refine am_getI C0 ff_RX10_459 (loM_7_59 kM0).1 (loM_7_59 kM0).2.1 (loM_7_59 kM0).2.2.1 (loM_7_59 kM0).2.2.2 dX10_corner_84 ?_
          have e := Option.some.inj h
          subst e
          exact hret _ _ dX10_corner_87
        · replace h := am_ip h c_7
          refine am_iconst C0 dX10_corner_51 ci_m1 ?_
          have e := Option.some.inj h
          subst e
          exact hret _ _ dX10_corner_52
  · replace h := am_ip h c_2
    refine am_aload_n C0 dX10_corner_11 0 rfl ?_
    refine am_iconst C0 dX10_corner_12 ci_0 ?_
    obtain ⟨σ_11, e_σ_11, h⟩ := am_lt h
    refine am_putI C0 e_σ_11 fp_RX10_459 (loM_7_59 kM0).1 (loM_7_59 kM0).2.1 (loM_7_59 kM0).2.2.1 (loM_7_59 kM0).2.2.2 rfl rfl dX10_corner_13 ?_
    refine am_iconst C0 dX10_corner_16 ci_0 ?_
    have e := Option.some.inj h
    subst e
    exact hret _ _ dX10_corner_17
set_option maxRecDepth 100000 in
set_option maxHeartbeats 4000000 in
theorem m_M_corner {l : Launch} {d : Nat} {σ : am_SS} {q : Int32 × am_SS} (hd : 2 ≤ d) (x1 : Int32) (x2 : Int32) (h : M_corner x1 x2 σ = some q) : am_Met l yX10_corner cX10_corner 3 (some .int) d 0 0 LM (fun b => [.ref (b 0), .int x1, .int x2]) σ (some (.int q.1)) q.2 :=
  am_metI (plainFor_of_name (by decide)) rfl (lv := fun b => [(0, .ref (b 0)), (1, .int x1), (2, .int x2)]) (fun _ => rfl) (fun _ => Nat.le_of_ble_eq_true rfl) (fun G C0 _ hret => k_M_corner C0 hd hret x1 x2 σ  h)
