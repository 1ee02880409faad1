/-! L3: act, days -/
section
variable {F : Nat} {σ τ σ' τ' : am_SS} {n m : Nat}
theorem rl_D (h : rl_R σ τ) : ∃ n m, dy_D σ 2 false τ n m := by
  obtain ⟨hK, ⟨n, m, hFR, hFS, hIR, hIS, hBK, hGU, hLE, hKY, hBI, hQU, hCO, hOR, hSV, hND, hLW⟩, hPS, hTP, hFT, hIM⟩ := h
  obtain ⟨k1, k2, k3, k4, k5, k6, k7, k8, k9, k10, k11, k12, k13, k14, k15, k16, k17⟩ := hK
  exact ⟨n, m, .inl ⟨rfl, rfl⟩, ⟨hFR, hFS, hIR, hIS⟩, ⟨k2, k3, k4, k5, k6, hOR, hSV, hND, hLW⟩, hBK, k1, by simpa using k16⟩
theorem rl_E (h : rl_R σ τ) (e : dy_E 2 false n m σ τ σ' τ') : rl_R σ' τ' := by
  obtain ⟨⟨-, ⟨eFR, eFS, eIR, eIS⟩, ⟨t1, t2, t3, t4, t5, eOR, eSV, eND, eLW⟩, eBK, e13, eth⟩, hC, hM, -, hB⟩ := e
  have hs : ∀ c, c ≠ 20 → (c < 2 ∨ 12 < c) → c ≠ 13 → c ≠ 14 → σ' c = σ c := fun c a b d e => hC c a (by omega) (.inr ⟨d, e⟩)
  have ht : ∀ c, c ≠ 1 → c ≠ 22 → c ≠ 23 → c ≠ 8 → τ' c = τ c := fun c a b d e => hM c a b d (.inr e)
  clear hC hM
  obtain ⟨hK, ⟨n', m', hFR, hFS, hIR, hIS, hBK, hGU, hLE, hKY, hBI, hQU, hCO, hOR, hSV, hND, hLW⟩, hPS, hTP, hFT, hIM⟩ := h
  refine ⟨?_, ⟨n, m, eFR, eFS, eIR, eIS, eBK, ?_, ?_, ?_, ?_, ?_, ?_, eOR, eSV, eND, eLW⟩, ?_, ?_, ?_, ?_⟩
  · rw [e13, ht 0 (by omega) (by omega) (by omega) (by omega), ht 10 (by omega) (by omega) (by omega) (by omega)]
    have k13 : σ 13 0 = 4 := hK.1
    rw [k13] at hK
    simpa [hs] using hK
  · simpa [hs, ht] using hGU
  · simpa [hs, ht] using hLE
  · simpa [hs, ht] using hKY
  · simpa [hs, ht] using hBI
  · simpa [hs, ht] using hQU
  · simpa [hs, ht] using hCO
  · have hp : rl_pf σ' = rl_pf σ := by
      funext q c k
      simp only [rl_pf]
      by_cases g : q < 6 ∧ c < 11
      · rw [if_pos g, if_pos g, hs _ (by omega) (by omega) (by omega) (by omega)]
      · rw [if_neg g, if_neg g]
    rw [hp, hs 88 (by omega) (by omega) (by omega) (by omega), hs 90 (by omega) (by omega) (by omega) (by omega), ht 0 (by omega) (by omega) (by omega) (by omega), ht 2 (by omega) (by omega) (by omega) (by omega), ht 4 (by omega) (by omega) (by omega) (by omega),
      ht 5 (by omega) (by omega) (by omega) (by omega), ht 6 (by omega) (by omega) (by omega) (by omega), ht 7 (by omega) (by omega) (by omega) (by omega)]
    obtain ⟨p, u, b, hp, hu, hb, x1, x2, x3, x4, ⟨pp, hpp⟩, hrows⟩ := hPS
    obtain ⟨b', y1, y2, y3⟩ := hB b hb x4
    exact ⟨p, u, b', hp, hu, y2, x1, x2, x3, y3, ⟨pp, fun j hj => ⟨by have := (hpp j hj).1; omega, (hpp j hj).2⟩⟩, hrows⟩
  · simpa [hs, ht] using hTP
  · simpa [hs, ht] using hFT
  · rw [rl_IM_cg (fun c h1 h2 => hs c (by omega) (by omega) (by omega) (by omega))]
    simpa [hs, ht] using hIM
theorem ac_can (h : dy_D σ 2 false τ n m) (x y z : Int32) : ∃ b, C_War_canAct 1 x y z σ = some b ∧ M_canAct x y z τ = some b ∧
    (b = true → (x = 0 ∧ (∃ o, o < n ∧ y = Int32.ofNat o) ∧ rl_rg z 1 99) ∨ (x = 1 ∧ ∃ o, o < n ∧ y = Int32.ofNat o) ∨ (x = 2 ∧ ∃ o, o < n ∧ y = Int32.ofNat o) ∨ (x = 3 ∧ ∃ o, o < m ∧ y = Int32.ofNat o)) := by
  obtain ⟨hn, hm, e0, e8, e6, e7⟩ := dy_n h
  rw [C_War_canAct, M_canAct, won_M, Option.bind_some]
  by_cases q : 0 < τ 1 4
  · rw [if_neg (show ¬ σ (1 + 1) 13 = -1 from fun g => (dy_won h).mp g q), if_pos (by simp [q])]
    exact ⟨false, rfl, rfl, fun g => Bool.noConfusion g⟩
  rw [if_pos (show σ (1 + 1) 13 = -1 from (dy_won h).mpr q), if_neg (show ¬ decide (0 < τ 1 4) = true from by simp [q])]
  by_cases x0 : x = 0
  · rw [if_pos x0, if_pos x0]
    by_cases hy : ∃ o, o < n ∧ y = Int32.ofNat o
    · rw [if_pos ((ho_iff e0 hn).mpr hy), if_pos ((mo_iff e6 hn).mpr hy)]
      by_cases hz : rl_rg z 1 99
      · rw [if_neg (Int32.not_lt.mpr hz.1), if_neg (Int32.not_lt.mpr hz.2), if_pos (ni_in.mpr hz)]
        exact ⟨true, rfl, rfl, fun _ => .inl ⟨x0, hy, hz⟩⟩
      · rw [if_neg (fun g => hz (ni_in.mp g))]
        by_cases z1 : z < 1
        · rw [if_pos z1]; exact ⟨false, rfl, rfl, fun g => Bool.noConfusion g⟩
        · rw [if_neg z1, if_pos (Decidable.byContradiction (fun g => hz ⟨Int32.not_lt.mp z1, Int32.not_lt.mp g⟩))]
          exact ⟨false, rfl, rfl, fun g => Bool.noConfusion g⟩
    · rw [if_neg (fun g => hy ((ho_iff e0 hn).mp g)), if_neg (fun g => hy ((mo_iff e6 hn).mp g))]
      exact ⟨false, rfl, rfl, fun g => Bool.noConfusion g⟩
  rw [if_neg x0, if_neg x0]
  by_cases x1 : x = 1
  · subst x1
    rw [if_pos rfl, if_pos rfl, M_canAct_p48]
    by_cases hy : ∃ o, o < n ∧ y = Int32.ofNat o
    · rw [if_pos ((ho_iff e0 hn).mpr hy), if_pos ((mo_iff e6 hn).mpr hy)]
      obtain ⟨o, ho, rfl⟩ := hy
      have ho' : o < 12 := by omega
      have f := (dy_fr h).1.2.2.2.2 o ho'
      rw [dy_rC ho', Option.bind_some, show (41 : Int32) = Int32.ofNat 41 from rfl, dy_rM ho' 41 (by omega), Option.bind_some, show σ (1 + 1 + 6) o = τ 1 (41 + o) from f.2.2.2.1, show (1 : Int32) - 1 = 0 from rfl]
      by_cases t : τ 1 (41 + o) = 0
      · repeat rw [if_pos t]
        exact ⟨true, rfl, rfl, fun _ => .inr (.inl ⟨rfl, o, ho, rfl⟩)⟩
      · repeat rw [if_neg t]
        exact ⟨false, rfl, rfl, fun g => Bool.noConfusion g⟩
    · rw [if_neg (fun g => hy ((ho_iff e0 hn).mp g)), if_neg (fun g => hy ((mo_iff e6 hn).mp g))]
      exact ⟨false, rfl, rfl, fun g => Bool.noConfusion g⟩
  rw [if_neg x1, if_neg x1]
  by_cases x2 : x = 2
  · subst x2
    rw [if_pos rfl, if_pos rfl, M_canAct_p48]
    by_cases hy : ∃ o, o < n ∧ y = Int32.ofNat o
    · rw [if_pos ((ho_iff e0 hn).mpr hy), if_pos ((mo_iff e6 hn).mpr hy)]
      obtain ⟨o, ho, rfl⟩ := hy
      have ho' : o < 12 := by omega
      have f := (dy_fr h).1.2.2.2.2 o ho'
      rw [dy_rC ho', Option.bind_some, show (41 : Int32) = Int32.ofNat 41 from rfl, dy_rM ho' 41 (by omega), Option.bind_some, show σ (1 + 1 + 6) o = τ 1 (41 + o) from f.2.2.2.1, show (2 : Int32) - 1 = 1 from rfl]
      by_cases t : τ 1 (41 + o) = 1
      · repeat rw [if_pos t]
        exact ⟨true, rfl, rfl, fun _ => .inr (.inr (.inl ⟨rfl, o, ho, rfl⟩))⟩
      · repeat rw [if_neg t]
        exact ⟨false, rfl, rfl, fun g => Bool.noConfusion g⟩
    · rw [if_neg (fun g => hy ((ho_iff e0 hn).mp g)), if_neg (fun g => hy ((mo_iff e6 hn).mp g))]
      exact ⟨false, rfl, rfl, fun g => Bool.noConfusion g⟩
  rw [if_neg x2, if_neg x2]
  by_cases x3 : x = 3
  · subst x3
    rw [if_pos rfl, if_pos rfl]
    by_cases hy : ∃ o, o < m ∧ y = Int32.ofNat o
    · rw [if_pos ((hb_iff e8 hm).mpr hy), if_pos ((mb_iff e7 hm).mpr hy)]
      obtain ⟨o, ho, rfl⟩ := hy
      have ho' : o < 12 := by omega
      have f := (dy_fr h).1.2.2.2.2 o ho'
      rw [dy_rC ho', Option.bind_some, show (65 : Int32) = Int32.ofNat 65 from rfl, dy_rM ho' 65 (by omega), Option.bind_some, show σ (1 + 1 + 10) o = τ 1 (65 + o) from f.2.2.2.2.2]
      by_cases t : 0 < τ 1 (65 + o)
      · repeat rw [if_pos t]
        exact ⟨true, rfl, rfl, fun _ => .inr (.inr (.inr ⟨rfl, o, ho, rfl⟩))⟩
      · repeat rw [if_neg t]
        exact ⟨false, rfl, rfl, fun g => Bool.noConfusion g⟩
    · rw [if_neg (fun g => hy ((hb_iff e8 hm).mp g)), if_neg (fun g => hy ((mb_iff e7 hm).mp g))]
      exact ⟨false, rfl, rfl, fun g => Bool.noConfusion g⟩
  rw [if_neg x3, if_neg x3]
  exact ⟨false, rfl, rfl, fun g => Bool.noConfusion g⟩
theorem dy_tr (h : dy_D σ 2 false τ n m) (hs : ∀ c, c ≠ 88 → c ≠ 90 → (c < 91 ∨ 156 < c) → σ' c = σ c) (h1 : ∀ c, c ≠ 0 → c ≠ 2 → τ' c = τ c) (h2 : ∀ k, k ≠ 3 → τ' 0 k = τ 0 k) : dy_D σ' 2 false τ' n m := by
  obtain ⟨-, ⟨hFR, hFS, hIR, hIS⟩, ⟨t1, t2, t3, t4, t5, hOR, hSV, hND, hLW⟩, hBK, k13, hth⟩ := h
  refine ⟨.inl ⟨rfl, rfl⟩, ⟨?_, ?_, ?_, ?_⟩, ⟨?_, ?_, ?_, ?_, ?_, ?_, ?_, ?_, ?_⟩, ?_, ?_, ?_⟩
  · simpa [hs, h1, h2] using hFR
  · simpa [hs, h1, h2] using hFS
  · simpa [hs, h1, h2] using hIR
  · simpa [hs, h1, h2] using hIS
  · simpa [hs, h1, h2] using t1
  · simpa [hs, h1, h2] using t2
  · simpa [hs, h1, h2] using t3
  · simpa [hs, h1, h2] using t4
  · simpa [hs, h1, h2] using t5
  · simpa [hs, h1, h2] using hOR
  · simpa [hs, h1, h2] using hSV
  · simpa [hs, h1, h2] using hND
  · simpa [hs, h1, h2] using hLW
  · simpa [hs, h1, h2] using hBK
  · simpa [hs, h1, h2] using k13
  · simpa [hs, h1, h2] using hth
theorem ca_4 (F : Nat) (hF : 2000 ≤ F) : aj_S4 F rl_R := by
  intro x y z σ τ h
  have h := rl_told h 0
  simp only [C_act, M_act, am_let]
  generalize am_up τ 0 0 0 = τ at h ⊢
  obtain ⟨n, m, D⟩ := rl_D h
  obtain ⟨b, c1, c2, c3⟩ := ac_can D x y z
  rw [c1, c2, Option.bind_some, Option.bind_some]
  cases b with
  | false => rw [if_neg (by simp), if_neg (by simp)]; exact ⟨_, _, rfl, rfl, rfl, h⟩
  | true =>
    obtain ⟨σ1, τ1, k1, k2, h1, f1, f2, f3⟩ := kp_all hF h
    rw [if_pos rfl, if_pos rfl, k1, k2, Option.bind_some, Option.bind_some]
    have D1 := dy_tr D f1 f2 f3
    rcases c3 rfl with ⟨rfl, ⟨o, ho, rfl⟩, hz⟩ | ⟨rfl, o, ho, rfl⟩ | ⟨rfl, o, ho, rfl⟩ | ⟨rfl, o, ho, rfl⟩
    · obtain ⟨hn, hm, e0, e8, e6, e7⟩ := dy_n D1
      obtain ⟨σ2, τ2, m1, m2, E⟩ := dy_march hF D1 ho (v := z) ⟨by have := hz.1; grind, hz.2⟩
      rw [if_pos rfl, m2, Option.bind_some, M_act_p31, if_neg (by decide), M_act_p46, if_neg (by decide), M_act_p61, if_neg (by decide), C_War_perform, if_pos rfl, C_War_perform_p31, C_War_obey, if_neg (by decide), show (1 + 1 : Nat) = 2 from rfl, if_pos ((ho_iff e0 hn).mpr ⟨o, ho, rfl⟩), if_pos rfl, m1]
      exact ⟨_, _, rfl, rfl, rfl, rl_E h1 E⟩
    · obtain ⟨σ2, τ2, m1, m2, E⟩ := dy_hole (F := F) D1 ho true (cd := 10) (y := z) (.inl ⟨rfl, rfl⟩)
      have m2' : am_wr τ1 1 77 (Int32.ofNat 41 + Int32.ofNat o) 1 = some τ2 := m2
      rw [if_neg (by decide), M_act_p31, if_pos rfl, show (41 : Int32) = Int32.ofNat 41 from rfl, m2', Option.bind_some, M_act_p46, if_neg (by decide), M_act_p61, if_neg (by decide), C_War_perform, if_neg (by decide), if_pos rfl, C_War_perform_p31, show (1 + 1 : Nat) = 2 from rfl, m1]
      exact ⟨_, _, rfl, rfl, rfl, rl_E h1 E⟩
    · obtain ⟨σ2, τ2, m1, m2, E⟩ := dy_hole (F := F) D1 ho false (cd := 19) (y := z) (.inr ⟨rfl, rfl⟩)
      have m2' : am_wr τ1 1 77 (Int32.ofNat 41 + Int32.ofNat o) 0 = some τ2 := m2
      rw [if_neg (by decide), M_act_p31, if_neg (by decide), M_act_p46, if_pos rfl, show (41 : Int32) = Int32.ofNat 41 from rfl, m2', Option.bind_some, M_act_p61, if_neg (by decide), C_War_perform, if_neg (by decide), if_neg (by decide), if_pos rfl, C_War_perform_p31, show (1 + 1 : Nat) = 2 from rfl, m1]
      exact ⟨_, _, rfl, rfl, rfl, rl_E h1 E⟩
    · obtain ⟨σ2, τ2, m1, m2, E⟩ := dy_new (F := F) D1 ho (y := z)
      rw [if_neg (by decide), M_act_p31, if_neg (by decide), M_act_p46, if_neg (by decide), M_act_p61, if_pos rfl, show (65 : Int32) = Int32.ofNat 65 from rfl, m2, Option.bind_some, C_War_perform, if_neg (by decide), if_neg (by decide), if_neg (by decide), C_War_perform_p31, show (1 + 1 : Nat) = 2 from rfl, m1]
      exact ⟨_, _, rfl, rfl, rfl, rl_E h1 E⟩
theorem dd_loop {F N : Nat} (hF : 2000 ≤ F) (hN : N ≤ 60) : ∀ (d j k k' : Nat) (x : Int32) (σ τ : am_SS), rl_R σ τ → j + d = N → d < k → d < k' →
    ∃ r σ' τ', C_days_l35 F k (Int32.ofNat N) x (Int32.ofNat j) σ = some (r, σ') ∧ M_days_l36 F k' (Int32.ofNat N) x (Int32.ofNat j) τ = some (r, τ') ∧ rl_R σ' τ' := by
  intro d
  induction d with
  | zero =>
    intro j k k' x σ τ h hj hk hk'
    obtain ⟨k, rfl⟩ : ∃ n', k = n' + 1 := ⟨k - 1, by omega⟩
    obtain ⟨k', rfl⟩ : ∃ n', k' = n' + 1 := ⟨k' - 1, by omega⟩
    rw [C_days_l35, M_days_l36, if_neg (fun g => absurd ((ni_lt (by omega) (by omega)).mp g) (by omega)), if_neg (fun g => absurd ((ni_lt (by omega) (by omega)).mp g) (by omega))]
    exact ⟨_, _, _, rfl, rfl, h⟩
  | succ d ih =>
    intro j k k' x σ τ h hj hk hk'
    obtain ⟨k, rfl⟩ : ∃ n', k = n' + 1 := ⟨k - 1, by omega⟩
    obtain ⟨k', rfl⟩ : ∃ n', k' = n' + 1 := ⟨k' - 1, by omega⟩
    obtain ⟨n, m, D⟩ := rl_D h
    obtain ⟨σ1, τ1, k1, k2, h1, f1, f2, f3⟩ := kp_all hF h
    obtain ⟨r, σ2, τ2, m1, m2, E⟩ := dy_day hF (dy_tr D f1 f2 f3)
    rw [C_days_l35, M_days_l36, if_pos ((ni_lt (by omega) (by omega)).mpr (by omega)), if_pos ((ni_lt (by omega) (by omega)).mpr (by omega)), k1, k2, Option.bind_some, Option.bind_some, m1, m2, Option.bind_some, Option.bind_some, am_let, am_let, am_let, am_let, ni_succ]
    exact ih (j + 1) k k' _ σ2 τ2 (rl_E h1 E) (by omega) (by omega) (by omega)
theorem ca_5 (F : Nat) (hF : 2000 ≤ F) : aj_S5 F rl_R := by
  intro x σ τ h
  have h := rl_told h 0
  simp only [C_days, M_days, am_let]
  generalize am_up τ 0 0 0 = τ at h ⊢
  obtain ⟨n, m, D⟩ := rl_D h
  have e : σ 2 14 = τ 1 0 := (dy_fr D).1.2.2.1
  by_cases v : rl_rg x 1 60
  · rw [if_neg (Int32.not_lt.mpr v.1), if_neg (Int32.not_lt.mpr v.2), if_pos (ni_in.mpr v), rd_0 (by decide) (by decide), Option.bind_some, e]
    by_cases q : 9999 < τ 1 0 + x
    · rw [if_pos q, if_pos q]; exact ⟨_, _, rfl, rfl, rfl, h⟩
    · rw [if_neg q, if_neg q]
      obtain ⟨N, hN, rfl⟩ := ni_of (x := x) (by have := v.1; grind)
      have hN60 : N ≤ 60 := (ni_le (b := 60) hN (by omega)).mp v.2
      obtain ⟨r, σ', τ', d1, d2, h'⟩ := dd_loop (F := F) hF hN60 N 0 F F 0 σ τ h (by omega) (by omega) (by omega)
      rw [show Int32.ofNat 0 = 0 from rfl] at d1 d2
      rw [d1, d2]
      exact ⟨_, _, rfl, rfl, rfl, h'⟩
  · rw [if_neg (fun g => v (ni_in.mp g))]
    by_cases q : x < 1
    · rw [if_pos q]; exact ⟨_, _, rfl, rfl, rfl, h⟩
    · rw [if_neg q, if_pos (Decidable.byContradiction (fun g => v ⟨Int32.not_lt.mp q, Int32.not_lt.mp g⟩))]
      exact ⟨_, _, rfl, rfl, rfl, h⟩
end
