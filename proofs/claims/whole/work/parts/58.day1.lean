/-! L3: days: the relation within a day, and the single writes -/
def dy_D (σ : am_SS) (a : Nat) (th : Bool) (τ : am_SS) (n m : Nat) : Prop :=
  ((th = false ∧ a = 2) ∨ (th = true ∧ a = 77)) ∧ rl_Fr σ a τ n m ∧ rl_To σ τ n m ∧ rl_BK (σ 13 2) (σ 14) (τ 1 2) (τ 8) ∧ σ 13 0 = 4 ∧ τ 0 5 = (if th = true then 1 else 0)
def dy_f (a : Nat) (th : Bool) (σ τ σ' τ' : am_SS) : Prop :=
  (∀ c, c ≠ 20 → (c < a ∨ a + 10 < c) → (th = true ∨ (c ≠ 13 ∧ c ≠ 14)) → σ' c = σ c) ∧ (∀ c, c ≠ 1 → c ≠ 22 → c ≠ 23 → (th = true ∨ c ≠ 8) → τ' c = τ c) ∧ (th = true → τ' 1 2 = τ 1 2) ∧
  (∀ b : Nat, b ≤ 150 → τ 1 2 = Int32.ofNat b → ∃ b' : Nat, b ≤ b' ∧ b' ≤ 150 ∧ τ' 1 2 = Int32.ofNat b')
def dy_E (a : Nat) (th : Bool) (n m : Nat) (σ τ σ' τ' : am_SS) : Prop := dy_D σ' a th τ' n m ∧ dy_f a th σ τ σ' τ'
theorem dy_rfl {a : Nat} {th : Bool} {n m : Nat} {σ τ : am_SS} (h : dy_D σ a th τ n m) : dy_E a th n m σ τ σ τ := ⟨h, fun _ _ _ _ => rfl, fun _ _ _ _ _ => rfl, fun _ => rfl, fun b hb e => ⟨b, Nat.le_refl b, hb, e⟩⟩
theorem dy_trans {a : Nat} {th : Bool} {n m : Nat} {σ τ σ1 τ1 σ2 τ2 : am_SS} (h : dy_E a th n m σ τ σ1 τ1) (h' : dy_E a th n m σ1 τ1 σ2 τ2) : dy_E a th n m σ τ σ2 τ2 :=
  ⟨h'.1, fun c x y z => (h'.2.1 c x y z).trans (h.2.1 c x y z), fun c x y z t => (h'.2.2.1 c x y z t).trans (h.2.2.1 c x y z t), fun t => (h'.2.2.2.1 t).trans (h.2.2.2.1 t), fun b hb e => by
    obtain ⟨b1, x1, x2, x3⟩ := h.2.2.2.2 b hb e
    obtain ⟨b2, y1, y2, y3⟩ := h'.2.2.2.2 b1 x2 x3
    exact ⟨b2, by omega, y2, y3⟩⟩
section
variable {σ τ : am_SS} {a n m j : Nat} {th : Bool} {v : Int32}
theorem dy_sl (h : dy_D σ a th τ n m) (hj : j < 12) (hv : rl_rg v 0 99) : dy_E a th n m σ τ (am_up σ (a + 3) j (v)) (am_up τ 1 (5 + j) v) := by
  obtain ⟨ha, ⟨hFR, hFS, hIR, hIS⟩, ⟨t1, t2, t3, t4, t5, hOR, hSV, hND, hLW⟩, hBK, k13, hth⟩ := h
  have q2 : ¬ (2 = 5 + j) := by omega
  refine ⟨⟨ha, ?_⟩, ?_⟩
  · rcases ha with ⟨rfl, rfl⟩ | ⟨rfl, rfl⟩
    · refine ⟨⟨?_, ?_, ?_, ?_⟩, ⟨?_, ?_, ?_, ?_, ?_, ?_, ?_, ?_, ?_⟩, ?_, ?_, ?_⟩
      · simpa [am_up_ap, am_up_ne, am_up_row] using fr_sl (v := v) hFR hj
      · simpa [am_up_ap, am_up_ne, am_up_row] using hFS
      · simpa [am_up_ap, am_up_ne, am_up_row] using ir_sl (v := v) hIR hj hv
      · simpa [am_up_ap, am_up_ne, am_up_row] using hIS
      · simpa [am_up_ap, am_up_ne, am_up_row] using t1
      · simpa [am_up_ap, am_up_ne, am_up_row] using t2
      · simpa [am_up_ap, am_up_ne, am_up_row] using t3
      · simpa [am_up_ap, am_up_ne, am_up_row] using t4
      · simpa [am_up_ap, am_up_ne, am_up_row] using t5
      · simpa [am_up_ap, am_up_ne, am_up_row] using hOR
      · simpa [am_up_ap, am_up_ne, am_up_row] using hSV
      · simpa [am_up_ap, am_up_ne, am_up_row] using hND
      · simpa [am_up_ap, am_up_ne, am_up_row] using hLW
      · simpa [am_up_ap, am_up_ne, q2] using hBK
      · simpa [am_up_ap, am_up_ne, am_up_row] using k13
      · simpa [am_up_ap, am_up_ne, am_up_row] using hth
    · refine ⟨⟨?_, ?_, ?_, ?_⟩, ⟨?_, ?_, ?_, ?_, ?_, ?_, ?_, ?_, ?_⟩, ?_, ?_, ?_⟩
      · simpa [am_up_ap, am_up_ne, am_up_row] using fr_sl (v := v) hFR hj
      · simpa [am_up_ap, am_up_ne, am_up_row] using hFS
      · simpa [am_up_ap, am_up_ne, am_up_row] using ir_sl (v := v) hIR hj hv
      · simpa [am_up_ap, am_up_ne, am_up_row] using hIS
      · simpa [am_up_ap, am_up_ne, am_up_row] using t1
      · simpa [am_up_ap, am_up_ne, am_up_row] using t2
      · simpa [am_up_ap, am_up_ne, am_up_row] using t3
      · simpa [am_up_ap, am_up_ne, am_up_row] using t4
      · simpa [am_up_ap, am_up_ne, am_up_row] using t5
      · simpa [am_up_ap, am_up_ne, am_up_row] using hOR
      · simpa [am_up_ap, am_up_ne, am_up_row] using hSV
      · simpa [am_up_ap, am_up_ne, am_up_row] using hND
      · simpa [am_up_ap, am_up_ne, am_up_row] using hLW
      · simpa [am_up_ap, am_up_ne, q2] using hBK
      · simpa [am_up_ap, am_up_ne, am_up_row] using k13
      · simpa [am_up_ap, am_up_ne, am_up_row] using hth
  · refine ⟨fun c h1 h2 h3 => am_up_ne (by omega), fun c h1 h2 h3 h4 => am_up_ne (by omega), fun _ => ?_, fun b hb e => ⟨b, Nat.le_refl b, hb, ?_⟩⟩
    · rw [am_up_ap, if_neg (fun g => q2 g.2)]
    · rw [am_up_ap, if_neg (fun g => q2 g.2)]; exact e
theorem dy_pl (h : dy_D σ a th τ n m) (hj : j < 12) (hn : j < n ∨ v = 0) (hv : rl_rg v 0 99) : dy_E a th n m σ τ (am_up σ (a + 4) j (v)) (am_up τ 1 (17 + j) v) := by
  obtain ⟨ha, ⟨hFR, hFS, hIR, hIS⟩, ⟨t1, t2, t3, t4, t5, hOR, hSV, hND, hLW⟩, hBK, k13, hth⟩ := h
  have q2 : ¬ (2 = 17 + j) := by omega
  refine ⟨⟨ha, ?_⟩, ?_⟩
  · rcases ha with ⟨rfl, rfl⟩ | ⟨rfl, rfl⟩
    · refine ⟨⟨?_, ?_, ?_, ?_⟩, ⟨?_, ?_, ?_, ?_, ?_, ?_, ?_, ?_, ?_⟩, ?_, ?_, ?_⟩
      · simpa [am_up_ap, am_up_ne, am_up_row] using fr_pl (v := v) hFR hj
      · simpa [am_up_ap, am_up_ne, am_up_row] using hFS
      · simpa [am_up_ap, am_up_ne, am_up_row] using ir_pl (v := v) hIR hj hn hv
      · simpa [am_up_ap, am_up_ne, am_up_row] using hIS
      · simpa [am_up_ap, am_up_ne, am_up_row] using t1
      · simpa [am_up_ap, am_up_ne, am_up_row] using t2
      · simpa [am_up_ap, am_up_ne, am_up_row] using t3
      · simpa [am_up_ap, am_up_ne, am_up_row] using t4
      · simpa [am_up_ap, am_up_ne, am_up_row] using t5
      · simpa [am_up_ap, am_up_ne, am_up_row] using hOR
      · simpa [am_up_ap, am_up_ne, am_up_row] using hSV
      · simpa [am_up_ap, am_up_ne, am_up_row] using hND
      · simpa [am_up_ap, am_up_ne, am_up_row] using hLW
      · simpa [am_up_ap, am_up_ne, q2] using hBK
      · simpa [am_up_ap, am_up_ne, am_up_row] using k13
      · simpa [am_up_ap, am_up_ne, am_up_row] using hth
    · refine ⟨⟨?_, ?_, ?_, ?_⟩, ⟨?_, ?_, ?_, ?_, ?_, ?_, ?_, ?_, ?_⟩, ?_, ?_, ?_⟩
      · simpa [am_up_ap, am_up_ne, am_up_row] using fr_pl (v := v) hFR hj
      · simpa [am_up_ap, am_up_ne, am_up_row] using hFS
      · simpa [am_up_ap, am_up_ne, am_up_row] using ir_pl (v := v) hIR hj hn hv
      · simpa [am_up_ap, am_up_ne, am_up_row] using hIS
      · simpa [am_up_ap, am_up_ne, am_up_row] using t1
      · simpa [am_up_ap, am_up_ne, am_up_row] using t2
      · simpa [am_up_ap, am_up_ne, am_up_row] using t3
      · simpa [am_up_ap, am_up_ne, am_up_row] using t4
      · simpa [am_up_ap, am_up_ne, am_up_row] using t5
      · simpa [am_up_ap, am_up_ne, am_up_row] using hOR
      · simpa [am_up_ap, am_up_ne, am_up_row] using hSV
      · simpa [am_up_ap, am_up_ne, am_up_row] using hND
      · simpa [am_up_ap, am_up_ne, am_up_row] using hLW
      · simpa [am_up_ap, am_up_ne, q2] using hBK
      · simpa [am_up_ap, am_up_ne, am_up_row] using k13
      · simpa [am_up_ap, am_up_ne, am_up_row] using hth
  · refine ⟨fun c h1 h2 h3 => am_up_ne (by omega), fun c h1 h2 h3 h4 => am_up_ne (by omega), fun _ => ?_, fun b hb e => ⟨b, Nat.le_refl b, hb, ?_⟩⟩
    · rw [am_up_ap, if_neg (fun g => q2 g.2)]
    · rw [am_up_ap, if_neg (fun g => q2 g.2)]; exact e
theorem dy_rd (h : dy_D σ a th τ n m) (hj : j < 12) (hn : j < n ∨ v = 0) (hv : rl_rg v 0 1) : dy_E a th n m σ τ (am_up σ (a + 5) j (v)) (am_up τ 1 (29 + j) v) := by
  obtain ⟨ha, ⟨hFR, hFS, hIR, hIS⟩, ⟨t1, t2, t3, t4, t5, hOR, hSV, hND, hLW⟩, hBK, k13, hth⟩ := h
  have q2 : ¬ (2 = 29 + j) := by omega
  refine ⟨⟨ha, ?_⟩, ?_⟩
  · rcases ha with ⟨rfl, rfl⟩ | ⟨rfl, rfl⟩
    · refine ⟨⟨?_, ?_, ?_, ?_⟩, ⟨?_, ?_, ?_, ?_, ?_, ?_, ?_, ?_, ?_⟩, ?_, ?_, ?_⟩
      · simpa [am_up_ap, am_up_ne, am_up_row] using fr_rd (v := v) hFR hj
      · simpa [am_up_ap, am_up_ne, am_up_row] using hFS
      · simpa [am_up_ap, am_up_ne, am_up_row] using ir_rd (v := v) hIR hj hn hv
      · simpa [am_up_ap, am_up_ne, am_up_row] using hIS
      · simpa [am_up_ap, am_up_ne, am_up_row] using t1
      · simpa [am_up_ap, am_up_ne, am_up_row] using t2
      · simpa [am_up_ap, am_up_ne, am_up_row] using t3
      · simpa [am_up_ap, am_up_ne, am_up_row] using t4
      · simpa [am_up_ap, am_up_ne, am_up_row] using t5
      · simpa [am_up_ap, am_up_ne, am_up_row] using hOR
      · simpa [am_up_ap, am_up_ne, am_up_row] using hSV
      · simpa [am_up_ap, am_up_ne, am_up_row] using hND
      · simpa [am_up_ap, am_up_ne, am_up_row] using hLW
      · simpa [am_up_ap, am_up_ne, q2] using hBK
      · simpa [am_up_ap, am_up_ne, am_up_row] using k13
      · simpa [am_up_ap, am_up_ne, am_up_row] using hth
    · refine ⟨⟨?_, ?_, ?_, ?_⟩, ⟨?_, ?_, ?_, ?_, ?_, ?_, ?_, ?_, ?_⟩, ?_, ?_, ?_⟩
      · simpa [am_up_ap, am_up_ne, am_up_row] using fr_rd (v := v) hFR hj
      · simpa [am_up_ap, am_up_ne, am_up_row] using hFS
      · simpa [am_up_ap, am_up_ne, am_up_row] using ir_rd (v := v) hIR hj hn hv
      · simpa [am_up_ap, am_up_ne, am_up_row] using hIS
      · simpa [am_up_ap, am_up_ne, am_up_row] using t1
      · simpa [am_up_ap, am_up_ne, am_up_row] using t2
      · simpa [am_up_ap, am_up_ne, am_up_row] using t3
      · simpa [am_up_ap, am_up_ne, am_up_row] using t4
      · simpa [am_up_ap, am_up_ne, am_up_row] using t5
      · simpa [am_up_ap, am_up_ne, am_up_row] using hOR
      · simpa [am_up_ap, am_up_ne, am_up_row] using hSV
      · simpa [am_up_ap, am_up_ne, am_up_row] using hND
      · simpa [am_up_ap, am_up_ne, am_up_row] using hLW
      · simpa [am_up_ap, am_up_ne, q2] using hBK
      · simpa [am_up_ap, am_up_ne, am_up_row] using k13
      · simpa [am_up_ap, am_up_ne, am_up_row] using hth
  · refine ⟨fun c h1 h2 h3 => am_up_ne (by omega), fun c h1 h2 h3 h4 => am_up_ne (by omega), fun _ => ?_, fun b hb e => ⟨b, Nat.le_refl b, hb, ?_⟩⟩
    · rw [am_up_ap, if_neg (fun g => q2 g.2)]
    · rw [am_up_ap, if_neg (fun g => q2 g.2)]; exact e
theorem dy_ho (h : dy_D σ a th τ n m) (hj : j < 12) (hn : j < n ∨ v = 0) (hv : rl_rg v 0 1) : dy_E a th n m σ τ (am_up σ (a + 6) j (v)) (am_up τ 1 (41 + j) v) := by
  obtain ⟨ha, ⟨hFR, hFS, hIR, hIS⟩, ⟨t1, t2, t3, t4, t5, hOR, hSV, hND, hLW⟩, hBK, k13, hth⟩ := h
  have q2 : ¬ (2 = 41 + j) := by omega
  refine ⟨⟨ha, ?_⟩, ?_⟩
  · rcases ha with ⟨rfl, rfl⟩ | ⟨rfl, rfl⟩
    · refine ⟨⟨?_, ?_, ?_, ?_⟩, ⟨?_, ?_, ?_, ?_, ?_, ?_, ?_, ?_, ?_⟩, ?_, ?_, ?_⟩
      · simpa [am_up_ap, am_up_ne, am_up_row] using fr_ho (v := v) hFR hj
      · simpa [am_up_ap, am_up_ne, am_up_row] using hFS
      · simpa [am_up_ap, am_up_ne, am_up_row] using ir_ho (v := v) hIR hj hn hv
      · simpa [am_up_ap, am_up_ne, am_up_row] using hIS
      · simpa [am_up_ap, am_up_ne, am_up_row] using t1
      · simpa [am_up_ap, am_up_ne, am_up_row] using t2
      · simpa [am_up_ap, am_up_ne, am_up_row] using t3
      · simpa [am_up_ap, am_up_ne, am_up_row] using t4
      · simpa [am_up_ap, am_up_ne, am_up_row] using t5
      · simpa [am_up_ap, am_up_ne, am_up_row] using hOR
      · simpa [am_up_ap, am_up_ne, am_up_row] using hSV
      · simpa [am_up_ap, am_up_ne, am_up_row] using hND
      · simpa [am_up_ap, am_up_ne, am_up_row] using hLW
      · simpa [am_up_ap, am_up_ne, q2] using hBK
      · simpa [am_up_ap, am_up_ne, am_up_row] using k13
      · simpa [am_up_ap, am_up_ne, am_up_row] using hth
    · refine ⟨⟨?_, ?_, ?_, ?_⟩, ⟨?_, ?_, ?_, ?_, ?_, ?_, ?_, ?_, ?_⟩, ?_, ?_, ?_⟩
      · simpa [am_up_ap, am_up_ne, am_up_row] using fr_ho (v := v) hFR hj
      · simpa [am_up_ap, am_up_ne, am_up_row] using hFS
      · simpa [am_up_ap, am_up_ne, am_up_row] using ir_ho (v := v) hIR hj hn hv
      · simpa [am_up_ap, am_up_ne, am_up_row] using hIS
      · simpa [am_up_ap, am_up_ne, am_up_row] using t1
      · simpa [am_up_ap, am_up_ne, am_up_row] using t2
      · simpa [am_up_ap, am_up_ne, am_up_row] using t3
      · simpa [am_up_ap, am_up_ne, am_up_row] using t4
      · simpa [am_up_ap, am_up_ne, am_up_row] using t5
      · simpa [am_up_ap, am_up_ne, am_up_row] using hOR
      · simpa [am_up_ap, am_up_ne, am_up_row] using hSV
      · simpa [am_up_ap, am_up_ne, am_up_row] using hND
      · simpa [am_up_ap, am_up_ne, am_up_row] using hLW
      · simpa [am_up_ap, am_up_ne, q2] using hBK
      · simpa [am_up_ap, am_up_ne, am_up_row] using k13
      · simpa [am_up_ap, am_up_ne, am_up_row] using hth
  · refine ⟨fun c h1 h2 h3 => am_up_ne (by omega), fun c h1 h2 h3 h4 => am_up_ne (by omega), fun _ => ?_, fun b hb e => ⟨b, Nat.le_refl b, hb, ?_⟩⟩
    · rw [am_up_ap, if_neg (fun g => q2 g.2)]
    · rw [am_up_ap, if_neg (fun g => q2 g.2)]; exact e
theorem dy_dn (h : dy_D σ a th τ n m) (hj : j < 12) (hn : j < n ∨ v = 0) : dy_E a th n m σ τ (am_up σ (a + 7) j (v)) (am_up τ 1 (53 + j) v) := by
  obtain ⟨ha, ⟨hFR, hFS, hIR, hIS⟩, ⟨t1, t2, t3, t4, t5, hOR, hSV, hND, hLW⟩, hBK, k13, hth⟩ := h
  have q2 : ¬ (2 = 53 + j) := by omega
  refine ⟨⟨ha, ?_⟩, ?_⟩
  · rcases ha with ⟨rfl, rfl⟩ | ⟨rfl, rfl⟩
    · refine ⟨⟨?_, ?_, ?_, ?_⟩, ⟨?_, ?_, ?_, ?_, ?_, ?_, ?_, ?_, ?_⟩, ?_, ?_, ?_⟩
      · simpa [am_up_ap, am_up_ne, am_up_row] using fr_dn (v := v) hFR hj
      · simpa [am_up_ap, am_up_ne, am_up_row] using hFS
      · simpa [am_up_ap, am_up_ne, am_up_row] using ir_dn (v := v) hIR hj hn
      · simpa [am_up_ap, am_up_ne, am_up_row] using hIS
      · simpa [am_up_ap, am_up_ne, am_up_row] using t1
      · simpa [am_up_ap, am_up_ne, am_up_row] using t2
      · simpa [am_up_ap, am_up_ne, am_up_row] using t3
      · simpa [am_up_ap, am_up_ne, am_up_row] using t4
      · simpa [am_up_ap, am_up_ne, am_up_row] using t5
      · simpa [am_up_ap, am_up_ne, am_up_row] using hOR
      · simpa [am_up_ap, am_up_ne, am_up_row] using hSV
      · simpa [am_up_ap, am_up_ne, am_up_row] using hND
      · simpa [am_up_ap, am_up_ne, am_up_row] using hLW
      · simpa [am_up_ap, am_up_ne, q2] using hBK
      · simpa [am_up_ap, am_up_ne, am_up_row] using k13
      · simpa [am_up_ap, am_up_ne, am_up_row] using hth
    · refine ⟨⟨?_, ?_, ?_, ?_⟩, ⟨?_, ?_, ?_, ?_, ?_, ?_, ?_, ?_, ?_⟩, ?_, ?_, ?_⟩
      · simpa [am_up_ap, am_up_ne, am_up_row] using fr_dn (v := v) hFR hj
      · simpa [am_up_ap, am_up_ne, am_up_row] using hFS
      · simpa [am_up_ap, am_up_ne, am_up_row] using ir_dn (v := v) hIR hj hn
      · simpa [am_up_ap, am_up_ne, am_up_row] using hIS
      · simpa [am_up_ap, am_up_ne, am_up_row] using t1
      · simpa [am_up_ap, am_up_ne, am_up_row] using t2
      · simpa [am_up_ap, am_up_ne, am_up_row] using t3
      · simpa [am_up_ap, am_up_ne, am_up_row] using t4
      · simpa [am_up_ap, am_up_ne, am_up_row] using t5
      · simpa [am_up_ap, am_up_ne, am_up_row] using hOR
      · simpa [am_up_ap, am_up_ne, am_up_row] using hSV
      · simpa [am_up_ap, am_up_ne, am_up_row] using hND
      · simpa [am_up_ap, am_up_ne, am_up_row] using hLW
      · simpa [am_up_ap, am_up_ne, q2] using hBK
      · simpa [am_up_ap, am_up_ne, am_up_row] using k13
      · simpa [am_up_ap, am_up_ne, am_up_row] using hth
  · refine ⟨fun c h1 h2 h3 => am_up_ne (by omega), fun c h1 h2 h3 h4 => am_up_ne (by omega), fun _ => ?_, fun b hb e => ⟨b, Nat.le_refl b, hb, ?_⟩⟩
    · rw [am_up_ap, if_neg (fun g => q2 g.2)]
    · rw [am_up_ap, if_neg (fun g => q2 g.2)]; exact e
theorem dy_we (h : dy_D σ a th τ n m) (hj : j < 12) (hm : j < m ∨ v = 0) (hv : rl_rg v 0 99) : dy_E a th n m σ τ (am_up σ (a + 10) j (v)) (am_up τ 1 (65 + j) v) := by
  obtain ⟨ha, ⟨hFR, hFS, hIR, hIS⟩, ⟨t1, t2, t3, t4, t5, hOR, hSV, hND, hLW⟩, hBK, k13, hth⟩ := h
  have q2 : ¬ (2 = 65 + j) := by omega
  refine ⟨⟨ha, ?_⟩, ?_⟩
  · rcases ha with ⟨rfl, rfl⟩ | ⟨rfl, rfl⟩
    · refine ⟨⟨?_, ?_, ?_, ?_⟩, ⟨?_, ?_, ?_, ?_, ?_, ?_, ?_, ?_, ?_⟩, ?_, ?_, ?_⟩
      · simpa [am_up_ap, am_up_ne, am_up_row] using fr_we (v := v) hFR hj
      · simpa [am_up_ap, am_up_ne, am_up_row] using hFS
      · simpa [am_up_ap, am_up_ne, am_up_row] using ir_we (v := v) hIR hj hm hv
      · simpa [am_up_ap, am_up_ne, am_up_row] using hIS
      · simpa [am_up_ap, am_up_ne, am_up_row] using t1
      · simpa [am_up_ap, am_up_ne, am_up_row] using t2
      · simpa [am_up_ap, am_up_ne, am_up_row] using t3
      · simpa [am_up_ap, am_up_ne, am_up_row] using t4
      · simpa [am_up_ap, am_up_ne, am_up_row] using t5
      · simpa [am_up_ap, am_up_ne, am_up_row] using hOR
      · simpa [am_up_ap, am_up_ne, am_up_row] using hSV
      · simpa [am_up_ap, am_up_ne, am_up_row] using hND
      · simpa [am_up_ap, am_up_ne, am_up_row] using hLW
      · simpa [am_up_ap, am_up_ne, q2] using hBK
      · simpa [am_up_ap, am_up_ne, am_up_row] using k13
      · simpa [am_up_ap, am_up_ne, am_up_row] using hth
    · refine ⟨⟨?_, ?_, ?_, ?_⟩, ⟨?_, ?_, ?_, ?_, ?_, ?_, ?_, ?_, ?_⟩, ?_, ?_, ?_⟩
      · simpa [am_up_ap, am_up_ne, am_up_row] using fr_we (v := v) hFR hj
      · simpa [am_up_ap, am_up_ne, am_up_row] using hFS
      · simpa [am_up_ap, am_up_ne, am_up_row] using ir_we (v := v) hIR hj hm hv
      · simpa [am_up_ap, am_up_ne, am_up_row] using hIS
      · simpa [am_up_ap, am_up_ne, am_up_row] using t1
      · simpa [am_up_ap, am_up_ne, am_up_row] using t2
      · simpa [am_up_ap, am_up_ne, am_up_row] using t3
      · simpa [am_up_ap, am_up_ne, am_up_row] using t4
      · simpa [am_up_ap, am_up_ne, am_up_row] using t5
      · simpa [am_up_ap, am_up_ne, am_up_row] using hOR
      · simpa [am_up_ap, am_up_ne, am_up_row] using hSV
      · simpa [am_up_ap, am_up_ne, am_up_row] using hND
      · simpa [am_up_ap, am_up_ne, am_up_row] using hLW
      · simpa [am_up_ap, am_up_ne, q2] using hBK
      · simpa [am_up_ap, am_up_ne, am_up_row] using k13
      · simpa [am_up_ap, am_up_ne, am_up_row] using hth
  · refine ⟨fun c h1 h2 h3 => am_up_ne (by omega), fun c h1 h2 h3 h4 => am_up_ne (by omega), fun _ => ?_, fun b hb e => ⟨b, Nat.le_refl b, hb, ?_⟩⟩
    · rw [am_up_ap, if_neg (fun g => q2 g.2)]
    · rw [am_up_ap, if_neg (fun g => q2 g.2)]; exact e
theorem dy_ln (h : dy_D σ a th τ n m) (hv : rl_rg v (-99) 99) : dy_E a th n m σ τ (am_up σ (a) 12 (v)) (am_up τ 1 (3) v) := by
  obtain ⟨ha, ⟨hFR, hFS, hIR, hIS⟩, ⟨t1, t2, t3, t4, t5, hOR, hSV, hND, hLW⟩, hBK, k13, hth⟩ := h
  have q2 : ¬ (2 = 3) := by omega
  refine ⟨⟨ha, ?_⟩, ?_⟩
  · rcases ha with ⟨rfl, rfl⟩ | ⟨rfl, rfl⟩
    · refine ⟨⟨?_, ?_, ?_, ?_⟩, ⟨?_, ?_, ?_, ?_, ?_, ?_, ?_, ?_, ?_⟩, ?_, ?_, ?_⟩
      · simpa [am_up_ap, am_up_ne, am_up_row] using fr_ln (v := v) hFR 
      · simpa [am_up_ap, am_up_ne, am_up_row] using hFS
      · simpa [am_up_ap, am_up_ne, am_up_row] using ir_ln (v := v) hIR hv
      · simpa [am_up_ap, am_up_ne, am_up_row] using hIS
      · simpa [am_up_ap, am_up_ne, am_up_row] using t1
      · simpa [am_up_ap, am_up_ne, am_up_row] using t2
      · simpa [am_up_ap, am_up_ne, am_up_row] using t3
      · simpa [am_up_ap, am_up_ne, am_up_row] using t4
      · simpa [am_up_ap, am_up_ne, am_up_row] using t5
      · simpa [am_up_ap, am_up_ne, am_up_row] using hOR
      · simpa [am_up_ap, am_up_ne, am_up_row] using hSV
      · simpa [am_up_ap, am_up_ne, am_up_row] using hND
      · simpa [am_up_ap, am_up_ne, am_up_row] using hLW
      · simpa [am_up_ap, am_up_ne, q2] using hBK
      · simpa [am_up_ap, am_up_ne, am_up_row] using k13
      · simpa [am_up_ap, am_up_ne, am_up_row] using hth
    · refine ⟨⟨?_, ?_, ?_, ?_⟩, ⟨?_, ?_, ?_, ?_, ?_, ?_, ?_, ?_, ?_⟩, ?_, ?_, ?_⟩
      · simpa [am_up_ap, am_up_ne, am_up_row] using fr_ln (v := v) hFR 
      · simpa [am_up_ap, am_up_ne, am_up_row] using hFS
      · simpa [am_up_ap, am_up_ne, am_up_row] using ir_ln (v := v) hIR hv
      · simpa [am_up_ap, am_up_ne, am_up_row] using hIS
      · simpa [am_up_ap, am_up_ne, am_up_row] using t1
      · simpa [am_up_ap, am_up_ne, am_up_row] using t2
      · simpa [am_up_ap, am_up_ne, am_up_row] using t3
      · simpa [am_up_ap, am_up_ne, am_up_row] using t4
      · simpa [am_up_ap, am_up_ne, am_up_row] using t5
      · simpa [am_up_ap, am_up_ne, am_up_row] using hOR
      · simpa [am_up_ap, am_up_ne, am_up_row] using hSV
      · simpa [am_up_ap, am_up_ne, am_up_row] using hND
      · simpa [am_up_ap, am_up_ne, am_up_row] using hLW
      · simpa [am_up_ap, am_up_ne, q2] using hBK
      · simpa [am_up_ap, am_up_ne, am_up_row] using k13
      · simpa [am_up_ap, am_up_ne, am_up_row] using hth
  · refine ⟨fun c h1 h2 h3 => am_up_ne (by omega), fun c h1 h2 h3 h4 => am_up_ne (by omega), fun _ => ?_, fun b hb e => ⟨b, Nat.le_refl b, hb, ?_⟩⟩
    · rw [am_up_ap, if_neg (fun g => q2 g.2)]
    · rw [am_up_ap, if_neg (fun g => q2 g.2)]; exact e
theorem dy_dy (h : dy_D σ a th τ n m) : dy_E a th n m σ τ (am_up σ (a) 14 (v)) (am_up τ 1 (0) v) := by
  obtain ⟨ha, ⟨hFR, hFS, hIR, hIS⟩, ⟨t1, t2, t3, t4, t5, hOR, hSV, hND, hLW⟩, hBK, k13, hth⟩ := h
  have q2 : ¬ (2 = 0) := by omega
  refine ⟨⟨ha, ?_⟩, ?_⟩
  · rcases ha with ⟨rfl, rfl⟩ | ⟨rfl, rfl⟩
    · refine ⟨⟨?_, ?_, ?_, ?_⟩, ⟨?_, ?_, ?_, ?_, ?_, ?_, ?_, ?_, ?_⟩, ?_, ?_, ?_⟩
      · simpa [am_up_ap, am_up_ne, am_up_row] using fr_dy (v := v) hFR 
      · simpa [am_up_ap, am_up_ne, am_up_row] using hFS
      · simpa [am_up_ap, am_up_ne, am_up_row] using ir_dy (v := v) hIR 
      · simpa [am_up_ap, am_up_ne, am_up_row] using hIS
      · simpa [am_up_ap, am_up_ne, am_up_row] using t1
      · simpa [am_up_ap, am_up_ne, am_up_row] using t2
      · simpa [am_up_ap, am_up_ne, am_up_row] using t3
      · simpa [am_up_ap, am_up_ne, am_up_row] using t4
      · simpa [am_up_ap, am_up_ne, am_up_row] using t5
      · simpa [am_up_ap, am_up_ne, am_up_row] using hOR
      · simpa [am_up_ap, am_up_ne, am_up_row] using hSV
      · simpa [am_up_ap, am_up_ne, am_up_row] using hND
      · simpa [am_up_ap, am_up_ne, am_up_row] using hLW
      · simpa [am_up_ap, am_up_ne, q2] using hBK
      · simpa [am_up_ap, am_up_ne, am_up_row] using k13
      · simpa [am_up_ap, am_up_ne, am_up_row] using hth
    · refine ⟨⟨?_, ?_, ?_, ?_⟩, ⟨?_, ?_, ?_, ?_, ?_, ?_, ?_, ?_, ?_⟩, ?_, ?_, ?_⟩
      · simpa [am_up_ap, am_up_ne, am_up_row] using fr_dy (v := v) hFR 
      · simpa [am_up_ap, am_up_ne, am_up_row] using hFS
      · simpa [am_up_ap, am_up_ne, am_up_row] using ir_dy (v := v) hIR 
      · simpa [am_up_ap, am_up_ne, am_up_row] using hIS
      · simpa [am_up_ap, am_up_ne, am_up_row] using t1
      · simpa [am_up_ap, am_up_ne, am_up_row] using t2
      · simpa [am_up_ap, am_up_ne, am_up_row] using t3
      · simpa [am_up_ap, am_up_ne, am_up_row] using t4
      · simpa [am_up_ap, am_up_ne, am_up_row] using t5
      · simpa [am_up_ap, am_up_ne, am_up_row] using hOR
      · simpa [am_up_ap, am_up_ne, am_up_row] using hSV
      · simpa [am_up_ap, am_up_ne, am_up_row] using hND
      · simpa [am_up_ap, am_up_ne, am_up_row] using hLW
      · simpa [am_up_ap, am_up_ne, q2] using hBK
      · simpa [am_up_ap, am_up_ne, am_up_row] using k13
      · simpa [am_up_ap, am_up_ne, am_up_row] using hth
  · refine ⟨fun c h1 h2 h3 => am_up_ne (by omega), fun c h1 h2 h3 h4 => am_up_ne (by omega), fun _ => ?_, fun b hb e => ⟨b, Nat.le_refl b, hb, ?_⟩⟩
    · rw [am_up_ap, if_neg (fun g => q2 g.2)]
    · rw [am_up_ap, if_neg (fun g => q2 g.2)]; exact e
theorem dy_st (h : dy_D σ a th τ n m) : dy_E a th n m σ τ (am_up σ (a) 15 (v)) (am_up τ 1 (1) v) := by
  obtain ⟨ha, ⟨hFR, hFS, hIR, hIS⟩, ⟨t1, t2, t3, t4, t5, hOR, hSV, hND, hLW⟩, hBK, k13, hth⟩ := h
  have q2 : ¬ (2 = 1) := by omega
  refine ⟨⟨ha, ?_⟩, ?_⟩
  · rcases ha with ⟨rfl, rfl⟩ | ⟨rfl, rfl⟩
    · refine ⟨⟨?_, ?_, ?_, ?_⟩, ⟨?_, ?_, ?_, ?_, ?_, ?_, ?_, ?_, ?_⟩, ?_, ?_, ?_⟩
      · simpa [am_up_ap, am_up_ne, am_up_row] using fr_st (v := v) hFR 
      · simpa [am_up_ap, am_up_ne, am_up_row] using hFS
      · simpa [am_up_ap, am_up_ne, am_up_row] using ir_st (v := v) hIR 
      · simpa [am_up_ap, am_up_ne, am_up_row] using hIS
      · simpa [am_up_ap, am_up_ne, am_up_row] using t1
      · simpa [am_up_ap, am_up_ne, am_up_row] using t2
      · simpa [am_up_ap, am_up_ne, am_up_row] using t3
      · simpa [am_up_ap, am_up_ne, am_up_row] using t4
      · simpa [am_up_ap, am_up_ne, am_up_row] using t5
      · simpa [am_up_ap, am_up_ne, am_up_row] using hOR
      · simpa [am_up_ap, am_up_ne, am_up_row] using hSV
      · simpa [am_up_ap, am_up_ne, am_up_row] using hND
      · simpa [am_up_ap, am_up_ne, am_up_row] using hLW
      · simpa [am_up_ap, am_up_ne, q2] using hBK
      · simpa [am_up_ap, am_up_ne, am_up_row] using k13
      · simpa [am_up_ap, am_up_ne, am_up_row] using hth
    · refine ⟨⟨?_, ?_, ?_, ?_⟩, ⟨?_, ?_, ?_, ?_, ?_, ?_, ?_, ?_, ?_⟩, ?_, ?_, ?_⟩
      · simpa [am_up_ap, am_up_ne, am_up_row] using fr_st (v := v) hFR 
      · simpa [am_up_ap, am_up_ne, am_up_row] using hFS
      · simpa [am_up_ap, am_up_ne, am_up_row] using ir_st (v := v) hIR 
      · simpa [am_up_ap, am_up_ne, am_up_row] using hIS
      · simpa [am_up_ap, am_up_ne, am_up_row] using t1
      · simpa [am_up_ap, am_up_ne, am_up_row] using t2
      · simpa [am_up_ap, am_up_ne, am_up_row] using t3
      · simpa [am_up_ap, am_up_ne, am_up_row] using t4
      · simpa [am_up_ap, am_up_ne, am_up_row] using t5
      · simpa [am_up_ap, am_up_ne, am_up_row] using hOR
      · simpa [am_up_ap, am_up_ne, am_up_row] using hSV
      · simpa [am_up_ap, am_up_ne, am_up_row] using hND
      · simpa [am_up_ap, am_up_ne, am_up_row] using hLW
      · simpa [am_up_ap, am_up_ne, q2] using hBK
      · simpa [am_up_ap, am_up_ne, am_up_row] using k13
      · simpa [am_up_ap, am_up_ne, am_up_row] using hth
  · refine ⟨fun c h1 h2 h3 => am_up_ne (by omega), fun c h1 h2 h3 h4 => am_up_ne (by omega), fun _ => ?_, fun b hb e => ⟨b, Nat.le_refl b, hb, ?_⟩⟩
    · rw [am_up_ap, if_neg (fun g => q2 g.2)]
    · rw [am_up_ap, if_neg (fun g => q2 g.2)]; exact e
theorem dy_wn (h : dy_D σ a th τ n m) (hv : rl_rg v 0 2) : dy_E a th n m σ τ (am_up σ (a) 13 (v - 1)) (am_up τ 1 (4) v) := by
  obtain ⟨ha, ⟨hFR, hFS, hIR, hIS⟩, ⟨t1, t2, t3, t4, t5, hOR, hSV, hND, hLW⟩, hBK, k13, hth⟩ := h
  have q2 : ¬ (2 = 4) := by omega
  refine ⟨⟨ha, ?_⟩, ?_⟩
  · rcases ha with ⟨rfl, rfl⟩ | ⟨rfl, rfl⟩
    · refine ⟨⟨?_, ?_, ?_, ?_⟩, ⟨?_, ?_, ?_, ?_, ?_, ?_, ?_, ?_, ?_⟩, ?_, ?_, ?_⟩
      · simpa [am_up_ap, am_up_ne, am_up_row] using fr_wn (v := v) hFR 
      · simpa [am_up_ap, am_up_ne, am_up_row] using hFS
      · simpa [am_up_ap, am_up_ne, am_up_row] using ir_wn (v := v) hIR hv
      · simpa [am_up_ap, am_up_ne, am_up_row] using hIS
      · simpa [am_up_ap, am_up_ne, am_up_row] using t1
      · simpa [am_up_ap, am_up_ne, am_up_row] using t2
      · simpa [am_up_ap, am_up_ne, am_up_row] using t3
      · simpa [am_up_ap, am_up_ne, am_up_row] using t4
      · simpa [am_up_ap, am_up_ne, am_up_row] using t5
      · simpa [am_up_ap, am_up_ne, am_up_row] using hOR
      · simpa [am_up_ap, am_up_ne, am_up_row] using hSV
      · simpa [am_up_ap, am_up_ne, am_up_row] using hND
      · simpa [am_up_ap, am_up_ne, am_up_row] using hLW
      · simpa [am_up_ap, am_up_ne, q2] using hBK
      · simpa [am_up_ap, am_up_ne, am_up_row] using k13
      · simpa [am_up_ap, am_up_ne, am_up_row] using hth
    · refine ⟨⟨?_, ?_, ?_, ?_⟩, ⟨?_, ?_, ?_, ?_, ?_, ?_, ?_, ?_, ?_⟩, ?_, ?_, ?_⟩
      · simpa [am_up_ap, am_up_ne, am_up_row] using fr_wn (v := v) hFR 
      · simpa [am_up_ap, am_up_ne, am_up_row] using hFS
      · simpa [am_up_ap, am_up_ne, am_up_row] using ir_wn (v := v) hIR hv
      · simpa [am_up_ap, am_up_ne, am_up_row] using hIS
      · simpa [am_up_ap, am_up_ne, am_up_row] using t1
      · simpa [am_up_ap, am_up_ne, am_up_row] using t2
      · simpa [am_up_ap, am_up_ne, am_up_row] using t3
      · simpa [am_up_ap, am_up_ne, am_up_row] using t4
      · simpa [am_up_ap, am_up_ne, am_up_row] using t5
      · simpa [am_up_ap, am_up_ne, am_up_row] using hOR
      · simpa [am_up_ap, am_up_ne, am_up_row] using hSV
      · simpa [am_up_ap, am_up_ne, am_up_row] using hND
      · simpa [am_up_ap, am_up_ne, am_up_row] using hLW
      · simpa [am_up_ap, am_up_ne, q2] using hBK
      · simpa [am_up_ap, am_up_ne, am_up_row] using k13
      · simpa [am_up_ap, am_up_ne, am_up_row] using hth
  · refine ⟨fun c h1 h2 h3 => am_up_ne (by omega), fun c h1 h2 h3 h4 => am_up_ne (by omega), fun _ => ?_, fun b hb e => ⟨b, Nat.le_refl b, hb, ?_⟩⟩
    · rw [am_up_ap, if_neg (fun g => q2 g.2)]
    · rw [am_up_ap, if_neg (fun g => q2 g.2)]; exact e
theorem dy_ask {g A h' : Nat → Int32} (h : dy_D σ a th τ n m) : dy_E a th n m σ τ (am_row σ 20 g) (am_row (am_row τ 22 A) 23 h') := by
  obtain ⟨ha, ⟨hFR, hFS, hIR, hIS⟩, ⟨t1, t2, t3, t4, t5, hOR, hSV, hND, hLW⟩, hBK, k13, hth⟩ := h
  refine ⟨⟨ha, ?_⟩, ?_⟩
  · rcases ha with ⟨rfl, rfl⟩ | ⟨rfl, rfl⟩
    · refine ⟨⟨?_, ?_, ?_, ?_⟩, ⟨?_, ?_, ?_, ?_, ?_, ?_, ?_, ?_, ?_⟩, ?_, ?_, ?_⟩
      · simpa [am_row_ne] using hFR
      · simpa [am_row_ne] using hFS
      · simpa [am_row_ne] using hIR
      · simpa [am_row_ne] using hIS
      · simpa [am_row_ne] using t1
      · simpa [am_row_ne] using t2
      · simpa [am_row_ne] using t3
      · simpa [am_row_ne] using t4
      · simpa [am_row_ne] using t5
      · simpa [am_row_ne] using hOR
      · simpa [am_row_ne] using hSV
      · simpa [am_row_ne] using hND
      · simpa [am_row_ne] using hLW
      · simpa [am_row_ne] using hBK
      · simpa [am_row_ne] using k13
      · simpa [am_row_ne] using hth
    · refine ⟨⟨?_, ?_, ?_, ?_⟩, ⟨?_, ?_, ?_, ?_, ?_, ?_, ?_, ?_, ?_⟩, ?_, ?_, ?_⟩
      · simpa [am_row_ne] using hFR
      · simpa [am_row_ne] using hFS
      · simpa [am_row_ne] using hIR
      · simpa [am_row_ne] using hIS
      · simpa [am_row_ne] using t1
      · simpa [am_row_ne] using t2
      · simpa [am_row_ne] using t3
      · simpa [am_row_ne] using t4
      · simpa [am_row_ne] using t5
      · simpa [am_row_ne] using hOR
      · simpa [am_row_ne] using hSV
      · simpa [am_row_ne] using hND
      · simpa [am_row_ne] using hLW
      · simpa [am_row_ne] using hBK
      · simpa [am_row_ne] using k13
      · simpa [am_row_ne] using hth
  · exact ⟨fun c h1 h2 h3 => am_row_ne (by omega), fun c h1 h2 h3 h4 => by rw [am_row_ne (by omega), am_row_ne (by omega)], fun _ => by rw [am_row_ne (by omega), am_row_ne (by omega)], fun b hb e => ⟨b, Nat.le_refl b, hb, by rw [am_row_ne (by omega), am_row_ne (by omega)]; exact e⟩⟩
theorem dy_note {F : Nat} {cd w v : Int32} (hF : 2000 ≤ F) (h : dy_D σ a th τ n m) : ∃ σ' τ', C_War_write F 1 a th cd w v σ = some σ' ∧ M_notes cd w v τ = some τ' ∧ dy_E a th n m σ τ σ' τ' ∧ ∀ c, c ≠ 13 → c ≠ 14 → σ' c = σ c := by
  have h0 := h
  obtain ⟨ha, ⟨hFR, hFS, hIR, hIS⟩, ⟨t1, t2, t3, t4, t5, hOR, hSV, hND, hLW⟩, hBK, k13, hth⟩ := h
  rcases ha with ⟨rfl, rfl⟩ | ⟨rfl, rfl⟩
  · rw [if_neg (by simp)] at hth
    obtain ⟨c, hc, e1, e2, e3⟩ := hBK
    rw [C_War_write, if_neg (by simp), M_notes, if_pos hth, rd_2 (by decide) (by decide), Option.bind_some, e2]
    by_cases q : c = 150
    · subst q
      rw [if_pos (show Int32.ofNat 150 = 150 from rfl), tb_full (w := 4) 600 e1 k13 rfl (by omega) (by omega) (by omega)]
      exact ⟨_, _, rfl, rfl, dy_rfl h0, fun _ _ _ => rfl⟩
    · have hc' : c < 150 := by omega
      rw [if_neg (fun g : _ = (150 : Int32) => q ((ni_eq (b := 150) (by omega) (by omega)).mp g)), Option.bind_some, am_let]
      rw [add_4 (a := 1 + 12) 600 hF e1 k13 rfl (by omega) (by omega), Option.bind_some, rd_0 (by decide) (by decide), Option.bind_some,
        show (4 : Int32) * Int32.ofNat c = Int32.ofNat (4 * c) from ni_mul 4 c, ni_wr (by omega) (by omega), Option.bind_some, ni_succ, ni_wr (by omega) (by omega), Option.bind_some,
        show Int32.ofNat (4 * c) + 2 = Int32.ofNat (4 * c + 2) from ni_add _ 2, ni_wr (by omega) (by omega), Option.bind_some, show Int32.ofNat (4 * c) + 3 = Int32.ofNat (4 * c + 3) from ni_add _ 3, ni_wr (by omega) (by omega), Option.bind_some,
        rd_2 (by decide) (by decide), Option.bind_some, wr_2 (by decide) (by decide), Option.bind_some]
      have r2 : am_up (am_up (am_up (am_up τ 8 (4 * c) (τ 1 0)) 8 (4 * c + 1) cd) 8 (4 * c + 2) w) 8 (4 * c + 3) v 1 2 = Int32.ofNat c := by simp only [am_up_ne (show (1 : Nat) ≠ 8 from by decide)]; exact e2
      rw [r2, ni_succ]
      refine ⟨_, _, rfl, rfl, ⟨⟨.inl ⟨rfl, rfl⟩, ⟨?_, ?_, ?_, ?_⟩, ⟨?_, ?_, ?_, ?_, ?_, ?_, ?_, ?_, ?_⟩, ?_, ?_, ?_⟩, ?_⟩, ?_⟩
      · simpa [am_up_ap, am_up_ne, am_up_row] using fr_bk (v := Int32.ofNat (c + 1)) hFR
      · simpa [am_up_ap, am_up_ne, am_up_row] using hFS
      · simpa [am_up_ap, am_up_ne, am_up_row] using ir_bk (v := Int32.ofNat (c + 1)) hIR
      · simpa [am_up_ap, am_up_ne, am_up_row] using hIS
      · simpa [am_up_ap, am_up_ne, am_up_row] using t1
      · simpa [am_up_ap, am_up_ne, am_up_row] using t2
      · simpa [am_up_ap, am_up_ne, am_up_row] using t3
      · simpa [am_up_ap, am_up_ne, am_up_row] using t4
      · simpa [am_up_ap, am_up_ne, am_up_row] using t5
      · simpa [am_up_ap, am_up_ne, am_up_row] using hOR
      · simpa [am_up_ap, am_up_ne, am_up_row] using hSV
      · simpa [am_up_ap, am_up_ne, am_up_row] using hND
      · simpa [am_up_ap, am_up_ne, am_up_row] using hLW
      · refine ⟨c + 1, by omega, by simp [am_up_ap], by simp [am_up_ap], fun k hk => ?_⟩
        have d := hFR.2.2.1
        simp only [am_up_ap, d, e3 k hk]
        simp
      · simpa [am_up_ap, am_up_ne, am_up_row] using k13
      · simpa [am_up_ap, am_up_ne, am_up_row] using hth
      · refine ⟨fun c' h1 h2 h3 => ?_, fun c' h1 h2 h3 h4 => ?_, fun g => by simp at g, fun b hb e => ⟨c + 1, ?_, by omega, by simp [am_up_ap]⟩⟩
        · simp at h3
          dsimp only
          rw [am_up_ne (by omega), am_up_ne (by omega), am_up_ne (by omega), am_up_ne (by omega), am_up_ne (by omega)]
        · simp at h4
          rw [am_up_ne (by omega), am_up_ne (by omega), am_up_ne (by omega), am_up_ne (by omega), am_up_ne (by omega)]
        · have := (ni_eq (by omega) (by omega)).mp (e.symm.trans e2)
          omega
      · intro c' h1 h2
        dsimp only
        rw [am_up_ne (by omega), am_up_ne (by omega), am_up_ne (by omega), am_up_ne (by omega), am_up_ne (by omega)]
  · rw [if_pos rfl] at hth
    rw [C_War_write, if_pos rfl, M_notes, if_neg (by rw [hth]; decide)]
    exact ⟨_, _, rfl, rfl, dy_rfl h0, fun _ _ _ => rfl⟩
/-- a note and a write to another place of now may change places -/
theorem nt_swap {cd w v x : Int32} {k : Nat} (h0 : k ≠ 0) (h2 : k ≠ 2) : M_notes cd w v (am_up τ 1 k x) = (M_notes cd w v τ).map (fun t => am_up t 1 k x) := by
  have c0 : am_up τ 1 k x 1 0 = τ 1 0 := by rw [am_up_ap, if_neg (fun g => h0 g.2.symm)]
  have c2 : am_up τ 1 k x 1 2 = τ 1 2 := by rw [am_up_ap, if_neg (fun g => h2 g.2.symm)]
  have cm : ∀ (t : am_SS) (i : Nat) (y : Int32), am_up (am_up t 1 k x) 8 i y = am_up (am_up t 8 i y) 1 k x := fun t i y => by
    funext b j
    simp only [am_up_ap]
    by_cases hb : b = 8
    · subst hb; simp
    · simp [hb]
  have cw : ∀ (t : am_SS) (i : Int32) (y : Int32), am_wr (am_up t 1 k x) 8 600 i y = (am_wr t 8 600 i y).map (fun s => am_up s 1 k x) := fun t i y => by
    unfold am_wr
    split
    · rfl
    · rw [cm]; rfl
  have cr : ∀ (t : am_SS), am_wr (am_up t 1 k x) 1 77 2 ((am_up t 1 k x) 1 2 + 1) = (am_wr t 1 77 2 (t 1 2 + 1)).map (fun s => am_up s 1 k x) := fun t => by
    rw [wr_2 (by decide) (by decide), wr_2 (by decide) (by decide), Option.map_some]
    congr 1
    funext b j
    simp only [am_up_ap]
    by_cases hb : b = 1
    · subst hb
      by_cases j2 : j = 2
      · subst j2
        simp [h2, Ne.symm h2]
      · simp [j2]
    · simp [hb]
  unfold M_notes
  rw [show am_up τ 1 k x 0 5 = τ 0 5 from rfl]
  by_cases q : τ 0 5 = 0
  · rw [if_pos q, if_pos q]
    simp only [rd_2 (n := 77) (by decide) (by decide), rd_0 (n := 77) (by decide) (by decide), Option.bind_some, c2, c0]
    by_cases q' : τ 1 2 = 150
    · rw [if_pos q', if_pos q']; rfl
    · rw [if_neg q', if_neg q']
      simp only [am_let]
      generalize 4 * τ 1 2 = i0
      simp only [cw]
      cases am_wr τ 8 600 i0 (τ 1 0) with
      | none => rfl
      | some s1 =>
        simp only [Option.map_some, Option.bind_some, cw]
        cases am_wr s1 8 600 (i0 + 1) cd with
        | none => rfl
        | some s2 =>
          simp only [Option.map_some, Option.bind_some, cw]
          cases am_wr s2 8 600 (i0 + 2) w with
          | none => rfl
          | some s3 =>
            simp only [Option.map_some, Option.bind_some, cw]
            cases am_wr s3 8 600 (i0 + 3) v with
            | none => rfl
            | some s4 =>
              simp only [Option.map_some, Option.bind_some]
              rw [cr, wr_2 (by decide) (by decide)]
              rfl
  · rw [if_neg q, if_neg q]; rfl
end
